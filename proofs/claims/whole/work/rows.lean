section
-- ===== PART A: goes FIRST, ahead of the names: the tables' words, and 'selects' of the private methods out of them =====
/-- a private method of a class that the tables say can be made, by its rows of tables_1 -/
def lw_okq (q : MethodName × Nat) : Prop := (q.1.cls ≠ "java/lang/invoke/MethodHandle" ∧ q.1.cls ≠ "java/lang/invoke/VarHandle") ∧ Cond.instantiable q.1.cls q.2 ∈ tables_1 ∧ Cond.privateMethod q.1 ∈ tables_1 ∧ Cond.instanceMethod q.1 ∈ tables_1
theorem lw_p0 : lw_okq (⟨"LongestWed", "isCouple", "(I)Z"⟩, 8) := ⟨⟨by decide +kernel, by decide +kernel⟩, List.mem_of_getElem? (i := 11) (by decide +kernel), List.mem_of_getElem? (i := 165) (by decide +kernel), List.mem_of_getElem? (i := 166) (by decide +kernel)⟩
theorem lw_p1 : lw_okq (⟨"LongestWed", "firstYearOfKeys", "(I)I"⟩, 8) := ⟨⟨by decide +kernel, by decide +kernel⟩, List.mem_of_getElem? (i := 11) (by decide +kernel), List.mem_of_getElem? (i := 352) (by decide +kernel), List.mem_of_getElem? (i := 353) (by decide +kernel)⟩
theorem lw_p2 : lw_okq (⟨"LongestWed", "yearsOfKeys", "(I)I"⟩, 8) := ⟨⟨by decide +kernel, by decide +kernel⟩, List.mem_of_getElem? (i := 11) (by decide +kernel), List.mem_of_getElem? (i := 356) (by decide +kernel), List.mem_of_getElem? (i := 357) (by decide +kernel)⟩
theorem lw_p3 : lw_okq (⟨"LongestWed", "fewestRivals", "(II)I"⟩, 8) := ⟨⟨by decide +kernel, by decide +kernel⟩, List.mem_of_getElem? (i := 11) (by decide +kernel), List.mem_of_getElem? (i := 372) (by decide +kernel), List.mem_of_getElem? (i := 373) (by decide +kernel)⟩
theorem lw_p4 : lw_okq (⟨"LongestWed", "keepsWithout", "(III)Z"⟩, 8) := ⟨⟨by decide +kernel, by decide +kernel⟩, List.mem_of_getElem? (i := 11) (by decide +kernel), List.mem_of_getElem? (i := 382) (by decide +kernel), List.mem_of_getElem? (i := 383) (by decide +kernel)⟩
theorem lw_p5 : lw_okq (⟨"LongestWed", "togetherIfNursed", "(II)I"⟩, 8) := ⟨⟨by decide +kernel, by decide +kernel⟩, List.mem_of_getElem? (i := 11) (by decide +kernel), List.mem_of_getElem? (i := 394) (by decide +kernel), List.mem_of_getElem? (i := 395) (by decide +kernel)⟩
theorem lw_p6 : lw_okq (⟨"LongestWed", "keepsIfWedAnew", "(II)Z"⟩, 8) := ⟨⟨by decide +kernel, by decide +kernel⟩, List.mem_of_getElem? (i := 11) (by decide +kernel), List.mem_of_getElem? (i := 402) (by decide +kernel), List.mem_of_getElem? (i := 403) (by decide +kernel)⟩
theorem lw_p7 : lw_okq (⟨"LongestWed", "kindsHeard", "(ILLongestWed$Sheet;II)I"⟩, 8) := ⟨⟨by decide +kernel, by decide +kernel⟩, List.mem_of_getElem? (i := 11) (by decide +kernel), List.mem_of_getElem? (i := 455) (by decide +kernel), List.mem_of_getElem? (i := 456) (by decide +kernel)⟩
theorem lw_p8 : lw_okq (⟨"LongestWed", "trialTells", "(ILLongestWed$Sheet;II)Z"⟩, 8) := ⟨⟨by decide +kernel, by decide +kernel⟩, List.mem_of_getElem? (i := 11) (by decide +kernel), List.mem_of_getElem? (i := 459) (by decide +kernel), List.mem_of_getElem? (i := 460) (by decide +kernel)⟩
theorem lw_p9 : lw_okq (⟨"LongestWed", "tempersHeard", "(ILLongestWed$Sheet;II)I"⟩, 8) := ⟨⟨by decide +kernel, by decide +kernel⟩, List.mem_of_getElem? (i := 11) (by decide +kernel), List.mem_of_getElem? (i := 463) (by decide +kernel), List.mem_of_getElem? (i := 464) (by decide +kernel)⟩
theorem lw_p10 : lw_okq (⟨"LongestWed", "howManyWedHeard", "(ILLongestWed$Sheet;II)I"⟩, 8) := ⟨⟨by decide +kernel, by decide +kernel⟩, List.mem_of_getElem? (i := 11) (by decide +kernel), List.mem_of_getElem? (i := 467) (by decide +kernel), List.mem_of_getElem? (i := 468) (by decide +kernel)⟩
theorem lw_p11 : lw_okq (⟨"LongestWed", "wedTells", "(IILLongestWed$Sheet;II)Z"⟩, 8) := ⟨⟨by decide +kernel, by decide +kernel⟩, List.mem_of_getElem? (i := 11) (by decide +kernel), List.mem_of_getElem? (i := 471) (by decide +kernel), List.mem_of_getElem? (i := 472) (by decide +kernel)⟩
theorem lw_p12 : lw_okq (⟨"LongestWed", "leastWedHeard", "(ILLongestWed$Sheet;II)I"⟩, 8) := ⟨⟨by decide +kernel, by decide +kernel⟩, List.mem_of_getElem? (i := 11) (by decide +kernel), List.mem_of_getElem? (i := 475) (by decide +kernel), List.mem_of_getElem? (i := 476) (by decide +kernel)⟩
theorem lw_p13 : lw_okq (⟨"LongestWedModel", "isCouple", "(I)Z"⟩, 18) := ⟨⟨by decide +kernel, by decide +kernel⟩, List.mem_of_getElem? (i := 513) (by decide +kernel), List.mem_of_getElem? (i := 589) (by decide +kernel), List.mem_of_getElem? (i := 590) (by decide +kernel)⟩
theorem lw_p14 : lw_okq (⟨"LongestWedModel", "readCouple", "()V"⟩, 18) := ⟨⟨by decide +kernel, by decide +kernel⟩, List.mem_of_getElem? (i := 513) (by decide +kernel), List.mem_of_getElem? (i := 619) (by decide +kernel), List.mem_of_getElem? (i := 620) (by decide +kernel)⟩
theorem lw_p15 : lw_okq (⟨"LongestWedModel", "here", "()I"⟩, 18) := ⟨⟨by decide +kernel, by decide +kernel⟩, List.mem_of_getElem? (i := 513) (by decide +kernel), List.mem_of_getElem? (i := 623) (by decide +kernel), List.mem_of_getElem? (i := 624) (by decide +kernel)⟩
def lw_privs_1 : List (MethodName × Nat) := [(⟨"LongestWed", "isCouple", "(I)Z"⟩, 8), (⟨"LongestWed", "firstYearOfKeys", "(I)I"⟩, 8), (⟨"LongestWed", "yearsOfKeys", "(I)I"⟩, 8), (⟨"LongestWed", "fewestRivals", "(II)I"⟩, 8), (⟨"LongestWed", "keepsWithout", "(III)Z"⟩, 8), (⟨"LongestWed", "togetherIfNursed", "(II)I"⟩, 8), (⟨"LongestWed", "keepsIfWedAnew", "(II)Z"⟩, 8), (⟨"LongestWed", "kindsHeard", "(ILLongestWed$Sheet;II)I"⟩, 8), (⟨"LongestWed", "trialTells", "(ILLongestWed$Sheet;II)Z"⟩, 8), (⟨"LongestWed", "tempersHeard", "(ILLongestWed$Sheet;II)I"⟩, 8), (⟨"LongestWed", "howManyWedHeard", "(ILLongestWed$Sheet;II)I"⟩, 8), (⟨"LongestWed", "wedTells", "(IILLongestWed$Sheet;II)Z"⟩, 8), (⟨"LongestWed", "leastWedHeard", "(ILLongestWed$Sheet;II)I"⟩, 8), (⟨"LongestWedModel", "isCouple", "(I)Z"⟩, 18), (⟨"LongestWedModel", "readCouple", "()V"⟩, 18), (⟨"LongestWedModel", "here", "()I"⟩, 18)]
theorem lw_r1 : ∀ q ∈ lw_privs_1, lw_okq q := List.forall_mem_cons.mpr ⟨lw_p0, List.forall_mem_cons.mpr ⟨lw_p1, List.forall_mem_cons.mpr ⟨lw_p2, List.forall_mem_cons.mpr ⟨lw_p3, List.forall_mem_cons.mpr ⟨lw_p4, List.forall_mem_cons.mpr ⟨lw_p5, List.forall_mem_cons.mpr ⟨lw_p6, List.forall_mem_cons.mpr ⟨lw_p7, List.forall_mem_cons.mpr ⟨lw_p8, List.forall_mem_cons.mpr ⟨lw_p9, List.forall_mem_cons.mpr ⟨lw_p10, List.forall_mem_cons.mpr ⟨lw_p11, List.forall_mem_cons.mpr ⟨lw_p12, List.forall_mem_cons.mpr ⟨lw_p13, List.forall_mem_cons.mpr ⟨lw_p14, List.forall_mem_cons.mpr ⟨lw_p15, fun _ h => absurd h List.not_mem_nil⟩⟩⟩⟩⟩⟩⟩⟩⟩⟩⟩⟩⟩⟩⟩⟩
theorem lw_p16 : lw_okq (⟨"LongestWedModel", "wrongAt", "(I)V"⟩, 18) := ⟨⟨by decide +kernel, by decide +kernel⟩, List.mem_of_getElem? (i := 513) (by decide +kernel), List.mem_of_getElem? (i := 627) (by decide +kernel), List.mem_of_getElem? (i := 628) (by decide +kernel)⟩
theorem lw_p17 : lw_okq (⟨"LongestWedModel", "number", "(II)I"⟩, 18) := ⟨⟨by decide +kernel, by decide +kernel⟩, List.mem_of_getElem? (i := 513) (by decide +kernel), List.mem_of_getElem? (i := 631) (by decide +kernel), List.mem_of_getElem? (i := 632) (by decide +kernel)⟩
theorem lw_p18 : lw_okq (⟨"LongestWedModel", "takes", "(I)Z"⟩, 18) := ⟨⟨by decide +kernel, by decide +kernel⟩, List.mem_of_getElem? (i := 513) (by decide +kernel), List.mem_of_getElem? (i := 635) (by decide +kernel), List.mem_of_getElem? (i := 636) (by decide +kernel)⟩
theorem lw_p19 : lw_okq (⟨"LongestWedModel", "know", "()V"⟩, 18) := ⟨⟨by decide +kernel, by decide +kernel⟩, List.mem_of_getElem? (i := 513) (by decide +kernel), List.mem_of_getElem? (i := 650) (by decide +kernel), List.mem_of_getElem? (i := 651) (by decide +kernel)⟩
theorem lw_p20 : lw_okq (⟨"LongestWedModel", "passOn", "([I)V"⟩, 18) := ⟨⟨by decide +kernel, by decide +kernel⟩, List.mem_of_getElem? (i := 513) (by decide +kernel), List.mem_of_getElem? (i := 654) (by decide +kernel), List.mem_of_getElem? (i := 655) (by decide +kernel)⟩
theorem lw_p21 : lw_okq (⟨"LongestWedModel", "take", "()V"⟩, 18) := ⟨⟨by decide +kernel, by decide +kernel⟩, List.mem_of_getElem? (i := 513) (by decide +kernel), List.mem_of_getElem? (i := 699) (by decide +kernel), List.mem_of_getElem? (i := 700) (by decide +kernel)⟩
theorem lw_p22 : lw_okq (⟨"LongestWedModel", "goOn", "(I)V"⟩, 18) := ⟨⟨by decide +kernel, by decide +kernel⟩, List.mem_of_getElem? (i := 513) (by decide +kernel), List.mem_of_getElem? (i := 703) (by decide +kernel), List.mem_of_getElem? (i := 704) (by decide +kernel)⟩
theorem lw_p23 : lw_okq (⟨"LongestWedModel", "findOf", "(IIII)I"⟩, 18) := ⟨⟨by decide +kernel, by decide +kernel⟩, List.mem_of_getElem? (i := 513) (by decide +kernel), List.mem_of_getElem? (i := 769) (by decide +kernel), List.mem_of_getElem? (i := 770) (by decide +kernel)⟩
theorem lw_p24 : lw_okq (⟨"LongestWedModel", "isHeard", "(IIII)Z"⟩, 18) := ⟨⟨by decide +kernel, by decide +kernel⟩, List.mem_of_getElem? (i := 513) (by decide +kernel), List.mem_of_getElem? (i := 773) (by decide +kernel), List.mem_of_getElem? (i := 774) (by decide +kernel)⟩
def lw_privs_2 : List (MethodName × Nat) := [(⟨"LongestWedModel", "wrongAt", "(I)V"⟩, 18), (⟨"LongestWedModel", "number", "(II)I"⟩, 18), (⟨"LongestWedModel", "takes", "(I)Z"⟩, 18), (⟨"LongestWedModel", "know", "()V"⟩, 18), (⟨"LongestWedModel", "passOn", "([I)V"⟩, 18), (⟨"LongestWedModel", "take", "()V"⟩, 18), (⟨"LongestWedModel", "goOn", "(I)V"⟩, 18), (⟨"LongestWedModel", "findOf", "(IIII)I"⟩, 18), (⟨"LongestWedModel", "isHeard", "(IIII)Z"⟩, 18)]
theorem lw_r2 : ∀ q ∈ lw_privs_2, lw_okq q := List.forall_mem_cons.mpr ⟨lw_p16, List.forall_mem_cons.mpr ⟨lw_p17, List.forall_mem_cons.mpr ⟨lw_p18, List.forall_mem_cons.mpr ⟨lw_p19, List.forall_mem_cons.mpr ⟨lw_p20, List.forall_mem_cons.mpr ⟨lw_p21, List.forall_mem_cons.mpr ⟨lw_p22, List.forall_mem_cons.mpr ⟨lw_p23, List.forall_mem_cons.mpr ⟨lw_p24, fun _ h => absurd h List.not_mem_nil⟩⟩⟩⟩⟩⟩⟩⟩⟩
def lw_privs : List (MethodName × Nat) := lw_privs_1 ++ (lw_privs_2)
def lw_tbl : List Cond := k2_sels lw_privs ++ tables_1
theorem lw_privs_ok : ∀ q ∈ lw_privs, lw_okq q := by
  show ∀ q ∈ lw_privs_1 ++ (lw_privs_2), lw_okq q
  exact List.forall_mem_append.mpr ⟨lw_r1, lw_r2⟩
-- ===== end of PART A; then your names; then what follows =====
end
section
def RX0 : String := "LongestWed$Past"
def TX0 : u_T := fun k => match k with
  | 0 => ("LongestWed$Past", "known", "[LLongestWed$Town;", true)
  | 1 => ("LongestWed$Past", "next", "I", false)
  | _ => ("LongestWed$Past", "size", "I", false)
def tyX0 : Nat → FieldType := fun k => match k with
  | 0 => .array (.object "LongestWed$Town")
  | 1 => .int
  | _ => .int
abbrev wsX00 : List Cond := u_ws RX0 TX0 3
theorem nmX0 : ∀ a, a < 3 → ∀ b, b < 3 → a ≠ b → (TX0 a).2.1 ≠ (TX0 b).2.1 := by decide +kernel
theorem tyX0_ok : ∀ k, k < 3 → parseFieldDescriptor (TX0 k).2.2.1 = some (tyX0 k) := by decide +kernel
abbrev cX0_init : ByteArray := prog_2_method_1_code
def yX0_init : MethodName := ⟨RX0, "<init>", "()V"⟩
abbrev cX0_note : ByteArray := prog_2_method_2_code
def yX0_note : MethodName := ⟨RX0, "note", "(LLongestWed$Town;)V"⟩
abbrev cX0_giveBack : ByteArray := prog_2_method_3_code
def yX0_giveBack : MethodName := ⟨RX0, "giveBack", "(LLongestWed$Town;)V"⟩
abbrev cX0_forget : ByteArray := prog_2_method_4_code
def yX0_forget : MethodName := ⟨RX0, "forget", "()V"⟩
abbrev cX0_become : ByteArray := prog_2_method_5_code
def yX0_become : MethodName := ⟨RX0, "become", "(LLongestWed$Past;)V"⟩
def RX1 : String := "LongestWed$Sheet"
def TX1 : u_T := fun k => match k with
  | 0 => ("LongestWed$Sheet", "items", "[J", true)
  | 1 => ("LongestWed$Sheet", "lane", "I", false)
  | _ => ("LongestWed$Sheet", "size", "I", false)
def tyX1 : Nat → FieldType := fun k => match k with
  | 0 => .array .long
  | 1 => .int
  | _ => .int
abbrev wsX10 : List Cond := u_ws RX1 TX1 3
theorem nmX1 : ∀ a, a < 3 → ∀ b, b < 3 → a ≠ b → (TX1 a).2.1 ≠ (TX1 b).2.1 := by decide +kernel
theorem tyX1_ok : ∀ k, k < 3 → parseFieldDescriptor (TX1 k).2.2.1 = some (tyX1 k) := by decide +kernel
abbrev cX1_init : ByteArray := prog_3_method_1_code
def yX1_init : MethodName := ⟨RX1, "<init>", "()V"⟩
abbrev cX1_renew : ByteArray := prog_3_method_2_code
def yX1_renew : MethodName := ⟨RX1, "renew", "(II)V"⟩
abbrev cX1_faultOf : ByteArray := prog_3_method_3_code
def yX1_faultOf : MethodName := ⟨RX1, "faultOf", "(III)I"⟩
abbrev cX1_reaches : ByteArray := prog_3_method_4_code
def yX1_reaches : MethodName := ⟨RX1, "reaches", "(II)Z"⟩
abbrev cX1_put : ByteArray := prog_3_method_5_code
def yX1_put : MethodName := ⟨RX1, "put", "(IJ)V"⟩
abbrev cX1_lowestBits : ByteArray := prog_3_method_6_code
def yX1_lowestBits : MethodName := ⟨RX1, "lowestBits", "(J)J"⟩
def RX2 : String := "LongestWed$Tape"
def TX2 : u_T := fun k => match k with
  | 0 => ("LongestWed$Tape", "letters", "[I", true)
  | 1 => ("LongestWed$Tape", "size", "I", false)
  | 2 => ("LongestWed$Tape", "place", "I", false)
  | _ => ("LongestWed$Tape", "fault", "I", false)
def tyX2 : Nat → FieldType := fun k => match k with
  | 0 => .array .int
  | 1 => .int
  | 2 => .int
  | _ => .int
abbrev wsX20 : List Cond := u_ws RX2 TX2 4
theorem nmX2 : ∀ a, a < 4 → ∀ b, b < 4 → a ≠ b → (TX2 a).2.1 ≠ (TX2 b).2.1 := by decide +kernel
theorem tyX2_ok : ∀ k, k < 4 → parseFieldDescriptor (TX2 k).2.2.1 = some (tyX2 k) := by decide +kernel
abbrev cX2_init : ByteArray := prog_4_method_1_code
def yX2_init : MethodName := ⟨RX2, "<init>", "()V"⟩
abbrev cX2_write : ByteArray := prog_4_method_2_code
def yX2_write : MethodName := ⟨RX2, "write", "(I)I"⟩
abbrev cX2_readTown : ByteArray := prog_4_method_3_code
def yX2_readTown : MethodName := ⟨RX2, "readTown", "(LLongestWed$Town;)Z"⟩
abbrev cX2_readCouple : ByteArray := prog_4_method_4_code
def yX2_readCouple : MethodName := ⟨RX2, "readCouple", "(LLongestWed$Town;)Z"⟩
abbrev cX2_readNumber : ByteArray := prog_4_method_5_code
def yX2_readNumber : MethodName := ⟨RX2, "readNumber", "(II)I"⟩
abbrev cX2_isAtEnd : ByteArray := prog_4_method_6_code
def yX2_isAtEnd : MethodName := ⟨RX2, "isAtEnd", "()Z"⟩
abbrev cX2_takes : ByteArray := prog_4_method_7_code
def yX2_takes : MethodName := ⟨RX2, "takes", "(I)Z"⟩
abbrev cX2_skipBlanks : ByteArray := prog_4_method_8_code
def yX2_skipBlanks : MethodName := ⟨RX2, "skipBlanks", "()V"⟩
abbrev cX2_letterAt : ByteArray := prog_4_method_9_code
def yX2_letterAt : MethodName := ⟨RX2, "letterAt", "(I)I"⟩
abbrev cX2_isDigit : ByteArray := prog_4_method_10_code
def yX2_isDigit : MethodName := ⟨RX2, "isDigit", "(I)Z"⟩
abbrev cX2_kindOf : ByteArray := prog_4_method_11_code
def yX2_kindOf : MethodName := ⟨RX2, "kindOf", "(I)I"⟩
def RX3 : String := "LongestWed$Town"
def TX3 : u_T := fun k => match k with
  | 0 => ("LongestWed$Town", "kind", "[I", true)
  | 1 => ("LongestWed$Town", "since", "[I", true)
  | 2 => ("LongestWed$Town", "old", "[I", true)
  | 3 => ("LongestWed$Town", "temper", "[I", true)
  | 4 => ("LongestWed$Town", "size", "I", false)
  | 5 => ("LongestWed$Town", "together", "I", false)
  | 6 => ("LongestWed$Town", "year", "I", false)
  | _ => ("LongestWed$Town", "draw", "I", false)
def tyX3 : Nat → FieldType := fun k => match k with
  | 0 => .array .int
  | 1 => .array .int
  | 2 => .array .int
  | 3 => .array .int
  | 4 => .int
  | 5 => .int
  | 6 => .int
  | _ => .int
abbrev wsX30 : List Cond := u_ws RX3 TX3 8
theorem nmX3 : ∀ a, a < 8 → ∀ b, b < 8 → a ≠ b → (TX3 a).2.1 ≠ (TX3 b).2.1 := by decide +kernel
theorem tyX3_ok : ∀ k, k < 8 → parseFieldDescriptor (TX3 k).2.2.1 = some (tyX3 k) := by decide +kernel
abbrev cX3_init : ByteArray := prog_5_method_1_code
def yX3_init : MethodName := ⟨RX3, "<init>", "()V"⟩
abbrev cX3_become : ByteArray := prog_5_method_2_code
def yX3_become : MethodName := ⟨RX3, "become", "(LLongestWed$Town;)V"⟩
abbrev cX3_empty : ByteArray := prog_5_method_3_code
def yX3_empty : MethodName := ⟨RX3, "empty", "()V"⟩
abbrev cX3_settle : ByteArray := prog_5_method_4_code
def yX3_settle : MethodName := ⟨RX3, "settle", "(IIIIZ)I"⟩
abbrev cX3_isTogether : ByteArray := prog_5_method_5_code
def yX3_isTogether : MethodName := ⟨RX3, "isTogether", "(I)Z"⟩
abbrev cX3_keeper : ByteArray := prog_5_method_6_code
def yX3_keeper : MethodName := ⟨RX3, "keeper", "()I"⟩
abbrev cX3_secondTo : ByteArray := prog_5_method_7_code
def yX3_secondTo : MethodName := ⟨RX3, "secondTo", "(I)I"⟩
abbrev cX3_longestOf : ByteArray := prog_5_method_8_code
def yX3_longestOf : MethodName := ⟨RX3, "longestOf", "(I)I"⟩
abbrev cX3_isBefore : ByteArray := prog_5_method_9_code
def yX3_isBefore : MethodName := ⟨RX3, "isBefore", "(II)Z"⟩
abbrev cX3_allTempers : ByteArray := prog_5_method_10_code
def yX3_allTempers : MethodName := ⟨RX3, "allTempers", "()I"⟩
abbrev cX3_worseThisYear : ByteArray := prog_5_method_11_code
def yX3_worseThisYear : MethodName := ⟨RX3, "worseThisYear", "(I)I"⟩
abbrev cX3_worse : ByteArray := prog_5_method_12_code
def yX3_worse : MethodName := ⟨RX3, "worse", "(III)I"⟩
abbrev cX3_passYears : ByteArray := prog_5_method_13_code
def yX3_passYears : MethodName := ⟨RX3, "passYears", "(I)V"⟩
abbrev cX3_passYear : ByteArray := prog_5_method_14_code
def yX3_passYear : MethodName := ⟨RX3, "passYear", "()V"⟩
abbrev cX3_better : ByteArray := prog_5_method_15_code
def yX3_better : MethodName := ⟨RX3, "better", "(II)V"⟩
abbrev cX3_worsen : ByteArray := prog_5_method_16_code
def yX3_worsen : MethodName := ⟨RX3, "worsen", "(II)V"⟩
abbrev cX3_wedAnew : ByteArray := prog_5_method_17_code
def yX3_wedAnew : MethodName := ⟨RX3, "wedAnew", "(I)V"⟩
abbrev cX3_drawNext : ByteArray := prog_5_method_18_code
def yX3_drawNext : MethodName := ⟨RX3, "drawNext", "()V"⟩
abbrev cX3_tenthsToStay : ByteArray := prog_5_method_19_code
def yX3_tenthsToStay : MethodName := ⟨RX3, "tenthsToStay", "(II)I"⟩
def RX4 : String := "LongestWed"
def TX4 : u_T := fun k => match k with
  | 0 => ("LongestWed", "now", "LLongestWed$Town;", true)
  | 1 => ("LongestWed", "past", "LLongestWed$Past;", true)
  | 2 => ("LongestWed", "keptTown", "LLongestWed$Town;", true)
  | 3 => ("LongestWed", "keptPast", "LLongestWed$Past;", true)
  | 4 => ("LongestWed", "tape", "LLongestWed$Tape;", true)
  | 5 => ("LongestWed", "sheets", "[LLongestWed$Sheet;", true)
  | 6 => ("LongestWed", "trial", "LLongestWed$Town;", true)
  | _ => ("LongestWed", "kept", "Z", false)
def tyX4 : Nat → FieldType := fun k => match k with
  | 0 => .object "LongestWed$Town"
  | 1 => .object "LongestWed$Past"
  | 2 => .object "LongestWed$Town"
  | 3 => .object "LongestWed$Past"
  | 4 => .object "LongestWed$Tape"
  | 5 => .array (.object "LongestWed$Sheet")
  | 6 => .object "LongestWed$Town"
  | _ => .boolean
abbrev wsX40 : List Cond := u_ws RX4 TX4 8
theorem nmX4 : ∀ a, a < 8 → ∀ b, b < 8 → a ≠ b → (TX4 a).2.1 ≠ (TX4 b).2.1 := by decide +kernel
theorem tyX4_ok : ∀ k, k < 8 → parseFieldDescriptor (TX4 k).2.2.1 = some (tyX4 k) := by decide +kernel
abbrev cX4_init : ByteArray := prog_1_method_1_code
def yX4_init : MethodName := ⟨RX4, "<init>", "()V"⟩
abbrev cX4_couple : ByteArray := prog_1_method_2_code
def yX4_couple : MethodName := ⟨RX4, "couple", "(II)I"⟩
abbrev cX4_of : ByteArray := prog_1_method_3_code
def yX4_of : MethodName := ⟨RX4, "of", "(II)I"⟩
abbrev cX4_type : ByteArray := prog_1_method_4_code
def yX4_type : MethodName := ⟨RX4, "type", "(I)I"⟩
abbrev cX4_town : ByteArray := prog_1_method_5_code
def yX4_town : MethodName := ⟨RX4, "town", "()I"⟩
abbrev cX4_count : ByteArray := prog_1_method_6_code
def yX4_count : MethodName := ⟨RX4, "count", "(I)I"⟩
abbrev cX4_years : ByteArray := prog_1_method_7_code
def yX4_years : MethodName := ⟨RX4, "years", "(I)I"⟩
abbrev cX4_nurse : ByteArray := prog_1_method_8_code
def yX4_nurse : MethodName := ⟨RX4, "nurse", "(II)I"⟩
abbrev cX4_stir : ByteArray := prog_1_method_9_code
def yX4_stir : MethodName := ⟨RX4, "stir", "(II)I"⟩
abbrev cX4_wed : ByteArray := prog_1_method_10_code
def yX4_wed : MethodName := ⟨RX4, "wed", "(I)I"⟩
abbrev cX4_drift : ByteArray := prog_1_method_11_code
def yX4_drift : MethodName := ⟨RX4, "drift", "(I)I"⟩
abbrev cX4_undo : ByteArray := prog_1_method_12_code
def yX4_undo : MethodName := ⟨RX4, "undo", "()I"⟩
abbrev cX4_seed : ByteArray := prog_1_method_13_code
def yX4_seed : MethodName := ⟨RX4, "seed", "(I)I"⟩
abbrev cX4_keys : ByteArray := prog_1_method_14_code
def yX4_keys : MethodName := ⟨RX4, "keys", "(I)I"⟩
abbrev cX4_ahead : ByteArray := prog_1_method_15_code
def yX4_ahead : MethodName := ⟨RX4, "ahead", "(II)I"⟩
abbrev cX4_then : ByteArray := prog_1_method_16_code
def yX4_then : MethodName := ⟨RX4, "then", "(I)I"⟩
abbrev cX4_rises : ByteArray := prog_1_method_17_code
def yX4_rises : MethodName := ⟨RX4, "rises", "(II)I"⟩
abbrev cX4_parts : ByteArray := prog_1_method_18_code
def yX4_parts : MethodName := ⟨RX4, "parts", "(I)I"⟩
abbrev cX4_ever : ByteArray := prog_1_method_19_code
def yX4_ever : MethodName := ⟨RX4, "ever", "()I"⟩
abbrev cX4_rivals : ByteArray := prog_1_method_20_code
def yX4_rivals : MethodName := ⟨RX4, "rivals", "(III)I"⟩
abbrev cX4_needs : ByteArray := prog_1_method_21_code
def yX4_needs : MethodName := ⟨RX4, "needs", "(II)I"⟩
abbrev cX4_soothe : ByteArray := prog_1_method_22_code
def yX4_soothe : MethodName := ⟨RX4, "soothe", "(II)I"⟩
abbrev cX4_start : ByteArray := prog_1_method_23_code
def yX4_start : MethodName := ⟨RX4, "start", "(I)I"⟩
abbrev cX4_sum : ByteArray := prog_1_method_24_code
def yX4_sum : MethodName := ⟨RX4, "sum", "(I)I"⟩
abbrev cX4_rows : ByteArray := prog_1_method_25_code
def yX4_rows : MethodName := ⟨RX4, "rows", "(III)I"⟩
abbrev cX4_image : ByteArray := prog_1_method_26_code
def yX4_image : MethodName := ⟨RX4, "image", "()I"⟩
abbrev cX4_restore : ByteArray := prog_1_method_27_code
def yX4_restore : MethodName := ⟨RX4, "restore", "()I"⟩
abbrev cX4_heard : ByteArray := prog_1_method_28_code
def yX4_heard : MethodName := ⟨RX4, "heard", "(IIIIII)I"⟩
abbrev cX4_film : ByteArray := prog_1_method_29_code
def yX4_film : MethodName := ⟨RX4, "film", "(IIIII)I"⟩
abbrev cX4_sheet : ByteArray := prog_1_method_30_code
def yX4_sheet : MethodName := ⟨RX4, "sheet", "(III)I"⟩
abbrev cX4_drop : ByteArray := prog_1_method_31_code
def yX4_drop : MethodName := ⟨RX4, "drop", "(I)I"⟩
abbrev cX4_item : ByteArray := prog_1_method_32_code
def yX4_item : MethodName := ⟨RX4, "item", "(IIIJ)I"⟩
abbrev cX4_copy : ByteArray := prog_1_method_33_code
def yX4_copy : MethodName := ⟨RX4, "copy", "(IIIII)I"⟩
abbrev cX4_within : ByteArray := prog_1_method_34_code
def yX4_within : MethodName := ⟨RX4, "within", "(III)Z"⟩
abbrev cX4_isCouple : ByteArray := prog_1_method_35_code
def yX4_isCouple : MethodName := ⟨RX4, "isCouple", "(I)Z"⟩
abbrev cX4_isSheet : ByteArray := prog_1_method_36_code
def yX4_isSheet : MethodName := ⟨RX4, "isSheet", "(I)Z"⟩
abbrev cX4_isLane : ByteArray := prog_1_method_37_code
def yX4_isLane : MethodName := ⟨RX4, "isLane", "(I)Z"⟩
abbrev cX4_firstYearOfKeys : ByteArray := prog_1_method_38_code
def yX4_firstYearOfKeys : MethodName := ⟨RX4, "firstYearOfKeys", "(I)I"⟩
abbrev cX4_yearsOfKeys : ByteArray := prog_1_method_39_code
def yX4_yearsOfKeys : MethodName := ⟨RX4, "yearsOfKeys", "(I)I"⟩
abbrev cX4_fewestRivals : ByteArray := prog_1_method_40_code
def yX4_fewestRivals : MethodName := ⟨RX4, "fewestRivals", "(II)I"⟩
abbrev cX4_keepsWithout : ByteArray := prog_1_method_41_code
def yX4_keepsWithout : MethodName := ⟨RX4, "keepsWithout", "(III)Z"⟩
abbrev cX4_togetherIfNursed : ByteArray := prog_1_method_42_code
def yX4_togetherIfNursed : MethodName := ⟨RX4, "togetherIfNursed", "(II)I"⟩
abbrev cX4_keepsIfWedAnew : ByteArray := prog_1_method_43_code
def yX4_keepsIfWedAnew : MethodName := ⟨RX4, "keepsIfWedAnew", "(II)Z"⟩
abbrev cX4_commonDivisor : ByteArray := prog_1_method_44_code
def yX4_commonDivisor : MethodName := ⟨RX4, "commonDivisor", "(II)I"⟩
abbrev cX4_kindsHeard : ByteArray := prog_1_method_45_code
def yX4_kindsHeard : MethodName := ⟨RX4, "kindsHeard", "(ILLongestWed$Sheet;II)I"⟩
abbrev cX4_tempersHeard : ByteArray := prog_1_method_46_code
def yX4_tempersHeard : MethodName := ⟨RX4, "tempersHeard", "(ILLongestWed$Sheet;II)I"⟩
abbrev cX4_howManyWedHeard : ByteArray := prog_1_method_47_code
def yX4_howManyWedHeard : MethodName := ⟨RX4, "howManyWedHeard", "(ILLongestWed$Sheet;II)I"⟩
abbrev cX4_leastWedHeard : ByteArray := prog_1_method_48_code
def yX4_leastWedHeard : MethodName := ⟨RX4, "leastWedHeard", "(ILLongestWed$Sheet;II)I"⟩
abbrev cX4_wedTells : ByteArray := prog_1_method_49_code
def yX4_wedTells : MethodName := ⟨RX4, "wedTells", "(IILLongestWed$Sheet;II)Z"⟩
abbrev cX4_trialTells : ByteArray := prog_1_method_50_code
def yX4_trialTells : MethodName := ⟨RX4, "trialTells", "(ILLongestWed$Sheet;II)Z"⟩
def RX5 : String := "LongestWedModel"
def TX5 : u_T := fun k => match k with
  | 0 => ("LongestWedModel", "now", "[I", true)
  | 1 => ("LongestWedModel", "tried", "[I", true)
  | 2 => ("LongestWedModel", "before", "[I", true)
  | 3 => ("LongestWedModel", "known", "I", false)
  | 4 => ("LongestWedModel", "kept", "[I", true)
  | 5 => ("LongestWedModel", "keptBefore", "[I", true)
  | 6 => ("LongestWedModel", "keptKnown", "I", false)
  | 7 => ("LongestWedModel", "isKept", "Z", false)
  | 8 => ("LongestWedModel", "next", "[I", true)
  | 9 => ("LongestWedModel", "tape", "[B", true)
  | 10 => ("LongestWedModel", "typed", "I", false)
  | 11 => ("LongestWedModel", "at", "I", false)
  | 12 => ("LongestWedModel", "isWrong", "Z", false)
  | 13 => ("LongestWedModel", "place", "I", false)
  | 14 => ("LongestWedModel", "laneOf", "[I", true)
  | 15 => ("LongestWedModel", "wide", "[I", true)
  | 16 => ("LongestWedModel", "items", "[J", true)
  | _ => ("LongestWedModel", "moved", "[J", true)
def tyX5 : Nat → FieldType := fun k => match k with
  | 0 => .array .int
  | 1 => .array .int
  | 2 => .array .int
  | 3 => .int
  | 4 => .array .int
  | 5 => .array .int
  | 6 => .int
  | 7 => .boolean
  | 8 => .array .int
  | 9 => .array .byte
  | 10 => .int
  | 11 => .int
  | 12 => .boolean
  | 13 => .int
  | 14 => .array .int
  | 15 => .array .int
  | 16 => .array .long
  | _ => .array .long
abbrev wsX50 : List Cond := u_ws RX5 TX5 18
theorem nmX5 : ∀ a, a < 18 → ∀ b, b < 18 → a ≠ b → (TX5 a).2.1 ≠ (TX5 b).2.1 := by decide +kernel
theorem tyX5_ok : ∀ k, k < 18 → parseFieldDescriptor (TX5 k).2.2.1 = some (tyX5 k) := by decide +kernel
abbrev cX5_init : ByteArray := prog_7_method_1_code
def yX5_init : MethodName := ⟨RX5, "<init>", "()V"⟩
abbrev cX5_in : ByteArray := prog_7_method_3_code
def yX5_in : MethodName := ⟨RX5, "in", "(III)Z"⟩
abbrev cX5_has : ByteArray := prog_7_method_4_code
def yX5_has : MethodName := ⟨RX5, "has", "(II)Z"⟩
abbrev cX5_bitsOf : ByteArray := prog_7_method_5_code
def yX5_bitsOf : MethodName := ⟨RX5, "bitsOf", "(I)I"⟩
abbrev cX5_take : ByteArray := prog_7_method_6_code
def yX5_take : MethodName := ⟨RX5, "take", "()V"⟩
abbrev cX5_isCouple : ByteArray := prog_7_method_7_code
def yX5_isCouple : MethodName := ⟨RX5, "isCouple", "(I)Z"⟩
abbrev cX5_isParted : ByteArray := prog_7_method_8_code
def yX5_isParted : MethodName := ⟨RX5, "isParted", "([II)Z"⟩
abbrev cX5_longest : ByteArray := prog_7_method_9_code
def yX5_longest : MethodName := ⟨RX5, "longest", "([II)I"⟩
abbrev cX5_keysOf : ByteArray := prog_7_method_10_code
def yX5_keysOf : MethodName := ⟨RX5, "keysOf", "([I)I"⟩
abbrev cX5_secondOf : ByteArray := prog_7_method_11_code
def yX5_secondOf : MethodName := ⟨RX5, "secondOf", "([I)I"⟩
abbrev cX5_worseBy : ByteArray := prog_7_method_12_code
def yX5_worseBy : MethodName := ⟨RX5, "worseBy", "([II)I"⟩
abbrev cX5_passOn : ByteArray := prog_7_method_13_code
def yX5_passOn : MethodName := ⟨RX5, "passOn", "([I)V"⟩
abbrev cX5_stirOn : ByteArray := prog_7_method_14_code
def yX5_stirOn : MethodName := ⟨RX5, "stirOn", "([III)V"⟩
abbrev cX5_nurseOn : ByteArray := prog_7_method_15_code
def yX5_nurseOn : MethodName := ⟨RX5, "nurseOn", "([III)V"⟩
abbrev cX5_wedOn : ByteArray := prog_7_method_16_code
def yX5_wedOn : MethodName := ⟨RX5, "wedOn", "([II)V"⟩
abbrev cX5_togetherOf : ByteArray := prog_7_method_17_code
def yX5_togetherOf : MethodName := ⟨RX5, "togetherOf", "([I)I"⟩
abbrev cX5_join : ByteArray := prog_7_method_18_code
def yX5_join : MethodName := ⟨RX5, "join", "([IIIIIZ)V"⟩
abbrev cX5_couple : ByteArray := prog_7_method_19_code
def yX5_couple : MethodName := ⟨RX5, "couple", "(II)I"⟩
abbrev cX5_of : ByteArray := prog_7_method_20_code
def yX5_of : MethodName := ⟨RX5, "of", "(II)I"⟩
abbrev cX5_type : ByteArray := prog_7_method_21_code
def yX5_type : MethodName := ⟨RX5, "type", "(I)I"⟩
abbrev cX5_here : ByteArray := prog_7_method_22_code
def yX5_here : MethodName := ⟨RX5, "here", "()I"⟩
abbrev cX5_wrongAt : ByteArray := prog_7_method_23_code
def yX5_wrongAt : MethodName := ⟨RX5, "wrongAt", "(I)V"⟩
abbrev cX5_number : ByteArray := prog_7_method_24_code
def yX5_number : MethodName := ⟨RX5, "number", "(II)I"⟩
abbrev cX5_takes : ByteArray := prog_7_method_25_code
def yX5_takes : MethodName := ⟨RX5, "takes", "(I)Z"⟩
abbrev cX5_readCouple : ByteArray := prog_7_method_26_code
def yX5_readCouple : MethodName := ⟨RX5, "readCouple", "()V"⟩
abbrev cX5_town : ByteArray := prog_7_method_27_code
def yX5_town : MethodName := ⟨RX5, "town", "()I"⟩
abbrev cX5_count : ByteArray := prog_7_method_28_code
def yX5_count : MethodName := ⟨RX5, "count", "(I)I"⟩
abbrev cX5_know : ByteArray := prog_7_method_29_code
def yX5_know : MethodName := ⟨RX5, "know", "()V"⟩
abbrev cX5_years : ByteArray := prog_7_method_30_code
def yX5_years : MethodName := ⟨RX5, "years", "(I)I"⟩
abbrev cX5_nurse : ByteArray := prog_7_method_31_code
def yX5_nurse : MethodName := ⟨RX5, "nurse", "(II)I"⟩
abbrev cX5_stir : ByteArray := prog_7_method_32_code
def yX5_stir : MethodName := ⟨RX5, "stir", "(II)I"⟩
abbrev cX5_wed : ByteArray := prog_7_method_33_code
def yX5_wed : MethodName := ⟨RX5, "wed", "(I)I"⟩
abbrev cX5_drift : ByteArray := prog_7_method_34_code
def yX5_drift : MethodName := ⟨RX5, "drift", "(I)I"⟩
abbrev cX5_undo : ByteArray := prog_7_method_35_code
def yX5_undo : MethodName := ⟨RX5, "undo", "()I"⟩
abbrev cX5_seed : ByteArray := prog_7_method_36_code
def yX5_seed : MethodName := ⟨RX5, "seed", "(I)I"⟩
abbrev cX5_goOn : ByteArray := prog_7_method_37_code
def yX5_goOn : MethodName := ⟨RX5, "goOn", "(I)V"⟩
abbrev cX5_keys : ByteArray := prog_7_method_38_code
def yX5_keys : MethodName := ⟨RX5, "keys", "(I)I"⟩
abbrev cX5_ahead : ByteArray := prog_7_method_39_code
def yX5_ahead : MethodName := ⟨RX5, "ahead", "(II)I"⟩
abbrev cX5_then : ByteArray := prog_7_method_40_code
def yX5_then : MethodName := ⟨RX5, "then", "(I)I"⟩
abbrev cX5_rises : ByteArray := prog_7_method_41_code
def yX5_rises : MethodName := ⟨RX5, "rises", "(II)I"⟩
abbrev cX5_parts : ByteArray := prog_7_method_42_code
def yX5_parts : MethodName := ⟨RX5, "parts", "(I)I"⟩
abbrev cX5_ever : ByteArray := prog_7_method_43_code
def yX5_ever : MethodName := ⟨RX5, "ever", "()I"⟩
abbrev cX5_rivals : ByteArray := prog_7_method_44_code
def yX5_rivals : MethodName := ⟨RX5, "rivals", "(III)I"⟩
abbrev cX5_needs : ByteArray := prog_7_method_45_code
def yX5_needs : MethodName := ⟨RX5, "needs", "(II)I"⟩
abbrev cX5_soothe : ByteArray := prog_7_method_46_code
def yX5_soothe : MethodName := ⟨RX5, "soothe", "(II)I"⟩
abbrev cX5_start : ByteArray := prog_7_method_47_code
def yX5_start : MethodName := ⟨RX5, "start", "(I)I"⟩
abbrev cX5_sum : ByteArray := prog_7_method_48_code
def yX5_sum : MethodName := ⟨RX5, "sum", "(I)I"⟩
abbrev cX5_rows : ByteArray := prog_7_method_49_code
def yX5_rows : MethodName := ⟨RX5, "rows", "(III)I"⟩
abbrev cX5_image : ByteArray := prog_7_method_50_code
def yX5_image : MethodName := ⟨RX5, "image", "()I"⟩
abbrev cX5_restore : ByteArray := prog_7_method_51_code
def yX5_restore : MethodName := ⟨RX5, "restore", "()I"⟩
abbrev cX5_isSheet : ByteArray := prog_7_method_52_code
def yX5_isSheet : MethodName := ⟨RX5, "isSheet", "(I)Z"⟩
abbrev cX5_findOf : ByteArray := prog_7_method_53_code
def yX5_findOf : MethodName := ⟨RX5, "findOf", "(IIII)I"⟩
abbrev cX5_lowest : ByteArray := prog_7_method_54_code
def yX5_lowest : MethodName := ⟨RX5, "lowest", "(IJ)J"⟩
abbrev cX5_isHeard : ByteArray := prog_7_method_55_code
def yX5_isHeard : MethodName := ⟨RX5, "isHeard", "(IIII)Z"⟩
abbrev cX5_heard : ByteArray := prog_7_method_56_code
def yX5_heard : MethodName := ⟨RX5, "heard", "(IIIIII)I"⟩
abbrev cX5_film : ByteArray := prog_7_method_57_code
def yX5_film : MethodName := ⟨RX5, "film", "(IIIII)I"⟩
abbrev cX5_sheet : ByteArray := prog_7_method_58_code
def yX5_sheet : MethodName := ⟨RX5, "sheet", "(III)I"⟩
abbrev cX5_drop : ByteArray := prog_7_method_59_code
def yX5_drop : MethodName := ⟨RX5, "drop", "(I)I"⟩
abbrev cX5_item : ByteArray := prog_7_method_60_code
def yX5_item : MethodName := ⟨RX5, "item", "(IIIJ)I"⟩
abbrev cX5_copy : ByteArray := prog_7_method_61_code
def yX5_copy : MethodName := ⟨RX5, "copy", "(IIIII)I"⟩
def RJ6 : String := "java/lang/Integer"
def TJ6 : u_T := fun k => match k with
  | _ => ("", "", "", false)
def tyJ6 : Nat → FieldType := fun k => match k with
  | _ => .int
abbrev wsJ60 : List Cond := u_ws RJ6 TJ6 0
theorem nmJ6 : ∀ a, a < 0 → ∀ b, b < 0 → a ≠ b → (TJ6 a).2.1 ≠ (TJ6 b).2.1 := by decide +kernel
theorem tyJ6_ok : ∀ k, k < 0 → parseFieldDescriptor (TJ6 k).2.2.1 = some (tyJ6 k) := by decide +kernel
abbrev cJ6_bitCount_0f7a4 : ByteArray := prog_8_method_49_code
def yJ6_bitCount_0f7a4 : MethodName := ⟨RJ6, "bitCount", "(I)I"⟩
def RJ9 : String := "java/lang/Math"
def TJ9 : u_T := fun k => match k with
  | _ => ("", "", "", false)
def tyJ9 : Nat → FieldType := fun k => match k with
  | _ => .int
abbrev wsJ90 : List Cond := u_ws RJ9 TJ9 0
theorem nmJ9 : ∀ a, a < 0 → ∀ b, b < 0 → a ≠ b → (TJ9 a).2.1 ≠ (TJ9 b).2.1 := by decide +kernel
theorem tyJ9_ok : ∀ k, k < 0 → parseFieldDescriptor (TJ9 k).2.2.1 = some (tyJ9 k) := by decide +kernel
abbrev cJ9_max_7cf53 : ByteArray := prog_9_method_65_code
def yJ9_max_7cf53 : MethodName := ⟨RJ9, "max", "(II)I"⟩
abbrev cJ9_min_7cf53 : ByteArray := prog_9_method_69_code
def yJ9_min_7cf53 : MethodName := ⟨RJ9, "min", "(II)I"⟩
def RJ10 : String := "java/lang/System"
def TJ10 : u_T := fun k => match k with
  | _ => ("", "", "", false)
def tyJ10 : Nat → FieldType := fun k => match k with
  | _ => .int
abbrev wsJ100 : List Cond := u_ws RJ10 TJ10 0
theorem nmJ10 : ∀ a, a < 0 → ∀ b, b < 0 → a ≠ b → (TJ10 a).2.1 ≠ (TJ10 b).2.1 := by decide +kernel
theorem tyJ10_ok : ∀ k, k < 0 → parseFieldDescriptor (TJ10 k).2.2.1 = some (tyJ10 k) := by decide +kernel
def RL : String := "LongestWedLaw"
abbrev cL_law : ByteArray := code
abbrev vwCl : List vw_C := [(RX0, TX0, 3), (RX1, TX1, 3), (RX2, TX2, 4), (RX3, TX3, 8), (RX4, TX4, 8), (RX5, TX5, 18)]
end
section
theorem dJ6_bitCount_0f7a4_0 : decode cJ6_bitCount_0f7a4 0 = .ok (.iload_n 0, 1) := by decide +kernel
theorem dJ6_bitCount_0f7a4_1 : decode cJ6_bitCount_0f7a4 1 = .ok (.iload_n 0, 1) := by decide +kernel
theorem dJ6_bitCount_0f7a4_2 : decode cJ6_bitCount_0f7a4 2 = .ok (.iconst 1, 1) := by decide +kernel
theorem dJ6_bitCount_0f7a4_3 : decode cJ6_bitCount_0f7a4 3 = .ok (.iushr, 1) := by decide +kernel
theorem dJ6_bitCount_0f7a4_4 : decode cJ6_bitCount_0f7a4 4 = .ok (.ldc_w 265, 3) := by decide +kernel
theorem dJ6_bitCount_0f7a4_7 : decode cJ6_bitCount_0f7a4 7 = .ok (.iand, 1) := by decide +kernel
theorem dJ6_bitCount_0f7a4_8 : decode cJ6_bitCount_0f7a4 8 = .ok (.isub, 1) := by decide +kernel
theorem dJ6_bitCount_0f7a4_9 : decode cJ6_bitCount_0f7a4 9 = .ok (.istore_n 0, 1) := by decide +kernel
theorem dJ6_bitCount_0f7a4_10 : decode cJ6_bitCount_0f7a4 10 = .ok (.iload_n 0, 1) := by decide +kernel
theorem dJ6_bitCount_0f7a4_11 : decode cJ6_bitCount_0f7a4 11 = .ok (.ldc_w 266, 3) := by decide +kernel
theorem dJ6_bitCount_0f7a4_14 : decode cJ6_bitCount_0f7a4 14 = .ok (.iand, 1) := by decide +kernel
theorem dJ6_bitCount_0f7a4_15 : decode cJ6_bitCount_0f7a4 15 = .ok (.iload_n 0, 1) := by decide +kernel
theorem dJ6_bitCount_0f7a4_16 : decode cJ6_bitCount_0f7a4 16 = .ok (.iconst 2, 1) := by decide +kernel
theorem dJ6_bitCount_0f7a4_17 : decode cJ6_bitCount_0f7a4 17 = .ok (.iushr, 1) := by decide +kernel
theorem dJ6_bitCount_0f7a4_18 : decode cJ6_bitCount_0f7a4 18 = .ok (.ldc_w 266, 3) := by decide +kernel
theorem dJ6_bitCount_0f7a4_21 : decode cJ6_bitCount_0f7a4 21 = .ok (.iand, 1) := by decide +kernel
theorem dJ6_bitCount_0f7a4_22 : decode cJ6_bitCount_0f7a4 22 = .ok (.iadd, 1) := by decide +kernel
theorem dJ6_bitCount_0f7a4_23 : decode cJ6_bitCount_0f7a4 23 = .ok (.istore_n 0, 1) := by decide +kernel
theorem dJ6_bitCount_0f7a4_24 : decode cJ6_bitCount_0f7a4 24 = .ok (.iload_n 0, 1) := by decide +kernel
theorem dJ6_bitCount_0f7a4_25 : decode cJ6_bitCount_0f7a4 25 = .ok (.iload_n 0, 1) := by decide +kernel
theorem dJ6_bitCount_0f7a4_26 : decode cJ6_bitCount_0f7a4 26 = .ok (.iconst 4, 1) := by decide +kernel
theorem dJ6_bitCount_0f7a4_27 : decode cJ6_bitCount_0f7a4 27 = .ok (.iushr, 1) := by decide +kernel
theorem dJ6_bitCount_0f7a4_28 : decode cJ6_bitCount_0f7a4 28 = .ok (.iadd, 1) := by decide +kernel
theorem dJ6_bitCount_0f7a4_29 : decode cJ6_bitCount_0f7a4 29 = .ok (.ldc_w 267, 3) := by decide +kernel
theorem dJ6_bitCount_0f7a4_32 : decode cJ6_bitCount_0f7a4 32 = .ok (.iand, 1) := by decide +kernel
theorem dJ6_bitCount_0f7a4_33 : decode cJ6_bitCount_0f7a4 33 = .ok (.istore_n 0, 1) := by decide +kernel
theorem dJ6_bitCount_0f7a4_34 : decode cJ6_bitCount_0f7a4 34 = .ok (.iload_n 0, 1) := by decide +kernel
theorem dJ6_bitCount_0f7a4_35 : decode cJ6_bitCount_0f7a4 35 = .ok (.iload_n 0, 1) := by decide +kernel
theorem dJ6_bitCount_0f7a4_36 : decode cJ6_bitCount_0f7a4 36 = .ok (.bipush 8, 2) := by decide +kernel
theorem dJ6_bitCount_0f7a4_38 : decode cJ6_bitCount_0f7a4 38 = .ok (.iushr, 1) := by decide +kernel
theorem dJ6_bitCount_0f7a4_39 : decode cJ6_bitCount_0f7a4 39 = .ok (.iadd, 1) := by decide +kernel
theorem dJ6_bitCount_0f7a4_40 : decode cJ6_bitCount_0f7a4 40 = .ok (.istore_n 0, 1) := by decide +kernel
theorem dJ6_bitCount_0f7a4_41 : decode cJ6_bitCount_0f7a4 41 = .ok (.iload_n 0, 1) := by decide +kernel
theorem dJ6_bitCount_0f7a4_42 : decode cJ6_bitCount_0f7a4 42 = .ok (.iload_n 0, 1) := by decide +kernel
theorem dJ6_bitCount_0f7a4_43 : decode cJ6_bitCount_0f7a4 43 = .ok (.bipush 16, 2) := by decide +kernel
theorem dJ6_bitCount_0f7a4_45 : decode cJ6_bitCount_0f7a4 45 = .ok (.iushr, 1) := by decide +kernel
theorem dJ6_bitCount_0f7a4_46 : decode cJ6_bitCount_0f7a4 46 = .ok (.iadd, 1) := by decide +kernel
theorem dJ6_bitCount_0f7a4_47 : decode cJ6_bitCount_0f7a4 47 = .ok (.istore_n 0, 1) := by decide +kernel
theorem dJ6_bitCount_0f7a4_48 : decode cJ6_bitCount_0f7a4 48 = .ok (.iload_n 0, 1) := by decide +kernel
theorem dJ6_bitCount_0f7a4_49 : decode cJ6_bitCount_0f7a4 49 = .ok (.bipush 63, 2) := by decide +kernel
theorem dJ6_bitCount_0f7a4_51 : decode cJ6_bitCount_0f7a4 51 = .ok (.iand, 1) := by decide +kernel
theorem dJ6_bitCount_0f7a4_52 : decode cJ6_bitCount_0f7a4 52 = .ok (.ireturn, 1) := by decide +kernel
theorem dJ9_max_7cf53_0 : decode cJ9_max_7cf53 0 = .ok (.iload_n 0, 1) := by decide +kernel
theorem dJ9_max_7cf53_1 : decode cJ9_max_7cf53 1 = .ok (.iload_n 1, 1) := by decide +kernel
theorem dJ9_max_7cf53_2 : decode cJ9_max_7cf53 2 = .ok (.if_icmp .lt 7, 3) := by decide +kernel
theorem dJ9_max_7cf53_5 : decode cJ9_max_7cf53 5 = .ok (.iload_n 0, 1) := by decide +kernel
theorem dJ9_max_7cf53_6 : decode cJ9_max_7cf53 6 = .ok (.goto 4, 3) := by decide +kernel
theorem dJ9_max_7cf53_9 : decode cJ9_max_7cf53 9 = .ok (.iload_n 1, 1) := by decide +kernel
theorem dJ9_max_7cf53_10 : decode cJ9_max_7cf53 10 = .ok (.ireturn, 1) := by decide +kernel
theorem dJ9_min_7cf53_0 : decode cJ9_min_7cf53 0 = .ok (.iload_n 0, 1) := by decide +kernel
theorem dJ9_min_7cf53_1 : decode cJ9_min_7cf53 1 = .ok (.iload_n 1, 1) := by decide +kernel
theorem dJ9_min_7cf53_2 : decode cJ9_min_7cf53 2 = .ok (.if_icmp .gt 7, 3) := by decide +kernel
theorem dJ9_min_7cf53_5 : decode cJ9_min_7cf53 5 = .ok (.iload_n 0, 1) := by decide +kernel
theorem dJ9_min_7cf53_6 : decode cJ9_min_7cf53 6 = .ok (.goto 4, 3) := by decide +kernel
theorem dJ9_min_7cf53_9 : decode cJ9_min_7cf53 9 = .ok (.iload_n 1, 1) := by decide +kernel
theorem dJ9_min_7cf53_10 : decode cJ9_min_7cf53 10 = .ok (.ireturn, 1) := by decide +kernel
theorem dX0_init_0 : decode cX0_init 0 = .ok (.aload_n 0, 1) := by decide +kernel
theorem dX0_init_1 : decode cX0_init 1 = .ok (.invokespecial 3, 3) := by decide +kernel
theorem dX0_init_4 : decode cX0_init 4 = .ok (.aload_n 0, 1) := by decide +kernel
theorem dX0_init_5 : decode cX0_init 5 = .ok (.bipush 8, 2) := by decide +kernel
theorem dX0_init_7 : decode cX0_init 7 = .ok (.anewarray 9, 3) := by decide +kernel
theorem dX0_init_10 : decode cX0_init 10 = .ok (.putfield 11, 3) := by decide +kernel
theorem dX0_init_13 : decode cX0_init 13 = .ok (.aload_n 0, 1) := by decide +kernel
theorem dX0_init_14 : decode cX0_init 14 = .ok (.iconst 0, 1) := by decide +kernel
theorem dX0_init_15 : decode cX0_init 15 = .ok (.putfield 17, 3) := by decide +kernel
theorem dX0_init_18 : decode cX0_init 18 = .ok (.aload_n 0, 1) := by decide +kernel
theorem dX0_init_19 : decode cX0_init 19 = .ok (.iconst 0, 1) := by decide +kernel
theorem dX0_init_20 : decode cX0_init 20 = .ok (.putfield 21, 3) := by decide +kernel
theorem dX0_init_23 : decode cX0_init 23 = .ok (.iconst 0, 1) := by decide +kernel
theorem dX0_init_24 : decode cX0_init 24 = .ok (.istore_n 1, 1) := by decide +kernel
theorem dX0_init_25 : decode cX0_init 25 = .ok (.iload_n 1, 1) := by decide +kernel
theorem dX0_init_26 : decode cX0_init 26 = .ok (.bipush 8, 2) := by decide +kernel
theorem dX0_init_28 : decode cX0_init 28 = .ok (.if_icmp .ge 22, 3) := by decide +kernel
theorem dX0_init_31 : decode cX0_init 31 = .ok (.aload_n 0, 1) := by decide +kernel
theorem dX0_init_32 : decode cX0_init 32 = .ok (.getfield 11, 3) := by decide +kernel
theorem dX0_init_35 : decode cX0_init 35 = .ok (.iload_n 1, 1) := by decide +kernel
theorem dX0_init_36 : decode cX0_init 36 = .ok (.new 9, 3) := by decide +kernel
theorem dX0_init_39 : decode cX0_init 39 = .ok (.dup, 1) := by decide +kernel
theorem dX0_init_40 : decode cX0_init 40 = .ok (.invokespecial 24, 3) := by decide +kernel
theorem dX0_init_43 : decode cX0_init 43 = .ok (.aastore, 1) := by decide +kernel
theorem dX0_init_44 : decode cX0_init 44 = .ok (.iinc 1 1, 3) := by decide +kernel
theorem dX0_init_47 : decode cX0_init 47 = .ok (.goto (-22), 3) := by decide +kernel
theorem dX0_init_50 : decode cX0_init 50 = .ok (.return_, 1) := by decide +kernel
theorem dX0_note_0 : decode cX0_note 0 = .ok (.aload_n 0, 1) := by decide +kernel
theorem dX0_note_1 : decode cX0_note 1 = .ok (.getfield 11, 3) := by decide +kernel
theorem dX0_note_4 : decode cX0_note 4 = .ok (.aload_n 0, 1) := by decide +kernel
theorem dX0_note_5 : decode cX0_note 5 = .ok (.getfield 17, 3) := by decide +kernel
theorem dX0_note_8 : decode cX0_note 8 = .ok (.aaload, 1) := by decide +kernel
theorem dX0_note_9 : decode cX0_note 9 = .ok (.aload_n 1, 1) := by decide +kernel
theorem dX0_note_10 : decode cX0_note 10 = .ok (.invokevirtual 25, 3) := by decide +kernel
theorem dX0_note_13 : decode cX0_note 13 = .ok (.aload_n 0, 1) := by decide +kernel
theorem dX0_note_14 : decode cX0_note 14 = .ok (.aload_n 0, 1) := by decide +kernel
theorem dX0_note_15 : decode cX0_note 15 = .ok (.getfield 17, 3) := by decide +kernel
theorem dX0_note_18 : decode cX0_note 18 = .ok (.iconst 1, 1) := by decide +kernel
theorem dX0_note_19 : decode cX0_note 19 = .ok (.iadd, 1) := by decide +kernel
theorem dX0_note_20 : decode cX0_note 20 = .ok (.bipush 8, 2) := by decide +kernel
theorem dX0_note_22 : decode cX0_note 22 = .ok (.irem, 1) := by decide +kernel
theorem dX0_note_23 : decode cX0_note 23 = .ok (.putfield 17, 3) := by decide +kernel
theorem dX0_note_26 : decode cX0_note 26 = .ok (.aload_n 0, 1) := by decide +kernel
theorem dX0_note_27 : decode cX0_note 27 = .ok (.bipush 8, 2) := by decide +kernel
theorem dX0_note_29 : decode cX0_note 29 = .ok (.aload_n 0, 1) := by decide +kernel
theorem dX0_note_30 : decode cX0_note 30 = .ok (.getfield 21, 3) := by decide +kernel
theorem dX0_note_33 : decode cX0_note 33 = .ok (.iconst 1, 1) := by decide +kernel
theorem dX0_note_34 : decode cX0_note 34 = .ok (.iadd, 1) := by decide +kernel
theorem dX0_note_35 : decode cX0_note 35 = .ok (.invokestatic 29, 3) := by decide +kernel
theorem dX0_note_38 : decode cX0_note 38 = .ok (.putfield 21, 3) := by decide +kernel
theorem dX0_note_41 : decode cX0_note 41 = .ok (.return_, 1) := by decide +kernel
theorem dX0_giveBack_0 : decode cX0_giveBack 0 = .ok (.aload_n 0, 1) := by decide +kernel
theorem dX0_giveBack_1 : decode cX0_giveBack 1 = .ok (.aload_n 0, 1) := by decide +kernel
theorem dX0_giveBack_2 : decode cX0_giveBack 2 = .ok (.getfield 17, 3) := by decide +kernel
theorem dX0_giveBack_5 : decode cX0_giveBack 5 = .ok (.bipush 8, 2) := by decide +kernel
theorem dX0_giveBack_7 : decode cX0_giveBack 7 = .ok (.iadd, 1) := by decide +kernel
theorem dX0_giveBack_8 : decode cX0_giveBack 8 = .ok (.iconst 1, 1) := by decide +kernel
theorem dX0_giveBack_9 : decode cX0_giveBack 9 = .ok (.isub, 1) := by decide +kernel
theorem dX0_giveBack_10 : decode cX0_giveBack 10 = .ok (.bipush 8, 2) := by decide +kernel
theorem dX0_giveBack_12 : decode cX0_giveBack 12 = .ok (.irem, 1) := by decide +kernel
theorem dX0_giveBack_13 : decode cX0_giveBack 13 = .ok (.putfield 17, 3) := by decide +kernel
theorem dX0_giveBack_16 : decode cX0_giveBack 16 = .ok (.aload_n 0, 1) := by decide +kernel
theorem dX0_giveBack_17 : decode cX0_giveBack 17 = .ok (.dup, 1) := by decide +kernel
theorem dX0_giveBack_18 : decode cX0_giveBack 18 = .ok (.getfield 21, 3) := by decide +kernel
theorem dX0_giveBack_21 : decode cX0_giveBack 21 = .ok (.iconst 1, 1) := by decide +kernel
theorem dX0_giveBack_22 : decode cX0_giveBack 22 = .ok (.isub, 1) := by decide +kernel
theorem dX0_giveBack_23 : decode cX0_giveBack 23 = .ok (.putfield 21, 3) := by decide +kernel
theorem dX0_giveBack_26 : decode cX0_giveBack 26 = .ok (.aload_n 1, 1) := by decide +kernel
theorem dX0_giveBack_27 : decode cX0_giveBack 27 = .ok (.aload_n 0, 1) := by decide +kernel
theorem dX0_giveBack_28 : decode cX0_giveBack 28 = .ok (.getfield 11, 3) := by decide +kernel
theorem dX0_giveBack_31 : decode cX0_giveBack 31 = .ok (.aload_n 0, 1) := by decide +kernel
theorem dX0_giveBack_32 : decode cX0_giveBack 32 = .ok (.getfield 17, 3) := by decide +kernel
theorem dX0_giveBack_35 : decode cX0_giveBack 35 = .ok (.aaload, 1) := by decide +kernel
theorem dX0_giveBack_36 : decode cX0_giveBack 36 = .ok (.invokevirtual 25, 3) := by decide +kernel
theorem dX0_giveBack_39 : decode cX0_giveBack 39 = .ok (.return_, 1) := by decide +kernel
theorem dX0_forget_0 : decode cX0_forget 0 = .ok (.aload_n 0, 1) := by decide +kernel
theorem dX0_forget_1 : decode cX0_forget 1 = .ok (.iconst 0, 1) := by decide +kernel
theorem dX0_forget_2 : decode cX0_forget 2 = .ok (.putfield 21, 3) := by decide +kernel
theorem dX0_forget_5 : decode cX0_forget 5 = .ok (.return_, 1) := by decide +kernel
theorem dX0_become_0 : decode cX0_become 0 = .ok (.iconst 0, 1) := by decide +kernel
theorem dX0_become_1 : decode cX0_become 1 = .ok (.istore_n 2, 1) := by decide +kernel
theorem dX0_become_2 : decode cX0_become 2 = .ok (.iload_n 2, 1) := by decide +kernel
theorem dX0_become_3 : decode cX0_become 3 = .ok (.bipush 8, 2) := by decide +kernel
theorem dX0_become_5 : decode cX0_become 5 = .ok (.if_icmp .ge 24, 3) := by decide +kernel
theorem dX0_become_8 : decode cX0_become 8 = .ok (.aload_n 0, 1) := by decide +kernel
theorem dX0_become_9 : decode cX0_become 9 = .ok (.getfield 11, 3) := by decide +kernel
theorem dX0_become_12 : decode cX0_become 12 = .ok (.iload_n 2, 1) := by decide +kernel
theorem dX0_become_13 : decode cX0_become 13 = .ok (.aaload, 1) := by decide +kernel
theorem dX0_become_14 : decode cX0_become 14 = .ok (.aload_n 1, 1) := by decide +kernel
theorem dX0_become_15 : decode cX0_become 15 = .ok (.getfield 11, 3) := by decide +kernel
theorem dX0_become_18 : decode cX0_become 18 = .ok (.iload_n 2, 1) := by decide +kernel
theorem dX0_become_19 : decode cX0_become 19 = .ok (.aaload, 1) := by decide +kernel
theorem dX0_become_20 : decode cX0_become 20 = .ok (.invokevirtual 25, 3) := by decide +kernel
theorem dX0_become_23 : decode cX0_become 23 = .ok (.iinc 2 1, 3) := by decide +kernel
theorem dX0_become_26 : decode cX0_become 26 = .ok (.goto (-24), 3) := by decide +kernel
theorem dX0_become_29 : decode cX0_become 29 = .ok (.aload_n 0, 1) := by decide +kernel
theorem dX0_become_30 : decode cX0_become 30 = .ok (.aload_n 1, 1) := by decide +kernel
theorem dX0_become_31 : decode cX0_become 31 = .ok (.getfield 17, 3) := by decide +kernel
theorem dX0_become_34 : decode cX0_become 34 = .ok (.putfield 17, 3) := by decide +kernel
theorem dX0_become_37 : decode cX0_become 37 = .ok (.aload_n 0, 1) := by decide +kernel
theorem dX0_become_38 : decode cX0_become 38 = .ok (.aload_n 1, 1) := by decide +kernel
theorem dX0_become_39 : decode cX0_become 39 = .ok (.getfield 21, 3) := by decide +kernel
theorem dX0_become_42 : decode cX0_become 42 = .ok (.putfield 21, 3) := by decide +kernel
theorem dX0_become_45 : decode cX0_become 45 = .ok (.return_, 1) := by decide +kernel
theorem dX1_init_0 : decode cX1_init 0 = .ok (.aload_n 0, 1) := by decide +kernel
theorem dX1_init_1 : decode cX1_init 1 = .ok (.invokespecial 3, 3) := by decide +kernel
theorem dX1_init_4 : decode cX1_init 4 = .ok (.aload_n 0, 1) := by decide +kernel
theorem dX1_init_5 : decode cX1_init 5 = .ok (.bipush 24, 2) := by decide +kernel
theorem dX1_init_7 : decode cX1_init 7 = .ok (.newarray .long, 2) := by decide +kernel
theorem dX1_init_9 : decode cX1_init 9 = .ok (.putfield 9, 3) := by decide +kernel
theorem dX1_init_12 : decode cX1_init 12 = .ok (.aload_n 0, 1) := by decide +kernel
theorem dX1_init_13 : decode cX1_init 13 = .ok (.iconst (-1), 1) := by decide +kernel
theorem dX1_init_14 : decode cX1_init 14 = .ok (.putfield 15, 3) := by decide +kernel
theorem dX1_init_17 : decode cX1_init 17 = .ok (.aload_n 0, 1) := by decide +kernel
theorem dX1_init_18 : decode cX1_init 18 = .ok (.iconst 0, 1) := by decide +kernel
theorem dX1_init_19 : decode cX1_init 19 = .ok (.putfield 19, 3) := by decide +kernel
theorem dX1_init_22 : decode cX1_init 22 = .ok (.return_, 1) := by decide +kernel
theorem dX1_renew_0 : decode cX1_renew 0 = .ok (.iconst 0, 1) := by decide +kernel
theorem dX1_renew_1 : decode cX1_renew 1 = .ok (.istore_n 3, 1) := by decide +kernel
theorem dX1_renew_2 : decode cX1_renew 2 = .ok (.iload_n 3, 1) := by decide +kernel
theorem dX1_renew_3 : decode cX1_renew 3 = .ok (.bipush 24, 2) := by decide +kernel
theorem dX1_renew_5 : decode cX1_renew 5 = .ok (.if_icmp .ge 16, 3) := by decide +kernel
theorem dX1_renew_8 : decode cX1_renew 8 = .ok (.aload_n 0, 1) := by decide +kernel
theorem dX1_renew_9 : decode cX1_renew 9 = .ok (.getfield 9, 3) := by decide +kernel
theorem dX1_renew_12 : decode cX1_renew 12 = .ok (.iload_n 3, 1) := by decide +kernel
theorem dX1_renew_13 : decode cX1_renew 13 = .ok (.lconst 0, 1) := by decide +kernel
theorem dX1_renew_14 : decode cX1_renew 14 = .ok (.lastore, 1) := by decide +kernel
theorem dX1_renew_15 : decode cX1_renew 15 = .ok (.iinc 3 1, 3) := by decide +kernel
theorem dX1_renew_18 : decode cX1_renew 18 = .ok (.goto (-16), 3) := by decide +kernel
theorem dX1_renew_21 : decode cX1_renew 21 = .ok (.aload_n 0, 1) := by decide +kernel
theorem dX1_renew_22 : decode cX1_renew 22 = .ok (.iload_n 1, 1) := by decide +kernel
theorem dX1_renew_23 : decode cX1_renew 23 = .ok (.putfield 15, 3) := by decide +kernel
theorem dX1_renew_26 : decode cX1_renew 26 = .ok (.aload_n 0, 1) := by decide +kernel
theorem dX1_renew_27 : decode cX1_renew 27 = .ok (.iload_n 2, 1) := by decide +kernel
theorem dX1_renew_28 : decode cX1_renew 28 = .ok (.putfield 19, 3) := by decide +kernel
theorem dX1_renew_31 : decode cX1_renew 31 = .ok (.return_, 1) := by decide +kernel
theorem dX1_faultOf_0 : decode cX1_faultOf 0 = .ok (.aload_n 0, 1) := by decide +kernel
theorem dX1_faultOf_1 : decode cX1_faultOf 1 = .ok (.getfield 15, 3) := by decide +kernel
theorem dX1_faultOf_4 : decode cX1_faultOf 4 = .ok (.iconst (-1), 1) := by decide +kernel
theorem dX1_faultOf_5 : decode cX1_faultOf 5 = .ok (.if_icmp .ne 6, 3) := by decide +kernel
theorem dX1_faultOf_8 : decode cX1_faultOf 8 = .ok (.bipush (-11), 2) := by decide +kernel
theorem dX1_faultOf_10 : decode cX1_faultOf 10 = .ok (.ireturn, 1) := by decide +kernel
theorem dX1_faultOf_11 : decode cX1_faultOf 11 = .ok (.aload_n 0, 1) := by decide +kernel
theorem dX1_faultOf_12 : decode cX1_faultOf 12 = .ok (.getfield 15, 3) := by decide +kernel
theorem dX1_faultOf_15 : decode cX1_faultOf 15 = .ok (.iload_n 1, 1) := by decide +kernel
theorem dX1_faultOf_16 : decode cX1_faultOf 16 = .ok (.if_icmp .eq 6, 3) := by decide +kernel
theorem dX1_faultOf_19 : decode cX1_faultOf 19 = .ok (.bipush (-12), 2) := by decide +kernel
theorem dX1_faultOf_21 : decode cX1_faultOf 21 = .ok (.ireturn, 1) := by decide +kernel
theorem dX1_faultOf_22 : decode cX1_faultOf 22 = .ok (.aload_n 0, 1) := by decide +kernel
theorem dX1_faultOf_23 : decode cX1_faultOf 23 = .ok (.iload_n 2, 1) := by decide +kernel
theorem dX1_faultOf_24 : decode cX1_faultOf 24 = .ok (.iload_n 3, 1) := by decide +kernel
theorem dX1_faultOf_25 : decode cX1_faultOf 25 = .ok (.invokevirtual 22, 3) := by decide +kernel
theorem dX1_faultOf_28 : decode cX1_faultOf 28 = .ok (.ifCond .eq 7, 3) := by decide +kernel
theorem dX1_faultOf_31 : decode cX1_faultOf 31 = .ok (.iconst 0, 1) := by decide +kernel
theorem dX1_faultOf_32 : decode cX1_faultOf 32 = .ok (.goto 5, 3) := by decide +kernel
theorem dX1_faultOf_35 : decode cX1_faultOf 35 = .ok (.bipush (-13), 2) := by decide +kernel
theorem dX1_faultOf_37 : decode cX1_faultOf 37 = .ok (.ireturn, 1) := by decide +kernel
theorem dX1_reaches_0 : decode cX1_reaches 0 = .ok (.iload_n 1, 1) := by decide +kernel
theorem dX1_reaches_1 : decode cX1_reaches 1 = .ok (.ifCond .lt 21, 3) := by decide +kernel
theorem dX1_reaches_4 : decode cX1_reaches 4 = .ok (.iload_n 2, 1) := by decide +kernel
theorem dX1_reaches_5 : decode cX1_reaches 5 = .ok (.ifCond .lt 17, 3) := by decide +kernel
theorem dX1_reaches_8 : decode cX1_reaches 8 = .ok (.iload_n 1, 1) := by decide +kernel
theorem dX1_reaches_9 : decode cX1_reaches 9 = .ok (.aload_n 0, 1) := by decide +kernel
theorem dX1_reaches_10 : decode cX1_reaches 10 = .ok (.getfield 19, 3) := by decide +kernel
theorem dX1_reaches_13 : decode cX1_reaches 13 = .ok (.iload_n 2, 1) := by decide +kernel
theorem dX1_reaches_14 : decode cX1_reaches 14 = .ok (.isub, 1) := by decide +kernel
theorem dX1_reaches_15 : decode cX1_reaches 15 = .ok (.if_icmp .gt 7, 3) := by decide +kernel
theorem dX1_reaches_18 : decode cX1_reaches 18 = .ok (.iconst 1, 1) := by decide +kernel
theorem dX1_reaches_19 : decode cX1_reaches 19 = .ok (.goto 4, 3) := by decide +kernel
theorem dX1_reaches_22 : decode cX1_reaches 22 = .ok (.iconst 0, 1) := by decide +kernel
theorem dX1_reaches_23 : decode cX1_reaches 23 = .ok (.ireturn, 1) := by decide +kernel
theorem dX1_put_0 : decode cX1_put 0 = .ok (.iload_n 1, 1) := by decide +kernel
theorem dX1_put_1 : decode cX1_put 1 = .ok (.ifCond .lt 22, 3) := by decide +kernel
theorem dX1_put_4 : decode cX1_put 4 = .ok (.iload_n 1, 1) := by decide +kernel
theorem dX1_put_5 : decode cX1_put 5 = .ok (.aload_n 0, 1) := by decide +kernel
theorem dX1_put_6 : decode cX1_put 6 = .ok (.getfield 19, 3) := by decide +kernel
theorem dX1_put_9 : decode cX1_put 9 = .ok (.if_icmp .ge 14, 3) := by decide +kernel
theorem dX1_put_12 : decode cX1_put 12 = .ok (.aload_n 0, 1) := by decide +kernel
theorem dX1_put_13 : decode cX1_put 13 = .ok (.getfield 9, 3) := by decide +kernel
theorem dX1_put_16 : decode cX1_put 16 = .ok (.iload_n 1, 1) := by decide +kernel
theorem dX1_put_17 : decode cX1_put 17 = .ok (.aload_n 0, 1) := by decide +kernel
theorem dX1_put_18 : decode cX1_put 18 = .ok (.lload_n 2, 1) := by decide +kernel
theorem dX1_put_19 : decode cX1_put 19 = .ok (.invokevirtual 26, 3) := by decide +kernel
theorem dX1_put_22 : decode cX1_put 22 = .ok (.lastore, 1) := by decide +kernel
theorem dX1_put_23 : decode cX1_put 23 = .ok (.return_, 1) := by decide +kernel
theorem dX1_lowestBits_0 : decode cX1_lowestBits 0 = .ok (.aload_n 0, 1) := by decide +kernel
theorem dX1_lowestBits_1 : decode cX1_lowestBits 1 = .ok (.getfield 15, 3) := by decide +kernel
theorem dX1_lowestBits_4 : decode cX1_lowestBits 4 = .ok (.tableswitch 42 0 2 #[28, 33, 38], 28) := by decide +kernel
theorem dX1_lowestBits_32 : decode cX1_lowestBits 32 = .ok (.lload_n 1, 1) := by decide +kernel
theorem dX1_lowestBits_33 : decode cX1_lowestBits 33 = .ok (.l2i, 1) := by decide +kernel
theorem dX1_lowestBits_34 : decode cX1_lowestBits 34 = .ok (.i2b, 1) := by decide +kernel
theorem dX1_lowestBits_35 : decode cX1_lowestBits 35 = .ok (.i2l, 1) := by decide +kernel
theorem dX1_lowestBits_36 : decode cX1_lowestBits 36 = .ok (.lreturn, 1) := by decide +kernel
theorem dX1_lowestBits_37 : decode cX1_lowestBits 37 = .ok (.lload_n 1, 1) := by decide +kernel
theorem dX1_lowestBits_38 : decode cX1_lowestBits 38 = .ok (.l2i, 1) := by decide +kernel
theorem dX1_lowestBits_39 : decode cX1_lowestBits 39 = .ok (.i2s, 1) := by decide +kernel
theorem dX1_lowestBits_40 : decode cX1_lowestBits 40 = .ok (.i2l, 1) := by decide +kernel
theorem dX1_lowestBits_41 : decode cX1_lowestBits 41 = .ok (.lreturn, 1) := by decide +kernel
theorem dX1_lowestBits_42 : decode cX1_lowestBits 42 = .ok (.lload_n 1, 1) := by decide +kernel
theorem dX1_lowestBits_43 : decode cX1_lowestBits 43 = .ok (.l2i, 1) := by decide +kernel
theorem dX1_lowestBits_44 : decode cX1_lowestBits 44 = .ok (.i2l, 1) := by decide +kernel
theorem dX1_lowestBits_45 : decode cX1_lowestBits 45 = .ok (.lreturn, 1) := by decide +kernel
theorem dX1_lowestBits_46 : decode cX1_lowestBits 46 = .ok (.lload_n 1, 1) := by decide +kernel
theorem dX1_lowestBits_47 : decode cX1_lowestBits 47 = .ok (.lreturn, 1) := by decide +kernel
theorem dX2_init_0 : decode cX2_init 0 = .ok (.aload_n 0, 1) := by decide +kernel
theorem dX2_init_1 : decode cX2_init 1 = .ok (.invokespecial 3, 3) := by decide +kernel
theorem dX2_init_4 : decode cX2_init 4 = .ok (.aload_n 0, 1) := by decide +kernel
theorem dX2_init_5 : decode cX2_init 5 = .ok (.bipush 80, 2) := by decide +kernel
theorem dX2_init_7 : decode cX2_init 7 = .ok (.newarray .int, 2) := by decide +kernel
theorem dX2_init_9 : decode cX2_init 9 = .ok (.putfield 9, 3) := by decide +kernel
theorem dX2_init_12 : decode cX2_init 12 = .ok (.aload_n 0, 1) := by decide +kernel
theorem dX2_init_13 : decode cX2_init 13 = .ok (.iconst 0, 1) := by decide +kernel
theorem dX2_init_14 : decode cX2_init 14 = .ok (.putfield 15, 3) := by decide +kernel
theorem dX2_init_17 : decode cX2_init 17 = .ok (.aload_n 0, 1) := by decide +kernel
theorem dX2_init_18 : decode cX2_init 18 = .ok (.iconst 0, 1) := by decide +kernel
theorem dX2_init_19 : decode cX2_init 19 = .ok (.putfield 19, 3) := by decide +kernel
theorem dX2_init_22 : decode cX2_init 22 = .ok (.aload_n 0, 1) := by decide +kernel
theorem dX2_init_23 : decode cX2_init 23 = .ok (.iconst 0, 1) := by decide +kernel
theorem dX2_init_24 : decode cX2_init 24 = .ok (.putfield 22, 3) := by decide +kernel
theorem dX2_init_27 : decode cX2_init 27 = .ok (.return_, 1) := by decide +kernel
theorem dX2_write_0 : decode cX2_write 0 = .ok (.aload_n 0, 1) := by decide +kernel
theorem dX2_write_1 : decode cX2_write 1 = .ok (.getfield 15, 3) := by decide +kernel
theorem dX2_write_4 : decode cX2_write 4 = .ok (.bipush 80, 2) := by decide +kernel
theorem dX2_write_6 : decode cX2_write 6 = .ok (.if_icmp .ge 23, 3) := by decide +kernel
theorem dX2_write_9 : decode cX2_write 9 = .ok (.aload_n 0, 1) := by decide +kernel
theorem dX2_write_10 : decode cX2_write 10 = .ok (.getfield 9, 3) := by decide +kernel
theorem dX2_write_13 : decode cX2_write 13 = .ok (.aload_n 0, 1) := by decide +kernel
theorem dX2_write_14 : decode cX2_write 14 = .ok (.getfield 15, 3) := by decide +kernel
theorem dX2_write_17 : decode cX2_write 17 = .ok (.iload_n 1, 1) := by decide +kernel
theorem dX2_write_18 : decode cX2_write 18 = .ok (.iastore, 1) := by decide +kernel
theorem dX2_write_19 : decode cX2_write 19 = .ok (.aload_n 0, 1) := by decide +kernel
theorem dX2_write_20 : decode cX2_write 20 = .ok (.dup, 1) := by decide +kernel
theorem dX2_write_21 : decode cX2_write 21 = .ok (.getfield 15, 3) := by decide +kernel
theorem dX2_write_24 : decode cX2_write 24 = .ok (.iconst 1, 1) := by decide +kernel
theorem dX2_write_25 : decode cX2_write 25 = .ok (.iadd, 1) := by decide +kernel
theorem dX2_write_26 : decode cX2_write 26 = .ok (.putfield 15, 3) := by decide +kernel
theorem dX2_write_29 : decode cX2_write 29 = .ok (.aload_n 0, 1) := by decide +kernel
theorem dX2_write_30 : decode cX2_write 30 = .ok (.getfield 15, 3) := by decide +kernel
theorem dX2_write_33 : decode cX2_write 33 = .ok (.ireturn, 1) := by decide +kernel
theorem dX2_readTown_0 : decode cX2_readTown 0 = .ok (.aload_n 0, 1) := by decide +kernel
theorem dX2_readTown_1 : decode cX2_readTown 1 = .ok (.iconst 0, 1) := by decide +kernel
theorem dX2_readTown_2 : decode cX2_readTown 2 = .ok (.putfield 19, 3) := by decide +kernel
theorem dX2_readTown_5 : decode cX2_readTown 5 = .ok (.iconst 1, 1) := by decide +kernel
theorem dX2_readTown_6 : decode cX2_readTown 6 = .ok (.istore_n 2, 1) := by decide +kernel
theorem dX2_readTown_7 : decode cX2_readTown 7 = .ok (.iload_n 2, 1) := by decide +kernel
theorem dX2_readTown_8 : decode cX2_readTown 8 = .ok (.bipush 7, 2) := by decide +kernel
theorem dX2_readTown_10 : decode cX2_readTown 10 = .ok (.if_icmp .gt 39, 3) := by decide +kernel
theorem dX2_readTown_13 : decode cX2_readTown 13 = .ok (.aload_n 0, 1) := by decide +kernel
theorem dX2_readTown_14 : decode cX2_readTown 14 = .ok (.aload_n 1, 1) := by decide +kernel
theorem dX2_readTown_15 : decode cX2_readTown 15 = .ok (.invokevirtual 25, 3) := by decide +kernel
theorem dX2_readTown_18 : decode cX2_readTown 18 = .ok (.ifCond .ne 5, 3) := by decide +kernel
theorem dX2_readTown_21 : decode cX2_readTown 21 = .ok (.iconst 0, 1) := by decide +kernel
theorem dX2_readTown_22 : decode cX2_readTown 22 = .ok (.ireturn, 1) := by decide +kernel
theorem dX2_readTown_23 : decode cX2_readTown 23 = .ok (.iload_n 2, 1) := by decide +kernel
theorem dX2_readTown_24 : decode cX2_readTown 24 = .ok (.bipush 7, 2) := by decide +kernel
theorem dX2_readTown_26 : decode cX2_readTown 26 = .ok (.if_icmp .eq 12, 3) := by decide +kernel
theorem dX2_readTown_29 : decode cX2_readTown 29 = .ok (.aload_n 0, 1) := by decide +kernel
theorem dX2_readTown_30 : decode cX2_readTown 30 = .ok (.bipush 44, 2) := by decide +kernel
theorem dX2_readTown_32 : decode cX2_readTown 32 = .ok (.invokevirtual 29, 3) := by decide +kernel
theorem dX2_readTown_35 : decode cX2_readTown 35 = .ok (.ifCond .ne 8, 3) := by decide +kernel
theorem dX2_readTown_38 : decode cX2_readTown 38 = .ok (.aload_n 0, 1) := by decide +kernel
theorem dX2_readTown_39 : decode cX2_readTown 39 = .ok (.invokevirtual 33, 3) := by decide +kernel
theorem dX2_readTown_42 : decode cX2_readTown 42 = .ok (.ireturn, 1) := by decide +kernel
theorem dX2_readTown_43 : decode cX2_readTown 43 = .ok (.iinc 2 1, 3) := by decide +kernel
theorem dX2_readTown_46 : decode cX2_readTown 46 = .ok (.goto (-39), 3) := by decide +kernel
theorem dX2_readTown_49 : decode cX2_readTown 49 = .ok (.iconst 0, 1) := by decide +kernel
theorem dX2_readTown_50 : decode cX2_readTown 50 = .ok (.ireturn, 1) := by decide +kernel
theorem dX2_readCouple_0 : decode cX2_readCouple 0 = .ok (.aload_n 0, 1) := by decide +kernel
theorem dX2_readCouple_1 : decode cX2_readCouple 1 = .ok (.invokevirtual 37, 3) := by decide +kernel
theorem dX2_readCouple_4 : decode cX2_readCouple 4 = .ok (.aload_n 0, 1) := by decide +kernel
theorem dX2_readCouple_5 : decode cX2_readCouple 5 = .ok (.aload_n 0, 1) := by decide +kernel
theorem dX2_readCouple_6 : decode cX2_readCouple 6 = .ok (.getfield 19, 3) := by decide +kernel
theorem dX2_readCouple_9 : decode cX2_readCouple 9 = .ok (.invokevirtual 40, 3) := by decide +kernel
theorem dX2_readCouple_12 : decode cX2_readCouple 12 = .ok (.invokestatic 44, 3) := by decide +kernel
theorem dX2_readCouple_15 : decode cX2_readCouple 15 = .ok (.istore_n 2, 1) := by decide +kernel
theorem dX2_readCouple_16 : decode cX2_readCouple 16 = .ok (.iload_n 2, 1) := by decide +kernel
theorem dX2_readCouple_17 : decode cX2_readCouple 17 = .ok (.ifCond .ge 13, 3) := by decide +kernel
theorem dX2_readCouple_20 : decode cX2_readCouple 20 = .ok (.aload_n 0, 1) := by decide +kernel
theorem dX2_readCouple_21 : decode cX2_readCouple 21 = .ok (.aload_n 0, 1) := by decide +kernel
theorem dX2_readCouple_22 : decode cX2_readCouple 22 = .ok (.getfield 19, 3) := by decide +kernel
theorem dX2_readCouple_25 : decode cX2_readCouple 25 = .ok (.putfield 22, 3) := by decide +kernel
theorem dX2_readCouple_28 : decode cX2_readCouple 28 = .ok (.iconst 0, 1) := by decide +kernel
theorem dX2_readCouple_29 : decode cX2_readCouple 29 = .ok (.ireturn, 1) := by decide +kernel
theorem dX2_readCouple_30 : decode cX2_readCouple 30 = .ok (.aload_n 0, 1) := by decide +kernel
theorem dX2_readCouple_31 : decode cX2_readCouple 31 = .ok (.dup, 1) := by decide +kernel
theorem dX2_readCouple_32 : decode cX2_readCouple 32 = .ok (.getfield 19, 3) := by decide +kernel
theorem dX2_readCouple_35 : decode cX2_readCouple 35 = .ok (.iconst 1, 1) := by decide +kernel
theorem dX2_readCouple_36 : decode cX2_readCouple 36 = .ok (.iadd, 1) := by decide +kernel
theorem dX2_readCouple_37 : decode cX2_readCouple 37 = .ok (.putfield 19, 3) := by decide +kernel
theorem dX2_readCouple_40 : decode cX2_readCouple 40 = .ok (.aload_n 0, 1) := by decide +kernel
theorem dX2_readCouple_41 : decode cX2_readCouple 41 = .ok (.iconst 0, 1) := by decide +kernel
theorem dX2_readCouple_42 : decode cX2_readCouple 42 = .ok (.bipush 80, 2) := by decide +kernel
theorem dX2_readCouple_44 : decode cX2_readCouple 44 = .ok (.invokevirtual 47, 3) := by decide +kernel
theorem dX2_readCouple_47 : decode cX2_readCouple 47 = .ok (.istore_n 3, 1) := by decide +kernel
theorem dX2_readCouple_48 : decode cX2_readCouple 48 = .ok (.iload_n 3, 1) := by decide +kernel
theorem dX2_readCouple_49 : decode cX2_readCouple 49 = .ok (.ifCond .ge 5, 3) := by decide +kernel
theorem dX2_readCouple_52 : decode cX2_readCouple 52 = .ok (.iconst 0, 1) := by decide +kernel
theorem dX2_readCouple_53 : decode cX2_readCouple 53 = .ok (.ireturn, 1) := by decide +kernel
theorem dX2_readCouple_54 : decode cX2_readCouple 54 = .ok (.aload_n 0, 1) := by decide +kernel
theorem dX2_readCouple_55 : decode cX2_readCouple 55 = .ok (.bipush 64, 2) := by decide +kernel
theorem dX2_readCouple_57 : decode cX2_readCouple 57 = .ok (.invokevirtual 29, 3) := by decide +kernel
theorem dX2_readCouple_60 : decode cX2_readCouple 60 = .ok (.ifCond .eq 14, 3) := by decide +kernel
theorem dX2_readCouple_63 : decode cX2_readCouple 63 = .ok (.aload_n 0, 1) := by decide +kernel
theorem dX2_readCouple_64 : decode cX2_readCouple 64 = .ok (.bipush 20, 2) := by decide +kernel
theorem dX2_readCouple_66 : decode cX2_readCouple 66 = .ok (.bipush 99, 2) := by decide +kernel
theorem dX2_readCouple_68 : decode cX2_readCouple 68 = .ok (.invokevirtual 47, 3) := by decide +kernel
theorem dX2_readCouple_71 : decode cX2_readCouple 71 = .ok (.goto 5, 3) := by decide +kernel
theorem dX2_readCouple_74 : decode cX2_readCouple 74 = .ok (.bipush 40, 2) := by decide +kernel
theorem dX2_readCouple_76 : decode cX2_readCouple 76 = .ok (.istore 4, 2) := by decide +kernel
theorem dX2_readCouple_78 : decode cX2_readCouple 78 = .ok (.iload 4, 2) := by decide +kernel
theorem dX2_readCouple_80 : decode cX2_readCouple 80 = .ok (.ifCond .ge 5, 3) := by decide +kernel
theorem dX2_readCouple_83 : decode cX2_readCouple 83 = .ok (.iconst 0, 1) := by decide +kernel
theorem dX2_readCouple_84 : decode cX2_readCouple 84 = .ok (.ireturn, 1) := by decide +kernel
theorem dX2_readCouple_85 : decode cX2_readCouple 85 = .ok (.aload_n 0, 1) := by decide +kernel
theorem dX2_readCouple_86 : decode cX2_readCouple 86 = .ok (.bipush 126, 2) := by decide +kernel
theorem dX2_readCouple_88 : decode cX2_readCouple 88 = .ok (.invokevirtual 29, 3) := by decide +kernel
theorem dX2_readCouple_91 : decode cX2_readCouple 91 = .ok (.ifCond .eq 13, 3) := by decide +kernel
theorem dX2_readCouple_94 : decode cX2_readCouple 94 = .ok (.aload_n 0, 1) := by decide +kernel
theorem dX2_readCouple_95 : decode cX2_readCouple 95 = .ok (.iconst 0, 1) := by decide +kernel
theorem dX2_readCouple_96 : decode cX2_readCouple 96 = .ok (.bipush 19, 2) := by decide +kernel
theorem dX2_readCouple_98 : decode cX2_readCouple 98 = .ok (.invokevirtual 47, 3) := by decide +kernel
theorem dX2_readCouple_101 : decode cX2_readCouple 101 = .ok (.goto 4, 3) := by decide +kernel
theorem dX2_readCouple_104 : decode cX2_readCouple 104 = .ok (.iconst 0, 1) := by decide +kernel
theorem dX2_readCouple_105 : decode cX2_readCouple 105 = .ok (.istore 5, 2) := by decide +kernel
theorem dX2_readCouple_107 : decode cX2_readCouple 107 = .ok (.iload 5, 2) := by decide +kernel
theorem dX2_readCouple_109 : decode cX2_readCouple 109 = .ok (.ifCond .ge 5, 3) := by decide +kernel
theorem dX2_readCouple_112 : decode cX2_readCouple 112 = .ok (.iconst 0, 1) := by decide +kernel
theorem dX2_readCouple_113 : decode cX2_readCouple 113 = .ok (.ireturn, 1) := by decide +kernel
theorem dX2_readCouple_114 : decode cX2_readCouple 114 = .ok (.aload_n 1, 1) := by decide +kernel
theorem dX2_readCouple_115 : decode cX2_readCouple 115 = .ok (.iload_n 2, 1) := by decide +kernel
theorem dX2_readCouple_116 : decode cX2_readCouple 116 = .ok (.iload_n 3, 1) := by decide +kernel
theorem dX2_readCouple_117 : decode cX2_readCouple 117 = .ok (.iload 4, 2) := by decide +kernel
theorem dX2_readCouple_119 : decode cX2_readCouple 119 = .ok (.iload 5, 2) := by decide +kernel
theorem dX2_readCouple_121 : decode cX2_readCouple 121 = .ok (.aload_n 0, 1) := by decide +kernel
theorem dX2_readCouple_122 : decode cX2_readCouple 122 = .ok (.bipush 120, 2) := by decide +kernel
theorem dX2_readCouple_124 : decode cX2_readCouple 124 = .ok (.invokevirtual 29, 3) := by decide +kernel
theorem dX2_readCouple_127 : decode cX2_readCouple 127 = .ok (.ifCond .ne 7, 3) := by decide +kernel
theorem dX2_readCouple_130 : decode cX2_readCouple 130 = .ok (.iconst 1, 1) := by decide +kernel
theorem dX2_readCouple_131 : decode cX2_readCouple 131 = .ok (.goto 4, 3) := by decide +kernel
theorem dX2_readCouple_134 : decode cX2_readCouple 134 = .ok (.iconst 0, 1) := by decide +kernel
theorem dX2_readCouple_135 : decode cX2_readCouple 135 = .ok (.invokevirtual 51, 3) := by decide +kernel
theorem dX2_readCouple_138 : decode cX2_readCouple 138 = .ok (.pop, 1) := by decide +kernel
theorem dX2_readCouple_139 : decode cX2_readCouple 139 = .ok (.iconst 1, 1) := by decide +kernel
theorem dX2_readCouple_140 : decode cX2_readCouple 140 = .ok (.ireturn, 1) := by decide +kernel
theorem dX2_readNumber_0 : decode cX2_readNumber 0 = .ok (.aload_n 0, 1) := by decide +kernel
theorem dX2_readNumber_1 : decode cX2_readNumber 1 = .ok (.invokevirtual 37, 3) := by decide +kernel
theorem dX2_readNumber_4 : decode cX2_readNumber 4 = .ok (.aload_n 0, 1) := by decide +kernel
theorem dX2_readNumber_5 : decode cX2_readNumber 5 = .ok (.getfield 19, 3) := by decide +kernel
theorem dX2_readNumber_8 : decode cX2_readNumber 8 = .ok (.istore_n 3, 1) := by decide +kernel
theorem dX2_readNumber_9 : decode cX2_readNumber 9 = .ok (.aload_n 0, 1) := by decide +kernel
theorem dX2_readNumber_10 : decode cX2_readNumber 10 = .ok (.aload_n 0, 1) := by decide +kernel
theorem dX2_readNumber_11 : decode cX2_readNumber 11 = .ok (.getfield 19, 3) := by decide +kernel
theorem dX2_readNumber_14 : decode cX2_readNumber 14 = .ok (.invokevirtual 40, 3) := by decide +kernel
theorem dX2_readNumber_17 : decode cX2_readNumber 17 = .ok (.invokestatic 57, 3) := by decide +kernel
theorem dX2_readNumber_20 : decode cX2_readNumber 20 = .ok (.ifCond .ne 10, 3) := by decide +kernel
theorem dX2_readNumber_23 : decode cX2_readNumber 23 = .ok (.aload_n 0, 1) := by decide +kernel
theorem dX2_readNumber_24 : decode cX2_readNumber 24 = .ok (.iload_n 3, 1) := by decide +kernel
theorem dX2_readNumber_25 : decode cX2_readNumber 25 = .ok (.putfield 22, 3) := by decide +kernel
theorem dX2_readNumber_28 : decode cX2_readNumber 28 = .ok (.iconst (-1), 1) := by decide +kernel
theorem dX2_readNumber_29 : decode cX2_readNumber 29 = .ok (.ireturn, 1) := by decide +kernel
theorem dX2_readNumber_30 : decode cX2_readNumber 30 = .ok (.aload_n 0, 1) := by decide +kernel
theorem dX2_readNumber_31 : decode cX2_readNumber 31 = .ok (.aload_n 0, 1) := by decide +kernel
theorem dX2_readNumber_32 : decode cX2_readNumber 32 = .ok (.getfield 19, 3) := by decide +kernel
theorem dX2_readNumber_35 : decode cX2_readNumber 35 = .ok (.invokevirtual 40, 3) := by decide +kernel
theorem dX2_readNumber_38 : decode cX2_readNumber 38 = .ok (.bipush 48, 2) := by decide +kernel
theorem dX2_readNumber_40 : decode cX2_readNumber 40 = .ok (.isub, 1) := by decide +kernel
theorem dX2_readNumber_41 : decode cX2_readNumber 41 = .ok (.istore 4, 2) := by decide +kernel
theorem dX2_readNumber_43 : decode cX2_readNumber 43 = .ok (.aload_n 0, 1) := by decide +kernel
theorem dX2_readNumber_44 : decode cX2_readNumber 44 = .ok (.dup, 1) := by decide +kernel
theorem dX2_readNumber_45 : decode cX2_readNumber 45 = .ok (.getfield 19, 3) := by decide +kernel
theorem dX2_readNumber_48 : decode cX2_readNumber 48 = .ok (.iconst 1, 1) := by decide +kernel
theorem dX2_readNumber_49 : decode cX2_readNumber 49 = .ok (.iadd, 1) := by decide +kernel
theorem dX2_readNumber_50 : decode cX2_readNumber 50 = .ok (.putfield 19, 3) := by decide +kernel
theorem dX2_readNumber_53 : decode cX2_readNumber 53 = .ok (.aload_n 0, 1) := by decide +kernel
theorem dX2_readNumber_54 : decode cX2_readNumber 54 = .ok (.aload_n 0, 1) := by decide +kernel
theorem dX2_readNumber_55 : decode cX2_readNumber 55 = .ok (.getfield 19, 3) := by decide +kernel
theorem dX2_readNumber_58 : decode cX2_readNumber 58 = .ok (.invokevirtual 40, 3) := by decide +kernel
theorem dX2_readNumber_61 : decode cX2_readNumber 61 = .ok (.invokestatic 57, 3) := by decide +kernel
theorem dX2_readNumber_64 : decode cX2_readNumber 64 = .ok (.ifCond .eq 32, 3) := by decide +kernel
theorem dX2_readNumber_67 : decode cX2_readNumber 67 = .ok (.iload 4, 2) := by decide +kernel
theorem dX2_readNumber_69 : decode cX2_readNumber 69 = .ok (.bipush 10, 2) := by decide +kernel
theorem dX2_readNumber_71 : decode cX2_readNumber 71 = .ok (.imul, 1) := by decide +kernel
theorem dX2_readNumber_72 : decode cX2_readNumber 72 = .ok (.aload_n 0, 1) := by decide +kernel
theorem dX2_readNumber_73 : decode cX2_readNumber 73 = .ok (.aload_n 0, 1) := by decide +kernel
theorem dX2_readNumber_74 : decode cX2_readNumber 74 = .ok (.getfield 19, 3) := by decide +kernel
theorem dX2_readNumber_77 : decode cX2_readNumber 77 = .ok (.invokevirtual 40, 3) := by decide +kernel
theorem dX2_readNumber_80 : decode cX2_readNumber 80 = .ok (.iadd, 1) := by decide +kernel
theorem dX2_readNumber_81 : decode cX2_readNumber 81 = .ok (.bipush 48, 2) := by decide +kernel
theorem dX2_readNumber_83 : decode cX2_readNumber 83 = .ok (.isub, 1) := by decide +kernel
theorem dX2_readNumber_84 : decode cX2_readNumber 84 = .ok (.istore 4, 2) := by decide +kernel
theorem dX2_readNumber_86 : decode cX2_readNumber 86 = .ok (.aload_n 0, 1) := by decide +kernel
theorem dX2_readNumber_87 : decode cX2_readNumber 87 = .ok (.dup, 1) := by decide +kernel
theorem dX2_readNumber_88 : decode cX2_readNumber 88 = .ok (.getfield 19, 3) := by decide +kernel
theorem dX2_readNumber_91 : decode cX2_readNumber 91 = .ok (.iconst 1, 1) := by decide +kernel
theorem dX2_readNumber_92 : decode cX2_readNumber 92 = .ok (.iadd, 1) := by decide +kernel
theorem dX2_readNumber_93 : decode cX2_readNumber 93 = .ok (.putfield 19, 3) := by decide +kernel
theorem dX2_readNumber_96 : decode cX2_readNumber 96 = .ok (.iload 4, 2) := by decide +kernel
theorem dX2_readNumber_98 : decode cX2_readNumber 98 = .ok (.iload_n 1, 1) := by decide +kernel
theorem dX2_readNumber_99 : decode cX2_readNumber 99 = .ok (.if_icmp .lt 9, 3) := by decide +kernel
theorem dX2_readNumber_102 : decode cX2_readNumber 102 = .ok (.iload 4, 2) := by decide +kernel
theorem dX2_readNumber_104 : decode cX2_readNumber 104 = .ok (.iload_n 2, 1) := by decide +kernel
theorem dX2_readNumber_105 : decode cX2_readNumber 105 = .ok (.if_icmp .le 10, 3) := by decide +kernel
theorem dX2_readNumber_108 : decode cX2_readNumber 108 = .ok (.aload_n 0, 1) := by decide +kernel
theorem dX2_readNumber_109 : decode cX2_readNumber 109 = .ok (.iload_n 3, 1) := by decide +kernel
theorem dX2_readNumber_110 : decode cX2_readNumber 110 = .ok (.putfield 22, 3) := by decide +kernel
theorem dX2_readNumber_113 : decode cX2_readNumber 113 = .ok (.iconst (-1), 1) := by decide +kernel
theorem dX2_readNumber_114 : decode cX2_readNumber 114 = .ok (.ireturn, 1) := by decide +kernel
theorem dX2_readNumber_115 : decode cX2_readNumber 115 = .ok (.iload 4, 2) := by decide +kernel
theorem dX2_readNumber_117 : decode cX2_readNumber 117 = .ok (.ireturn, 1) := by decide +kernel
theorem dX2_isAtEnd_0 : decode cX2_isAtEnd 0 = .ok (.aload_n 0, 1) := by decide +kernel
theorem dX2_isAtEnd_1 : decode cX2_isAtEnd 1 = .ok (.invokevirtual 37, 3) := by decide +kernel
theorem dX2_isAtEnd_4 : decode cX2_isAtEnd 4 = .ok (.aload_n 0, 1) := by decide +kernel
theorem dX2_isAtEnd_5 : decode cX2_isAtEnd 5 = .ok (.aload_n 0, 1) := by decide +kernel
theorem dX2_isAtEnd_6 : decode cX2_isAtEnd 6 = .ok (.getfield 19, 3) := by decide +kernel
theorem dX2_isAtEnd_9 : decode cX2_isAtEnd 9 = .ok (.putfield 22, 3) := by decide +kernel
theorem dX2_isAtEnd_12 : decode cX2_isAtEnd 12 = .ok (.aload_n 0, 1) := by decide +kernel
theorem dX2_isAtEnd_13 : decode cX2_isAtEnd 13 = .ok (.getfield 19, 3) := by decide +kernel
theorem dX2_isAtEnd_16 : decode cX2_isAtEnd 16 = .ok (.aload_n 0, 1) := by decide +kernel
theorem dX2_isAtEnd_17 : decode cX2_isAtEnd 17 = .ok (.getfield 15, 3) := by decide +kernel
theorem dX2_isAtEnd_20 : decode cX2_isAtEnd 20 = .ok (.if_icmp .lt 7, 3) := by decide +kernel
theorem dX2_isAtEnd_23 : decode cX2_isAtEnd 23 = .ok (.iconst 1, 1) := by decide +kernel
theorem dX2_isAtEnd_24 : decode cX2_isAtEnd 24 = .ok (.goto 4, 3) := by decide +kernel
theorem dX2_isAtEnd_27 : decode cX2_isAtEnd 27 = .ok (.iconst 0, 1) := by decide +kernel
theorem dX2_isAtEnd_28 : decode cX2_isAtEnd 28 = .ok (.ireturn, 1) := by decide +kernel
theorem dX2_takes_0 : decode cX2_takes 0 = .ok (.aload_n 0, 1) := by decide +kernel
theorem dX2_takes_1 : decode cX2_takes 1 = .ok (.invokevirtual 37, 3) := by decide +kernel
theorem dX2_takes_4 : decode cX2_takes 4 = .ok (.aload_n 0, 1) := by decide +kernel
theorem dX2_takes_5 : decode cX2_takes 5 = .ok (.aload_n 0, 1) := by decide +kernel
theorem dX2_takes_6 : decode cX2_takes 6 = .ok (.getfield 19, 3) := by decide +kernel
theorem dX2_takes_9 : decode cX2_takes 9 = .ok (.invokevirtual 40, 3) := by decide +kernel
theorem dX2_takes_12 : decode cX2_takes 12 = .ok (.iload_n 1, 1) := by decide +kernel
theorem dX2_takes_13 : decode cX2_takes 13 = .ok (.if_icmp .eq 5, 3) := by decide +kernel
theorem dX2_takes_16 : decode cX2_takes 16 = .ok (.iconst 0, 1) := by decide +kernel
theorem dX2_takes_17 : decode cX2_takes 17 = .ok (.ireturn, 1) := by decide +kernel
theorem dX2_takes_18 : decode cX2_takes 18 = .ok (.aload_n 0, 1) := by decide +kernel
theorem dX2_takes_19 : decode cX2_takes 19 = .ok (.dup, 1) := by decide +kernel
theorem dX2_takes_20 : decode cX2_takes 20 = .ok (.getfield 19, 3) := by decide +kernel
theorem dX2_takes_23 : decode cX2_takes 23 = .ok (.iconst 1, 1) := by decide +kernel
theorem dX2_takes_24 : decode cX2_takes 24 = .ok (.iadd, 1) := by decide +kernel
theorem dX2_takes_25 : decode cX2_takes 25 = .ok (.putfield 19, 3) := by decide +kernel
theorem dX2_takes_28 : decode cX2_takes 28 = .ok (.iconst 1, 1) := by decide +kernel
theorem dX2_takes_29 : decode cX2_takes 29 = .ok (.ireturn, 1) := by decide +kernel
theorem dX2_skipBlanks_0 : decode cX2_skipBlanks 0 = .ok (.aload_n 0, 1) := by decide +kernel
theorem dX2_skipBlanks_1 : decode cX2_skipBlanks 1 = .ok (.getfield 19, 3) := by decide +kernel
theorem dX2_skipBlanks_4 : decode cX2_skipBlanks 4 = .ok (.aload_n 0, 1) := by decide +kernel
theorem dX2_skipBlanks_5 : decode cX2_skipBlanks 5 = .ok (.getfield 15, 3) := by decide +kernel
theorem dX2_skipBlanks_8 : decode cX2_skipBlanks 8 = .ok (.if_icmp .ge 29, 3) := by decide +kernel
theorem dX2_skipBlanks_11 : decode cX2_skipBlanks 11 = .ok (.aload_n 0, 1) := by decide +kernel
theorem dX2_skipBlanks_12 : decode cX2_skipBlanks 12 = .ok (.aload_n 0, 1) := by decide +kernel
theorem dX2_skipBlanks_13 : decode cX2_skipBlanks 13 = .ok (.getfield 19, 3) := by decide +kernel
theorem dX2_skipBlanks_16 : decode cX2_skipBlanks 16 = .ok (.invokevirtual 40, 3) := by decide +kernel
theorem dX2_skipBlanks_19 : decode cX2_skipBlanks 19 = .ok (.bipush 32, 2) := by decide +kernel
theorem dX2_skipBlanks_21 : decode cX2_skipBlanks 21 = .ok (.if_icmp .ne 16, 3) := by decide +kernel
theorem dX2_skipBlanks_24 : decode cX2_skipBlanks 24 = .ok (.aload_n 0, 1) := by decide +kernel
theorem dX2_skipBlanks_25 : decode cX2_skipBlanks 25 = .ok (.dup, 1) := by decide +kernel
theorem dX2_skipBlanks_26 : decode cX2_skipBlanks 26 = .ok (.getfield 19, 3) := by decide +kernel
theorem dX2_skipBlanks_29 : decode cX2_skipBlanks 29 = .ok (.iconst 1, 1) := by decide +kernel
theorem dX2_skipBlanks_30 : decode cX2_skipBlanks 30 = .ok (.iadd, 1) := by decide +kernel
theorem dX2_skipBlanks_31 : decode cX2_skipBlanks 31 = .ok (.putfield 19, 3) := by decide +kernel
theorem dX2_skipBlanks_34 : decode cX2_skipBlanks 34 = .ok (.goto (-34), 3) := by decide +kernel
theorem dX2_skipBlanks_37 : decode cX2_skipBlanks 37 = .ok (.return_, 1) := by decide +kernel
theorem dX2_letterAt_0 : decode cX2_letterAt 0 = .ok (.iload_n 1, 1) := by decide +kernel
theorem dX2_letterAt_1 : decode cX2_letterAt 1 = .ok (.ifCond .lt 26, 3) := by decide +kernel
theorem dX2_letterAt_4 : decode cX2_letterAt 4 = .ok (.iload_n 1, 1) := by decide +kernel
theorem dX2_letterAt_5 : decode cX2_letterAt 5 = .ok (.aload_n 0, 1) := by decide +kernel
theorem dX2_letterAt_6 : decode cX2_letterAt 6 = .ok (.getfield 15, 3) := by decide +kernel
theorem dX2_letterAt_9 : decode cX2_letterAt 9 = .ok (.if_icmp .ge 18, 3) := by decide +kernel
theorem dX2_letterAt_12 : decode cX2_letterAt 12 = .ok (.iload_n 1, 1) := by decide +kernel
theorem dX2_letterAt_13 : decode cX2_letterAt 13 = .ok (.bipush 80, 2) := by decide +kernel
theorem dX2_letterAt_15 : decode cX2_letterAt 15 = .ok (.if_icmp .ge 12, 3) := by decide +kernel
theorem dX2_letterAt_18 : decode cX2_letterAt 18 = .ok (.aload_n 0, 1) := by decide +kernel
theorem dX2_letterAt_19 : decode cX2_letterAt 19 = .ok (.getfield 9, 3) := by decide +kernel
theorem dX2_letterAt_22 : decode cX2_letterAt 22 = .ok (.iload_n 1, 1) := by decide +kernel
theorem dX2_letterAt_23 : decode cX2_letterAt 23 = .ok (.iaload, 1) := by decide +kernel
theorem dX2_letterAt_24 : decode cX2_letterAt 24 = .ok (.goto 4, 3) := by decide +kernel
theorem dX2_letterAt_27 : decode cX2_letterAt 27 = .ok (.iconst (-1), 1) := by decide +kernel
theorem dX2_letterAt_28 : decode cX2_letterAt 28 = .ok (.ireturn, 1) := by decide +kernel
theorem dX2_isDigit_0 : decode cX2_isDigit 0 = .ok (.iload_n 0, 1) := by decide +kernel
theorem dX2_isDigit_1 : decode cX2_isDigit 1 = .ok (.bipush 48, 2) := by decide +kernel
theorem dX2_isDigit_3 : decode cX2_isDigit 3 = .ok (.if_icmp .lt 13, 3) := by decide +kernel
theorem dX2_isDigit_6 : decode cX2_isDigit 6 = .ok (.iload_n 0, 1) := by decide +kernel
theorem dX2_isDigit_7 : decode cX2_isDigit 7 = .ok (.bipush 57, 2) := by decide +kernel
theorem dX2_isDigit_9 : decode cX2_isDigit 9 = .ok (.if_icmp .gt 7, 3) := by decide +kernel
theorem dX2_isDigit_12 : decode cX2_isDigit 12 = .ok (.iconst 1, 1) := by decide +kernel
theorem dX2_isDigit_13 : decode cX2_isDigit 13 = .ok (.goto 4, 3) := by decide +kernel
theorem dX2_isDigit_16 : decode cX2_isDigit 16 = .ok (.iconst 0, 1) := by decide +kernel
theorem dX2_isDigit_17 : decode cX2_isDigit 17 = .ok (.ireturn, 1) := by decide +kernel
theorem dX2_kindOf_0 : decode cX2_kindOf 0 = .ok (.iload_n 0, 1) := by decide +kernel
theorem dX2_kindOf_1 : decode cX2_kindOf 1 = .ok (.lookupswitch 61 #[(98, 59), (100, 53), (108, 57), (112, 51), (115, 55)], 51) := by decide +kernel
theorem dX2_kindOf_52 : decode cX2_kindOf 52 = .ok (.iconst 0, 1) := by decide +kernel
theorem dX2_kindOf_53 : decode cX2_kindOf 53 = .ok (.ireturn, 1) := by decide +kernel
theorem dX2_kindOf_54 : decode cX2_kindOf 54 = .ok (.iconst 1, 1) := by decide +kernel
theorem dX2_kindOf_55 : decode cX2_kindOf 55 = .ok (.ireturn, 1) := by decide +kernel
theorem dX2_kindOf_56 : decode cX2_kindOf 56 = .ok (.iconst 2, 1) := by decide +kernel
theorem dX2_kindOf_57 : decode cX2_kindOf 57 = .ok (.ireturn, 1) := by decide +kernel
theorem dX2_kindOf_58 : decode cX2_kindOf 58 = .ok (.iconst 3, 1) := by decide +kernel
theorem dX2_kindOf_59 : decode cX2_kindOf 59 = .ok (.ireturn, 1) := by decide +kernel
theorem dX2_kindOf_60 : decode cX2_kindOf 60 = .ok (.iconst 4, 1) := by decide +kernel
theorem dX2_kindOf_61 : decode cX2_kindOf 61 = .ok (.ireturn, 1) := by decide +kernel
theorem dX2_kindOf_62 : decode cX2_kindOf 62 = .ok (.iconst (-1), 1) := by decide +kernel
theorem dX2_kindOf_63 : decode cX2_kindOf 63 = .ok (.ireturn, 1) := by decide +kernel
theorem dX3_init_0 : decode cX3_init 0 = .ok (.aload_n 0, 1) := by decide +kernel
theorem dX3_init_1 : decode cX3_init 1 = .ok (.invokespecial 3, 3) := by decide +kernel
theorem dX3_init_4 : decode cX3_init 4 = .ok (.aload_n 0, 1) := by decide +kernel
theorem dX3_init_5 : decode cX3_init 5 = .ok (.bipush 7, 2) := by decide +kernel
theorem dX3_init_7 : decode cX3_init 7 = .ok (.newarray .int, 2) := by decide +kernel
theorem dX3_init_9 : decode cX3_init 9 = .ok (.putfield 9, 3) := by decide +kernel
theorem dX3_init_12 : decode cX3_init 12 = .ok (.aload_n 0, 1) := by decide +kernel
theorem dX3_init_13 : decode cX3_init 13 = .ok (.bipush 7, 2) := by decide +kernel
theorem dX3_init_15 : decode cX3_init 15 = .ok (.newarray .int, 2) := by decide +kernel
theorem dX3_init_17 : decode cX3_init 17 = .ok (.putfield 15, 3) := by decide +kernel
theorem dX3_init_20 : decode cX3_init 20 = .ok (.aload_n 0, 1) := by decide +kernel
theorem dX3_init_21 : decode cX3_init 21 = .ok (.bipush 7, 2) := by decide +kernel
theorem dX3_init_23 : decode cX3_init 23 = .ok (.newarray .int, 2) := by decide +kernel
theorem dX3_init_25 : decode cX3_init 25 = .ok (.putfield 18, 3) := by decide +kernel
theorem dX3_init_28 : decode cX3_init 28 = .ok (.aload_n 0, 1) := by decide +kernel
theorem dX3_init_29 : decode cX3_init 29 = .ok (.bipush 7, 2) := by decide +kernel
theorem dX3_init_31 : decode cX3_init 31 = .ok (.newarray .int, 2) := by decide +kernel
theorem dX3_init_33 : decode cX3_init 33 = .ok (.putfield 21, 3) := by decide +kernel
theorem dX3_init_36 : decode cX3_init 36 = .ok (.aload_n 0, 1) := by decide +kernel
theorem dX3_init_37 : decode cX3_init 37 = .ok (.iconst 0, 1) := by decide +kernel
theorem dX3_init_38 : decode cX3_init 38 = .ok (.putfield 24, 3) := by decide +kernel
theorem dX3_init_41 : decode cX3_init 41 = .ok (.aload_n 0, 1) := by decide +kernel
theorem dX3_init_42 : decode cX3_init 42 = .ok (.iconst 0, 1) := by decide +kernel
theorem dX3_init_43 : decode cX3_init 43 = .ok (.putfield 28, 3) := by decide +kernel
theorem dX3_init_46 : decode cX3_init 46 = .ok (.aload_n 0, 1) := by decide +kernel
theorem dX3_init_47 : decode cX3_init 47 = .ok (.iconst 0, 1) := by decide +kernel
theorem dX3_init_48 : decode cX3_init 48 = .ok (.putfield 31, 3) := by decide +kernel
theorem dX3_init_51 : decode cX3_init 51 = .ok (.aload_n 0, 1) := by decide +kernel
theorem dX3_init_52 : decode cX3_init 52 = .ok (.iconst 1, 1) := by decide +kernel
theorem dX3_init_53 : decode cX3_init 53 = .ok (.putfield 34, 3) := by decide +kernel
theorem dX3_init_56 : decode cX3_init 56 = .ok (.return_, 1) := by decide +kernel
theorem dX3_become_0 : decode cX3_become 0 = .ok (.aload_n 1, 1) := by decide +kernel
theorem dX3_become_1 : decode cX3_become 1 = .ok (.getfield 9, 3) := by decide +kernel
theorem dX3_become_4 : decode cX3_become 4 = .ok (.iconst 0, 1) := by decide +kernel
theorem dX3_become_5 : decode cX3_become 5 = .ok (.aload_n 0, 1) := by decide +kernel
theorem dX3_become_6 : decode cX3_become 6 = .ok (.getfield 9, 3) := by decide +kernel
theorem dX3_become_9 : decode cX3_become 9 = .ok (.iconst 0, 1) := by decide +kernel
theorem dX3_become_10 : decode cX3_become 10 = .ok (.bipush 7, 2) := by decide +kernel
theorem dX3_become_12 : decode cX3_become 12 = .ok (.invokestatic 37, 3) := by decide +kernel
theorem dX3_become_15 : decode cX3_become 15 = .ok (.aload_n 1, 1) := by decide +kernel
theorem dX3_become_16 : decode cX3_become 16 = .ok (.getfield 15, 3) := by decide +kernel
theorem dX3_become_19 : decode cX3_become 19 = .ok (.iconst 0, 1) := by decide +kernel
theorem dX3_become_20 : decode cX3_become 20 = .ok (.aload_n 0, 1) := by decide +kernel
theorem dX3_become_21 : decode cX3_become 21 = .ok (.getfield 15, 3) := by decide +kernel
theorem dX3_become_24 : decode cX3_become 24 = .ok (.iconst 0, 1) := by decide +kernel
theorem dX3_become_25 : decode cX3_become 25 = .ok (.bipush 7, 2) := by decide +kernel
theorem dX3_become_27 : decode cX3_become 27 = .ok (.invokestatic 37, 3) := by decide +kernel
theorem dX3_become_30 : decode cX3_become 30 = .ok (.aload_n 1, 1) := by decide +kernel
theorem dX3_become_31 : decode cX3_become 31 = .ok (.getfield 18, 3) := by decide +kernel
theorem dX3_become_34 : decode cX3_become 34 = .ok (.iconst 0, 1) := by decide +kernel
theorem dX3_become_35 : decode cX3_become 35 = .ok (.aload_n 0, 1) := by decide +kernel
theorem dX3_become_36 : decode cX3_become 36 = .ok (.getfield 18, 3) := by decide +kernel
theorem dX3_become_39 : decode cX3_become 39 = .ok (.iconst 0, 1) := by decide +kernel
theorem dX3_become_40 : decode cX3_become 40 = .ok (.bipush 7, 2) := by decide +kernel
theorem dX3_become_42 : decode cX3_become 42 = .ok (.invokestatic 37, 3) := by decide +kernel
theorem dX3_become_45 : decode cX3_become 45 = .ok (.aload_n 1, 1) := by decide +kernel
theorem dX3_become_46 : decode cX3_become 46 = .ok (.getfield 21, 3) := by decide +kernel
theorem dX3_become_49 : decode cX3_become 49 = .ok (.iconst 0, 1) := by decide +kernel
theorem dX3_become_50 : decode cX3_become 50 = .ok (.aload_n 0, 1) := by decide +kernel
theorem dX3_become_51 : decode cX3_become 51 = .ok (.getfield 21, 3) := by decide +kernel
theorem dX3_become_54 : decode cX3_become 54 = .ok (.iconst 0, 1) := by decide +kernel
theorem dX3_become_55 : decode cX3_become 55 = .ok (.bipush 7, 2) := by decide +kernel
theorem dX3_become_57 : decode cX3_become 57 = .ok (.invokestatic 37, 3) := by decide +kernel
theorem dX3_become_60 : decode cX3_become 60 = .ok (.aload_n 0, 1) := by decide +kernel
theorem dX3_become_61 : decode cX3_become 61 = .ok (.aload_n 1, 1) := by decide +kernel
theorem dX3_become_62 : decode cX3_become 62 = .ok (.getfield 24, 3) := by decide +kernel
theorem dX3_become_65 : decode cX3_become 65 = .ok (.putfield 24, 3) := by decide +kernel
theorem dX3_become_68 : decode cX3_become 68 = .ok (.aload_n 0, 1) := by decide +kernel
theorem dX3_become_69 : decode cX3_become 69 = .ok (.aload_n 1, 1) := by decide +kernel
theorem dX3_become_70 : decode cX3_become 70 = .ok (.getfield 28, 3) := by decide +kernel
theorem dX3_become_73 : decode cX3_become 73 = .ok (.putfield 28, 3) := by decide +kernel
theorem dX3_become_76 : decode cX3_become 76 = .ok (.aload_n 0, 1) := by decide +kernel
theorem dX3_become_77 : decode cX3_become 77 = .ok (.aload_n 1, 1) := by decide +kernel
theorem dX3_become_78 : decode cX3_become 78 = .ok (.getfield 31, 3) := by decide +kernel
theorem dX3_become_81 : decode cX3_become 81 = .ok (.putfield 31, 3) := by decide +kernel
theorem dX3_become_84 : decode cX3_become 84 = .ok (.aload_n 0, 1) := by decide +kernel
theorem dX3_become_85 : decode cX3_become 85 = .ok (.aload_n 1, 1) := by decide +kernel
theorem dX3_become_86 : decode cX3_become 86 = .ok (.getfield 34, 3) := by decide +kernel
theorem dX3_become_89 : decode cX3_become 89 = .ok (.putfield 34, 3) := by decide +kernel
theorem dX3_become_92 : decode cX3_become 92 = .ok (.return_, 1) := by decide +kernel
theorem dX3_empty_0 : decode cX3_empty 0 = .ok (.aload_n 0, 1) := by decide +kernel
theorem dX3_empty_1 : decode cX3_empty 1 = .ok (.iconst 0, 1) := by decide +kernel
theorem dX3_empty_2 : decode cX3_empty 2 = .ok (.putfield 24, 3) := by decide +kernel
theorem dX3_empty_5 : decode cX3_empty 5 = .ok (.aload_n 0, 1) := by decide +kernel
theorem dX3_empty_6 : decode cX3_empty 6 = .ok (.iconst 0, 1) := by decide +kernel
theorem dX3_empty_7 : decode cX3_empty 7 = .ok (.putfield 28, 3) := by decide +kernel
theorem dX3_empty_10 : decode cX3_empty 10 = .ok (.aload_n 0, 1) := by decide +kernel
theorem dX3_empty_11 : decode cX3_empty 11 = .ok (.iconst 0, 1) := by decide +kernel
theorem dX3_empty_12 : decode cX3_empty 12 = .ok (.putfield 31, 3) := by decide +kernel
theorem dX3_empty_15 : decode cX3_empty 15 = .ok (.return_, 1) := by decide +kernel
theorem dX3_settle_0 : decode cX3_settle 0 = .ok (.aload_n 0, 1) := by decide +kernel
theorem dX3_settle_1 : decode cX3_settle 1 = .ok (.getfield 24, 3) := by decide +kernel
theorem dX3_settle_4 : decode cX3_settle 4 = .ok (.istore 6, 2) := by decide +kernel
theorem dX3_settle_6 : decode cX3_settle 6 = .ok (.iload 6, 2) := by decide +kernel
theorem dX3_settle_8 : decode cX3_settle 8 = .ok (.bipush 7, 2) := by decide +kernel
theorem dX3_settle_10 : decode cX3_settle 10 = .ok (.if_icmp .lt 6, 3) := by decide +kernel
theorem dX3_settle_13 : decode cX3_settle 13 = .ok (.bipush (-3), 2) := by decide +kernel
theorem dX3_settle_15 : decode cX3_settle 15 = .ok (.ireturn, 1) := by decide +kernel
theorem dX3_settle_16 : decode cX3_settle 16 = .ok (.aload_n 0, 1) := by decide +kernel
theorem dX3_settle_17 : decode cX3_settle 17 = .ok (.getfield 9, 3) := by decide +kernel
theorem dX3_settle_20 : decode cX3_settle 20 = .ok (.iload 6, 2) := by decide +kernel
theorem dX3_settle_22 : decode cX3_settle 22 = .ok (.iload_n 1, 1) := by decide +kernel
theorem dX3_settle_23 : decode cX3_settle 23 = .ok (.iastore, 1) := by decide +kernel
theorem dX3_settle_24 : decode cX3_settle 24 = .ok (.aload_n 0, 1) := by decide +kernel
theorem dX3_settle_25 : decode cX3_settle 25 = .ok (.getfield 15, 3) := by decide +kernel
theorem dX3_settle_28 : decode cX3_settle 28 = .ok (.iload 6, 2) := by decide +kernel
theorem dX3_settle_30 : decode cX3_settle 30 = .ok (.iload_n 2, 1) := by decide +kernel
theorem dX3_settle_31 : decode cX3_settle 31 = .ok (.iastore, 1) := by decide +kernel
theorem dX3_settle_32 : decode cX3_settle 32 = .ok (.aload_n 0, 1) := by decide +kernel
theorem dX3_settle_33 : decode cX3_settle 33 = .ok (.getfield 18, 3) := by decide +kernel
theorem dX3_settle_36 : decode cX3_settle 36 = .ok (.iload 6, 2) := by decide +kernel
theorem dX3_settle_38 : decode cX3_settle 38 = .ok (.iload_n 3, 1) := by decide +kernel
theorem dX3_settle_39 : decode cX3_settle 39 = .ok (.iastore, 1) := by decide +kernel
theorem dX3_settle_40 : decode cX3_settle 40 = .ok (.aload_n 0, 1) := by decide +kernel
theorem dX3_settle_41 : decode cX3_settle 41 = .ok (.getfield 21, 3) := by decide +kernel
theorem dX3_settle_44 : decode cX3_settle 44 = .ok (.iload 6, 2) := by decide +kernel
theorem dX3_settle_46 : decode cX3_settle 46 = .ok (.iload 4, 2) := by decide +kernel
theorem dX3_settle_48 : decode cX3_settle 48 = .ok (.iastore, 1) := by decide +kernel
theorem dX3_settle_49 : decode cX3_settle 49 = .ok (.iload 5, 2) := by decide +kernel
theorem dX3_settle_51 : decode cX3_settle 51 = .ok (.ifCond .eq 16, 3) := by decide +kernel
theorem dX3_settle_54 : decode cX3_settle 54 = .ok (.aload_n 0, 1) := by decide +kernel
theorem dX3_settle_55 : decode cX3_settle 55 = .ok (.dup, 1) := by decide +kernel
theorem dX3_settle_56 : decode cX3_settle 56 = .ok (.getfield 28, 3) := by decide +kernel
theorem dX3_settle_59 : decode cX3_settle 59 = .ok (.iconst 1, 1) := by decide +kernel
theorem dX3_settle_60 : decode cX3_settle 60 = .ok (.iload 6, 2) := by decide +kernel
theorem dX3_settle_62 : decode cX3_settle 62 = .ok (.ishl, 1) := by decide +kernel
theorem dX3_settle_63 : decode cX3_settle 63 = .ok (.ior, 1) := by decide +kernel
theorem dX3_settle_64 : decode cX3_settle 64 = .ok (.putfield 28, 3) := by decide +kernel
theorem dX3_settle_67 : decode cX3_settle 67 = .ok (.aload_n 0, 1) := by decide +kernel
theorem dX3_settle_68 : decode cX3_settle 68 = .ok (.iload 6, 2) := by decide +kernel
theorem dX3_settle_70 : decode cX3_settle 70 = .ok (.iconst 1, 1) := by decide +kernel
theorem dX3_settle_71 : decode cX3_settle 71 = .ok (.iadd, 1) := by decide +kernel
theorem dX3_settle_72 : decode cX3_settle 72 = .ok (.putfield 24, 3) := by decide +kernel
theorem dX3_settle_75 : decode cX3_settle 75 = .ok (.iload 6, 2) := by decide +kernel
theorem dX3_settle_77 : decode cX3_settle 77 = .ok (.ireturn, 1) := by decide +kernel
theorem dX3_isTogether_0 : decode cX3_isTogether 0 = .ok (.aload_n 0, 1) := by decide +kernel
theorem dX3_isTogether_1 : decode cX3_isTogether 1 = .ok (.getfield 28, 3) := by decide +kernel
theorem dX3_isTogether_4 : decode cX3_isTogether 4 = .ok (.iconst 1, 1) := by decide +kernel
theorem dX3_isTogether_5 : decode cX3_isTogether 5 = .ok (.iload_n 1, 1) := by decide +kernel
theorem dX3_isTogether_6 : decode cX3_isTogether 6 = .ok (.ishl, 1) := by decide +kernel
theorem dX3_isTogether_7 : decode cX3_isTogether 7 = .ok (.iand, 1) := by decide +kernel
theorem dX3_isTogether_8 : decode cX3_isTogether 8 = .ok (.ifCond .eq 7, 3) := by decide +kernel
theorem dX3_isTogether_11 : decode cX3_isTogether 11 = .ok (.iconst 1, 1) := by decide +kernel
theorem dX3_isTogether_12 : decode cX3_isTogether 12 = .ok (.goto 4, 3) := by decide +kernel
theorem dX3_isTogether_15 : decode cX3_isTogether 15 = .ok (.iconst 0, 1) := by decide +kernel
theorem dX3_isTogether_16 : decode cX3_isTogether 16 = .ok (.ireturn, 1) := by decide +kernel
theorem dX3_keeper_0 : decode cX3_keeper 0 = .ok (.aload_n 0, 1) := by decide +kernel
theorem dX3_keeper_1 : decode cX3_keeper 1 = .ok (.aload_n 0, 1) := by decide +kernel
theorem dX3_keeper_2 : decode cX3_keeper 2 = .ok (.getfield 28, 3) := by decide +kernel
theorem dX3_keeper_5 : decode cX3_keeper 5 = .ok (.invokevirtual 43, 3) := by decide +kernel
theorem dX3_keeper_8 : decode cX3_keeper 8 = .ok (.ireturn, 1) := by decide +kernel
theorem dX3_secondTo_0 : decode cX3_secondTo 0 = .ok (.iload_n 1, 1) := by decide +kernel
theorem dX3_secondTo_1 : decode cX3_secondTo 1 = .ok (.ifCond .ge 8, 3) := by decide +kernel
theorem dX3_secondTo_4 : decode cX3_secondTo 4 = .ok (.bipush (-4), 2) := by decide +kernel
theorem dX3_secondTo_6 : decode cX3_secondTo 6 = .ok (.goto 17, 3) := by decide +kernel
theorem dX3_secondTo_9 : decode cX3_secondTo 9 = .ok (.aload_n 0, 1) := by decide +kernel
theorem dX3_secondTo_10 : decode cX3_secondTo 10 = .ok (.aload_n 0, 1) := by decide +kernel
theorem dX3_secondTo_11 : decode cX3_secondTo 11 = .ok (.getfield 28, 3) := by decide +kernel
theorem dX3_secondTo_14 : decode cX3_secondTo 14 = .ok (.iconst 1, 1) := by decide +kernel
theorem dX3_secondTo_15 : decode cX3_secondTo 15 = .ok (.iload_n 1, 1) := by decide +kernel
theorem dX3_secondTo_16 : decode cX3_secondTo 16 = .ok (.ishl, 1) := by decide +kernel
theorem dX3_secondTo_17 : decode cX3_secondTo 17 = .ok (.iconst (-1), 1) := by decide +kernel
theorem dX3_secondTo_18 : decode cX3_secondTo 18 = .ok (.ixor, 1) := by decide +kernel
theorem dX3_secondTo_19 : decode cX3_secondTo 19 = .ok (.iand, 1) := by decide +kernel
theorem dX3_secondTo_20 : decode cX3_secondTo 20 = .ok (.invokevirtual 43, 3) := by decide +kernel
theorem dX3_secondTo_23 : decode cX3_secondTo 23 = .ok (.ireturn, 1) := by decide +kernel
theorem dX3_longestOf_0 : decode cX3_longestOf 0 = .ok (.bipush (-4), 2) := by decide +kernel
theorem dX3_longestOf_2 : decode cX3_longestOf 2 = .ok (.istore_n 2, 1) := by decide +kernel
theorem dX3_longestOf_3 : decode cX3_longestOf 3 = .ok (.iconst 0, 1) := by decide +kernel
theorem dX3_longestOf_4 : decode cX3_longestOf 4 = .ok (.istore_n 3, 1) := by decide +kernel
theorem dX3_longestOf_5 : decode cX3_longestOf 5 = .ok (.iload_n 3, 1) := by decide +kernel
theorem dX3_longestOf_6 : decode cX3_longestOf 6 = .ok (.aload_n 0, 1) := by decide +kernel
theorem dX3_longestOf_7 : decode cX3_longestOf 7 = .ok (.getfield 24, 3) := by decide +kernel
theorem dX3_longestOf_10 : decode cX3_longestOf 10 = .ok (.if_icmp .ge 38, 3) := by decide +kernel
theorem dX3_longestOf_13 : decode cX3_longestOf 13 = .ok (.iload_n 1, 1) := by decide +kernel
theorem dX3_longestOf_14 : decode cX3_longestOf 14 = .ok (.iconst 1, 1) := by decide +kernel
theorem dX3_longestOf_15 : decode cX3_longestOf 15 = .ok (.iload_n 3, 1) := by decide +kernel
theorem dX3_longestOf_16 : decode cX3_longestOf 16 = .ok (.ishl, 1) := by decide +kernel
theorem dX3_longestOf_17 : decode cX3_longestOf 17 = .ok (.iand, 1) := by decide +kernel
theorem dX3_longestOf_18 : decode cX3_longestOf 18 = .ok (.ifCond .eq 24, 3) := by decide +kernel
theorem dX3_longestOf_21 : decode cX3_longestOf 21 = .ok (.iload_n 2, 1) := by decide +kernel
theorem dX3_longestOf_22 : decode cX3_longestOf 22 = .ok (.ifCond .lt 18, 3) := by decide +kernel
theorem dX3_longestOf_25 : decode cX3_longestOf 25 = .ok (.aload_n 0, 1) := by decide +kernel
theorem dX3_longestOf_26 : decode cX3_longestOf 26 = .ok (.getfield 15, 3) := by decide +kernel
theorem dX3_longestOf_29 : decode cX3_longestOf 29 = .ok (.iload_n 3, 1) := by decide +kernel
theorem dX3_longestOf_30 : decode cX3_longestOf 30 = .ok (.iaload, 1) := by decide +kernel
theorem dX3_longestOf_31 : decode cX3_longestOf 31 = .ok (.aload_n 0, 1) := by decide +kernel
theorem dX3_longestOf_32 : decode cX3_longestOf 32 = .ok (.getfield 15, 3) := by decide +kernel
theorem dX3_longestOf_35 : decode cX3_longestOf 35 = .ok (.iload_n 2, 1) := by decide +kernel
theorem dX3_longestOf_36 : decode cX3_longestOf 36 = .ok (.iaload, 1) := by decide +kernel
theorem dX3_longestOf_37 : decode cX3_longestOf 37 = .ok (.if_icmp .le 5, 3) := by decide +kernel
theorem dX3_longestOf_40 : decode cX3_longestOf 40 = .ok (.iload_n 3, 1) := by decide +kernel
theorem dX3_longestOf_41 : decode cX3_longestOf 41 = .ok (.istore_n 2, 1) := by decide +kernel
theorem dX3_longestOf_42 : decode cX3_longestOf 42 = .ok (.iinc 3 1, 3) := by decide +kernel
theorem dX3_longestOf_45 : decode cX3_longestOf 45 = .ok (.goto (-40), 3) := by decide +kernel
theorem dX3_longestOf_48 : decode cX3_longestOf 48 = .ok (.iload_n 2, 1) := by decide +kernel
theorem dX3_longestOf_49 : decode cX3_longestOf 49 = .ok (.ireturn, 1) := by decide +kernel
theorem dX3_isBefore_0 : decode cX3_isBefore 0 = .ok (.aload_n 0, 1) := by decide +kernel
theorem dX3_isBefore_1 : decode cX3_isBefore 1 = .ok (.getfield 15, 3) := by decide +kernel
theorem dX3_isBefore_4 : decode cX3_isBefore 4 = .ok (.iload_n 1, 1) := by decide +kernel
theorem dX3_isBefore_5 : decode cX3_isBefore 5 = .ok (.iaload, 1) := by decide +kernel
theorem dX3_isBefore_6 : decode cX3_isBefore 6 = .ok (.aload_n 0, 1) := by decide +kernel
theorem dX3_isBefore_7 : decode cX3_isBefore 7 = .ok (.getfield 15, 3) := by decide +kernel
theorem dX3_isBefore_10 : decode cX3_isBefore 10 = .ok (.iload_n 2, 1) := by decide +kernel
theorem dX3_isBefore_11 : decode cX3_isBefore 11 = .ok (.iaload, 1) := by decide +kernel
theorem dX3_isBefore_12 : decode cX3_isBefore 12 = .ok (.if_icmp .gt 23, 3) := by decide +kernel
theorem dX3_isBefore_15 : decode cX3_isBefore 15 = .ok (.aload_n 0, 1) := by decide +kernel
theorem dX3_isBefore_16 : decode cX3_isBefore 16 = .ok (.getfield 15, 3) := by decide +kernel
theorem dX3_isBefore_19 : decode cX3_isBefore 19 = .ok (.iload_n 1, 1) := by decide +kernel
theorem dX3_isBefore_20 : decode cX3_isBefore 20 = .ok (.iaload, 1) := by decide +kernel
theorem dX3_isBefore_21 : decode cX3_isBefore 21 = .ok (.aload_n 0, 1) := by decide +kernel
theorem dX3_isBefore_22 : decode cX3_isBefore 22 = .ok (.getfield 15, 3) := by decide +kernel
theorem dX3_isBefore_25 : decode cX3_isBefore 25 = .ok (.iload_n 2, 1) := by decide +kernel
theorem dX3_isBefore_26 : decode cX3_isBefore 26 = .ok (.iaload, 1) := by decide +kernel
theorem dX3_isBefore_27 : decode cX3_isBefore 27 = .ok (.if_icmp .ne 12, 3) := by decide +kernel
theorem dX3_isBefore_30 : decode cX3_isBefore 30 = .ok (.iload_n 1, 1) := by decide +kernel
theorem dX3_isBefore_31 : decode cX3_isBefore 31 = .ok (.iload_n 2, 1) := by decide +kernel
theorem dX3_isBefore_32 : decode cX3_isBefore 32 = .ok (.if_icmp .ge 7, 3) := by decide +kernel
theorem dX3_isBefore_35 : decode cX3_isBefore 35 = .ok (.iconst 1, 1) := by decide +kernel
theorem dX3_isBefore_36 : decode cX3_isBefore 36 = .ok (.goto 4, 3) := by decide +kernel
theorem dX3_isBefore_39 : decode cX3_isBefore 39 = .ok (.iconst 0, 1) := by decide +kernel
theorem dX3_isBefore_40 : decode cX3_isBefore 40 = .ok (.ireturn, 1) := by decide +kernel
theorem dX3_allTempers_0 : decode cX3_allTempers 0 = .ok (.iconst 0, 1) := by decide +kernel
theorem dX3_allTempers_1 : decode cX3_allTempers 1 = .ok (.istore_n 1, 1) := by decide +kernel
theorem dX3_allTempers_2 : decode cX3_allTempers 2 = .ok (.iconst 0, 1) := by decide +kernel
theorem dX3_allTempers_3 : decode cX3_allTempers 3 = .ok (.istore_n 2, 1) := by decide +kernel
theorem dX3_allTempers_4 : decode cX3_allTempers 4 = .ok (.iload_n 2, 1) := by decide +kernel
theorem dX3_allTempers_5 : decode cX3_allTempers 5 = .ok (.aload_n 0, 1) := by decide +kernel
theorem dX3_allTempers_6 : decode cX3_allTempers 6 = .ok (.getfield 24, 3) := by decide +kernel
theorem dX3_allTempers_9 : decode cX3_allTempers 9 = .ok (.if_icmp .ge 26, 3) := by decide +kernel
theorem dX3_allTempers_12 : decode cX3_allTempers 12 = .ok (.aload_n 0, 1) := by decide +kernel
theorem dX3_allTempers_13 : decode cX3_allTempers 13 = .ok (.iload_n 2, 1) := by decide +kernel
theorem dX3_allTempers_14 : decode cX3_allTempers 14 = .ok (.invokevirtual 47, 3) := by decide +kernel
theorem dX3_allTempers_17 : decode cX3_allTempers 17 = .ok (.ifCond .eq 12, 3) := by decide +kernel
theorem dX3_allTempers_20 : decode cX3_allTempers 20 = .ok (.iload_n 1, 1) := by decide +kernel
theorem dX3_allTempers_21 : decode cX3_allTempers 21 = .ok (.aload_n 0, 1) := by decide +kernel
theorem dX3_allTempers_22 : decode cX3_allTempers 22 = .ok (.getfield 21, 3) := by decide +kernel
theorem dX3_allTempers_25 : decode cX3_allTempers 25 = .ok (.iload_n 2, 1) := by decide +kernel
theorem dX3_allTempers_26 : decode cX3_allTempers 26 = .ok (.iaload, 1) := by decide +kernel
theorem dX3_allTempers_27 : decode cX3_allTempers 27 = .ok (.iadd, 1) := by decide +kernel
theorem dX3_allTempers_28 : decode cX3_allTempers 28 = .ok (.istore_n 1, 1) := by decide +kernel
theorem dX3_allTempers_29 : decode cX3_allTempers 29 = .ok (.iinc 2 1, 3) := by decide +kernel
theorem dX3_allTempers_32 : decode cX3_allTempers 32 = .ok (.goto (-28), 3) := by decide +kernel
theorem dX3_allTempers_35 : decode cX3_allTempers 35 = .ok (.iload_n 1, 1) := by decide +kernel
theorem dX3_allTempers_36 : decode cX3_allTempers 36 = .ok (.ireturn, 1) := by decide +kernel
theorem dX3_worseThisYear_0 : decode cX3_worseThisYear 0 = .ok (.aload_n 0, 1) := by decide +kernel
theorem dX3_worseThisYear_1 : decode cX3_worseThisYear 1 = .ok (.invokevirtual 51, 3) := by decide +kernel
theorem dX3_worseThisYear_4 : decode cX3_worseThisYear 4 = .ok (.istore_n 2, 1) := by decide +kernel
theorem dX3_worseThisYear_5 : decode cX3_worseThisYear 5 = .ok (.aload_n 0, 1) := by decide +kernel
theorem dX3_worseThisYear_6 : decode cX3_worseThisYear 6 = .ok (.iload_n 1, 1) := by decide +kernel
theorem dX3_worseThisYear_7 : decode cX3_worseThisYear 7 = .ok (.invokevirtual 47, 3) := by decide +kernel
theorem dX3_worseThisYear_10 : decode cX3_worseThisYear 10 = .ok (.ifCond .eq 17, 3) := by decide +kernel
theorem dX3_worseThisYear_13 : decode cX3_worseThisYear 13 = .ok (.aload_n 0, 1) := by decide +kernel
theorem dX3_worseThisYear_14 : decode cX3_worseThisYear 14 = .ok (.iload_n 1, 1) := by decide +kernel
theorem dX3_worseThisYear_15 : decode cX3_worseThisYear 15 = .ok (.iload_n 2, 1) := by decide +kernel
theorem dX3_worseThisYear_16 : decode cX3_worseThisYear 16 = .ok (.aload_n 0, 1) := by decide +kernel
theorem dX3_worseThisYear_17 : decode cX3_worseThisYear 17 = .ok (.iload_n 2, 1) := by decide +kernel
theorem dX3_worseThisYear_18 : decode cX3_worseThisYear 18 = .ok (.invokevirtual 55, 3) := by decide +kernel
theorem dX3_worseThisYear_21 : decode cX3_worseThisYear 21 = .ok (.invokevirtual 58, 3) := by decide +kernel
theorem dX3_worseThisYear_24 : decode cX3_worseThisYear 24 = .ok (.goto 4, 3) := by decide +kernel
theorem dX3_worseThisYear_27 : decode cX3_worseThisYear 27 = .ok (.iconst 0, 1) := by decide +kernel
theorem dX3_worseThisYear_28 : decode cX3_worseThisYear 28 = .ok (.ireturn, 1) := by decide +kernel
theorem dX3_worse_0 : decode cX3_worse 0 = .ok (.iload_n 1, 1) := by decide +kernel
theorem dX3_worse_1 : decode cX3_worse 1 = .ok (.iload_n 2, 1) := by decide +kernel
theorem dX3_worse_2 : decode cX3_worse 2 = .ok (.if_icmp .ne 7, 3) := by decide +kernel
theorem dX3_worse_5 : decode cX3_worse 5 = .ok (.iconst 1, 1) := by decide +kernel
theorem dX3_worse_6 : decode cX3_worse 6 = .ok (.goto 4, 3) := by decide +kernel
theorem dX3_worse_9 : decode cX3_worse 9 = .ok (.iconst 0, 1) := by decide +kernel
theorem dX3_worse_10 : decode cX3_worse 10 = .ok (.istore 4, 2) := by decide +kernel
theorem dX3_worse_12 : decode cX3_worse 12 = .ok (.iload 4, 2) := by decide +kernel
theorem dX3_worse_14 : decode cX3_worse 14 = .ok (.ifCond .eq 7, 3) := by decide +kernel
theorem dX3_worse_17 : decode cX3_worse 17 = .ok (.iconst 1, 1) := by decide +kernel
theorem dX3_worse_18 : decode cX3_worse 18 = .ok (.goto 4, 3) := by decide +kernel
theorem dX3_worse_21 : decode cX3_worse 21 = .ok (.iconst (-1), 1) := by decide +kernel
theorem dX3_worse_22 : decode cX3_worse 22 = .ok (.istore 5, 2) := by decide +kernel
theorem dX3_worse_24 : decode cX3_worse 24 = .ok (.iload 4, 2) := by decide +kernel
theorem dX3_worse_26 : decode cX3_worse 26 = .ok (.ifCond .eq 10, 3) := by decide +kernel
theorem dX3_worse_29 : decode cX3_worse 29 = .ok (.iload 5, 2) := by decide +kernel
theorem dX3_worse_31 : decode cX3_worse 31 = .ok (.iconst 2, 1) := by decide +kernel
theorem dX3_worse_32 : decode cX3_worse 32 = .ok (.iadd, 1) := by decide +kernel
theorem dX3_worse_33 : decode cX3_worse 33 = .ok (.goto 5, 3) := by decide +kernel
theorem dX3_worse_36 : decode cX3_worse 36 = .ok (.iload 5, 2) := by decide +kernel
theorem dX3_worse_38 : decode cX3_worse 38 = .ok (.istore 6, 2) := by decide +kernel
theorem dX3_worse_40 : decode cX3_worse 40 = .ok (.iload_n 1, 1) := by decide +kernel
theorem dX3_worse_41 : decode cX3_worse 41 = .ok (.iload_n 3, 1) := by decide +kernel
theorem dX3_worse_42 : decode cX3_worse 42 = .ok (.if_icmp .ne 10, 3) := by decide +kernel
theorem dX3_worse_45 : decode cX3_worse 45 = .ok (.iload 5, 2) := by decide +kernel
theorem dX3_worse_47 : decode cX3_worse 47 = .ok (.iconst 2, 1) := by decide +kernel
theorem dX3_worse_48 : decode cX3_worse 48 = .ok (.isub, 1) := by decide +kernel
theorem dX3_worse_49 : decode cX3_worse 49 = .ok (.goto 5, 3) := by decide +kernel
theorem dX3_worse_52 : decode cX3_worse 52 = .ok (.iload 5, 2) := by decide +kernel
theorem dX3_worse_54 : decode cX3_worse 54 = .ok (.istore 7, 2) := by decide +kernel
theorem dX3_worse_56 : decode cX3_worse 56 = .ok (.aload_n 0, 1) := by decide +kernel
theorem dX3_worse_57 : decode cX3_worse 57 = .ok (.getfield 9, 3) := by decide +kernel
theorem dX3_worse_60 : decode cX3_worse 60 = .ok (.iload_n 1, 1) := by decide +kernel
theorem dX3_worse_61 : decode cX3_worse 61 = .ok (.iaload, 1) := by decide +kernel
theorem dX3_worse_62 : decode cX3_worse 62 = .ok (.tableswitch 73 1 4 #[30, 33, 36, 52], 30) := by decide +kernel
theorem dX3_worse_92 : decode cX3_worse 92 = .ok (.iload 6, 2) := by decide +kernel
theorem dX3_worse_94 : decode cX3_worse 94 = .ok (.ireturn, 1) := by decide +kernel
theorem dX3_worse_95 : decode cX3_worse 95 = .ok (.iload 7, 2) := by decide +kernel
theorem dX3_worse_97 : decode cX3_worse 97 = .ok (.ireturn, 1) := by decide +kernel
theorem dX3_worse_98 : decode cX3_worse 98 = .ok (.aload_n 0, 1) := by decide +kernel
theorem dX3_worse_99 : decode cX3_worse 99 = .ok (.getfield 31, 3) := by decide +kernel
theorem dX3_worse_102 : decode cX3_worse 102 = .ok (.iconst 2, 1) := by decide +kernel
theorem dX3_worse_103 : decode cX3_worse 103 = .ok (.irem, 1) := by decide +kernel
theorem dX3_worse_104 : decode cX3_worse 104 = .ok (.ifCond .ne 8, 3) := by decide +kernel
theorem dX3_worse_107 : decode cX3_worse 107 = .ok (.iload 6, 2) := by decide +kernel
theorem dX3_worse_109 : decode cX3_worse 109 = .ok (.goto 4, 3) := by decide +kernel
theorem dX3_worse_112 : decode cX3_worse 112 = .ok (.iconst 0, 1) := by decide +kernel
theorem dX3_worse_113 : decode cX3_worse 113 = .ok (.ireturn, 1) := by decide +kernel
theorem dX3_worse_114 : decode cX3_worse 114 = .ok (.aload_n 0, 1) := by decide +kernel
theorem dX3_worse_115 : decode cX3_worse 115 = .ok (.getfield 21, 3) := by decide +kernel
theorem dX3_worse_118 : decode cX3_worse 118 = .ok (.iload_n 1, 1) := by decide +kernel
theorem dX3_worse_119 : decode cX3_worse 119 = .ok (.iaload, 1) := by decide +kernel
theorem dX3_worse_120 : decode cX3_worse 120 = .ok (.bipush 10, 2) := by decide +kernel
theorem dX3_worse_122 : decode cX3_worse 122 = .ok (.if_icmp .lt 10, 3) := by decide +kernel
theorem dX3_worse_125 : decode cX3_worse 125 = .ok (.iload 7, 2) := by decide +kernel
theorem dX3_worse_127 : decode cX3_worse 127 = .ok (.iconst 3, 1) := by decide +kernel
theorem dX3_worse_128 : decode cX3_worse 128 = .ok (.iadd, 1) := by decide +kernel
theorem dX3_worse_129 : decode cX3_worse 129 = .ok (.goto 5, 3) := by decide +kernel
theorem dX3_worse_132 : decode cX3_worse 132 = .ok (.iload 7, 2) := by decide +kernel
theorem dX3_worse_134 : decode cX3_worse 134 = .ok (.ireturn, 1) := by decide +kernel
theorem dX3_worse_135 : decode cX3_worse 135 = .ok (.iload 5, 2) := by decide +kernel
theorem dX3_worse_137 : decode cX3_worse 137 = .ok (.ireturn, 1) := by decide +kernel
theorem dX3_passYears_0 : decode cX3_passYears 0 = .ok (.iconst 0, 1) := by decide +kernel
theorem dX3_passYears_1 : decode cX3_passYears 1 = .ok (.istore_n 2, 1) := by decide +kernel
theorem dX3_passYears_2 : decode cX3_passYears 2 = .ok (.iload_n 2, 1) := by decide +kernel
theorem dX3_passYears_3 : decode cX3_passYears 3 = .ok (.iload_n 1, 1) := by decide +kernel
theorem dX3_passYears_4 : decode cX3_passYears 4 = .ok (.if_icmp .ge 13, 3) := by decide +kernel
theorem dX3_passYears_7 : decode cX3_passYears 7 = .ok (.aload_n 0, 1) := by decide +kernel
theorem dX3_passYears_8 : decode cX3_passYears 8 = .ok (.invokevirtual 62, 3) := by decide +kernel
theorem dX3_passYears_11 : decode cX3_passYears 11 = .ok (.iinc 2 1, 3) := by decide +kernel
theorem dX3_passYears_14 : decode cX3_passYears 14 = .ok (.goto (-12), 3) := by decide +kernel
theorem dX3_passYears_17 : decode cX3_passYears 17 = .ok (.return_, 1) := by decide +kernel
theorem dX3_passYear_0 : decode cX3_passYear 0 = .ok (.aload_n 0, 1) := by decide +kernel
theorem dX3_passYear_1 : decode cX3_passYear 1 = .ok (.invokevirtual 51, 3) := by decide +kernel
theorem dX3_passYear_4 : decode cX3_passYear 4 = .ok (.istore_n 1, 1) := by decide +kernel
theorem dX3_passYear_5 : decode cX3_passYear 5 = .ok (.aload_n 0, 1) := by decide +kernel
theorem dX3_passYear_6 : decode cX3_passYear 6 = .ok (.iload_n 1, 1) := by decide +kernel
theorem dX3_passYear_7 : decode cX3_passYear 7 = .ok (.invokevirtual 55, 3) := by decide +kernel
theorem dX3_passYear_10 : decode cX3_passYear 10 = .ok (.istore_n 2, 1) := by decide +kernel
theorem dX3_passYear_11 : decode cX3_passYear 11 = .ok (.iconst 0, 1) := by decide +kernel
theorem dX3_passYear_12 : decode cX3_passYear 12 = .ok (.istore_n 3, 1) := by decide +kernel
theorem dX3_passYear_13 : decode cX3_passYear 13 = .ok (.iload_n 3, 1) := by decide +kernel
theorem dX3_passYear_14 : decode cX3_passYear 14 = .ok (.aload_n 0, 1) := by decide +kernel
theorem dX3_passYear_15 : decode cX3_passYear 15 = .ok (.getfield 24, 3) := by decide +kernel
theorem dX3_passYear_18 : decode cX3_passYear 18 = .ok (.if_icmp .ge 62, 3) := by decide +kernel
theorem dX3_passYear_21 : decode cX3_passYear 21 = .ok (.aload_n 0, 1) := by decide +kernel
theorem dX3_passYear_22 : decode cX3_passYear 22 = .ok (.iload_n 3, 1) := by decide +kernel
theorem dX3_passYear_23 : decode cX3_passYear 23 = .ok (.invokevirtual 47, 3) := by decide +kernel
theorem dX3_passYear_26 : decode cX3_passYear 26 = .ok (.ifCond .eq 48, 3) := by decide +kernel
theorem dX3_passYear_29 : decode cX3_passYear 29 = .ok (.aload_n 0, 1) := by decide +kernel
theorem dX3_passYear_30 : decode cX3_passYear 30 = .ok (.iload_n 3, 1) := by decide +kernel
theorem dX3_passYear_31 : decode cX3_passYear 31 = .ok (.iload_n 1, 1) := by decide +kernel
theorem dX3_passYear_32 : decode cX3_passYear 32 = .ok (.iload_n 2, 1) := by decide +kernel
theorem dX3_passYear_33 : decode cX3_passYear 33 = .ok (.invokevirtual 58, 3) := by decide +kernel
theorem dX3_passYear_36 : decode cX3_passYear 36 = .ok (.istore 4, 2) := by decide +kernel
theorem dX3_passYear_38 : decode cX3_passYear 38 = .ok (.aload_n 0, 1) := by decide +kernel
theorem dX3_passYear_39 : decode cX3_passYear 39 = .ok (.getfield 15, 3) := by decide +kernel
theorem dX3_passYear_42 : decode cX3_passYear 42 = .ok (.iload_n 3, 1) := by decide +kernel
theorem dX3_passYear_43 : decode cX3_passYear 43 = .ok (.bipush 99, 2) := by decide +kernel
theorem dX3_passYear_45 : decode cX3_passYear 45 = .ok (.aload_n 0, 1) := by decide +kernel
theorem dX3_passYear_46 : decode cX3_passYear 46 = .ok (.getfield 15, 3) := by decide +kernel
theorem dX3_passYear_49 : decode cX3_passYear 49 = .ok (.iload_n 3, 1) := by decide +kernel
theorem dX3_passYear_50 : decode cX3_passYear 50 = .ok (.iaload, 1) := by decide +kernel
theorem dX3_passYear_51 : decode cX3_passYear 51 = .ok (.iconst 1, 1) := by decide +kernel
theorem dX3_passYear_52 : decode cX3_passYear 52 = .ok (.iadd, 1) := by decide +kernel
theorem dX3_passYear_53 : decode cX3_passYear 53 = .ok (.invokestatic 65, 3) := by decide +kernel
theorem dX3_passYear_56 : decode cX3_passYear 56 = .ok (.iastore, 1) := by decide +kernel
theorem dX3_passYear_57 : decode cX3_passYear 57 = .ok (.aload_n 0, 1) := by decide +kernel
theorem dX3_passYear_58 : decode cX3_passYear 58 = .ok (.getfield 18, 3) := by decide +kernel
theorem dX3_passYear_61 : decode cX3_passYear 61 = .ok (.iload_n 3, 1) := by decide +kernel
theorem dX3_passYear_62 : decode cX3_passYear 62 = .ok (.dup2, 1) := by decide +kernel
theorem dX3_passYear_63 : decode cX3_passYear 63 = .ok (.iaload, 1) := by decide +kernel
theorem dX3_passYear_64 : decode cX3_passYear 64 = .ok (.iconst 1, 1) := by decide +kernel
theorem dX3_passYear_65 : decode cX3_passYear 65 = .ok (.iadd, 1) := by decide +kernel
theorem dX3_passYear_66 : decode cX3_passYear 66 = .ok (.iastore, 1) := by decide +kernel
theorem dX3_passYear_67 : decode cX3_passYear 67 = .ok (.aload_n 0, 1) := by decide +kernel
theorem dX3_passYear_68 : decode cX3_passYear 68 = .ok (.iload_n 3, 1) := by decide +kernel
theorem dX3_passYear_69 : decode cX3_passYear 69 = .ok (.iload 4, 2) := by decide +kernel
theorem dX3_passYear_71 : decode cX3_passYear 71 = .ok (.invokevirtual 71, 3) := by decide +kernel
theorem dX3_passYear_74 : decode cX3_passYear 74 = .ok (.iinc 3 1, 3) := by decide +kernel
theorem dX3_passYear_77 : decode cX3_passYear 77 = .ok (.goto (-64), 3) := by decide +kernel
theorem dX3_passYear_80 : decode cX3_passYear 80 = .ok (.aload_n 0, 1) := by decide +kernel
theorem dX3_passYear_81 : decode cX3_passYear 81 = .ok (.dup, 1) := by decide +kernel
theorem dX3_passYear_82 : decode cX3_passYear 82 = .ok (.getfield 31, 3) := by decide +kernel
theorem dX3_passYear_85 : decode cX3_passYear 85 = .ok (.iconst 1, 1) := by decide +kernel
theorem dX3_passYear_86 : decode cX3_passYear 86 = .ok (.iadd, 1) := by decide +kernel
theorem dX3_passYear_87 : decode cX3_passYear 87 = .ok (.putfield 31, 3) := by decide +kernel
theorem dX3_passYear_90 : decode cX3_passYear 90 = .ok (.return_, 1) := by decide +kernel
theorem dX3_better_0 : decode cX3_better 0 = .ok (.aload_n 0, 1) := by decide +kernel
theorem dX3_better_1 : decode cX3_better 1 = .ok (.getfield 21, 3) := by decide +kernel
theorem dX3_better_4 : decode cX3_better 4 = .ok (.iload_n 1, 1) := by decide +kernel
theorem dX3_better_5 : decode cX3_better 5 = .ok (.iconst 0, 1) := by decide +kernel
theorem dX3_better_6 : decode cX3_better 6 = .ok (.aload_n 0, 1) := by decide +kernel
theorem dX3_better_7 : decode cX3_better 7 = .ok (.getfield 21, 3) := by decide +kernel
theorem dX3_better_10 : decode cX3_better 10 = .ok (.iload_n 1, 1) := by decide +kernel
theorem dX3_better_11 : decode cX3_better 11 = .ok (.iaload, 1) := by decide +kernel
theorem dX3_better_12 : decode cX3_better 12 = .ok (.iload_n 2, 1) := by decide +kernel
theorem dX3_better_13 : decode cX3_better 13 = .ok (.isub, 1) := by decide +kernel
theorem dX3_better_14 : decode cX3_better 14 = .ok (.invokestatic 75, 3) := by decide +kernel
theorem dX3_better_17 : decode cX3_better 17 = .ok (.iastore, 1) := by decide +kernel
theorem dX3_better_18 : decode cX3_better 18 = .ok (.return_, 1) := by decide +kernel
theorem dX3_worsen_0 : decode cX3_worsen 0 = .ok (.aload_n 0, 1) := by decide +kernel
theorem dX3_worsen_1 : decode cX3_worsen 1 = .ok (.getfield 21, 3) := by decide +kernel
theorem dX3_worsen_4 : decode cX3_worsen 4 = .ok (.iload_n 1, 1) := by decide +kernel
theorem dX3_worsen_5 : decode cX3_worsen 5 = .ok (.iconst 0, 1) := by decide +kernel
theorem dX3_worsen_6 : decode cX3_worsen 6 = .ok (.aload_n 0, 1) := by decide +kernel
theorem dX3_worsen_7 : decode cX3_worsen 7 = .ok (.getfield 21, 3) := by decide +kernel
theorem dX3_worsen_10 : decode cX3_worsen 10 = .ok (.iload_n 1, 1) := by decide +kernel
theorem dX3_worsen_11 : decode cX3_worsen 11 = .ok (.iaload, 1) := by decide +kernel
theorem dX3_worsen_12 : decode cX3_worsen 12 = .ok (.iload_n 2, 1) := by decide +kernel
theorem dX3_worsen_13 : decode cX3_worsen 13 = .ok (.iadd, 1) := by decide +kernel
theorem dX3_worsen_14 : decode cX3_worsen 14 = .ok (.invokestatic 75, 3) := by decide +kernel
theorem dX3_worsen_17 : decode cX3_worsen 17 = .ok (.iastore, 1) := by decide +kernel
theorem dX3_worsen_18 : decode cX3_worsen 18 = .ok (.aload_n 0, 1) := by decide +kernel
theorem dX3_worsen_19 : decode cX3_worsen 19 = .ok (.getfield 21, 3) := by decide +kernel
theorem dX3_worsen_22 : decode cX3_worsen 22 = .ok (.iload_n 1, 1) := by decide +kernel
theorem dX3_worsen_23 : decode cX3_worsen 23 = .ok (.iaload, 1) := by decide +kernel
theorem dX3_worsen_24 : decode cX3_worsen 24 = .ok (.bipush 19, 2) := by decide +kernel
theorem dX3_worsen_26 : decode cX3_worsen 26 = .ok (.if_icmp .gt 14, 3) := by decide +kernel
theorem dX3_worsen_29 : decode cX3_worsen 29 = .ok (.aload_n 0, 1) := by decide +kernel
theorem dX3_worsen_30 : decode cX3_worsen 30 = .ok (.getfield 18, 3) := by decide +kernel
theorem dX3_worsen_33 : decode cX3_worsen 33 = .ok (.iload_n 1, 1) := by decide +kernel
theorem dX3_worsen_34 : decode cX3_worsen 34 = .ok (.iaload, 1) := by decide +kernel
theorem dX3_worsen_35 : decode cX3_worsen 35 = .ok (.bipush 99, 2) := by decide +kernel
theorem dX3_worsen_37 : decode cX3_worsen 37 = .ok (.if_icmp .le 51, 3) := by decide +kernel
theorem dX3_worsen_40 : decode cX3_worsen 40 = .ok (.aload_n 0, 1) := by decide +kernel
theorem dX3_worsen_41 : decode cX3_worsen 41 = .ok (.dup, 1) := by decide +kernel
theorem dX3_worsen_42 : decode cX3_worsen 42 = .ok (.getfield 28, 3) := by decide +kernel
theorem dX3_worsen_45 : decode cX3_worsen 45 = .ok (.iconst 1, 1) := by decide +kernel
theorem dX3_worsen_46 : decode cX3_worsen 46 = .ok (.iload_n 1, 1) := by decide +kernel
theorem dX3_worsen_47 : decode cX3_worsen 47 = .ok (.ishl, 1) := by decide +kernel
theorem dX3_worsen_48 : decode cX3_worsen 48 = .ok (.iconst (-1), 1) := by decide +kernel
theorem dX3_worsen_49 : decode cX3_worsen 49 = .ok (.ixor, 1) := by decide +kernel
theorem dX3_worsen_50 : decode cX3_worsen 50 = .ok (.iand, 1) := by decide +kernel
theorem dX3_worsen_51 : decode cX3_worsen 51 = .ok (.putfield 28, 3) := by decide +kernel
theorem dX3_worsen_54 : decode cX3_worsen 54 = .ok (.aload_n 0, 1) := by decide +kernel
theorem dX3_worsen_55 : decode cX3_worsen 55 = .ok (.getfield 21, 3) := by decide +kernel
theorem dX3_worsen_58 : decode cX3_worsen 58 = .ok (.iload_n 1, 1) := by decide +kernel
theorem dX3_worsen_59 : decode cX3_worsen 59 = .ok (.bipush 19, 2) := by decide +kernel
theorem dX3_worsen_61 : decode cX3_worsen 61 = .ok (.aload_n 0, 1) := by decide +kernel
theorem dX3_worsen_62 : decode cX3_worsen 62 = .ok (.getfield 21, 3) := by decide +kernel
theorem dX3_worsen_65 : decode cX3_worsen 65 = .ok (.iload_n 1, 1) := by decide +kernel
theorem dX3_worsen_66 : decode cX3_worsen 66 = .ok (.iaload, 1) := by decide +kernel
theorem dX3_worsen_67 : decode cX3_worsen 67 = .ok (.invokestatic 65, 3) := by decide +kernel
theorem dX3_worsen_70 : decode cX3_worsen 70 = .ok (.iastore, 1) := by decide +kernel
theorem dX3_worsen_71 : decode cX3_worsen 71 = .ok (.aload_n 0, 1) := by decide +kernel
theorem dX3_worsen_72 : decode cX3_worsen 72 = .ok (.getfield 18, 3) := by decide +kernel
theorem dX3_worsen_75 : decode cX3_worsen 75 = .ok (.iload_n 1, 1) := by decide +kernel
theorem dX3_worsen_76 : decode cX3_worsen 76 = .ok (.bipush 99, 2) := by decide +kernel
theorem dX3_worsen_78 : decode cX3_worsen 78 = .ok (.aload_n 0, 1) := by decide +kernel
theorem dX3_worsen_79 : decode cX3_worsen 79 = .ok (.getfield 18, 3) := by decide +kernel
theorem dX3_worsen_82 : decode cX3_worsen 82 = .ok (.iload_n 1, 1) := by decide +kernel
theorem dX3_worsen_83 : decode cX3_worsen 83 = .ok (.iaload, 1) := by decide +kernel
theorem dX3_worsen_84 : decode cX3_worsen 84 = .ok (.invokestatic 65, 3) := by decide +kernel
theorem dX3_worsen_87 : decode cX3_worsen 87 = .ok (.iastore, 1) := by decide +kernel
theorem dX3_worsen_88 : decode cX3_worsen 88 = .ok (.return_, 1) := by decide +kernel
theorem dX3_wedAnew_0 : decode cX3_wedAnew 0 = .ok (.aload_n 0, 1) := by decide +kernel
theorem dX3_wedAnew_1 : decode cX3_wedAnew 1 = .ok (.dup, 1) := by decide +kernel
theorem dX3_wedAnew_2 : decode cX3_wedAnew 2 = .ok (.getfield 28, 3) := by decide +kernel
theorem dX3_wedAnew_5 : decode cX3_wedAnew 5 = .ok (.iconst 1, 1) := by decide +kernel
theorem dX3_wedAnew_6 : decode cX3_wedAnew 6 = .ok (.iload_n 1, 1) := by decide +kernel
theorem dX3_wedAnew_7 : decode cX3_wedAnew 7 = .ok (.ishl, 1) := by decide +kernel
theorem dX3_wedAnew_8 : decode cX3_wedAnew 8 = .ok (.ior, 1) := by decide +kernel
theorem dX3_wedAnew_9 : decode cX3_wedAnew 9 = .ok (.putfield 28, 3) := by decide +kernel
theorem dX3_wedAnew_12 : decode cX3_wedAnew 12 = .ok (.aload_n 0, 1) := by decide +kernel
theorem dX3_wedAnew_13 : decode cX3_wedAnew 13 = .ok (.getfield 15, 3) := by decide +kernel
theorem dX3_wedAnew_16 : decode cX3_wedAnew 16 = .ok (.iload_n 1, 1) := by decide +kernel
theorem dX3_wedAnew_17 : decode cX3_wedAnew 17 = .ok (.iconst 0, 1) := by decide +kernel
theorem dX3_wedAnew_18 : decode cX3_wedAnew 18 = .ok (.iastore, 1) := by decide +kernel
theorem dX3_wedAnew_19 : decode cX3_wedAnew 19 = .ok (.aload_n 0, 1) := by decide +kernel
theorem dX3_wedAnew_20 : decode cX3_wedAnew 20 = .ok (.getfield 18, 3) := by decide +kernel
theorem dX3_wedAnew_23 : decode cX3_wedAnew 23 = .ok (.iload_n 1, 1) := by decide +kernel
theorem dX3_wedAnew_24 : decode cX3_wedAnew 24 = .ok (.bipush 20, 2) := by decide +kernel
theorem dX3_wedAnew_26 : decode cX3_wedAnew 26 = .ok (.iastore, 1) := by decide +kernel
theorem dX3_wedAnew_27 : decode cX3_wedAnew 27 = .ok (.aload_n 0, 1) := by decide +kernel
theorem dX3_wedAnew_28 : decode cX3_wedAnew 28 = .ok (.getfield 21, 3) := by decide +kernel
theorem dX3_wedAnew_31 : decode cX3_wedAnew 31 = .ok (.iload_n 1, 1) := by decide +kernel
theorem dX3_wedAnew_32 : decode cX3_wedAnew 32 = .ok (.iconst 0, 1) := by decide +kernel
theorem dX3_wedAnew_33 : decode cX3_wedAnew 33 = .ok (.iastore, 1) := by decide +kernel
theorem dX3_wedAnew_34 : decode cX3_wedAnew 34 = .ok (.return_, 1) := by decide +kernel
theorem dX3_drawNext_0 : decode cX3_drawNext 0 = .ok (.aload_n 0, 1) := by decide +kernel
theorem dX3_drawNext_1 : decode cX3_drawNext 1 = .ok (.aload_n 0, 1) := by decide +kernel
theorem dX3_drawNext_2 : decode cX3_drawNext 2 = .ok (.getfield 34, 3) := by decide +kernel
theorem dX3_drawNext_5 : decode cX3_drawNext 5 = .ok (.ldc 78, 2) := by decide +kernel
theorem dX3_drawNext_7 : decode cX3_drawNext 7 = .ok (.imul, 1) := by decide +kernel
theorem dX3_drawNext_8 : decode cX3_drawNext 8 = .ok (.sipush 12345, 3) := by decide +kernel
theorem dX3_drawNext_11 : decode cX3_drawNext 11 = .ok (.iadd, 1) := by decide +kernel
theorem dX3_drawNext_12 : decode cX3_drawNext 12 = .ok (.ldc 79, 2) := by decide +kernel
theorem dX3_drawNext_14 : decode cX3_drawNext 14 = .ok (.iand, 1) := by decide +kernel
theorem dX3_drawNext_15 : decode cX3_drawNext 15 = .ok (.putfield 34, 3) := by decide +kernel
theorem dX3_drawNext_18 : decode cX3_drawNext 18 = .ok (.aload_n 0, 1) := by decide +kernel
theorem dX3_drawNext_19 : decode cX3_drawNext 19 = .ok (.getfield 24, 3) := by decide +kernel
theorem dX3_drawNext_22 : decode cX3_drawNext 22 = .ok (.ifCond .gt 4, 3) := by decide +kernel
theorem dX3_drawNext_25 : decode cX3_drawNext 25 = .ok (.return_, 1) := by decide +kernel
theorem dX3_drawNext_26 : decode cX3_drawNext 26 = .ok (.aload_n 0, 1) := by decide +kernel
theorem dX3_drawNext_27 : decode cX3_drawNext 27 = .ok (.getfield 34, 3) := by decide +kernel
theorem dX3_drawNext_30 : decode cX3_drawNext 30 = .ok (.ldc 80, 2) := by decide +kernel
theorem dX3_drawNext_32 : decode cX3_drawNext 32 = .ok (.idiv, 1) := by decide +kernel
theorem dX3_drawNext_33 : decode cX3_drawNext 33 = .ok (.aload_n 0, 1) := by decide +kernel
theorem dX3_drawNext_34 : decode cX3_drawNext 34 = .ok (.getfield 24, 3) := by decide +kernel
theorem dX3_drawNext_37 : decode cX3_drawNext 37 = .ok (.irem, 1) := by decide +kernel
theorem dX3_drawNext_38 : decode cX3_drawNext 38 = .ok (.istore_n 1, 1) := by decide +kernel
theorem dX3_drawNext_39 : decode cX3_drawNext 39 = .ok (.aload_n 0, 1) := by decide +kernel
theorem dX3_drawNext_40 : decode cX3_drawNext 40 = .ok (.getfield 34, 3) := by decide +kernel
theorem dX3_drawNext_43 : decode cX3_drawNext 43 = .ok (.sipush 128, 3) := by decide +kernel
theorem dX3_drawNext_46 : decode cX3_drawNext 46 = .ok (.idiv, 1) := by decide +kernel
theorem dX3_drawNext_47 : decode cX3_drawNext 47 = .ok (.bipush 7, 2) := by decide +kernel
theorem dX3_drawNext_49 : decode cX3_drawNext 49 = .ok (.irem, 1) := by decide +kernel
theorem dX3_drawNext_50 : decode cX3_drawNext 50 = .ok (.istore_n 2, 1) := by decide +kernel
theorem dX3_drawNext_51 : decode cX3_drawNext 51 = .ok (.aload_n 0, 1) := by decide +kernel
theorem dX3_drawNext_52 : decode cX3_drawNext 52 = .ok (.iload_n 1, 1) := by decide +kernel
theorem dX3_drawNext_53 : decode cX3_drawNext 53 = .ok (.invokevirtual 47, 3) := by decide +kernel
theorem dX3_drawNext_56 : decode cX3_drawNext 56 = .ok (.ifCond .eq 12, 3) := by decide +kernel
theorem dX3_drawNext_59 : decode cX3_drawNext 59 = .ok (.aload_n 0, 1) := by decide +kernel
theorem dX3_drawNext_60 : decode cX3_drawNext 60 = .ok (.iload_n 1, 1) := by decide +kernel
theorem dX3_drawNext_61 : decode cX3_drawNext 61 = .ok (.iload_n 2, 1) := by decide +kernel
theorem dX3_drawNext_62 : decode cX3_drawNext 62 = .ok (.invokevirtual 71, 3) := by decide +kernel
theorem dX3_drawNext_65 : decode cX3_drawNext 65 = .ok (.goto 12, 3) := by decide +kernel
theorem dX3_drawNext_68 : decode cX3_drawNext 68 = .ok (.iload_n 2, 1) := by decide +kernel
theorem dX3_drawNext_69 : decode cX3_drawNext 69 = .ok (.ifCond .ne 8, 3) := by decide +kernel
theorem dX3_drawNext_72 : decode cX3_drawNext 72 = .ok (.aload_n 0, 1) := by decide +kernel
theorem dX3_drawNext_73 : decode cX3_drawNext 73 = .ok (.iload_n 1, 1) := by decide +kernel
theorem dX3_drawNext_74 : decode cX3_drawNext 74 = .ok (.invokevirtual 81, 3) := by decide +kernel
theorem dX3_drawNext_77 : decode cX3_drawNext 77 = .ok (.return_, 1) := by decide +kernel
theorem dX3_tenthsToStay_0 : decode cX3_tenthsToStay 0 = .ok (.aload_n 0, 1) := by decide +kernel
theorem dX3_tenthsToStay_1 : decode cX3_tenthsToStay 1 = .ok (.iload_n 1, 1) := by decide +kernel
theorem dX3_tenthsToStay_2 : decode cX3_tenthsToStay 2 = .ok (.invokevirtual 47, 3) := by decide +kernel
theorem dX3_tenthsToStay_5 : decode cX3_tenthsToStay 5 = .ok (.ifCond .ne 5, 3) := by decide +kernel
theorem dX3_tenthsToStay_8 : decode cX3_tenthsToStay 8 = .ok (.iconst 0, 1) := by decide +kernel
theorem dX3_tenthsToStay_9 : decode cX3_tenthsToStay 9 = .ok (.ireturn, 1) := by decide +kernel
theorem dX3_tenthsToStay_10 : decode cX3_tenthsToStay 10 = .ok (.aload_n 0, 1) := by decide +kernel
theorem dX3_tenthsToStay_11 : decode cX3_tenthsToStay 11 = .ok (.getfield 21, 3) := by decide +kernel
theorem dX3_tenthsToStay_14 : decode cX3_tenthsToStay 14 = .ok (.iload_n 1, 1) := by decide +kernel
theorem dX3_tenthsToStay_15 : decode cX3_tenthsToStay 15 = .ok (.iaload, 1) := by decide +kernel
theorem dX3_tenthsToStay_16 : decode cX3_tenthsToStay 16 = .ok (.bipush 10, 2) := by decide +kernel
theorem dX3_tenthsToStay_18 : decode cX3_tenthsToStay 18 = .ok (.iadd, 1) := by decide +kernel
theorem dX3_tenthsToStay_19 : decode cX3_tenthsToStay 19 = .ok (.bipush 19, 2) := by decide +kernel
theorem dX3_tenthsToStay_21 : decode cX3_tenthsToStay 21 = .ok (.if_icmp .le 10, 3) := by decide +kernel
theorem dX3_tenthsToStay_24 : decode cX3_tenthsToStay 24 = .ok (.bipush 10, 2) := by decide +kernel
theorem dX3_tenthsToStay_26 : decode cX3_tenthsToStay 26 = .ok (.iload_n 2, 1) := by decide +kernel
theorem dX3_tenthsToStay_27 : decode cX3_tenthsToStay 27 = .ok (.isub, 1) := by decide +kernel
theorem dX3_tenthsToStay_28 : decode cX3_tenthsToStay 28 = .ok (.goto 5, 3) := by decide +kernel
theorem dX3_tenthsToStay_31 : decode cX3_tenthsToStay 31 = .ok (.bipush 10, 2) := by decide +kernel
theorem dX3_tenthsToStay_33 : decode cX3_tenthsToStay 33 = .ok (.ireturn, 1) := by decide +kernel
end
section
theorem dX4_init_0 : decode cX4_init 0 = .ok (.aload_n 0, 1) := by decide +kernel
theorem dX4_init_1 : decode cX4_init 1 = .ok (.invokespecial 1, 3) := by decide +kernel
theorem dX4_init_4 : decode cX4_init 4 = .ok (.aload_n 0, 1) := by decide +kernel
theorem dX4_init_5 : decode cX4_init 5 = .ok (.new 7, 3) := by decide +kernel
theorem dX4_init_8 : decode cX4_init 8 = .ok (.dup, 1) := by decide +kernel
theorem dX4_init_9 : decode cX4_init 9 = .ok (.invokespecial 9, 3) := by decide +kernel
theorem dX4_init_12 : decode cX4_init 12 = .ok (.putfield 10, 3) := by decide +kernel
theorem dX4_init_15 : decode cX4_init 15 = .ok (.aload_n 0, 1) := by decide +kernel
theorem dX4_init_16 : decode cX4_init 16 = .ok (.new 16, 3) := by decide +kernel
theorem dX4_init_19 : decode cX4_init 19 = .ok (.dup, 1) := by decide +kernel
theorem dX4_init_20 : decode cX4_init 20 = .ok (.invokespecial 18, 3) := by decide +kernel
theorem dX4_init_23 : decode cX4_init 23 = .ok (.putfield 19, 3) := by decide +kernel
theorem dX4_init_26 : decode cX4_init 26 = .ok (.aload_n 0, 1) := by decide +kernel
theorem dX4_init_27 : decode cX4_init 27 = .ok (.new 7, 3) := by decide +kernel
theorem dX4_init_30 : decode cX4_init 30 = .ok (.dup, 1) := by decide +kernel
theorem dX4_init_31 : decode cX4_init 31 = .ok (.invokespecial 9, 3) := by decide +kernel
theorem dX4_init_34 : decode cX4_init 34 = .ok (.putfield 23, 3) := by decide +kernel
theorem dX4_init_37 : decode cX4_init 37 = .ok (.aload_n 0, 1) := by decide +kernel
theorem dX4_init_38 : decode cX4_init 38 = .ok (.new 16, 3) := by decide +kernel
theorem dX4_init_41 : decode cX4_init 41 = .ok (.dup, 1) := by decide +kernel
theorem dX4_init_42 : decode cX4_init 42 = .ok (.invokespecial 18, 3) := by decide +kernel
theorem dX4_init_45 : decode cX4_init 45 = .ok (.putfield 26, 3) := by decide +kernel
theorem dX4_init_48 : decode cX4_init 48 = .ok (.aload_n 0, 1) := by decide +kernel
theorem dX4_init_49 : decode cX4_init 49 = .ok (.new 29, 3) := by decide +kernel
theorem dX4_init_52 : decode cX4_init 52 = .ok (.dup, 1) := by decide +kernel
theorem dX4_init_53 : decode cX4_init 53 = .ok (.invokespecial 31, 3) := by decide +kernel
theorem dX4_init_56 : decode cX4_init 56 = .ok (.putfield 32, 3) := by decide +kernel
theorem dX4_init_59 : decode cX4_init 59 = .ok (.aload_n 0, 1) := by decide +kernel
theorem dX4_init_60 : decode cX4_init 60 = .ok (.iconst 4, 1) := by decide +kernel
theorem dX4_init_61 : decode cX4_init 61 = .ok (.anewarray 36, 3) := by decide +kernel
theorem dX4_init_64 : decode cX4_init 64 = .ok (.putfield 38, 3) := by decide +kernel
theorem dX4_init_67 : decode cX4_init 67 = .ok (.aload_n 0, 1) := by decide +kernel
theorem dX4_init_68 : decode cX4_init 68 = .ok (.new 7, 3) := by decide +kernel
theorem dX4_init_71 : decode cX4_init 71 = .ok (.dup, 1) := by decide +kernel
theorem dX4_init_72 : decode cX4_init 72 = .ok (.invokespecial 9, 3) := by decide +kernel
theorem dX4_init_75 : decode cX4_init 75 = .ok (.putfield 42, 3) := by decide +kernel
theorem dX4_init_78 : decode cX4_init 78 = .ok (.aload_n 0, 1) := by decide +kernel
theorem dX4_init_79 : decode cX4_init 79 = .ok (.iconst 0, 1) := by decide +kernel
theorem dX4_init_80 : decode cX4_init 80 = .ok (.putfield 45, 3) := by decide +kernel
theorem dX4_init_83 : decode cX4_init 83 = .ok (.iconst 0, 1) := by decide +kernel
theorem dX4_init_84 : decode cX4_init 84 = .ok (.istore_n 1, 1) := by decide +kernel
theorem dX4_init_85 : decode cX4_init 85 = .ok (.iload_n 1, 1) := by decide +kernel
theorem dX4_init_86 : decode cX4_init 86 = .ok (.iconst 4, 1) := by decide +kernel
theorem dX4_init_87 : decode cX4_init 87 = .ok (.if_icmp .ge 22, 3) := by decide +kernel
theorem dX4_init_90 : decode cX4_init 90 = .ok (.aload_n 0, 1) := by decide +kernel
theorem dX4_init_91 : decode cX4_init 91 = .ok (.getfield 38, 3) := by decide +kernel
theorem dX4_init_94 : decode cX4_init 94 = .ok (.iload_n 1, 1) := by decide +kernel
theorem dX4_init_95 : decode cX4_init 95 = .ok (.new 36, 3) := by decide +kernel
theorem dX4_init_98 : decode cX4_init 98 = .ok (.dup, 1) := by decide +kernel
theorem dX4_init_99 : decode cX4_init 99 = .ok (.invokespecial 49, 3) := by decide +kernel
theorem dX4_init_102 : decode cX4_init 102 = .ok (.aastore, 1) := by decide +kernel
theorem dX4_init_103 : decode cX4_init 103 = .ok (.iinc 1 1, 3) := by decide +kernel
theorem dX4_init_106 : decode cX4_init 106 = .ok (.goto (-21), 3) := by decide +kernel
theorem dX4_init_109 : decode cX4_init 109 = .ok (.return_, 1) := by decide +kernel
theorem dX4_couple_0 : decode cX4_couple 0 = .ok (.iload_n 1, 1) := by decide +kernel
theorem dX4_couple_1 : decode cX4_couple 1 = .ok (.iconst 0, 1) := by decide +kernel
theorem dX4_couple_2 : decode cX4_couple 2 = .ok (.iconst 4, 1) := by decide +kernel
theorem dX4_couple_3 : decode cX4_couple 3 = .ok (.invokestatic 50, 3) := by decide +kernel
theorem dX4_couple_6 : decode cX4_couple 6 = .ok (.ifCond .eq 13, 3) := by decide +kernel
theorem dX4_couple_9 : decode cX4_couple 9 = .ok (.iload_n 2, 1) := by decide +kernel
theorem dX4_couple_10 : decode cX4_couple 10 = .ok (.iconst 0, 1) := by decide +kernel
theorem dX4_couple_11 : decode cX4_couple 11 = .ok (.bipush 80, 2) := by decide +kernel
theorem dX4_couple_13 : decode cX4_couple 13 = .ok (.invokestatic 50, 3) := by decide +kernel
theorem dX4_couple_16 : decode cX4_couple 16 = .ok (.ifCond .ne 5, 3) := by decide +kernel
theorem dX4_couple_19 : decode cX4_couple 19 = .ok (.iconst (-1), 1) := by decide +kernel
theorem dX4_couple_20 : decode cX4_couple 20 = .ok (.ireturn, 1) := by decide +kernel
theorem dX4_couple_21 : decode cX4_couple 21 = .ok (.aload_n 0, 1) := by decide +kernel
theorem dX4_couple_22 : decode cX4_couple 22 = .ok (.getfield 10, 3) := by decide +kernel
theorem dX4_couple_25 : decode cX4_couple 25 = .ok (.getfield 54, 3) := by decide +kernel
theorem dX4_couple_28 : decode cX4_couple 28 = .ok (.bipush 7, 2) := by decide +kernel
theorem dX4_couple_30 : decode cX4_couple 30 = .ok (.if_icmp .lt 6, 3) := by decide +kernel
theorem dX4_couple_33 : decode cX4_couple 33 = .ok (.bipush (-3), 2) := by decide +kernel
theorem dX4_couple_35 : decode cX4_couple 35 = .ok (.ireturn, 1) := by decide +kernel
theorem dX4_couple_36 : decode cX4_couple 36 = .ok (.aload_n 0, 1) := by decide +kernel
theorem dX4_couple_37 : decode cX4_couple 37 = .ok (.getfield 19, 3) := by decide +kernel
theorem dX4_couple_40 : decode cX4_couple 40 = .ok (.invokevirtual 58, 3) := by decide +kernel
theorem dX4_couple_43 : decode cX4_couple 43 = .ok (.aload_n 0, 1) := by decide +kernel
theorem dX4_couple_44 : decode cX4_couple 44 = .ok (.getfield 10, 3) := by decide +kernel
theorem dX4_couple_47 : decode cX4_couple 47 = .ok (.iload_n 1, 1) := by decide +kernel
theorem dX4_couple_48 : decode cX4_couple 48 = .ok (.iload_n 2, 1) := by decide +kernel
theorem dX4_couple_49 : decode cX4_couple 49 = .ok (.bipush 40, 2) := by decide +kernel
theorem dX4_couple_51 : decode cX4_couple 51 = .ok (.iconst 0, 1) := by decide +kernel
theorem dX4_couple_52 : decode cX4_couple 52 = .ok (.iconst 1, 1) := by decide +kernel
theorem dX4_couple_53 : decode cX4_couple 53 = .ok (.invokevirtual 61, 3) := by decide +kernel
theorem dX4_couple_56 : decode cX4_couple 56 = .ok (.ireturn, 1) := by decide +kernel
theorem dX4_of_0 : decode cX4_of 0 = .ok (.aload_n 0, 1) := by decide +kernel
theorem dX4_of_1 : decode cX4_of 1 = .ok (.iload_n 1, 1) := by decide +kernel
theorem dX4_of_2 : decode cX4_of 2 = .ok (.invokevirtual 65, 3) := by decide +kernel
theorem dX4_of_5 : decode cX4_of 5 = .ok (.ifCond .ne 5, 3) := by decide +kernel
theorem dX4_of_8 : decode cX4_of 8 = .ok (.iconst (-1), 1) := by decide +kernel
theorem dX4_of_9 : decode cX4_of 9 = .ok (.ireturn, 1) := by decide +kernel
theorem dX4_of_10 : decode cX4_of 10 = .ok (.iload_n 2, 1) := by decide +kernel
theorem dX4_of_11 : decode cX4_of 11 = .ok (.tableswitch 106 0 5 #[37, 47, 57, 67, 77, 94], 37) := by decide +kernel
theorem dX4_of_48 : decode cX4_of 48 = .ok (.aload_n 0, 1) := by decide +kernel
theorem dX4_of_49 : decode cX4_of 49 = .ok (.getfield 10, 3) := by decide +kernel
theorem dX4_of_52 : decode cX4_of 52 = .ok (.getfield 69, 3) := by decide +kernel
theorem dX4_of_55 : decode cX4_of 55 = .ok (.iload_n 1, 1) := by decide +kernel
theorem dX4_of_56 : decode cX4_of 56 = .ok (.iaload, 1) := by decide +kernel
theorem dX4_of_57 : decode cX4_of 57 = .ok (.ireturn, 1) := by decide +kernel
theorem dX4_of_58 : decode cX4_of 58 = .ok (.aload_n 0, 1) := by decide +kernel
theorem dX4_of_59 : decode cX4_of 59 = .ok (.getfield 10, 3) := by decide +kernel
theorem dX4_of_62 : decode cX4_of 62 = .ok (.getfield 73, 3) := by decide +kernel
theorem dX4_of_65 : decode cX4_of 65 = .ok (.iload_n 1, 1) := by decide +kernel
theorem dX4_of_66 : decode cX4_of 66 = .ok (.iaload, 1) := by decide +kernel
theorem dX4_of_67 : decode cX4_of 67 = .ok (.ireturn, 1) := by decide +kernel
theorem dX4_of_68 : decode cX4_of 68 = .ok (.aload_n 0, 1) := by decide +kernel
theorem dX4_of_69 : decode cX4_of 69 = .ok (.getfield 10, 3) := by decide +kernel
theorem dX4_of_72 : decode cX4_of 72 = .ok (.getfield 76, 3) := by decide +kernel
theorem dX4_of_75 : decode cX4_of 75 = .ok (.iload_n 1, 1) := by decide +kernel
theorem dX4_of_76 : decode cX4_of 76 = .ok (.iaload, 1) := by decide +kernel
theorem dX4_of_77 : decode cX4_of 77 = .ok (.ireturn, 1) := by decide +kernel
theorem dX4_of_78 : decode cX4_of 78 = .ok (.aload_n 0, 1) := by decide +kernel
theorem dX4_of_79 : decode cX4_of 79 = .ok (.getfield 10, 3) := by decide +kernel
theorem dX4_of_82 : decode cX4_of 82 = .ok (.getfield 79, 3) := by decide +kernel
theorem dX4_of_85 : decode cX4_of 85 = .ok (.iload_n 1, 1) := by decide +kernel
theorem dX4_of_86 : decode cX4_of 86 = .ok (.iaload, 1) := by decide +kernel
theorem dX4_of_87 : decode cX4_of 87 = .ok (.ireturn, 1) := by decide +kernel
theorem dX4_of_88 : decode cX4_of 88 = .ok (.aload_n 0, 1) := by decide +kernel
theorem dX4_of_89 : decode cX4_of 89 = .ok (.getfield 10, 3) := by decide +kernel
theorem dX4_of_92 : decode cX4_of 92 = .ok (.iload_n 1, 1) := by decide +kernel
theorem dX4_of_93 : decode cX4_of 93 = .ok (.invokevirtual 82, 3) := by decide +kernel
theorem dX4_of_96 : decode cX4_of 96 = .ok (.ifCond .eq 7, 3) := by decide +kernel
theorem dX4_of_99 : decode cX4_of 99 = .ok (.iconst 0, 1) := by decide +kernel
theorem dX4_of_100 : decode cX4_of 100 = .ok (.goto 4, 3) := by decide +kernel
theorem dX4_of_103 : decode cX4_of 103 = .ok (.iconst 1, 1) := by decide +kernel
theorem dX4_of_104 : decode cX4_of 104 = .ok (.ireturn, 1) := by decide +kernel
theorem dX4_of_105 : decode cX4_of 105 = .ok (.aload_n 0, 1) := by decide +kernel
theorem dX4_of_106 : decode cX4_of 106 = .ok (.getfield 10, 3) := by decide +kernel
theorem dX4_of_109 : decode cX4_of 109 = .ok (.iload_n 1, 1) := by decide +kernel
theorem dX4_of_110 : decode cX4_of 110 = .ok (.invokevirtual 85, 3) := by decide +kernel
theorem dX4_of_113 : decode cX4_of 113 = .ok (.bipush 10, 2) := by decide +kernel
theorem dX4_of_115 : decode cX4_of 115 = .ok (.iadd, 1) := by decide +kernel
theorem dX4_of_116 : decode cX4_of 116 = .ok (.ireturn, 1) := by decide +kernel
theorem dX4_of_117 : decode cX4_of 117 = .ok (.iconst (-1), 1) := by decide +kernel
theorem dX4_of_118 : decode cX4_of 118 = .ok (.ireturn, 1) := by decide +kernel
theorem dX4_type_0 : decode cX4_type 0 = .ok (.iload_n 1, 1) := by decide +kernel
theorem dX4_type_1 : decode cX4_type 1 = .ok (.bipush 32, 2) := by decide +kernel
theorem dX4_type_3 : decode cX4_type 3 = .ok (.bipush 126, 2) := by decide +kernel
theorem dX4_type_5 : decode cX4_type 5 = .ok (.invokestatic 50, 3) := by decide +kernel
theorem dX4_type_8 : decode cX4_type 8 = .ok (.ifCond .ne 5, 3) := by decide +kernel
theorem dX4_type_11 : decode cX4_type 11 = .ok (.iconst (-1), 1) := by decide +kernel
theorem dX4_type_12 : decode cX4_type 12 = .ok (.ireturn, 1) := by decide +kernel
theorem dX4_type_13 : decode cX4_type 13 = .ok (.aload_n 0, 1) := by decide +kernel
theorem dX4_type_14 : decode cX4_type 14 = .ok (.getfield 32, 3) := by decide +kernel
theorem dX4_type_17 : decode cX4_type 17 = .ok (.getfield 89, 3) := by decide +kernel
theorem dX4_type_20 : decode cX4_type 20 = .ok (.bipush 80, 2) := by decide +kernel
theorem dX4_type_22 : decode cX4_type 22 = .ok (.if_icmp .lt 6, 3) := by decide +kernel
theorem dX4_type_25 : decode cX4_type 25 = .ok (.bipush (-3), 2) := by decide +kernel
theorem dX4_type_27 : decode cX4_type 27 = .ok (.ireturn, 1) := by decide +kernel
theorem dX4_type_28 : decode cX4_type 28 = .ok (.aload_n 0, 1) := by decide +kernel
theorem dX4_type_29 : decode cX4_type 29 = .ok (.getfield 32, 3) := by decide +kernel
theorem dX4_type_32 : decode cX4_type 32 = .ok (.iload_n 1, 1) := by decide +kernel
theorem dX4_type_33 : decode cX4_type 33 = .ok (.invokevirtual 90, 3) := by decide +kernel
theorem dX4_type_36 : decode cX4_type 36 = .ok (.ireturn, 1) := by decide +kernel
theorem dX4_town_0 : decode cX4_town 0 = .ok (.aload_n 0, 1) := by decide +kernel
theorem dX4_town_1 : decode cX4_town 1 = .ok (.getfield 42, 3) := by decide +kernel
theorem dX4_town_4 : decode cX4_town 4 = .ok (.invokevirtual 93, 3) := by decide +kernel
theorem dX4_town_7 : decode cX4_town 7 = .ok (.aload_n 0, 1) := by decide +kernel
theorem dX4_town_8 : decode cX4_town 8 = .ok (.getfield 32, 3) := by decide +kernel
theorem dX4_town_11 : decode cX4_town 11 = .ok (.aload_n 0, 1) := by decide +kernel
theorem dX4_town_12 : decode cX4_town 12 = .ok (.getfield 42, 3) := by decide +kernel
theorem dX4_town_15 : decode cX4_town 15 = .ok (.invokevirtual 96, 3) := by decide +kernel
theorem dX4_town_18 : decode cX4_town 18 = .ok (.istore_n 1, 1) := by decide +kernel
theorem dX4_town_19 : decode cX4_town 19 = .ok (.aload_n 0, 1) := by decide +kernel
theorem dX4_town_20 : decode cX4_town 20 = .ok (.getfield 32, 3) := by decide +kernel
theorem dX4_town_23 : decode cX4_town 23 = .ok (.iconst 0, 1) := by decide +kernel
theorem dX4_town_24 : decode cX4_town 24 = .ok (.putfield 89, 3) := by decide +kernel
theorem dX4_town_27 : decode cX4_town 27 = .ok (.iload_n 1, 1) := by decide +kernel
theorem dX4_town_28 : decode cX4_town 28 = .ok (.ifCond .ne 14, 3) := by decide +kernel
theorem dX4_town_31 : decode cX4_town 31 = .ok (.bipush (-20), 2) := by decide +kernel
theorem dX4_town_33 : decode cX4_town 33 = .ok (.aload_n 0, 1) := by decide +kernel
theorem dX4_town_34 : decode cX4_town 34 = .ok (.getfield 32, 3) := by decide +kernel
theorem dX4_town_37 : decode cX4_town 37 = .ok (.getfield 100, 3) := by decide +kernel
theorem dX4_town_40 : decode cX4_town 40 = .ok (.isub, 1) := by decide +kernel
theorem dX4_town_41 : decode cX4_town 41 = .ok (.ireturn, 1) := by decide +kernel
theorem dX4_town_42 : decode cX4_town 42 = .ok (.aload_n 0, 1) := by decide +kernel
theorem dX4_town_43 : decode cX4_town 43 = .ok (.getfield 42, 3) := by decide +kernel
theorem dX4_town_46 : decode cX4_town 46 = .ok (.aload_n 0, 1) := by decide +kernel
theorem dX4_town_47 : decode cX4_town 47 = .ok (.getfield 10, 3) := by decide +kernel
theorem dX4_town_50 : decode cX4_town 50 = .ok (.getfield 103, 3) := by decide +kernel
theorem dX4_town_53 : decode cX4_town 53 = .ok (.putfield 103, 3) := by decide +kernel
theorem dX4_town_56 : decode cX4_town 56 = .ok (.aload_n 0, 1) := by decide +kernel
theorem dX4_town_57 : decode cX4_town 57 = .ok (.getfield 10, 3) := by decide +kernel
theorem dX4_town_60 : decode cX4_town 60 = .ok (.aload_n 0, 1) := by decide +kernel
theorem dX4_town_61 : decode cX4_town 61 = .ok (.getfield 42, 3) := by decide +kernel
theorem dX4_town_64 : decode cX4_town 64 = .ok (.invokevirtual 106, 3) := by decide +kernel
theorem dX4_town_67 : decode cX4_town 67 = .ok (.aload_n 0, 1) := by decide +kernel
theorem dX4_town_68 : decode cX4_town 68 = .ok (.getfield 19, 3) := by decide +kernel
theorem dX4_town_71 : decode cX4_town 71 = .ok (.invokevirtual 58, 3) := by decide +kernel
theorem dX4_town_74 : decode cX4_town 74 = .ok (.aload_n 0, 1) := by decide +kernel
theorem dX4_town_75 : decode cX4_town 75 = .ok (.getfield 10, 3) := by decide +kernel
theorem dX4_town_78 : decode cX4_town 78 = .ok (.getfield 54, 3) := by decide +kernel
theorem dX4_town_81 : decode cX4_town 81 = .ok (.ireturn, 1) := by decide +kernel
theorem dX4_count_0 : decode cX4_count 0 = .ok (.iload_n 1, 1) := by decide +kernel
theorem dX4_count_1 : decode cX4_count 1 = .ok (.tableswitch 106 0 6 #[43, 51, 59, 67, 82, 90, 98], 43) := by decide +kernel
theorem dX4_count_44 : decode cX4_count 44 = .ok (.aload_n 0, 1) := by decide +kernel
theorem dX4_count_45 : decode cX4_count 45 = .ok (.getfield 10, 3) := by decide +kernel
theorem dX4_count_48 : decode cX4_count 48 = .ok (.getfield 54, 3) := by decide +kernel
theorem dX4_count_51 : decode cX4_count 51 = .ok (.ireturn, 1) := by decide +kernel
theorem dX4_count_52 : decode cX4_count 52 = .ok (.aload_n 0, 1) := by decide +kernel
theorem dX4_count_53 : decode cX4_count 53 = .ok (.getfield 10, 3) := by decide +kernel
theorem dX4_count_56 : decode cX4_count 56 = .ok (.getfield 110, 3) := by decide +kernel
theorem dX4_count_59 : decode cX4_count 59 = .ok (.ireturn, 1) := by decide +kernel
theorem dX4_count_60 : decode cX4_count 60 = .ok (.aload_n 0, 1) := by decide +kernel
theorem dX4_count_61 : decode cX4_count 61 = .ok (.getfield 10, 3) := by decide +kernel
theorem dX4_count_64 : decode cX4_count 64 = .ok (.invokevirtual 113, 3) := by decide +kernel
theorem dX4_count_67 : decode cX4_count 67 = .ok (.ireturn, 1) := by decide +kernel
theorem dX4_count_68 : decode cX4_count 68 = .ok (.aload_n 0, 1) := by decide +kernel
theorem dX4_count_69 : decode cX4_count 69 = .ok (.getfield 10, 3) := by decide +kernel
theorem dX4_count_72 : decode cX4_count 72 = .ok (.aload_n 0, 1) := by decide +kernel
theorem dX4_count_73 : decode cX4_count 73 = .ok (.getfield 10, 3) := by decide +kernel
theorem dX4_count_76 : decode cX4_count 76 = .ok (.invokevirtual 113, 3) := by decide +kernel
theorem dX4_count_79 : decode cX4_count 79 = .ok (.invokevirtual 117, 3) := by decide +kernel
theorem dX4_count_82 : decode cX4_count 82 = .ok (.ireturn, 1) := by decide +kernel
theorem dX4_count_83 : decode cX4_count 83 = .ok (.aload_n 0, 1) := by decide +kernel
theorem dX4_count_84 : decode cX4_count 84 = .ok (.getfield 10, 3) := by decide +kernel
theorem dX4_count_87 : decode cX4_count 87 = .ok (.getfield 120, 3) := by decide +kernel
theorem dX4_count_90 : decode cX4_count 90 = .ok (.ireturn, 1) := by decide +kernel
theorem dX4_count_91 : decode cX4_count 91 = .ok (.aload_n 0, 1) := by decide +kernel
theorem dX4_count_92 : decode cX4_count 92 = .ok (.getfield 10, 3) := by decide +kernel
theorem dX4_count_95 : decode cX4_count 95 = .ok (.invokevirtual 123, 3) := by decide +kernel
theorem dX4_count_98 : decode cX4_count 98 = .ok (.ireturn, 1) := by decide +kernel
theorem dX4_count_99 : decode cX4_count 99 = .ok (.aload_n 0, 1) := by decide +kernel
theorem dX4_count_100 : decode cX4_count 100 = .ok (.getfield 19, 3) := by decide +kernel
theorem dX4_count_103 : decode cX4_count 103 = .ok (.getfield 126, 3) := by decide +kernel
theorem dX4_count_106 : decode cX4_count 106 = .ok (.ireturn, 1) := by decide +kernel
theorem dX4_count_107 : decode cX4_count 107 = .ok (.iconst (-1), 1) := by decide +kernel
theorem dX4_count_108 : decode cX4_count 108 = .ok (.ireturn, 1) := by decide +kernel
theorem dX4_years_0 : decode cX4_years 0 = .ok (.iload_n 1, 1) := by decide +kernel
theorem dX4_years_1 : decode cX4_years 1 = .ok (.iconst 1, 1) := by decide +kernel
theorem dX4_years_2 : decode cX4_years 2 = .ok (.bipush 40, 2) := by decide +kernel
theorem dX4_years_4 : decode cX4_years 4 = .ok (.invokestatic 50, 3) := by decide +kernel
theorem dX4_years_7 : decode cX4_years 7 = .ok (.ifCond .ne 5, 3) := by decide +kernel
theorem dX4_years_10 : decode cX4_years 10 = .ok (.iconst (-1), 1) := by decide +kernel
theorem dX4_years_11 : decode cX4_years 11 = .ok (.ireturn, 1) := by decide +kernel
theorem dX4_years_12 : decode cX4_years 12 = .ok (.aload_n 0, 1) := by decide +kernel
theorem dX4_years_13 : decode cX4_years 13 = .ok (.getfield 10, 3) := by decide +kernel
theorem dX4_years_16 : decode cX4_years 16 = .ok (.getfield 110, 3) := by decide +kernel
theorem dX4_years_19 : decode cX4_years 19 = .ok (.iload_n 1, 1) := by decide +kernel
theorem dX4_years_20 : decode cX4_years 20 = .ok (.iadd, 1) := by decide +kernel
theorem dX4_years_21 : decode cX4_years 21 = .ok (.sipush 9999, 3) := by decide +kernel
theorem dX4_years_24 : decode cX4_years 24 = .ok (.if_icmp .le 6, 3) := by decide +kernel
theorem dX4_years_27 : decode cX4_years 27 = .ok (.bipush (-3), 2) := by decide +kernel
theorem dX4_years_29 : decode cX4_years 29 = .ok (.ireturn, 1) := by decide +kernel
theorem dX4_years_30 : decode cX4_years 30 = .ok (.iconst 0, 1) := by decide +kernel
theorem dX4_years_31 : decode cX4_years 31 = .ok (.istore_n 2, 1) := by decide +kernel
theorem dX4_years_32 : decode cX4_years 32 = .ok (.iload_n 2, 1) := by decide +kernel
theorem dX4_years_33 : decode cX4_years 33 = .ok (.iload_n 1, 1) := by decide +kernel
theorem dX4_years_34 : decode cX4_years 34 = .ok (.if_icmp .ge 27, 3) := by decide +kernel
theorem dX4_years_37 : decode cX4_years 37 = .ok (.aload_n 0, 1) := by decide +kernel
theorem dX4_years_38 : decode cX4_years 38 = .ok (.getfield 19, 3) := by decide +kernel
theorem dX4_years_41 : decode cX4_years 41 = .ok (.aload_n 0, 1) := by decide +kernel
theorem dX4_years_42 : decode cX4_years 42 = .ok (.getfield 10, 3) := by decide +kernel
theorem dX4_years_45 : decode cX4_years 45 = .ok (.invokevirtual 127, 3) := by decide +kernel
theorem dX4_years_48 : decode cX4_years 48 = .ok (.aload_n 0, 1) := by decide +kernel
theorem dX4_years_49 : decode cX4_years 49 = .ok (.getfield 10, 3) := by decide +kernel
theorem dX4_years_52 : decode cX4_years 52 = .ok (.invokevirtual 130, 3) := by decide +kernel
theorem dX4_years_55 : decode cX4_years 55 = .ok (.iinc 2 1, 3) := by decide +kernel
theorem dX4_years_58 : decode cX4_years 58 = .ok (.goto (-26), 3) := by decide +kernel
theorem dX4_years_61 : decode cX4_years 61 = .ok (.aload_n 0, 1) := by decide +kernel
theorem dX4_years_62 : decode cX4_years 62 = .ok (.getfield 10, 3) := by decide +kernel
theorem dX4_years_65 : decode cX4_years 65 = .ok (.invokevirtual 113, 3) := by decide +kernel
theorem dX4_years_68 : decode cX4_years 68 = .ok (.ireturn, 1) := by decide +kernel
theorem dX4_nurse_0 : decode cX4_nurse 0 = .ok (.aload_n 0, 1) := by decide +kernel
theorem dX4_nurse_1 : decode cX4_nurse 1 = .ok (.iload_n 1, 1) := by decide +kernel
theorem dX4_nurse_2 : decode cX4_nurse 2 = .ok (.invokevirtual 65, 3) := by decide +kernel
theorem dX4_nurse_5 : decode cX4_nurse 5 = .ok (.ifCond .eq 13, 3) := by decide +kernel
theorem dX4_nurse_8 : decode cX4_nurse 8 = .ok (.iload_n 2, 1) := by decide +kernel
theorem dX4_nurse_9 : decode cX4_nurse 9 = .ok (.iconst 1, 1) := by decide +kernel
theorem dX4_nurse_10 : decode cX4_nurse 10 = .ok (.bipush 19, 2) := by decide +kernel
theorem dX4_nurse_12 : decode cX4_nurse 12 = .ok (.invokestatic 50, 3) := by decide +kernel
theorem dX4_nurse_15 : decode cX4_nurse 15 = .ok (.ifCond .ne 5, 3) := by decide +kernel
theorem dX4_nurse_18 : decode cX4_nurse 18 = .ok (.iconst (-1), 1) := by decide +kernel
theorem dX4_nurse_19 : decode cX4_nurse 19 = .ok (.ireturn, 1) := by decide +kernel
theorem dX4_nurse_20 : decode cX4_nurse 20 = .ok (.aload_n 0, 1) := by decide +kernel
theorem dX4_nurse_21 : decode cX4_nurse 21 = .ok (.getfield 10, 3) := by decide +kernel
theorem dX4_nurse_24 : decode cX4_nurse 24 = .ok (.iload_n 1, 1) := by decide +kernel
theorem dX4_nurse_25 : decode cX4_nurse 25 = .ok (.invokevirtual 82, 3) := by decide +kernel
theorem dX4_nurse_28 : decode cX4_nurse 28 = .ok (.ifCond .eq 15, 3) := by decide +kernel
theorem dX4_nurse_31 : decode cX4_nurse 31 = .ok (.aload_n 0, 1) := by decide +kernel
theorem dX4_nurse_32 : decode cX4_nurse 32 = .ok (.getfield 10, 3) := by decide +kernel
theorem dX4_nurse_35 : decode cX4_nurse 35 = .ok (.getfield 79, 3) := by decide +kernel
theorem dX4_nurse_38 : decode cX4_nurse 38 = .ok (.iload_n 1, 1) := by decide +kernel
theorem dX4_nurse_39 : decode cX4_nurse 39 = .ok (.iaload, 1) := by decide +kernel
theorem dX4_nurse_40 : decode cX4_nurse 40 = .ok (.ifCond .ne 6, 3) := by decide +kernel
theorem dX4_nurse_43 : decode cX4_nurse 43 = .ok (.bipush (-2), 2) := by decide +kernel
theorem dX4_nurse_45 : decode cX4_nurse 45 = .ok (.ireturn, 1) := by decide +kernel
theorem dX4_nurse_46 : decode cX4_nurse 46 = .ok (.aload_n 0, 1) := by decide +kernel
theorem dX4_nurse_47 : decode cX4_nurse 47 = .ok (.getfield 19, 3) := by decide +kernel
theorem dX4_nurse_50 : decode cX4_nurse 50 = .ok (.aload_n 0, 1) := by decide +kernel
theorem dX4_nurse_51 : decode cX4_nurse 51 = .ok (.getfield 10, 3) := by decide +kernel
theorem dX4_nurse_54 : decode cX4_nurse 54 = .ok (.invokevirtual 127, 3) := by decide +kernel
theorem dX4_nurse_57 : decode cX4_nurse 57 = .ok (.aload_n 0, 1) := by decide +kernel
theorem dX4_nurse_58 : decode cX4_nurse 58 = .ok (.getfield 10, 3) := by decide +kernel
theorem dX4_nurse_61 : decode cX4_nurse 61 = .ok (.iload_n 1, 1) := by decide +kernel
theorem dX4_nurse_62 : decode cX4_nurse 62 = .ok (.iload_n 2, 1) := by decide +kernel
theorem dX4_nurse_63 : decode cX4_nurse 63 = .ok (.invokevirtual 133, 3) := by decide +kernel
theorem dX4_nurse_66 : decode cX4_nurse 66 = .ok (.aload_n 0, 1) := by decide +kernel
theorem dX4_nurse_67 : decode cX4_nurse 67 = .ok (.getfield 10, 3) := by decide +kernel
theorem dX4_nurse_70 : decode cX4_nurse 70 = .ok (.getfield 79, 3) := by decide +kernel
theorem dX4_nurse_73 : decode cX4_nurse 73 = .ok (.iload_n 1, 1) := by decide +kernel
theorem dX4_nurse_74 : decode cX4_nurse 74 = .ok (.iaload, 1) := by decide +kernel
theorem dX4_nurse_75 : decode cX4_nurse 75 = .ok (.ireturn, 1) := by decide +kernel
theorem dX4_stir_0 : decode cX4_stir 0 = .ok (.aload_n 0, 1) := by decide +kernel
theorem dX4_stir_1 : decode cX4_stir 1 = .ok (.iload_n 1, 1) := by decide +kernel
theorem dX4_stir_2 : decode cX4_stir 2 = .ok (.invokevirtual 65, 3) := by decide +kernel
theorem dX4_stir_5 : decode cX4_stir 5 = .ok (.ifCond .eq 13, 3) := by decide +kernel
theorem dX4_stir_8 : decode cX4_stir 8 = .ok (.iload_n 2, 1) := by decide +kernel
theorem dX4_stir_9 : decode cX4_stir 9 = .ok (.iconst 1, 1) := by decide +kernel
theorem dX4_stir_10 : decode cX4_stir 10 = .ok (.bipush 20, 2) := by decide +kernel
theorem dX4_stir_12 : decode cX4_stir 12 = .ok (.invokestatic 50, 3) := by decide +kernel
theorem dX4_stir_15 : decode cX4_stir 15 = .ok (.ifCond .ne 5, 3) := by decide +kernel
theorem dX4_stir_18 : decode cX4_stir 18 = .ok (.iconst (-1), 1) := by decide +kernel
theorem dX4_stir_19 : decode cX4_stir 19 = .ok (.ireturn, 1) := by decide +kernel
theorem dX4_stir_20 : decode cX4_stir 20 = .ok (.aload_n 0, 1) := by decide +kernel
theorem dX4_stir_21 : decode cX4_stir 21 = .ok (.getfield 10, 3) := by decide +kernel
theorem dX4_stir_24 : decode cX4_stir 24 = .ok (.iload_n 1, 1) := by decide +kernel
theorem dX4_stir_25 : decode cX4_stir 25 = .ok (.invokevirtual 82, 3) := by decide +kernel
theorem dX4_stir_28 : decode cX4_stir 28 = .ok (.ifCond .ne 6, 3) := by decide +kernel
theorem dX4_stir_31 : decode cX4_stir 31 = .ok (.bipush (-2), 2) := by decide +kernel
theorem dX4_stir_33 : decode cX4_stir 33 = .ok (.ireturn, 1) := by decide +kernel
theorem dX4_stir_34 : decode cX4_stir 34 = .ok (.aload_n 0, 1) := by decide +kernel
theorem dX4_stir_35 : decode cX4_stir 35 = .ok (.getfield 19, 3) := by decide +kernel
theorem dX4_stir_38 : decode cX4_stir 38 = .ok (.aload_n 0, 1) := by decide +kernel
theorem dX4_stir_39 : decode cX4_stir 39 = .ok (.getfield 10, 3) := by decide +kernel
theorem dX4_stir_42 : decode cX4_stir 42 = .ok (.invokevirtual 127, 3) := by decide +kernel
theorem dX4_stir_45 : decode cX4_stir 45 = .ok (.aload_n 0, 1) := by decide +kernel
theorem dX4_stir_46 : decode cX4_stir 46 = .ok (.getfield 10, 3) := by decide +kernel
theorem dX4_stir_49 : decode cX4_stir 49 = .ok (.iload_n 1, 1) := by decide +kernel
theorem dX4_stir_50 : decode cX4_stir 50 = .ok (.iload_n 2, 1) := by decide +kernel
theorem dX4_stir_51 : decode cX4_stir 51 = .ok (.invokevirtual 137, 3) := by decide +kernel
theorem dX4_stir_54 : decode cX4_stir 54 = .ok (.aload_n 0, 1) := by decide +kernel
theorem dX4_stir_55 : decode cX4_stir 55 = .ok (.getfield 10, 3) := by decide +kernel
theorem dX4_stir_58 : decode cX4_stir 58 = .ok (.getfield 79, 3) := by decide +kernel
theorem dX4_stir_61 : decode cX4_stir 61 = .ok (.iload_n 1, 1) := by decide +kernel
theorem dX4_stir_62 : decode cX4_stir 62 = .ok (.iaload, 1) := by decide +kernel
theorem dX4_stir_63 : decode cX4_stir 63 = .ok (.ireturn, 1) := by decide +kernel
theorem dX4_wed_0 : decode cX4_wed 0 = .ok (.aload_n 0, 1) := by decide +kernel
theorem dX4_wed_1 : decode cX4_wed 1 = .ok (.iload_n 1, 1) := by decide +kernel
theorem dX4_wed_2 : decode cX4_wed 2 = .ok (.invokevirtual 65, 3) := by decide +kernel
theorem dX4_wed_5 : decode cX4_wed 5 = .ok (.ifCond .ne 5, 3) := by decide +kernel
theorem dX4_wed_8 : decode cX4_wed 8 = .ok (.iconst (-1), 1) := by decide +kernel
theorem dX4_wed_9 : decode cX4_wed 9 = .ok (.ireturn, 1) := by decide +kernel
theorem dX4_wed_10 : decode cX4_wed 10 = .ok (.aload_n 0, 1) := by decide +kernel
theorem dX4_wed_11 : decode cX4_wed 11 = .ok (.getfield 10, 3) := by decide +kernel
theorem dX4_wed_14 : decode cX4_wed 14 = .ok (.iload_n 1, 1) := by decide +kernel
theorem dX4_wed_15 : decode cX4_wed 15 = .ok (.invokevirtual 82, 3) := by decide +kernel
theorem dX4_wed_18 : decode cX4_wed 18 = .ok (.ifCond .eq 6, 3) := by decide +kernel
theorem dX4_wed_21 : decode cX4_wed 21 = .ok (.bipush (-2), 2) := by decide +kernel
theorem dX4_wed_23 : decode cX4_wed 23 = .ok (.ireturn, 1) := by decide +kernel
theorem dX4_wed_24 : decode cX4_wed 24 = .ok (.aload_n 0, 1) := by decide +kernel
theorem dX4_wed_25 : decode cX4_wed 25 = .ok (.getfield 19, 3) := by decide +kernel
theorem dX4_wed_28 : decode cX4_wed 28 = .ok (.aload_n 0, 1) := by decide +kernel
theorem dX4_wed_29 : decode cX4_wed 29 = .ok (.getfield 10, 3) := by decide +kernel
theorem dX4_wed_32 : decode cX4_wed 32 = .ok (.invokevirtual 127, 3) := by decide +kernel
theorem dX4_wed_35 : decode cX4_wed 35 = .ok (.aload_n 0, 1) := by decide +kernel
theorem dX4_wed_36 : decode cX4_wed 36 = .ok (.getfield 10, 3) := by decide +kernel
theorem dX4_wed_39 : decode cX4_wed 39 = .ok (.iload_n 1, 1) := by decide +kernel
theorem dX4_wed_40 : decode cX4_wed 40 = .ok (.invokevirtual 140, 3) := by decide +kernel
theorem dX4_wed_43 : decode cX4_wed 43 = .ok (.aload_n 0, 1) := by decide +kernel
theorem dX4_wed_44 : decode cX4_wed 44 = .ok (.getfield 10, 3) := by decide +kernel
theorem dX4_wed_47 : decode cX4_wed 47 = .ok (.invokevirtual 113, 3) := by decide +kernel
theorem dX4_wed_50 : decode cX4_wed 50 = .ok (.ireturn, 1) := by decide +kernel
theorem dX4_drift_0 : decode cX4_drift 0 = .ok (.iload_n 1, 1) := by decide +kernel
theorem dX4_drift_1 : decode cX4_drift 1 = .ok (.iconst 1, 1) := by decide +kernel
theorem dX4_drift_2 : decode cX4_drift 2 = .ok (.bipush 40, 2) := by decide +kernel
theorem dX4_drift_4 : decode cX4_drift 4 = .ok (.invokestatic 50, 3) := by decide +kernel
theorem dX4_drift_7 : decode cX4_drift 7 = .ok (.ifCond .ne 5, 3) := by decide +kernel
theorem dX4_drift_10 : decode cX4_drift 10 = .ok (.iconst (-1), 1) := by decide +kernel
theorem dX4_drift_11 : decode cX4_drift 11 = .ok (.ireturn, 1) := by decide +kernel
theorem dX4_drift_12 : decode cX4_drift 12 = .ok (.aload_n 0, 1) := by decide +kernel
theorem dX4_drift_13 : decode cX4_drift 13 = .ok (.getfield 10, 3) := by decide +kernel
theorem dX4_drift_16 : decode cX4_drift 16 = .ok (.getfield 110, 3) := by decide +kernel
theorem dX4_drift_19 : decode cX4_drift 19 = .ok (.iload_n 1, 1) := by decide +kernel
theorem dX4_drift_20 : decode cX4_drift 20 = .ok (.iadd, 1) := by decide +kernel
theorem dX4_drift_21 : decode cX4_drift 21 = .ok (.sipush 9999, 3) := by decide +kernel
theorem dX4_drift_24 : decode cX4_drift 24 = .ok (.if_icmp .le 6, 3) := by decide +kernel
theorem dX4_drift_27 : decode cX4_drift 27 = .ok (.bipush (-3), 2) := by decide +kernel
theorem dX4_drift_29 : decode cX4_drift 29 = .ok (.ireturn, 1) := by decide +kernel
theorem dX4_drift_30 : decode cX4_drift 30 = .ok (.iconst 0, 1) := by decide +kernel
theorem dX4_drift_31 : decode cX4_drift 31 = .ok (.istore_n 2, 1) := by decide +kernel
theorem dX4_drift_32 : decode cX4_drift 32 = .ok (.iload_n 2, 1) := by decide +kernel
theorem dX4_drift_33 : decode cX4_drift 33 = .ok (.iload_n 1, 1) := by decide +kernel
theorem dX4_drift_34 : decode cX4_drift 34 = .ok (.if_icmp .ge 34, 3) := by decide +kernel
theorem dX4_drift_37 : decode cX4_drift 37 = .ok (.aload_n 0, 1) := by decide +kernel
theorem dX4_drift_38 : decode cX4_drift 38 = .ok (.getfield 19, 3) := by decide +kernel
theorem dX4_drift_41 : decode cX4_drift 41 = .ok (.aload_n 0, 1) := by decide +kernel
theorem dX4_drift_42 : decode cX4_drift 42 = .ok (.getfield 10, 3) := by decide +kernel
theorem dX4_drift_45 : decode cX4_drift 45 = .ok (.invokevirtual 127, 3) := by decide +kernel
theorem dX4_drift_48 : decode cX4_drift 48 = .ok (.aload_n 0, 1) := by decide +kernel
theorem dX4_drift_49 : decode cX4_drift 49 = .ok (.getfield 10, 3) := by decide +kernel
theorem dX4_drift_52 : decode cX4_drift 52 = .ok (.invokevirtual 144, 3) := by decide +kernel
theorem dX4_drift_55 : decode cX4_drift 55 = .ok (.aload_n 0, 1) := by decide +kernel
theorem dX4_drift_56 : decode cX4_drift 56 = .ok (.getfield 10, 3) := by decide +kernel
theorem dX4_drift_59 : decode cX4_drift 59 = .ok (.invokevirtual 130, 3) := by decide +kernel
theorem dX4_drift_62 : decode cX4_drift 62 = .ok (.iinc 2 1, 3) := by decide +kernel
theorem dX4_drift_65 : decode cX4_drift 65 = .ok (.goto (-33), 3) := by decide +kernel
theorem dX4_drift_68 : decode cX4_drift 68 = .ok (.aload_n 0, 1) := by decide +kernel
theorem dX4_drift_69 : decode cX4_drift 69 = .ok (.getfield 10, 3) := by decide +kernel
theorem dX4_drift_72 : decode cX4_drift 72 = .ok (.invokevirtual 113, 3) := by decide +kernel
theorem dX4_drift_75 : decode cX4_drift 75 = .ok (.ireturn, 1) := by decide +kernel
theorem dX4_undo_0 : decode cX4_undo 0 = .ok (.aload_n 0, 1) := by decide +kernel
theorem dX4_undo_1 : decode cX4_undo 1 = .ok (.getfield 19, 3) := by decide +kernel
theorem dX4_undo_4 : decode cX4_undo 4 = .ok (.getfield 126, 3) := by decide +kernel
theorem dX4_undo_7 : decode cX4_undo 7 = .ok (.ifCond .gt 6, 3) := by decide +kernel
theorem dX4_undo_10 : decode cX4_undo 10 = .ok (.bipush (-4), 2) := by decide +kernel
theorem dX4_undo_12 : decode cX4_undo 12 = .ok (.ireturn, 1) := by decide +kernel
theorem dX4_undo_13 : decode cX4_undo 13 = .ok (.aload_n 0, 1) := by decide +kernel
theorem dX4_undo_14 : decode cX4_undo 14 = .ok (.getfield 19, 3) := by decide +kernel
theorem dX4_undo_17 : decode cX4_undo 17 = .ok (.aload_n 0, 1) := by decide +kernel
theorem dX4_undo_18 : decode cX4_undo 18 = .ok (.getfield 10, 3) := by decide +kernel
theorem dX4_undo_21 : decode cX4_undo 21 = .ok (.invokevirtual 147, 3) := by decide +kernel
theorem dX4_undo_24 : decode cX4_undo 24 = .ok (.aload_n 0, 1) := by decide +kernel
theorem dX4_undo_25 : decode cX4_undo 25 = .ok (.getfield 19, 3) := by decide +kernel
theorem dX4_undo_28 : decode cX4_undo 28 = .ok (.getfield 126, 3) := by decide +kernel
theorem dX4_undo_31 : decode cX4_undo 31 = .ok (.ireturn, 1) := by decide +kernel
theorem dX4_seed_0 : decode cX4_seed 0 = .ok (.iload_n 1, 1) := by decide +kernel
theorem dX4_seed_1 : decode cX4_seed 1 = .ok (.ifCond .ge 5, 3) := by decide +kernel
theorem dX4_seed_4 : decode cX4_seed 4 = .ok (.iconst (-1), 1) := by decide +kernel
theorem dX4_seed_5 : decode cX4_seed 5 = .ok (.ireturn, 1) := by decide +kernel
theorem dX4_seed_6 : decode cX4_seed 6 = .ok (.aload_n 0, 1) := by decide +kernel
theorem dX4_seed_7 : decode cX4_seed 7 = .ok (.getfield 10, 3) := by decide +kernel
theorem dX4_seed_10 : decode cX4_seed 10 = .ok (.getfield 103, 3) := by decide +kernel
theorem dX4_seed_13 : decode cX4_seed 13 = .ok (.istore_n 2, 1) := by decide +kernel
theorem dX4_seed_14 : decode cX4_seed 14 = .ok (.aload_n 0, 1) := by decide +kernel
theorem dX4_seed_15 : decode cX4_seed 15 = .ok (.getfield 10, 3) := by decide +kernel
theorem dX4_seed_18 : decode cX4_seed 18 = .ok (.iload_n 1, 1) := by decide +kernel
theorem dX4_seed_19 : decode cX4_seed 19 = .ok (.putfield 103, 3) := by decide +kernel
theorem dX4_seed_22 : decode cX4_seed 22 = .ok (.iload_n 2, 1) := by decide +kernel
theorem dX4_seed_23 : decode cX4_seed 23 = .ok (.ireturn, 1) := by decide +kernel
theorem dX4_keys_0 : decode cX4_keys 0 = .ok (.iload_n 1, 1) := by decide +kernel
theorem dX4_keys_1 : decode cX4_keys 1 = .ok (.iconst 0, 1) := by decide +kernel
theorem dX4_keys_2 : decode cX4_keys 2 = .ok (.bipush 60, 2) := by decide +kernel
theorem dX4_keys_4 : decode cX4_keys 4 = .ok (.invokestatic 50, 3) := by decide +kernel
theorem dX4_keys_7 : decode cX4_keys 7 = .ok (.ifCond .ne 5, 3) := by decide +kernel
theorem dX4_keys_10 : decode cX4_keys 10 = .ok (.iconst (-1), 1) := by decide +kernel
theorem dX4_keys_11 : decode cX4_keys 11 = .ok (.ireturn, 1) := by decide +kernel
theorem dX4_keys_12 : decode cX4_keys 12 = .ok (.aload_n 0, 1) := by decide +kernel
theorem dX4_keys_13 : decode cX4_keys 13 = .ok (.getfield 42, 3) := by decide +kernel
theorem dX4_keys_16 : decode cX4_keys 16 = .ok (.aload_n 0, 1) := by decide +kernel
theorem dX4_keys_17 : decode cX4_keys 17 = .ok (.getfield 10, 3) := by decide +kernel
theorem dX4_keys_20 : decode cX4_keys 20 = .ok (.invokevirtual 106, 3) := by decide +kernel
theorem dX4_keys_23 : decode cX4_keys 23 = .ok (.aload_n 0, 1) := by decide +kernel
theorem dX4_keys_24 : decode cX4_keys 24 = .ok (.getfield 42, 3) := by decide +kernel
theorem dX4_keys_27 : decode cX4_keys 27 = .ok (.iload_n 1, 1) := by decide +kernel
theorem dX4_keys_28 : decode cX4_keys 28 = .ok (.invokevirtual 150, 3) := by decide +kernel
theorem dX4_keys_31 : decode cX4_keys 31 = .ok (.aload_n 0, 1) := by decide +kernel
theorem dX4_keys_32 : decode cX4_keys 32 = .ok (.getfield 42, 3) := by decide +kernel
theorem dX4_keys_35 : decode cX4_keys 35 = .ok (.invokevirtual 113, 3) := by decide +kernel
theorem dX4_keys_38 : decode cX4_keys 38 = .ok (.ireturn, 1) := by decide +kernel
theorem dX4_ahead_0 : decode cX4_ahead 0 = .ok (.aload_n 0, 1) := by decide +kernel
theorem dX4_ahead_1 : decode cX4_ahead 1 = .ok (.iload_n 1, 1) := by decide +kernel
theorem dX4_ahead_2 : decode cX4_ahead 2 = .ok (.invokevirtual 65, 3) := by decide +kernel
theorem dX4_ahead_5 : decode cX4_ahead 5 = .ok (.ifCond .eq 13, 3) := by decide +kernel
theorem dX4_ahead_8 : decode cX4_ahead 8 = .ok (.iload_n 2, 1) := by decide +kernel
theorem dX4_ahead_9 : decode cX4_ahead 9 = .ok (.iconst 0, 1) := by decide +kernel
theorem dX4_ahead_10 : decode cX4_ahead 10 = .ok (.bipush 60, 2) := by decide +kernel
theorem dX4_ahead_12 : decode cX4_ahead 12 = .ok (.invokestatic 50, 3) := by decide +kernel
theorem dX4_ahead_15 : decode cX4_ahead 15 = .ok (.ifCond .ne 5, 3) := by decide +kernel
theorem dX4_ahead_18 : decode cX4_ahead 18 = .ok (.iconst (-1), 1) := by decide +kernel
theorem dX4_ahead_19 : decode cX4_ahead 19 = .ok (.ireturn, 1) := by decide +kernel
theorem dX4_ahead_20 : decode cX4_ahead 20 = .ok (.aload_n 0, 1) := by decide +kernel
theorem dX4_ahead_21 : decode cX4_ahead 21 = .ok (.getfield 42, 3) := by decide +kernel
theorem dX4_ahead_24 : decode cX4_ahead 24 = .ok (.aload_n 0, 1) := by decide +kernel
theorem dX4_ahead_25 : decode cX4_ahead 25 = .ok (.getfield 10, 3) := by decide +kernel
theorem dX4_ahead_28 : decode cX4_ahead 28 = .ok (.invokevirtual 106, 3) := by decide +kernel
theorem dX4_ahead_31 : decode cX4_ahead 31 = .ok (.aload_n 0, 1) := by decide +kernel
theorem dX4_ahead_32 : decode cX4_ahead 32 = .ok (.getfield 42, 3) := by decide +kernel
theorem dX4_ahead_35 : decode cX4_ahead 35 = .ok (.iload_n 2, 1) := by decide +kernel
theorem dX4_ahead_36 : decode cX4_ahead 36 = .ok (.invokevirtual 150, 3) := by decide +kernel
theorem dX4_ahead_39 : decode cX4_ahead 39 = .ok (.aload_n 0, 1) := by decide +kernel
theorem dX4_ahead_40 : decode cX4_ahead 40 = .ok (.getfield 42, 3) := by decide +kernel
theorem dX4_ahead_43 : decode cX4_ahead 43 = .ok (.getfield 79, 3) := by decide +kernel
theorem dX4_ahead_46 : decode cX4_ahead 46 = .ok (.iload_n 1, 1) := by decide +kernel
theorem dX4_ahead_47 : decode cX4_ahead 47 = .ok (.iaload, 1) := by decide +kernel
theorem dX4_ahead_48 : decode cX4_ahead 48 = .ok (.ireturn, 1) := by decide +kernel
theorem dX4_then_0 : decode cX4_then 0 = .ok (.iload_n 1, 1) := by decide +kernel
theorem dX4_then_1 : decode cX4_then 1 = .ok (.iconst 0, 1) := by decide +kernel
theorem dX4_then_2 : decode cX4_then 2 = .ok (.bipush 60, 2) := by decide +kernel
theorem dX4_then_4 : decode cX4_then 4 = .ok (.invokestatic 50, 3) := by decide +kernel
theorem dX4_then_7 : decode cX4_then 7 = .ok (.ifCond .ne 5, 3) := by decide +kernel
theorem dX4_then_10 : decode cX4_then 10 = .ok (.iconst (-1), 1) := by decide +kernel
theorem dX4_then_11 : decode cX4_then 11 = .ok (.ireturn, 1) := by decide +kernel
theorem dX4_then_12 : decode cX4_then 12 = .ok (.aload_n 0, 1) := by decide +kernel
theorem dX4_then_13 : decode cX4_then 13 = .ok (.getfield 42, 3) := by decide +kernel
theorem dX4_then_16 : decode cX4_then 16 = .ok (.aload_n 0, 1) := by decide +kernel
theorem dX4_then_17 : decode cX4_then 17 = .ok (.getfield 10, 3) := by decide +kernel
theorem dX4_then_20 : decode cX4_then 20 = .ok (.invokevirtual 106, 3) := by decide +kernel
theorem dX4_then_23 : decode cX4_then 23 = .ok (.aload_n 0, 1) := by decide +kernel
theorem dX4_then_24 : decode cX4_then 24 = .ok (.getfield 42, 3) := by decide +kernel
theorem dX4_then_27 : decode cX4_then 27 = .ok (.iload_n 1, 1) := by decide +kernel
theorem dX4_then_28 : decode cX4_then 28 = .ok (.invokevirtual 150, 3) := by decide +kernel
theorem dX4_then_31 : decode cX4_then 31 = .ok (.aload_n 0, 1) := by decide +kernel
theorem dX4_then_32 : decode cX4_then 32 = .ok (.getfield 42, 3) := by decide +kernel
theorem dX4_then_35 : decode cX4_then 35 = .ok (.getfield 120, 3) := by decide +kernel
theorem dX4_then_38 : decode cX4_then 38 = .ok (.ireturn, 1) := by decide +kernel
theorem dX4_rises_0 : decode cX4_rises 0 = .ok (.aload_n 0, 1) := by decide +kernel
theorem dX4_rises_1 : decode cX4_rises 1 = .ok (.iload_n 1, 1) := by decide +kernel
theorem dX4_rises_2 : decode cX4_rises 2 = .ok (.invokevirtual 65, 3) := by decide +kernel
theorem dX4_rises_5 : decode cX4_rises 5 = .ok (.ifCond .eq 12, 3) := by decide +kernel
theorem dX4_rises_8 : decode cX4_rises 8 = .ok (.iload_n 2, 1) := by decide +kernel
theorem dX4_rises_9 : decode cX4_rises 9 = .ok (.iconst 0, 1) := by decide +kernel
theorem dX4_rises_10 : decode cX4_rises 10 = .ok (.iconst 1, 1) := by decide +kernel
theorem dX4_rises_11 : decode cX4_rises 11 = .ok (.invokestatic 50, 3) := by decide +kernel
theorem dX4_rises_14 : decode cX4_rises 14 = .ok (.ifCond .ne 5, 3) := by decide +kernel
theorem dX4_rises_17 : decode cX4_rises 17 = .ok (.iconst (-1), 1) := by decide +kernel
theorem dX4_rises_18 : decode cX4_rises 18 = .ok (.ireturn, 1) := by decide +kernel
theorem dX4_rises_19 : decode cX4_rises 19 = .ok (.iload_n 2, 1) := by decide +kernel
theorem dX4_rises_20 : decode cX4_rises 20 = .ok (.ifCond .ne 11, 3) := by decide +kernel
theorem dX4_rises_23 : decode cX4_rises 23 = .ok (.aload_n 0, 1) := by decide +kernel
theorem dX4_rises_24 : decode cX4_rises 24 = .ok (.iload_n 1, 1) := by decide +kernel
theorem dX4_rises_25 : decode cX4_rises 25 = .ok (.invokevirtual 153, 3) := by decide +kernel
theorem dX4_rises_28 : decode cX4_rises 28 = .ok (.goto 8, 3) := by decide +kernel
theorem dX4_rises_31 : decode cX4_rises 31 = .ok (.aload_n 0, 1) := by decide +kernel
theorem dX4_rises_32 : decode cX4_rises 32 = .ok (.iload_n 1, 1) := by decide +kernel
theorem dX4_rises_33 : decode cX4_rises 33 = .ok (.invokevirtual 156, 3) := by decide +kernel
theorem dX4_rises_36 : decode cX4_rises 36 = .ok (.ireturn, 1) := by decide +kernel
theorem dX4_parts_0 : decode cX4_parts 0 = .ok (.aload_n 0, 1) := by decide +kernel
theorem dX4_parts_1 : decode cX4_parts 1 = .ok (.iload_n 1, 1) := by decide +kernel
theorem dX4_parts_2 : decode cX4_parts 2 = .ok (.invokevirtual 65, 3) := by decide +kernel
theorem dX4_parts_5 : decode cX4_parts 5 = .ok (.ifCond .ne 5, 3) := by decide +kernel
theorem dX4_parts_8 : decode cX4_parts 8 = .ok (.iconst (-1), 1) := by decide +kernel
theorem dX4_parts_9 : decode cX4_parts 9 = .ok (.ireturn, 1) := by decide +kernel
theorem dX4_parts_10 : decode cX4_parts 10 = .ok (.aload_n 0, 1) := by decide +kernel
theorem dX4_parts_11 : decode cX4_parts 11 = .ok (.getfield 10, 3) := by decide +kernel
theorem dX4_parts_14 : decode cX4_parts 14 = .ok (.iload_n 1, 1) := by decide +kernel
theorem dX4_parts_15 : decode cX4_parts 15 = .ok (.invokevirtual 82, 3) := by decide +kernel
theorem dX4_parts_18 : decode cX4_parts 18 = .ok (.ifCond .ne 6, 3) := by decide +kernel
theorem dX4_parts_21 : decode cX4_parts 21 = .ok (.bipush (-4), 2) := by decide +kernel
theorem dX4_parts_23 : decode cX4_parts 23 = .ok (.ireturn, 1) := by decide +kernel
theorem dX4_parts_24 : decode cX4_parts 24 = .ok (.aload_n 0, 1) := by decide +kernel
theorem dX4_parts_25 : decode cX4_parts 25 = .ok (.getfield 42, 3) := by decide +kernel
theorem dX4_parts_28 : decode cX4_parts 28 = .ok (.aload_n 0, 1) := by decide +kernel
theorem dX4_parts_29 : decode cX4_parts 29 = .ok (.getfield 10, 3) := by decide +kernel
theorem dX4_parts_32 : decode cX4_parts 32 = .ok (.invokevirtual 106, 3) := by decide +kernel
theorem dX4_parts_35 : decode cX4_parts 35 = .ok (.iconst 1, 1) := by decide +kernel
theorem dX4_parts_36 : decode cX4_parts 36 = .ok (.istore_n 2, 1) := by decide +kernel
theorem dX4_parts_37 : decode cX4_parts 37 = .ok (.iload_n 2, 1) := by decide +kernel
theorem dX4_parts_38 : decode cX4_parts 38 = .ok (.bipush 60, 2) := by decide +kernel
theorem dX4_parts_40 : decode cX4_parts 40 = .ok (.if_icmp .gt 29, 3) := by decide +kernel
theorem dX4_parts_43 : decode cX4_parts 43 = .ok (.aload_n 0, 1) := by decide +kernel
theorem dX4_parts_44 : decode cX4_parts 44 = .ok (.getfield 42, 3) := by decide +kernel
theorem dX4_parts_47 : decode cX4_parts 47 = .ok (.invokevirtual 130, 3) := by decide +kernel
theorem dX4_parts_50 : decode cX4_parts 50 = .ok (.aload_n 0, 1) := by decide +kernel
theorem dX4_parts_51 : decode cX4_parts 51 = .ok (.getfield 42, 3) := by decide +kernel
theorem dX4_parts_54 : decode cX4_parts 54 = .ok (.iload_n 1, 1) := by decide +kernel
theorem dX4_parts_55 : decode cX4_parts 55 = .ok (.invokevirtual 82, 3) := by decide +kernel
theorem dX4_parts_58 : decode cX4_parts 58 = .ok (.ifCond .ne 5, 3) := by decide +kernel
theorem dX4_parts_61 : decode cX4_parts 61 = .ok (.iload_n 2, 1) := by decide +kernel
theorem dX4_parts_62 : decode cX4_parts 62 = .ok (.ireturn, 1) := by decide +kernel
theorem dX4_parts_63 : decode cX4_parts 63 = .ok (.iinc 2 1, 3) := by decide +kernel
theorem dX4_parts_66 : decode cX4_parts 66 = .ok (.goto (-29), 3) := by decide +kernel
theorem dX4_parts_69 : decode cX4_parts 69 = .ok (.bipush (-4), 2) := by decide +kernel
theorem dX4_parts_71 : decode cX4_parts 71 = .ok (.ireturn, 1) := by decide +kernel
theorem dX4_ever_0 : decode cX4_ever 0 = .ok (.iconst 0, 1) := by decide +kernel
theorem dX4_ever_1 : decode cX4_ever 1 = .ok (.istore_n 1, 1) := by decide +kernel
theorem dX4_ever_2 : decode cX4_ever 2 = .ok (.aload_n 0, 1) := by decide +kernel
theorem dX4_ever_3 : decode cX4_ever 3 = .ok (.getfield 42, 3) := by decide +kernel
theorem dX4_ever_6 : decode cX4_ever 6 = .ok (.aload_n 0, 1) := by decide +kernel
theorem dX4_ever_7 : decode cX4_ever 7 = .ok (.getfield 10, 3) := by decide +kernel
theorem dX4_ever_10 : decode cX4_ever 10 = .ok (.invokevirtual 106, 3) := by decide +kernel
theorem dX4_ever_13 : decode cX4_ever 13 = .ok (.iconst 0, 1) := by decide +kernel
theorem dX4_ever_14 : decode cX4_ever 14 = .ok (.istore_n 2, 1) := by decide +kernel
theorem dX4_ever_15 : decode cX4_ever 15 = .ok (.iload_n 2, 1) := by decide +kernel
theorem dX4_ever_16 : decode cX4_ever 16 = .ok (.bipush 60, 2) := by decide +kernel
theorem dX4_ever_18 : decode cX4_ever 18 = .ok (.if_icmp .gt 34, 3) := by decide +kernel
theorem dX4_ever_21 : decode cX4_ever 21 = .ok (.aload_n 0, 1) := by decide +kernel
theorem dX4_ever_22 : decode cX4_ever 22 = .ok (.getfield 42, 3) := by decide +kernel
theorem dX4_ever_25 : decode cX4_ever 25 = .ok (.invokevirtual 113, 3) := by decide +kernel
theorem dX4_ever_28 : decode cX4_ever 28 = .ok (.istore_n 3, 1) := by decide +kernel
theorem dX4_ever_29 : decode cX4_ever 29 = .ok (.iload_n 3, 1) := by decide +kernel
theorem dX4_ever_30 : decode cX4_ever 30 = .ok (.ifCond .lt 9, 3) := by decide +kernel
theorem dX4_ever_33 : decode cX4_ever 33 = .ok (.iload_n 1, 1) := by decide +kernel
theorem dX4_ever_34 : decode cX4_ever 34 = .ok (.iconst 1, 1) := by decide +kernel
theorem dX4_ever_35 : decode cX4_ever 35 = .ok (.iload_n 3, 1) := by decide +kernel
theorem dX4_ever_36 : decode cX4_ever 36 = .ok (.ishl, 1) := by decide +kernel
theorem dX4_ever_37 : decode cX4_ever 37 = .ok (.ior, 1) := by decide +kernel
theorem dX4_ever_38 : decode cX4_ever 38 = .ok (.istore_n 1, 1) := by decide +kernel
theorem dX4_ever_39 : decode cX4_ever 39 = .ok (.aload_n 0, 1) := by decide +kernel
theorem dX4_ever_40 : decode cX4_ever 40 = .ok (.getfield 42, 3) := by decide +kernel
theorem dX4_ever_43 : decode cX4_ever 43 = .ok (.invokevirtual 130, 3) := by decide +kernel
theorem dX4_ever_46 : decode cX4_ever 46 = .ok (.iinc 2 1, 3) := by decide +kernel
theorem dX4_ever_49 : decode cX4_ever 49 = .ok (.goto (-34), 3) := by decide +kernel
theorem dX4_ever_52 : decode cX4_ever 52 = .ok (.iload_n 1, 1) := by decide +kernel
theorem dX4_ever_53 : decode cX4_ever 53 = .ok (.ireturn, 1) := by decide +kernel
theorem dX4_rivals_0 : decode cX4_rivals 0 = .ok (.aload_n 0, 1) := by decide +kernel
theorem dX4_rivals_1 : decode cX4_rivals 1 = .ok (.iload_n 1, 1) := by decide +kernel
theorem dX4_rivals_2 : decode cX4_rivals 2 = .ok (.invokevirtual 65, 3) := by decide +kernel
theorem dX4_rivals_5 : decode cX4_rivals 5 = .ok (.ifCond .eq 22, 3) := by decide +kernel
theorem dX4_rivals_8 : decode cX4_rivals 8 = .ok (.iload_n 2, 1) := by decide +kernel
theorem dX4_rivals_9 : decode cX4_rivals 9 = .ok (.iconst 0, 1) := by decide +kernel
theorem dX4_rivals_10 : decode cX4_rivals 10 = .ok (.bipush 40, 2) := by decide +kernel
theorem dX4_rivals_12 : decode cX4_rivals 12 = .ok (.invokestatic 50, 3) := by decide +kernel
theorem dX4_rivals_15 : decode cX4_rivals 15 = .ok (.ifCond .eq 12, 3) := by decide +kernel
theorem dX4_rivals_18 : decode cX4_rivals 18 = .ok (.iload_n 3, 1) := by decide +kernel
theorem dX4_rivals_19 : decode cX4_rivals 19 = .ok (.iconst 0, 1) := by decide +kernel
theorem dX4_rivals_20 : decode cX4_rivals 20 = .ok (.iconst 1, 1) := by decide +kernel
theorem dX4_rivals_21 : decode cX4_rivals 21 = .ok (.invokestatic 50, 3) := by decide +kernel
theorem dX4_rivals_24 : decode cX4_rivals 24 = .ok (.ifCond .ne 5, 3) := by decide +kernel
theorem dX4_rivals_27 : decode cX4_rivals 27 = .ok (.iconst (-1), 1) := by decide +kernel
theorem dX4_rivals_28 : decode cX4_rivals 28 = .ok (.ireturn, 1) := by decide +kernel
theorem dX4_rivals_29 : decode cX4_rivals 29 = .ok (.aload_n 0, 1) := by decide +kernel
theorem dX4_rivals_30 : decode cX4_rivals 30 = .ok (.iload_n 1, 1) := by decide +kernel
theorem dX4_rivals_31 : decode cX4_rivals 31 = .ok (.iload_n 2, 1) := by decide +kernel
theorem dX4_rivals_32 : decode cX4_rivals 32 = .ok (.invokevirtual 159, 3) := by decide +kernel
theorem dX4_rivals_35 : decode cX4_rivals 35 = .ok (.istore 4, 2) := by decide +kernel
theorem dX4_rivals_37 : decode cX4_rivals 37 = .ok (.iload 4, 2) := by decide +kernel
theorem dX4_rivals_39 : decode cX4_rivals 39 = .ok (.ifCond .ge 6, 3) := by decide +kernel
theorem dX4_rivals_42 : decode cX4_rivals 42 = .ok (.bipush (-4), 2) := by decide +kernel
theorem dX4_rivals_44 : decode cX4_rivals 44 = .ok (.ireturn, 1) := by decide +kernel
theorem dX4_rivals_45 : decode cX4_rivals 45 = .ok (.iload_n 3, 1) := by decide +kernel
theorem dX4_rivals_46 : decode cX4_rivals 46 = .ok (.ifCond .ne 11, 3) := by decide +kernel
theorem dX4_rivals_49 : decode cX4_rivals 49 = .ok (.iload 4, 2) := by decide +kernel
theorem dX4_rivals_51 : decode cX4_rivals 51 = .ok (.invokestatic 163, 3) := by decide +kernel
theorem dX4_rivals_54 : decode cX4_rivals 54 = .ok (.goto 5, 3) := by decide +kernel
theorem dX4_rivals_57 : decode cX4_rivals 57 = .ok (.iload 4, 2) := by decide +kernel
theorem dX4_rivals_59 : decode cX4_rivals 59 = .ok (.ireturn, 1) := by decide +kernel
theorem dX4_needs_0 : decode cX4_needs 0 = .ok (.aload_n 0, 1) := by decide +kernel
theorem dX4_needs_1 : decode cX4_needs 1 = .ok (.iload_n 1, 1) := by decide +kernel
theorem dX4_needs_2 : decode cX4_needs 2 = .ok (.invokevirtual 65, 3) := by decide +kernel
theorem dX4_needs_5 : decode cX4_needs 5 = .ok (.ifCond .eq 13, 3) := by decide +kernel
theorem dX4_needs_8 : decode cX4_needs 8 = .ok (.iload_n 2, 1) := by decide +kernel
theorem dX4_needs_9 : decode cX4_needs 9 = .ok (.iconst 1, 1) := by decide +kernel
theorem dX4_needs_10 : decode cX4_needs 10 = .ok (.bipush 40, 2) := by decide +kernel
theorem dX4_needs_12 : decode cX4_needs 12 = .ok (.invokestatic 50, 3) := by decide +kernel
theorem dX4_needs_15 : decode cX4_needs 15 = .ok (.ifCond .ne 5, 3) := by decide +kernel
theorem dX4_needs_18 : decode cX4_needs 18 = .ok (.iconst (-1), 1) := by decide +kernel
theorem dX4_needs_19 : decode cX4_needs 19 = .ok (.ireturn, 1) := by decide +kernel
theorem dX4_needs_20 : decode cX4_needs 20 = .ok (.aload_n 0, 1) := by decide +kernel
theorem dX4_needs_21 : decode cX4_needs 21 = .ok (.getfield 10, 3) := by decide +kernel
theorem dX4_needs_24 : decode cX4_needs 24 = .ok (.iload_n 1, 1) := by decide +kernel
theorem dX4_needs_25 : decode cX4_needs 25 = .ok (.invokevirtual 82, 3) := by decide +kernel
theorem dX4_needs_28 : decode cX4_needs 28 = .ok (.ifCond .ne 6, 3) := by decide +kernel
theorem dX4_needs_31 : decode cX4_needs 31 = .ok (.bipush (-2), 2) := by decide +kernel
theorem dX4_needs_33 : decode cX4_needs 33 = .ok (.ireturn, 1) := by decide +kernel
theorem dX4_needs_34 : decode cX4_needs 34 = .ok (.iconst 0, 1) := by decide +kernel
theorem dX4_needs_35 : decode cX4_needs 35 = .ok (.istore_n 3, 1) := by decide +kernel
theorem dX4_needs_36 : decode cX4_needs 36 = .ok (.iload_n 3, 1) := by decide +kernel
theorem dX4_needs_37 : decode cX4_needs 37 = .ok (.bipush 19, 2) := by decide +kernel
theorem dX4_needs_39 : decode cX4_needs 39 = .ok (.if_icmp .gt 50, 3) := by decide +kernel
theorem dX4_needs_42 : decode cX4_needs 42 = .ok (.aload_n 0, 1) := by decide +kernel
theorem dX4_needs_43 : decode cX4_needs 43 = .ok (.getfield 42, 3) := by decide +kernel
theorem dX4_needs_46 : decode cX4_needs 46 = .ok (.aload_n 0, 1) := by decide +kernel
theorem dX4_needs_47 : decode cX4_needs 47 = .ok (.getfield 10, 3) := by decide +kernel
theorem dX4_needs_50 : decode cX4_needs 50 = .ok (.invokevirtual 106, 3) := by decide +kernel
theorem dX4_needs_53 : decode cX4_needs 53 = .ok (.aload_n 0, 1) := by decide +kernel
theorem dX4_needs_54 : decode cX4_needs 54 = .ok (.getfield 42, 3) := by decide +kernel
theorem dX4_needs_57 : decode cX4_needs 57 = .ok (.iload_n 1, 1) := by decide +kernel
theorem dX4_needs_58 : decode cX4_needs 58 = .ok (.iload_n 3, 1) := by decide +kernel
theorem dX4_needs_59 : decode cX4_needs 59 = .ok (.invokevirtual 133, 3) := by decide +kernel
theorem dX4_needs_62 : decode cX4_needs 62 = .ok (.aload_n 0, 1) := by decide +kernel
theorem dX4_needs_63 : decode cX4_needs 63 = .ok (.getfield 42, 3) := by decide +kernel
theorem dX4_needs_66 : decode cX4_needs 66 = .ok (.iload_n 2, 1) := by decide +kernel
theorem dX4_needs_67 : decode cX4_needs 67 = .ok (.invokevirtual 150, 3) := by decide +kernel
theorem dX4_needs_70 : decode cX4_needs 70 = .ok (.aload_n 0, 1) := by decide +kernel
theorem dX4_needs_71 : decode cX4_needs 71 = .ok (.getfield 42, 3) := by decide +kernel
theorem dX4_needs_74 : decode cX4_needs 74 = .ok (.iload_n 1, 1) := by decide +kernel
theorem dX4_needs_75 : decode cX4_needs 75 = .ok (.invokevirtual 82, 3) := by decide +kernel
theorem dX4_needs_78 : decode cX4_needs 78 = .ok (.ifCond .eq 5, 3) := by decide +kernel
theorem dX4_needs_81 : decode cX4_needs 81 = .ok (.iload_n 3, 1) := by decide +kernel
theorem dX4_needs_82 : decode cX4_needs 82 = .ok (.ireturn, 1) := by decide +kernel
theorem dX4_needs_83 : decode cX4_needs 83 = .ok (.iinc 3 1, 3) := by decide +kernel
theorem dX4_needs_86 : decode cX4_needs 86 = .ok (.goto (-50), 3) := by decide +kernel
theorem dX4_needs_89 : decode cX4_needs 89 = .ok (.bipush (-4), 2) := by decide +kernel
theorem dX4_needs_91 : decode cX4_needs 91 = .ok (.ireturn, 1) := by decide +kernel
theorem dX4_soothe_0 : decode cX4_soothe 0 = .ok (.iload_n 1, 1) := by decide +kernel
theorem dX4_soothe_1 : decode cX4_soothe 1 = .ok (.iconst 1, 1) := by decide +kernel
theorem dX4_soothe_2 : decode cX4_soothe 2 = .ok (.bipush 40, 2) := by decide +kernel
theorem dX4_soothe_4 : decode cX4_soothe 4 = .ok (.invokestatic 50, 3) := by decide +kernel
theorem dX4_soothe_7 : decode cX4_soothe 7 = .ok (.ifCond .eq 12, 3) := by decide +kernel
theorem dX4_soothe_10 : decode cX4_soothe 10 = .ok (.iload_n 2, 1) := by decide +kernel
theorem dX4_soothe_11 : decode cX4_soothe 11 = .ok (.iconst 0, 1) := by decide +kernel
theorem dX4_soothe_12 : decode cX4_soothe 12 = .ok (.iconst 1, 1) := by decide +kernel
theorem dX4_soothe_13 : decode cX4_soothe 13 = .ok (.invokestatic 50, 3) := by decide +kernel
theorem dX4_soothe_16 : decode cX4_soothe 16 = .ok (.ifCond .ne 5, 3) := by decide +kernel
theorem dX4_soothe_19 : decode cX4_soothe 19 = .ok (.iconst (-1), 1) := by decide +kernel
theorem dX4_soothe_20 : decode cX4_soothe 20 = .ok (.ireturn, 1) := by decide +kernel
theorem dX4_soothe_21 : decode cX4_soothe 21 = .ok (.bipush (-4), 2) := by decide +kernel
theorem dX4_soothe_23 : decode cX4_soothe 23 = .ok (.istore_n 3, 1) := by decide +kernel
theorem dX4_soothe_24 : decode cX4_soothe 24 = .ok (.bipush (-4), 2) := by decide +kernel
theorem dX4_soothe_26 : decode cX4_soothe 26 = .ok (.istore 4, 2) := by decide +kernel
theorem dX4_soothe_28 : decode cX4_soothe 28 = .ok (.iconst 0, 1) := by decide +kernel
theorem dX4_soothe_29 : decode cX4_soothe 29 = .ok (.istore 5, 2) := by decide +kernel
theorem dX4_soothe_31 : decode cX4_soothe 31 = .ok (.iload 5, 2) := by decide +kernel
theorem dX4_soothe_33 : decode cX4_soothe 33 = .ok (.aload_n 0, 1) := by decide +kernel
theorem dX4_soothe_34 : decode cX4_soothe 34 = .ok (.getfield 10, 3) := by decide +kernel
theorem dX4_soothe_37 : decode cX4_soothe 37 = .ok (.getfield 54, 3) := by decide +kernel
theorem dX4_soothe_40 : decode cX4_soothe 40 = .ok (.if_icmp .ge 49, 3) := by decide +kernel
theorem dX4_soothe_43 : decode cX4_soothe 43 = .ok (.aload_n 0, 1) := by decide +kernel
theorem dX4_soothe_44 : decode cX4_soothe 44 = .ok (.getfield 10, 3) := by decide +kernel
theorem dX4_soothe_47 : decode cX4_soothe 47 = .ok (.iload 5, 2) := by decide +kernel
theorem dX4_soothe_49 : decode cX4_soothe 49 = .ok (.invokevirtual 82, 3) := by decide +kernel
theorem dX4_soothe_52 : decode cX4_soothe 52 = .ok (.ifCond .eq 13, 3) := by decide +kernel
theorem dX4_soothe_55 : decode cX4_soothe 55 = .ok (.aload_n 0, 1) := by decide +kernel
theorem dX4_soothe_56 : decode cX4_soothe 56 = .ok (.iload 5, 2) := by decide +kernel
theorem dX4_soothe_58 : decode cX4_soothe 58 = .ok (.iload_n 1, 1) := by decide +kernel
theorem dX4_soothe_59 : decode cX4_soothe 59 = .ok (.invokevirtual 168, 3) := by decide +kernel
theorem dX4_soothe_62 : decode cX4_soothe 62 = .ok (.goto 5, 3) := by decide +kernel
theorem dX4_soothe_65 : decode cX4_soothe 65 = .ok (.bipush (-4), 2) := by decide +kernel
theorem dX4_soothe_67 : decode cX4_soothe 67 = .ok (.istore 6, 2) := by decide +kernel
theorem dX4_soothe_69 : decode cX4_soothe 69 = .ok (.iload 6, 2) := by decide +kernel
theorem dX4_soothe_71 : decode cX4_soothe 71 = .ok (.iload 4, 2) := by decide +kernel
theorem dX4_soothe_73 : decode cX4_soothe 73 = .ok (.if_icmp .le 10, 3) := by decide +kernel
theorem dX4_soothe_76 : decode cX4_soothe 76 = .ok (.iload 5, 2) := by decide +kernel
theorem dX4_soothe_78 : decode cX4_soothe 78 = .ok (.istore_n 3, 1) := by decide +kernel
theorem dX4_soothe_79 : decode cX4_soothe 79 = .ok (.iload 6, 2) := by decide +kernel
theorem dX4_soothe_81 : decode cX4_soothe 81 = .ok (.istore 4, 2) := by decide +kernel
theorem dX4_soothe_83 : decode cX4_soothe 83 = .ok (.iinc 5 1, 3) := by decide +kernel
theorem dX4_soothe_86 : decode cX4_soothe 86 = .ok (.goto (-55), 3) := by decide +kernel
theorem dX4_soothe_89 : decode cX4_soothe 89 = .ok (.iload_n 2, 1) := by decide +kernel
theorem dX4_soothe_90 : decode cX4_soothe 90 = .ok (.ifCond .ne 7, 3) := by decide +kernel
theorem dX4_soothe_93 : decode cX4_soothe 93 = .ok (.iload_n 3, 1) := by decide +kernel
theorem dX4_soothe_94 : decode cX4_soothe 94 = .ok (.goto 5, 3) := by decide +kernel
theorem dX4_soothe_97 : decode cX4_soothe 97 = .ok (.iload 4, 2) := by decide +kernel
theorem dX4_soothe_99 : decode cX4_soothe 99 = .ok (.ireturn, 1) := by decide +kernel
theorem dX4_start_0 : decode cX4_start 0 = .ok (.iload_n 1, 1) := by decide +kernel
theorem dX4_start_1 : decode cX4_start 1 = .ok (.iconst 0, 1) := by decide +kernel
theorem dX4_start_2 : decode cX4_start 2 = .ok (.bipush 60, 2) := by decide +kernel
theorem dX4_start_4 : decode cX4_start 4 = .ok (.invokestatic 50, 3) := by decide +kernel
theorem dX4_start_7 : decode cX4_start 7 = .ok (.ifCond .ne 5, 3) := by decide +kernel
theorem dX4_start_10 : decode cX4_start 10 = .ok (.iconst (-1), 1) := by decide +kernel
theorem dX4_start_11 : decode cX4_start 11 = .ok (.ireturn, 1) := by decide +kernel
theorem dX4_start_12 : decode cX4_start 12 = .ok (.iconst 0, 1) := by decide +kernel
theorem dX4_start_13 : decode cX4_start 13 = .ok (.istore_n 2, 1) := by decide +kernel
theorem dX4_start_14 : decode cX4_start 14 = .ok (.iload_n 2, 1) := by decide +kernel
theorem dX4_start_15 : decode cX4_start 15 = .ok (.aload_n 0, 1) := by decide +kernel
theorem dX4_start_16 : decode cX4_start 16 = .ok (.getfield 10, 3) := by decide +kernel
theorem dX4_start_19 : decode cX4_start 19 = .ok (.getfield 54, 3) := by decide +kernel
theorem dX4_start_22 : decode cX4_start 22 = .ok (.if_icmp .ge 31, 3) := by decide +kernel
theorem dX4_start_25 : decode cX4_start 25 = .ok (.aload_n 0, 1) := by decide +kernel
theorem dX4_start_26 : decode cX4_start 26 = .ok (.getfield 10, 3) := by decide +kernel
theorem dX4_start_29 : decode cX4_start 29 = .ok (.iload_n 2, 1) := by decide +kernel
theorem dX4_start_30 : decode cX4_start 30 = .ok (.invokevirtual 82, 3) := by decide +kernel
theorem dX4_start_33 : decode cX4_start 33 = .ok (.ifCond .ne 14, 3) := by decide +kernel
theorem dX4_start_36 : decode cX4_start 36 = .ok (.aload_n 0, 1) := by decide +kernel
theorem dX4_start_37 : decode cX4_start 37 = .ok (.iload_n 2, 1) := by decide +kernel
theorem dX4_start_38 : decode cX4_start 38 = .ok (.iload_n 1, 1) := by decide +kernel
theorem dX4_start_39 : decode cX4_start 39 = .ok (.invokevirtual 171, 3) := by decide +kernel
theorem dX4_start_42 : decode cX4_start 42 = .ok (.ifCond .eq 5, 3) := by decide +kernel
theorem dX4_start_45 : decode cX4_start 45 = .ok (.iload_n 2, 1) := by decide +kernel
theorem dX4_start_46 : decode cX4_start 46 = .ok (.ireturn, 1) := by decide +kernel
theorem dX4_start_47 : decode cX4_start 47 = .ok (.iinc 2 1, 3) := by decide +kernel
theorem dX4_start_50 : decode cX4_start 50 = .ok (.goto (-36), 3) := by decide +kernel
theorem dX4_start_53 : decode cX4_start 53 = .ok (.bipush (-4), 2) := by decide +kernel
theorem dX4_start_55 : decode cX4_start 55 = .ok (.ireturn, 1) := by decide +kernel
theorem dX4_sum_0 : decode cX4_sum 0 = .ok (.iload_n 1, 1) := by decide +kernel
theorem dX4_sum_1 : decode cX4_sum 1 = .ok (.iconst 1, 1) := by decide +kernel
theorem dX4_sum_2 : decode cX4_sum 2 = .ok (.bipush 40, 2) := by decide +kernel
theorem dX4_sum_4 : decode cX4_sum 4 = .ok (.invokestatic 50, 3) := by decide +kernel
theorem dX4_sum_7 : decode cX4_sum 7 = .ok (.ifCond .ne 5, 3) := by decide +kernel
theorem dX4_sum_10 : decode cX4_sum 10 = .ok (.iconst (-1), 1) := by decide +kernel
theorem dX4_sum_11 : decode cX4_sum 11 = .ok (.ireturn, 1) := by decide +kernel
theorem dX4_sum_12 : decode cX4_sum 12 = .ok (.iconst 0, 1) := by decide +kernel
theorem dX4_sum_13 : decode cX4_sum 13 = .ok (.istore_n 2, 1) := by decide +kernel
theorem dX4_sum_14 : decode cX4_sum 14 = .ok (.aload_n 0, 1) := by decide +kernel
theorem dX4_sum_15 : decode cX4_sum 15 = .ok (.getfield 42, 3) := by decide +kernel
theorem dX4_sum_18 : decode cX4_sum 18 = .ok (.aload_n 0, 1) := by decide +kernel
theorem dX4_sum_19 : decode cX4_sum 19 = .ok (.getfield 10, 3) := by decide +kernel
theorem dX4_sum_22 : decode cX4_sum 22 = .ok (.invokevirtual 106, 3) := by decide +kernel
theorem dX4_sum_25 : decode cX4_sum 25 = .ok (.iconst 0, 1) := by decide +kernel
theorem dX4_sum_26 : decode cX4_sum 26 = .ok (.istore_n 3, 1) := by decide +kernel
theorem dX4_sum_27 : decode cX4_sum 27 = .ok (.iload_n 3, 1) := by decide +kernel
theorem dX4_sum_28 : decode cX4_sum 28 = .ok (.iload_n 1, 1) := by decide +kernel
theorem dX4_sum_29 : decode cX4_sum 29 = .ok (.if_icmp .ge 43, 3) := by decide +kernel
theorem dX4_sum_32 : decode cX4_sum 32 = .ok (.aload_n 0, 1) := by decide +kernel
theorem dX4_sum_33 : decode cX4_sum 33 = .ok (.getfield 42, 3) := by decide +kernel
theorem dX4_sum_36 : decode cX4_sum 36 = .ok (.invokevirtual 113, 3) := by decide +kernel
theorem dX4_sum_39 : decode cX4_sum 39 = .ok (.istore 4, 2) := by decide +kernel
theorem dX4_sum_41 : decode cX4_sum 41 = .ok (.iload 4, 2) := by decide +kernel
theorem dX4_sum_43 : decode cX4_sum 43 = .ok (.ifCond .lt 16, 3) := by decide +kernel
theorem dX4_sum_46 : decode cX4_sum 46 = .ok (.iload_n 2, 1) := by decide +kernel
theorem dX4_sum_47 : decode cX4_sum 47 = .ok (.aload_n 0, 1) := by decide +kernel
theorem dX4_sum_48 : decode cX4_sum 48 = .ok (.getfield 42, 3) := by decide +kernel
theorem dX4_sum_51 : decode cX4_sum 51 = .ok (.getfield 79, 3) := by decide +kernel
theorem dX4_sum_54 : decode cX4_sum 54 = .ok (.iload 4, 2) := by decide +kernel
theorem dX4_sum_56 : decode cX4_sum 56 = .ok (.iaload, 1) := by decide +kernel
theorem dX4_sum_57 : decode cX4_sum 57 = .ok (.iadd, 1) := by decide +kernel
theorem dX4_sum_58 : decode cX4_sum 58 = .ok (.istore_n 2, 1) := by decide +kernel
theorem dX4_sum_59 : decode cX4_sum 59 = .ok (.aload_n 0, 1) := by decide +kernel
theorem dX4_sum_60 : decode cX4_sum 60 = .ok (.getfield 42, 3) := by decide +kernel
theorem dX4_sum_63 : decode cX4_sum 63 = .ok (.invokevirtual 130, 3) := by decide +kernel
theorem dX4_sum_66 : decode cX4_sum 66 = .ok (.iinc 3 1, 3) := by decide +kernel
theorem dX4_sum_69 : decode cX4_sum 69 = .ok (.goto (-42), 3) := by decide +kernel
theorem dX4_sum_72 : decode cX4_sum 72 = .ok (.iload_n 2, 1) := by decide +kernel
theorem dX4_sum_73 : decode cX4_sum 73 = .ok (.ireturn, 1) := by decide +kernel
theorem dX4_rows_0 : decode cX4_rows 0 = .ok (.iload_n 1, 1) := by decide +kernel
theorem dX4_rows_1 : decode cX4_rows 1 = .ok (.iconst (-1), 1) := by decide +kernel
theorem dX4_rows_2 : decode cX4_rows 2 = .ok (.if_icmp .ne 7, 3) := by decide +kernel
theorem dX4_rows_5 : decode cX4_rows 5 = .ok (.iconst 1, 1) := by decide +kernel
theorem dX4_rows_6 : decode cX4_rows 6 = .ok (.goto 4, 3) := by decide +kernel
theorem dX4_rows_9 : decode cX4_rows 9 = .ok (.iconst 0, 1) := by decide +kernel
theorem dX4_rows_10 : decode cX4_rows 10 = .ok (.istore 4, 2) := by decide +kernel
theorem dX4_rows_12 : decode cX4_rows 12 = .ok (.iload 4, 2) := by decide +kernel
theorem dX4_rows_14 : decode cX4_rows 14 = .ok (.ifCond .ne 11, 3) := by decide +kernel
theorem dX4_rows_17 : decode cX4_rows 17 = .ok (.aload_n 0, 1) := by decide +kernel
theorem dX4_rows_18 : decode cX4_rows 18 = .ok (.iload_n 1, 1) := by decide +kernel
theorem dX4_rows_19 : decode cX4_rows 19 = .ok (.invokevirtual 65, 3) := by decide +kernel
theorem dX4_rows_22 : decode cX4_rows 22 = .ok (.ifCond .eq 22, 3) := by decide +kernel
theorem dX4_rows_25 : decode cX4_rows 25 = .ok (.iload_n 2, 1) := by decide +kernel
theorem dX4_rows_26 : decode cX4_rows 26 = .ok (.iconst 0, 1) := by decide +kernel
theorem dX4_rows_27 : decode cX4_rows 27 = .ok (.bipush 10, 2) := by decide +kernel
theorem dX4_rows_29 : decode cX4_rows 29 = .ok (.invokestatic 50, 3) := by decide +kernel
theorem dX4_rows_32 : decode cX4_rows 32 = .ok (.ifCond .eq 12, 3) := by decide +kernel
theorem dX4_rows_35 : decode cX4_rows 35 = .ok (.iload_n 3, 1) := by decide +kernel
theorem dX4_rows_36 : decode cX4_rows 36 = .ok (.iconst 0, 1) := by decide +kernel
theorem dX4_rows_37 : decode cX4_rows 37 = .ok (.iconst 1, 1) := by decide +kernel
theorem dX4_rows_38 : decode cX4_rows 38 = .ok (.invokestatic 50, 3) := by decide +kernel
theorem dX4_rows_41 : decode cX4_rows 41 = .ok (.ifCond .ne 5, 3) := by decide +kernel
theorem dX4_rows_44 : decode cX4_rows 44 = .ok (.iconst (-1), 1) := by decide +kernel
theorem dX4_rows_45 : decode cX4_rows 45 = .ok (.ireturn, 1) := by decide +kernel
theorem dX4_rows_46 : decode cX4_rows 46 = .ok (.iload 4, 2) := by decide +kernel
theorem dX4_rows_48 : decode cX4_rows 48 = .ok (.ifCond .eq 7, 3) := by decide +kernel
theorem dX4_rows_51 : decode cX4_rows 51 = .ok (.iconst 1, 1) := by decide +kernel
theorem dX4_rows_52 : decode cX4_rows 52 = .ok (.goto 12, 3) := by decide +kernel
theorem dX4_rows_55 : decode cX4_rows 55 = .ok (.aload_n 0, 1) := by decide +kernel
theorem dX4_rows_56 : decode cX4_rows 56 = .ok (.getfield 10, 3) := by decide +kernel
theorem dX4_rows_59 : decode cX4_rows 59 = .ok (.iload_n 1, 1) := by decide +kernel
theorem dX4_rows_60 : decode cX4_rows 60 = .ok (.iload_n 2, 1) := by decide +kernel
theorem dX4_rows_61 : decode cX4_rows 61 = .ok (.invokevirtual 175, 3) := by decide +kernel
theorem dX4_rows_64 : decode cX4_rows 64 = .ok (.istore 5, 2) := by decide +kernel
theorem dX4_rows_66 : decode cX4_rows 66 = .ok (.iload 4, 2) := by decide +kernel
theorem dX4_rows_68 : decode cX4_rows 68 = .ok (.ifCond .eq 7, 3) := by decide +kernel
theorem dX4_rows_71 : decode cX4_rows 71 = .ok (.iconst 1, 1) := by decide +kernel
theorem dX4_rows_72 : decode cX4_rows 72 = .ok (.goto 5, 3) := by decide +kernel
theorem dX4_rows_75 : decode cX4_rows 75 = .ok (.bipush 10, 2) := by decide +kernel
theorem dX4_rows_77 : decode cX4_rows 77 = .ok (.istore 6, 2) := by decide +kernel
theorem dX4_rows_79 : decode cX4_rows 79 = .ok (.iconst 0, 1) := by decide +kernel
theorem dX4_rows_80 : decode cX4_rows 80 = .ok (.istore 7, 2) := by decide +kernel
theorem dX4_rows_82 : decode cX4_rows 82 = .ok (.iload 7, 2) := by decide +kernel
theorem dX4_rows_84 : decode cX4_rows 84 = .ok (.aload_n 0, 1) := by decide +kernel
theorem dX4_rows_85 : decode cX4_rows 85 = .ok (.getfield 10, 3) := by decide +kernel
theorem dX4_rows_88 : decode cX4_rows 88 = .ok (.getfield 54, 3) := by decide +kernel
theorem dX4_rows_91 : decode cX4_rows 91 = .ok (.if_icmp .ge 64, 3) := by decide +kernel
theorem dX4_rows_94 : decode cX4_rows 94 = .ok (.aload_n 0, 1) := by decide +kernel
theorem dX4_rows_95 : decode cX4_rows 95 = .ok (.getfield 10, 3) := by decide +kernel
theorem dX4_rows_98 : decode cX4_rows 98 = .ok (.iload 7, 2) := by decide +kernel
theorem dX4_rows_100 : decode cX4_rows 100 = .ok (.invokevirtual 82, 3) := by decide +kernel
theorem dX4_rows_103 : decode cX4_rows 103 = .ok (.ifCond .eq 46, 3) := by decide +kernel
theorem dX4_rows_106 : decode cX4_rows 106 = .ok (.iload 4, 2) := by decide +kernel
theorem dX4_rows_108 : decode cX4_rows 108 = .ok (.ifCond .ne 16, 3) := by decide +kernel
theorem dX4_rows_111 : decode cX4_rows 111 = .ok (.aload_n 0, 1) := by decide +kernel
theorem dX4_rows_112 : decode cX4_rows 112 = .ok (.getfield 10, 3) := by decide +kernel
theorem dX4_rows_115 : decode cX4_rows 115 = .ok (.iload 7, 2) := by decide +kernel
theorem dX4_rows_117 : decode cX4_rows 117 = .ok (.iload_n 1, 1) := by decide +kernel
theorem dX4_rows_118 : decode cX4_rows 118 = .ok (.invokevirtual 178, 3) := by decide +kernel
theorem dX4_rows_121 : decode cX4_rows 121 = .ok (.ifCond .eq 28, 3) := by decide +kernel
theorem dX4_rows_124 : decode cX4_rows 124 = .ok (.iload 5, 2) := by decide +kernel
theorem dX4_rows_126 : decode cX4_rows 126 = .ok (.bipush 10, 2) := by decide +kernel
theorem dX4_rows_128 : decode cX4_rows 128 = .ok (.aload_n 0, 1) := by decide +kernel
theorem dX4_rows_129 : decode cX4_rows 129 = .ok (.getfield 10, 3) := by decide +kernel
theorem dX4_rows_132 : decode cX4_rows 132 = .ok (.iload 7, 2) := by decide +kernel
theorem dX4_rows_134 : decode cX4_rows 134 = .ok (.iload_n 2, 1) := by decide +kernel
theorem dX4_rows_135 : decode cX4_rows 135 = .ok (.invokevirtual 175, 3) := by decide +kernel
theorem dX4_rows_138 : decode cX4_rows 138 = .ok (.isub, 1) := by decide +kernel
theorem dX4_rows_139 : decode cX4_rows 139 = .ok (.imul, 1) := by decide +kernel
theorem dX4_rows_140 : decode cX4_rows 140 = .ok (.istore 5, 2) := by decide +kernel
theorem dX4_rows_142 : decode cX4_rows 142 = .ok (.iload 6, 2) := by decide +kernel
theorem dX4_rows_144 : decode cX4_rows 144 = .ok (.bipush 10, 2) := by decide +kernel
theorem dX4_rows_146 : decode cX4_rows 146 = .ok (.imul, 1) := by decide +kernel
theorem dX4_rows_147 : decode cX4_rows 147 = .ok (.istore 6, 2) := by decide +kernel
theorem dX4_rows_149 : decode cX4_rows 149 = .ok (.iinc 7 1, 3) := by decide +kernel
theorem dX4_rows_152 : decode cX4_rows 152 = .ok (.goto (-70), 3) := by decide +kernel
theorem dX4_rows_155 : decode cX4_rows 155 = .ok (.iload 5, 2) := by decide +kernel
theorem dX4_rows_157 : decode cX4_rows 157 = .ok (.iload 6, 2) := by decide +kernel
theorem dX4_rows_159 : decode cX4_rows 159 = .ok (.invokestatic 181, 3) := by decide +kernel
theorem dX4_rows_162 : decode cX4_rows 162 = .ok (.istore 7, 2) := by decide +kernel
theorem dX4_rows_164 : decode cX4_rows 164 = .ok (.iload 7, 2) := by decide +kernel
theorem dX4_rows_166 : decode cX4_rows 166 = .ok (.ifCond .gt 5, 3) := by decide +kernel
theorem dX4_rows_169 : decode cX4_rows 169 = .ok (.iconst (-1), 1) := by decide +kernel
theorem dX4_rows_170 : decode cX4_rows 170 = .ok (.ireturn, 1) := by decide +kernel
theorem dX4_rows_171 : decode cX4_rows 171 = .ok (.iload_n 3, 1) := by decide +kernel
theorem dX4_rows_172 : decode cX4_rows 172 = .ok (.ifCond .ne 11, 3) := by decide +kernel
theorem dX4_rows_175 : decode cX4_rows 175 = .ok (.iload 5, 2) := by decide +kernel
theorem dX4_rows_177 : decode cX4_rows 177 = .ok (.iload 7, 2) := by decide +kernel
theorem dX4_rows_179 : decode cX4_rows 179 = .ok (.idiv, 1) := by decide +kernel
theorem dX4_rows_180 : decode cX4_rows 180 = .ok (.goto 8, 3) := by decide +kernel
theorem dX4_rows_183 : decode cX4_rows 183 = .ok (.iload 6, 2) := by decide +kernel
theorem dX4_rows_185 : decode cX4_rows 185 = .ok (.iload 7, 2) := by decide +kernel
theorem dX4_rows_187 : decode cX4_rows 187 = .ok (.idiv, 1) := by decide +kernel
theorem dX4_rows_188 : decode cX4_rows 188 = .ok (.ireturn, 1) := by decide +kernel
theorem dX4_image_0 : decode cX4_image 0 = .ok (.aload_n 0, 1) := by decide +kernel
theorem dX4_image_1 : decode cX4_image 1 = .ok (.getfield 23, 3) := by decide +kernel
theorem dX4_image_4 : decode cX4_image 4 = .ok (.aload_n 0, 1) := by decide +kernel
theorem dX4_image_5 : decode cX4_image 5 = .ok (.getfield 10, 3) := by decide +kernel
theorem dX4_image_8 : decode cX4_image 8 = .ok (.invokevirtual 106, 3) := by decide +kernel
theorem dX4_image_11 : decode cX4_image 11 = .ok (.aload_n 0, 1) := by decide +kernel
theorem dX4_image_12 : decode cX4_image 12 = .ok (.getfield 26, 3) := by decide +kernel
theorem dX4_image_15 : decode cX4_image 15 = .ok (.aload_n 0, 1) := by decide +kernel
theorem dX4_image_16 : decode cX4_image 16 = .ok (.getfield 19, 3) := by decide +kernel
theorem dX4_image_19 : decode cX4_image 19 = .ok (.invokevirtual 184, 3) := by decide +kernel
theorem dX4_image_22 : decode cX4_image 22 = .ok (.aload_n 0, 1) := by decide +kernel
theorem dX4_image_23 : decode cX4_image 23 = .ok (.iconst 1, 1) := by decide +kernel
theorem dX4_image_24 : decode cX4_image 24 = .ok (.putfield 45, 3) := by decide +kernel
theorem dX4_image_27 : decode cX4_image 27 = .ok (.iconst 1, 1) := by decide +kernel
theorem dX4_image_28 : decode cX4_image 28 = .ok (.ireturn, 1) := by decide +kernel
theorem dX4_restore_0 : decode cX4_restore 0 = .ok (.aload_n 0, 1) := by decide +kernel
theorem dX4_restore_1 : decode cX4_restore 1 = .ok (.getfield 45, 3) := by decide +kernel
theorem dX4_restore_4 : decode cX4_restore 4 = .ok (.ifCond .ne 6, 3) := by decide +kernel
theorem dX4_restore_7 : decode cX4_restore 7 = .ok (.bipush (-4), 2) := by decide +kernel
theorem dX4_restore_9 : decode cX4_restore 9 = .ok (.ireturn, 1) := by decide +kernel
theorem dX4_restore_10 : decode cX4_restore 10 = .ok (.aload_n 0, 1) := by decide +kernel
theorem dX4_restore_11 : decode cX4_restore 11 = .ok (.getfield 10, 3) := by decide +kernel
theorem dX4_restore_14 : decode cX4_restore 14 = .ok (.aload_n 0, 1) := by decide +kernel
theorem dX4_restore_15 : decode cX4_restore 15 = .ok (.getfield 23, 3) := by decide +kernel
theorem dX4_restore_18 : decode cX4_restore 18 = .ok (.invokevirtual 106, 3) := by decide +kernel
theorem dX4_restore_21 : decode cX4_restore 21 = .ok (.aload_n 0, 1) := by decide +kernel
theorem dX4_restore_22 : decode cX4_restore 22 = .ok (.getfield 19, 3) := by decide +kernel
theorem dX4_restore_25 : decode cX4_restore 25 = .ok (.aload_n 0, 1) := by decide +kernel
theorem dX4_restore_26 : decode cX4_restore 26 = .ok (.getfield 26, 3) := by decide +kernel
theorem dX4_restore_29 : decode cX4_restore 29 = .ok (.invokevirtual 184, 3) := by decide +kernel
theorem dX4_restore_32 : decode cX4_restore 32 = .ok (.iconst 1, 1) := by decide +kernel
theorem dX4_restore_33 : decode cX4_restore 33 = .ok (.ireturn, 1) := by decide +kernel
theorem dX4_heard_0 : decode cX4_heard 0 = .ok (.aload_n 0, 1) := by decide +kernel
theorem dX4_heard_1 : decode cX4_heard 1 = .ok (.iload_n 1, 1) := by decide +kernel
theorem dX4_heard_2 : decode cX4_heard 2 = .ok (.invokevirtual 65, 3) := by decide +kernel
theorem dX4_heard_5 : decode cX4_heard 5 = .ok (.ifCond .eq 38, 3) := by decide +kernel
theorem dX4_heard_8 : decode cX4_heard 8 = .ok (.iload_n 2, 1) := by decide +kernel
theorem dX4_heard_9 : decode cX4_heard 9 = .ok (.invokestatic 187, 3) := by decide +kernel
theorem dX4_heard_12 : decode cX4_heard 12 = .ok (.ifCond .eq 31, 3) := by decide +kernel
theorem dX4_heard_15 : decode cX4_heard 15 = .ok (.iload_n 3, 1) := by decide +kernel
theorem dX4_heard_16 : decode cX4_heard 16 = .ok (.invokestatic 190, 3) := by decide +kernel
theorem dX4_heard_19 : decode cX4_heard 19 = .ok (.ifCond .eq 24, 3) := by decide +kernel
theorem dX4_heard_22 : decode cX4_heard 22 = .ok (.iload 5, 2) := by decide +kernel
theorem dX4_heard_24 : decode cX4_heard 24 = .ok (.iconst 1, 1) := by decide +kernel
theorem dX4_heard_25 : decode cX4_heard 25 = .ok (.bipush 8, 2) := by decide +kernel
theorem dX4_heard_27 : decode cX4_heard 27 = .ok (.invokestatic 50, 3) := by decide +kernel
theorem dX4_heard_30 : decode cX4_heard 30 = .ok (.ifCond .eq 13, 3) := by decide +kernel
theorem dX4_heard_33 : decode cX4_heard 33 = .ok (.iload 6, 2) := by decide +kernel
theorem dX4_heard_35 : decode cX4_heard 35 = .ok (.iconst 0, 1) := by decide +kernel
theorem dX4_heard_36 : decode cX4_heard 36 = .ok (.iconst 3, 1) := by decide +kernel
theorem dX4_heard_37 : decode cX4_heard 37 = .ok (.invokestatic 50, 3) := by decide +kernel
theorem dX4_heard_40 : decode cX4_heard 40 = .ok (.ifCond .ne 5, 3) := by decide +kernel
theorem dX4_heard_43 : decode cX4_heard 43 = .ok (.iconst (-1), 1) := by decide +kernel
theorem dX4_heard_44 : decode cX4_heard 44 = .ok (.ireturn, 1) := by decide +kernel
theorem dX4_heard_45 : decode cX4_heard 45 = .ok (.aload_n 0, 1) := by decide +kernel
theorem dX4_heard_46 : decode cX4_heard 46 = .ok (.getfield 38, 3) := by decide +kernel
theorem dX4_heard_49 : decode cX4_heard 49 = .ok (.iload_n 2, 1) := by decide +kernel
theorem dX4_heard_50 : decode cX4_heard 50 = .ok (.aaload, 1) := by decide +kernel
theorem dX4_heard_51 : decode cX4_heard 51 = .ok (.astore 7, 2) := by decide +kernel
theorem dX4_heard_53 : decode cX4_heard 53 = .ok (.aload 7, 2) := by decide +kernel
theorem dX4_heard_55 : decode cX4_heard 55 = .ok (.iload_n 3, 1) := by decide +kernel
theorem dX4_heard_56 : decode cX4_heard 56 = .ok (.iload 4, 2) := by decide +kernel
theorem dX4_heard_58 : decode cX4_heard 58 = .ok (.iload 5, 2) := by decide +kernel
theorem dX4_heard_60 : decode cX4_heard 60 = .ok (.invokevirtual 193, 3) := by decide +kernel
theorem dX4_heard_63 : decode cX4_heard 63 = .ok (.istore 8, 2) := by decide +kernel
theorem dX4_heard_65 : decode cX4_heard 65 = .ok (.iload 8, 2) := by decide +kernel
theorem dX4_heard_67 : decode cX4_heard 67 = .ok (.ifCond .eq 6, 3) := by decide +kernel
theorem dX4_heard_70 : decode cX4_heard 70 = .ok (.iload 8, 2) := by decide +kernel
theorem dX4_heard_72 : decode cX4_heard 72 = .ok (.ireturn, 1) := by decide +kernel
theorem dX4_heard_73 : decode cX4_heard 73 = .ok (.iload 6, 2) := by decide +kernel
theorem dX4_heard_75 : decode cX4_heard 75 = .ok (.tableswitch 61 0 2 #[25, 37, 49], 25) := by decide +kernel
theorem dX4_heard_100 : decode cX4_heard 100 = .ok (.aload_n 0, 1) := by decide +kernel
theorem dX4_heard_101 : decode cX4_heard 101 = .ok (.iload_n 1, 1) := by decide +kernel
theorem dX4_heard_102 : decode cX4_heard 102 = .ok (.aload 7, 2) := by decide +kernel
theorem dX4_heard_104 : decode cX4_heard 104 = .ok (.iload 4, 2) := by decide +kernel
theorem dX4_heard_106 : decode cX4_heard 106 = .ok (.iload 5, 2) := by decide +kernel
theorem dX4_heard_108 : decode cX4_heard 108 = .ok (.invokevirtual 197, 3) := by decide +kernel
theorem dX4_heard_111 : decode cX4_heard 111 = .ok (.ireturn, 1) := by decide +kernel
theorem dX4_heard_112 : decode cX4_heard 112 = .ok (.aload_n 0, 1) := by decide +kernel
theorem dX4_heard_113 : decode cX4_heard 113 = .ok (.iload_n 1, 1) := by decide +kernel
theorem dX4_heard_114 : decode cX4_heard 114 = .ok (.aload 7, 2) := by decide +kernel
theorem dX4_heard_116 : decode cX4_heard 116 = .ok (.iload 4, 2) := by decide +kernel
theorem dX4_heard_118 : decode cX4_heard 118 = .ok (.iload 5, 2) := by decide +kernel
theorem dX4_heard_120 : decode cX4_heard 120 = .ok (.invokevirtual 201, 3) := by decide +kernel
theorem dX4_heard_123 : decode cX4_heard 123 = .ok (.ireturn, 1) := by decide +kernel
theorem dX4_heard_124 : decode cX4_heard 124 = .ok (.aload_n 0, 1) := by decide +kernel
theorem dX4_heard_125 : decode cX4_heard 125 = .ok (.iload_n 1, 1) := by decide +kernel
theorem dX4_heard_126 : decode cX4_heard 126 = .ok (.aload 7, 2) := by decide +kernel
theorem dX4_heard_128 : decode cX4_heard 128 = .ok (.iload 4, 2) := by decide +kernel
theorem dX4_heard_130 : decode cX4_heard 130 = .ok (.iload 5, 2) := by decide +kernel
theorem dX4_heard_132 : decode cX4_heard 132 = .ok (.invokevirtual 204, 3) := by decide +kernel
theorem dX4_heard_135 : decode cX4_heard 135 = .ok (.ireturn, 1) := by decide +kernel
theorem dX4_heard_136 : decode cX4_heard 136 = .ok (.aload_n 0, 1) := by decide +kernel
theorem dX4_heard_137 : decode cX4_heard 137 = .ok (.iload_n 1, 1) := by decide +kernel
theorem dX4_heard_138 : decode cX4_heard 138 = .ok (.aload 7, 2) := by decide +kernel
theorem dX4_heard_140 : decode cX4_heard 140 = .ok (.iload 4, 2) := by decide +kernel
theorem dX4_heard_142 : decode cX4_heard 142 = .ok (.iload 5, 2) := by decide +kernel
theorem dX4_heard_144 : decode cX4_heard 144 = .ok (.invokevirtual 207, 3) := by decide +kernel
theorem dX4_heard_147 : decode cX4_heard 147 = .ok (.ireturn, 1) := by decide +kernel
theorem dX4_film_0 : decode cX4_film 0 = .ok (.aload_n 0, 1) := by decide +kernel
theorem dX4_film_1 : decode cX4_film 1 = .ok (.iload_n 1, 1) := by decide +kernel
theorem dX4_film_2 : decode cX4_film 2 = .ok (.invokevirtual 65, 3) := by decide +kernel
theorem dX4_film_5 : decode cX4_film 5 = .ok (.ifCond .eq 28, 3) := by decide +kernel
theorem dX4_film_8 : decode cX4_film 8 = .ok (.iload_n 2, 1) := by decide +kernel
theorem dX4_film_9 : decode cX4_film 9 = .ok (.iconst 1, 1) := by decide +kernel
theorem dX4_film_10 : decode cX4_film 10 = .ok (.bipush 24, 2) := by decide +kernel
theorem dX4_film_12 : decode cX4_film 12 = .ok (.invokestatic 50, 3) := by decide +kernel
theorem dX4_film_15 : decode cX4_film 15 = .ok (.ifCond .eq 18, 3) := by decide +kernel
theorem dX4_film_18 : decode cX4_film 18 = .ok (.iload_n 3, 1) := by decide +kernel
theorem dX4_film_19 : decode cX4_film 19 = .ok (.invokestatic 187, 3) := by decide +kernel
theorem dX4_film_22 : decode cX4_film 22 = .ok (.ifCond .eq 11, 3) := by decide +kernel
theorem dX4_film_25 : decode cX4_film 25 = .ok (.iload 4, 2) := by decide +kernel
theorem dX4_film_27 : decode cX4_film 27 = .ok (.invokestatic 190, 3) := by decide +kernel
theorem dX4_film_30 : decode cX4_film 30 = .ok (.ifCond .ne 5, 3) := by decide +kernel
theorem dX4_film_33 : decode cX4_film 33 = .ok (.iconst (-1), 1) := by decide +kernel
theorem dX4_film_34 : decode cX4_film 34 = .ok (.ireturn, 1) := by decide +kernel
theorem dX4_film_35 : decode cX4_film 35 = .ok (.aload_n 0, 1) := by decide +kernel
theorem dX4_film_36 : decode cX4_film 36 = .ok (.getfield 38, 3) := by decide +kernel
theorem dX4_film_39 : decode cX4_film 39 = .ok (.iload_n 3, 1) := by decide +kernel
theorem dX4_film_40 : decode cX4_film 40 = .ok (.aaload, 1) := by decide +kernel
theorem dX4_film_41 : decode cX4_film 41 = .ok (.astore 6, 2) := by decide +kernel
theorem dX4_film_43 : decode cX4_film 43 = .ok (.aload 6, 2) := by decide +kernel
theorem dX4_film_45 : decode cX4_film 45 = .ok (.iload 4, 2) := by decide +kernel
theorem dX4_film_47 : decode cX4_film 47 = .ok (.iload 5, 2) := by decide +kernel
theorem dX4_film_49 : decode cX4_film 49 = .ok (.iload_n 2, 1) := by decide +kernel
theorem dX4_film_50 : decode cX4_film 50 = .ok (.invokevirtual 193, 3) := by decide +kernel
theorem dX4_film_53 : decode cX4_film 53 = .ok (.istore 7, 2) := by decide +kernel
theorem dX4_film_55 : decode cX4_film 55 = .ok (.iload 7, 2) := by decide +kernel
theorem dX4_film_57 : decode cX4_film 57 = .ok (.ifCond .eq 6, 3) := by decide +kernel
theorem dX4_film_60 : decode cX4_film 60 = .ok (.iload 7, 2) := by decide +kernel
theorem dX4_film_62 : decode cX4_film 62 = .ok (.ireturn, 1) := by decide +kernel
theorem dX4_film_63 : decode cX4_film 63 = .ok (.aload_n 0, 1) := by decide +kernel
theorem dX4_film_64 : decode cX4_film 64 = .ok (.getfield 42, 3) := by decide +kernel
theorem dX4_film_67 : decode cX4_film 67 = .ok (.aload_n 0, 1) := by decide +kernel
theorem dX4_film_68 : decode cX4_film 68 = .ok (.getfield 10, 3) := by decide +kernel
theorem dX4_film_71 : decode cX4_film 71 = .ok (.invokevirtual 106, 3) := by decide +kernel
theorem dX4_film_74 : decode cX4_film 74 = .ok (.iconst 0, 1) := by decide +kernel
theorem dX4_film_75 : decode cX4_film 75 = .ok (.istore 8, 2) := by decide +kernel
theorem dX4_film_77 : decode cX4_film 77 = .ok (.iload 8, 2) := by decide +kernel
theorem dX4_film_79 : decode cX4_film 79 = .ok (.iload_n 2, 1) := by decide +kernel
theorem dX4_film_80 : decode cX4_film 80 = .ok (.if_icmp .ge 36, 3) := by decide +kernel
theorem dX4_film_83 : decode cX4_film 83 = .ok (.aload_n 0, 1) := by decide +kernel
theorem dX4_film_84 : decode cX4_film 84 = .ok (.getfield 42, 3) := by decide +kernel
theorem dX4_film_87 : decode cX4_film 87 = .ok (.invokevirtual 130, 3) := by decide +kernel
theorem dX4_film_90 : decode cX4_film 90 = .ok (.aload 6, 2) := by decide +kernel
theorem dX4_film_92 : decode cX4_film 92 = .ok (.iload 5, 2) := by decide +kernel
theorem dX4_film_94 : decode cX4_film 94 = .ok (.iload 8, 2) := by decide +kernel
theorem dX4_film_96 : decode cX4_film 96 = .ok (.iadd, 1) := by decide +kernel
theorem dX4_film_97 : decode cX4_film 97 = .ok (.aload_n 0, 1) := by decide +kernel
theorem dX4_film_98 : decode cX4_film 98 = .ok (.getfield 42, 3) := by decide +kernel
theorem dX4_film_101 : decode cX4_film 101 = .ok (.getfield 79, 3) := by decide +kernel
theorem dX4_film_104 : decode cX4_film 104 = .ok (.iload_n 1, 1) := by decide +kernel
theorem dX4_film_105 : decode cX4_film 105 = .ok (.iaload, 1) := by decide +kernel
theorem dX4_film_106 : decode cX4_film 106 = .ok (.i2l, 1) := by decide +kernel
theorem dX4_film_107 : decode cX4_film 107 = .ok (.invokevirtual 210, 3) := by decide +kernel
theorem dX4_film_110 : decode cX4_film 110 = .ok (.iinc 8 1, 3) := by decide +kernel
theorem dX4_film_113 : decode cX4_film 113 = .ok (.goto (-36), 3) := by decide +kernel
theorem dX4_film_116 : decode cX4_film 116 = .ok (.iload_n 2, 1) := by decide +kernel
theorem dX4_film_117 : decode cX4_film 117 = .ok (.ireturn, 1) := by decide +kernel
theorem dX4_sheet_0 : decode cX4_sheet 0 = .ok (.iload_n 1, 1) := by decide +kernel
theorem dX4_sheet_1 : decode cX4_sheet 1 = .ok (.invokestatic 187, 3) := by decide +kernel
theorem dX4_sheet_4 : decode cX4_sheet 4 = .ok (.ifCond .eq 16, 3) := by decide +kernel
theorem dX4_sheet_7 : decode cX4_sheet 7 = .ok (.iload_n 2, 1) := by decide +kernel
theorem dX4_sheet_8 : decode cX4_sheet 8 = .ok (.invokestatic 190, 3) := by decide +kernel
theorem dX4_sheet_11 : decode cX4_sheet 11 = .ok (.ifCond .eq 9, 3) := by decide +kernel
theorem dX4_sheet_14 : decode cX4_sheet 14 = .ok (.iload_n 3, 1) := by decide +kernel
theorem dX4_sheet_15 : decode cX4_sheet 15 = .ok (.bipush 24, 2) := by decide +kernel
theorem dX4_sheet_17 : decode cX4_sheet 17 = .ok (.if_icmp .le 5, 3) := by decide +kernel
theorem dX4_sheet_20 : decode cX4_sheet 20 = .ok (.iconst (-1), 1) := by decide +kernel
theorem dX4_sheet_21 : decode cX4_sheet 21 = .ok (.ireturn, 1) := by decide +kernel
theorem dX4_sheet_22 : decode cX4_sheet 22 = .ok (.iload_n 3, 1) := by decide +kernel
theorem dX4_sheet_23 : decode cX4_sheet 23 = .ok (.ifCond .ge 6, 3) := by decide +kernel
theorem dX4_sheet_26 : decode cX4_sheet 26 = .ok (.bipush (-14), 2) := by decide +kernel
theorem dX4_sheet_28 : decode cX4_sheet 28 = .ok (.ireturn, 1) := by decide +kernel
theorem dX4_sheet_29 : decode cX4_sheet 29 = .ok (.aload_n 0, 1) := by decide +kernel
theorem dX4_sheet_30 : decode cX4_sheet 30 = .ok (.getfield 38, 3) := by decide +kernel
theorem dX4_sheet_33 : decode cX4_sheet 33 = .ok (.iload_n 1, 1) := by decide +kernel
theorem dX4_sheet_34 : decode cX4_sheet 34 = .ok (.aaload, 1) := by decide +kernel
theorem dX4_sheet_35 : decode cX4_sheet 35 = .ok (.iload_n 2, 1) := by decide +kernel
theorem dX4_sheet_36 : decode cX4_sheet 36 = .ok (.iload_n 3, 1) := by decide +kernel
theorem dX4_sheet_37 : decode cX4_sheet 37 = .ok (.invokevirtual 214, 3) := by decide +kernel
theorem dX4_sheet_40 : decode cX4_sheet 40 = .ok (.iload_n 3, 1) := by decide +kernel
theorem dX4_sheet_41 : decode cX4_sheet 41 = .ok (.ireturn, 1) := by decide +kernel
theorem dX4_drop_0 : decode cX4_drop 0 = .ok (.iload_n 1, 1) := by decide +kernel
theorem dX4_drop_1 : decode cX4_drop 1 = .ok (.invokestatic 187, 3) := by decide +kernel
theorem dX4_drop_4 : decode cX4_drop 4 = .ok (.ifCond .ne 5, 3) := by decide +kernel
theorem dX4_drop_7 : decode cX4_drop 7 = .ok (.iconst (-1), 1) := by decide +kernel
theorem dX4_drop_8 : decode cX4_drop 8 = .ok (.ireturn, 1) := by decide +kernel
theorem dX4_drop_9 : decode cX4_drop 9 = .ok (.aload_n 0, 1) := by decide +kernel
theorem dX4_drop_10 : decode cX4_drop 10 = .ok (.getfield 38, 3) := by decide +kernel
theorem dX4_drop_13 : decode cX4_drop 13 = .ok (.iload_n 1, 1) := by decide +kernel
theorem dX4_drop_14 : decode cX4_drop 14 = .ok (.aaload, 1) := by decide +kernel
theorem dX4_drop_15 : decode cX4_drop 15 = .ok (.astore_n 2, 1) := by decide +kernel
theorem dX4_drop_16 : decode cX4_drop 16 = .ok (.aload_n 2, 1) := by decide +kernel
theorem dX4_drop_17 : decode cX4_drop 17 = .ok (.getfield 217, 3) := by decide +kernel
theorem dX4_drop_20 : decode cX4_drop 20 = .ok (.iconst (-1), 1) := by decide +kernel
theorem dX4_drop_21 : decode cX4_drop 21 = .ok (.if_icmp .ne 6, 3) := by decide +kernel
theorem dX4_drop_24 : decode cX4_drop 24 = .ok (.bipush (-11), 2) := by decide +kernel
theorem dX4_drop_26 : decode cX4_drop 26 = .ok (.ireturn, 1) := by decide +kernel
theorem dX4_drop_27 : decode cX4_drop 27 = .ok (.aload_n 2, 1) := by decide +kernel
theorem dX4_drop_28 : decode cX4_drop 28 = .ok (.iconst (-1), 1) := by decide +kernel
theorem dX4_drop_29 : decode cX4_drop 29 = .ok (.putfield 217, 3) := by decide +kernel
theorem dX4_drop_32 : decode cX4_drop 32 = .ok (.aload_n 2, 1) := by decide +kernel
theorem dX4_drop_33 : decode cX4_drop 33 = .ok (.getfield 220, 3) := by decide +kernel
theorem dX4_drop_36 : decode cX4_drop 36 = .ok (.ireturn, 1) := by decide +kernel
theorem dX4_item_0 : decode cX4_item 0 = .ok (.iload_n 1, 1) := by decide +kernel
theorem dX4_item_1 : decode cX4_item 1 = .ok (.invokestatic 187, 3) := by decide +kernel
theorem dX4_item_4 : decode cX4_item 4 = .ok (.ifCond .eq 10, 3) := by decide +kernel
theorem dX4_item_7 : decode cX4_item 7 = .ok (.iload_n 2, 1) := by decide +kernel
theorem dX4_item_8 : decode cX4_item 8 = .ok (.invokestatic 190, 3) := by decide +kernel
theorem dX4_item_11 : decode cX4_item 11 = .ok (.ifCond .ne 5, 3) := by decide +kernel
theorem dX4_item_14 : decode cX4_item 14 = .ok (.iconst (-1), 1) := by decide +kernel
theorem dX4_item_15 : decode cX4_item 15 = .ok (.ireturn, 1) := by decide +kernel
theorem dX4_item_16 : decode cX4_item 16 = .ok (.aload_n 0, 1) := by decide +kernel
theorem dX4_item_17 : decode cX4_item 17 = .ok (.getfield 38, 3) := by decide +kernel
theorem dX4_item_20 : decode cX4_item 20 = .ok (.iload_n 1, 1) := by decide +kernel
theorem dX4_item_21 : decode cX4_item 21 = .ok (.aaload, 1) := by decide +kernel
theorem dX4_item_22 : decode cX4_item 22 = .ok (.astore 6, 2) := by decide +kernel
theorem dX4_item_24 : decode cX4_item 24 = .ok (.aload 6, 2) := by decide +kernel
theorem dX4_item_26 : decode cX4_item 26 = .ok (.iload_n 2, 1) := by decide +kernel
theorem dX4_item_27 : decode cX4_item 27 = .ok (.iload_n 3, 1) := by decide +kernel
theorem dX4_item_28 : decode cX4_item 28 = .ok (.iconst 1, 1) := by decide +kernel
theorem dX4_item_29 : decode cX4_item 29 = .ok (.invokevirtual 193, 3) := by decide +kernel
theorem dX4_item_32 : decode cX4_item 32 = .ok (.istore 7, 2) := by decide +kernel
theorem dX4_item_34 : decode cX4_item 34 = .ok (.iload 7, 2) := by decide +kernel
theorem dX4_item_36 : decode cX4_item 36 = .ok (.ifCond .eq 6, 3) := by decide +kernel
theorem dX4_item_39 : decode cX4_item 39 = .ok (.iload 7, 2) := by decide +kernel
theorem dX4_item_41 : decode cX4_item 41 = .ok (.ireturn, 1) := by decide +kernel
theorem dX4_item_42 : decode cX4_item 42 = .ok (.aload 6, 2) := by decide +kernel
theorem dX4_item_44 : decode cX4_item 44 = .ok (.iload_n 3, 1) := by decide +kernel
theorem dX4_item_45 : decode cX4_item 45 = .ok (.lload 4, 2) := by decide +kernel
theorem dX4_item_47 : decode cX4_item 47 = .ok (.invokevirtual 210, 3) := by decide +kernel
theorem dX4_item_50 : decode cX4_item 50 = .ok (.iconst 1, 1) := by decide +kernel
theorem dX4_item_51 : decode cX4_item 51 = .ok (.ireturn, 1) := by decide +kernel
theorem dX4_copy_0 : decode cX4_copy 0 = .ok (.iload_n 1, 1) := by decide +kernel
theorem dX4_copy_1 : decode cX4_copy 1 = .ok (.invokestatic 187, 3) := by decide +kernel
theorem dX4_copy_4 : decode cX4_copy 4 = .ok (.ifCond .eq 10, 3) := by decide +kernel
theorem dX4_copy_7 : decode cX4_copy 7 = .ok (.iload_n 3, 1) := by decide +kernel
theorem dX4_copy_8 : decode cX4_copy 8 = .ok (.invokestatic 187, 3) := by decide +kernel
theorem dX4_copy_11 : decode cX4_copy 11 = .ok (.ifCond .ne 5, 3) := by decide +kernel
theorem dX4_copy_14 : decode cX4_copy 14 = .ok (.iconst (-1), 1) := by decide +kernel
theorem dX4_copy_15 : decode cX4_copy 15 = .ok (.ireturn, 1) := by decide +kernel
theorem dX4_copy_16 : decode cX4_copy 16 = .ok (.aload_n 0, 1) := by decide +kernel
theorem dX4_copy_17 : decode cX4_copy 17 = .ok (.getfield 38, 3) := by decide +kernel
theorem dX4_copy_20 : decode cX4_copy 20 = .ok (.iload_n 1, 1) := by decide +kernel
theorem dX4_copy_21 : decode cX4_copy 21 = .ok (.aaload, 1) := by decide +kernel
theorem dX4_copy_22 : decode cX4_copy 22 = .ok (.astore 6, 2) := by decide +kernel
theorem dX4_copy_24 : decode cX4_copy 24 = .ok (.aload_n 0, 1) := by decide +kernel
theorem dX4_copy_25 : decode cX4_copy 25 = .ok (.getfield 38, 3) := by decide +kernel
theorem dX4_copy_28 : decode cX4_copy 28 = .ok (.iload_n 3, 1) := by decide +kernel
theorem dX4_copy_29 : decode cX4_copy 29 = .ok (.aaload, 1) := by decide +kernel
theorem dX4_copy_30 : decode cX4_copy 30 = .ok (.astore 7, 2) := by decide +kernel
theorem dX4_copy_32 : decode cX4_copy 32 = .ok (.aload 6, 2) := by decide +kernel
theorem dX4_copy_34 : decode cX4_copy 34 = .ok (.getfield 217, 3) := by decide +kernel
theorem dX4_copy_37 : decode cX4_copy 37 = .ok (.iconst (-1), 1) := by decide +kernel
theorem dX4_copy_38 : decode cX4_copy 38 = .ok (.if_icmp .eq 12, 3) := by decide +kernel
theorem dX4_copy_41 : decode cX4_copy 41 = .ok (.aload 7, 2) := by decide +kernel
theorem dX4_copy_43 : decode cX4_copy 43 = .ok (.getfield 217, 3) := by decide +kernel
theorem dX4_copy_46 : decode cX4_copy 46 = .ok (.iconst (-1), 1) := by decide +kernel
theorem dX4_copy_47 : decode cX4_copy 47 = .ok (.if_icmp .ne 6, 3) := by decide +kernel
theorem dX4_copy_50 : decode cX4_copy 50 = .ok (.bipush (-11), 2) := by decide +kernel
theorem dX4_copy_52 : decode cX4_copy 52 = .ok (.ireturn, 1) := by decide +kernel
theorem dX4_copy_53 : decode cX4_copy 53 = .ok (.aload 6, 2) := by decide +kernel
theorem dX4_copy_55 : decode cX4_copy 55 = .ok (.getfield 217, 3) := by decide +kernel
theorem dX4_copy_58 : decode cX4_copy 58 = .ok (.aload 7, 2) := by decide +kernel
theorem dX4_copy_60 : decode cX4_copy 60 = .ok (.getfield 217, 3) := by decide +kernel
theorem dX4_copy_63 : decode cX4_copy 63 = .ok (.if_icmp .eq 6, 3) := by decide +kernel
theorem dX4_copy_66 : decode cX4_copy 66 = .ok (.bipush (-12), 2) := by decide +kernel
theorem dX4_copy_68 : decode cX4_copy 68 = .ok (.ireturn, 1) := by decide +kernel
theorem dX4_copy_69 : decode cX4_copy 69 = .ok (.aload 6, 2) := by decide +kernel
theorem dX4_copy_71 : decode cX4_copy 71 = .ok (.iload_n 2, 1) := by decide +kernel
theorem dX4_copy_72 : decode cX4_copy 72 = .ok (.iload 5, 2) := by decide +kernel
theorem dX4_copy_74 : decode cX4_copy 74 = .ok (.invokevirtual 221, 3) := by decide +kernel
theorem dX4_copy_77 : decode cX4_copy 77 = .ok (.ifCond .eq 15, 3) := by decide +kernel
theorem dX4_copy_80 : decode cX4_copy 80 = .ok (.aload 7, 2) := by decide +kernel
theorem dX4_copy_82 : decode cX4_copy 82 = .ok (.iload 4, 2) := by decide +kernel
theorem dX4_copy_84 : decode cX4_copy 84 = .ok (.iload 5, 2) := by decide +kernel
theorem dX4_copy_86 : decode cX4_copy 86 = .ok (.invokevirtual 221, 3) := by decide +kernel
theorem dX4_copy_89 : decode cX4_copy 89 = .ok (.ifCond .ne 6, 3) := by decide +kernel
theorem dX4_copy_92 : decode cX4_copy 92 = .ok (.bipush (-13), 2) := by decide +kernel
theorem dX4_copy_94 : decode cX4_copy 94 = .ok (.ireturn, 1) := by decide +kernel
theorem dX4_copy_95 : decode cX4_copy 95 = .ok (.aload 6, 2) := by decide +kernel
theorem dX4_copy_97 : decode cX4_copy 97 = .ok (.getfield 224, 3) := by decide +kernel
theorem dX4_copy_100 : decode cX4_copy 100 = .ok (.iload_n 2, 1) := by decide +kernel
theorem dX4_copy_101 : decode cX4_copy 101 = .ok (.aload 7, 2) := by decide +kernel
theorem dX4_copy_103 : decode cX4_copy 103 = .ok (.getfield 224, 3) := by decide +kernel
theorem dX4_copy_106 : decode cX4_copy 106 = .ok (.iload 4, 2) := by decide +kernel
theorem dX4_copy_108 : decode cX4_copy 108 = .ok (.iload 5, 2) := by decide +kernel
theorem dX4_copy_110 : decode cX4_copy 110 = .ok (.invokestatic 228, 3) := by decide +kernel
theorem dX4_copy_113 : decode cX4_copy 113 = .ok (.iload 5, 2) := by decide +kernel
theorem dX4_copy_115 : decode cX4_copy 115 = .ok (.ireturn, 1) := by decide +kernel
theorem dX4_within_0 : decode cX4_within 0 = .ok (.iload_n 0, 1) := by decide +kernel
theorem dX4_within_1 : decode cX4_within 1 = .ok (.iload_n 1, 1) := by decide +kernel
theorem dX4_within_2 : decode cX4_within 2 = .ok (.if_icmp .lt 12, 3) := by decide +kernel
theorem dX4_within_5 : decode cX4_within 5 = .ok (.iload_n 0, 1) := by decide +kernel
theorem dX4_within_6 : decode cX4_within 6 = .ok (.iload_n 2, 1) := by decide +kernel
theorem dX4_within_7 : decode cX4_within 7 = .ok (.if_icmp .gt 7, 3) := by decide +kernel
theorem dX4_within_10 : decode cX4_within 10 = .ok (.iconst 1, 1) := by decide +kernel
theorem dX4_within_11 : decode cX4_within 11 = .ok (.goto 4, 3) := by decide +kernel
theorem dX4_within_14 : decode cX4_within 14 = .ok (.iconst 0, 1) := by decide +kernel
theorem dX4_within_15 : decode cX4_within 15 = .ok (.ireturn, 1) := by decide +kernel
theorem dX4_isCouple_0 : decode cX4_isCouple 0 = .ok (.iload_n 1, 1) := by decide +kernel
theorem dX4_isCouple_1 : decode cX4_isCouple 1 = .ok (.ifCond .lt 18, 3) := by decide +kernel
theorem dX4_isCouple_4 : decode cX4_isCouple 4 = .ok (.iload_n 1, 1) := by decide +kernel
theorem dX4_isCouple_5 : decode cX4_isCouple 5 = .ok (.aload_n 0, 1) := by decide +kernel
theorem dX4_isCouple_6 : decode cX4_isCouple 6 = .ok (.getfield 10, 3) := by decide +kernel
theorem dX4_isCouple_9 : decode cX4_isCouple 9 = .ok (.getfield 54, 3) := by decide +kernel
theorem dX4_isCouple_12 : decode cX4_isCouple 12 = .ok (.if_icmp .ge 7, 3) := by decide +kernel
theorem dX4_isCouple_15 : decode cX4_isCouple 15 = .ok (.iconst 1, 1) := by decide +kernel
theorem dX4_isCouple_16 : decode cX4_isCouple 16 = .ok (.goto 4, 3) := by decide +kernel
theorem dX4_isCouple_19 : decode cX4_isCouple 19 = .ok (.iconst 0, 1) := by decide +kernel
theorem dX4_isCouple_20 : decode cX4_isCouple 20 = .ok (.ireturn, 1) := by decide +kernel
theorem dX4_isSheet_0 : decode cX4_isSheet 0 = .ok (.iload_n 0, 1) := by decide +kernel
theorem dX4_isSheet_1 : decode cX4_isSheet 1 = .ok (.ifCond .lt 12, 3) := by decide +kernel
theorem dX4_isSheet_4 : decode cX4_isSheet 4 = .ok (.iload_n 0, 1) := by decide +kernel
theorem dX4_isSheet_5 : decode cX4_isSheet 5 = .ok (.iconst 4, 1) := by decide +kernel
theorem dX4_isSheet_6 : decode cX4_isSheet 6 = .ok (.if_icmp .ge 7, 3) := by decide +kernel
theorem dX4_isSheet_9 : decode cX4_isSheet 9 = .ok (.iconst 1, 1) := by decide +kernel
theorem dX4_isSheet_10 : decode cX4_isSheet 10 = .ok (.goto 4, 3) := by decide +kernel
theorem dX4_isSheet_13 : decode cX4_isSheet 13 = .ok (.iconst 0, 1) := by decide +kernel
theorem dX4_isSheet_14 : decode cX4_isSheet 14 = .ok (.ireturn, 1) := by decide +kernel
theorem dX4_isLane_0 : decode cX4_isLane 0 = .ok (.iload_n 0, 1) := by decide +kernel
theorem dX4_isLane_1 : decode cX4_isLane 1 = .ok (.ifCond .lt 12, 3) := by decide +kernel
theorem dX4_isLane_4 : decode cX4_isLane 4 = .ok (.iload_n 0, 1) := by decide +kernel
theorem dX4_isLane_5 : decode cX4_isLane 5 = .ok (.iconst 4, 1) := by decide +kernel
theorem dX4_isLane_6 : decode cX4_isLane 6 = .ok (.if_icmp .ge 7, 3) := by decide +kernel
theorem dX4_isLane_9 : decode cX4_isLane 9 = .ok (.iconst 1, 1) := by decide +kernel
theorem dX4_isLane_10 : decode cX4_isLane 10 = .ok (.goto 4, 3) := by decide +kernel
theorem dX4_isLane_13 : decode cX4_isLane 13 = .ok (.iconst 0, 1) := by decide +kernel
theorem dX4_isLane_14 : decode cX4_isLane 14 = .ok (.ireturn, 1) := by decide +kernel
theorem dX4_firstYearOfKeys_0 : decode cX4_firstYearOfKeys 0 = .ok (.aload_n 0, 1) := by decide +kernel
theorem dX4_firstYearOfKeys_1 : decode cX4_firstYearOfKeys 1 = .ok (.getfield 42, 3) := by decide +kernel
theorem dX4_firstYearOfKeys_4 : decode cX4_firstYearOfKeys 4 = .ok (.aload_n 0, 1) := by decide +kernel
theorem dX4_firstYearOfKeys_5 : decode cX4_firstYearOfKeys 5 = .ok (.getfield 10, 3) := by decide +kernel
theorem dX4_firstYearOfKeys_8 : decode cX4_firstYearOfKeys 8 = .ok (.invokevirtual 106, 3) := by decide +kernel
theorem dX4_firstYearOfKeys_11 : decode cX4_firstYearOfKeys 11 = .ok (.iconst 0, 1) := by decide +kernel
theorem dX4_firstYearOfKeys_12 : decode cX4_firstYearOfKeys 12 = .ok (.istore_n 2, 1) := by decide +kernel
theorem dX4_firstYearOfKeys_13 : decode cX4_firstYearOfKeys 13 = .ok (.iload_n 2, 1) := by decide +kernel
theorem dX4_firstYearOfKeys_14 : decode cX4_firstYearOfKeys 14 = .ok (.bipush 60, 2) := by decide +kernel
theorem dX4_firstYearOfKeys_16 : decode cX4_firstYearOfKeys 16 = .ok (.if_icmp .gt 29, 3) := by decide +kernel
theorem dX4_firstYearOfKeys_19 : decode cX4_firstYearOfKeys 19 = .ok (.aload_n 0, 1) := by decide +kernel
theorem dX4_firstYearOfKeys_20 : decode cX4_firstYearOfKeys 20 = .ok (.getfield 42, 3) := by decide +kernel
theorem dX4_firstYearOfKeys_23 : decode cX4_firstYearOfKeys 23 = .ok (.invokevirtual 113, 3) := by decide +kernel
theorem dX4_firstYearOfKeys_26 : decode cX4_firstYearOfKeys 26 = .ok (.iload_n 1, 1) := by decide +kernel
theorem dX4_firstYearOfKeys_27 : decode cX4_firstYearOfKeys 27 = .ok (.if_icmp .ne 5, 3) := by decide +kernel
theorem dX4_firstYearOfKeys_30 : decode cX4_firstYearOfKeys 30 = .ok (.iload_n 2, 1) := by decide +kernel
theorem dX4_firstYearOfKeys_31 : decode cX4_firstYearOfKeys 31 = .ok (.ireturn, 1) := by decide +kernel
theorem dX4_firstYearOfKeys_32 : decode cX4_firstYearOfKeys 32 = .ok (.aload_n 0, 1) := by decide +kernel
theorem dX4_firstYearOfKeys_33 : decode cX4_firstYearOfKeys 33 = .ok (.getfield 42, 3) := by decide +kernel
theorem dX4_firstYearOfKeys_36 : decode cX4_firstYearOfKeys 36 = .ok (.invokevirtual 130, 3) := by decide +kernel
theorem dX4_firstYearOfKeys_39 : decode cX4_firstYearOfKeys 39 = .ok (.iinc 2 1, 3) := by decide +kernel
theorem dX4_firstYearOfKeys_42 : decode cX4_firstYearOfKeys 42 = .ok (.goto (-29), 3) := by decide +kernel
theorem dX4_firstYearOfKeys_45 : decode cX4_firstYearOfKeys 45 = .ok (.bipush (-4), 2) := by decide +kernel
theorem dX4_firstYearOfKeys_47 : decode cX4_firstYearOfKeys 47 = .ok (.ireturn, 1) := by decide +kernel
theorem dX4_yearsOfKeys_0 : decode cX4_yearsOfKeys 0 = .ok (.iconst 0, 1) := by decide +kernel
theorem dX4_yearsOfKeys_1 : decode cX4_yearsOfKeys 1 = .ok (.istore_n 2, 1) := by decide +kernel
theorem dX4_yearsOfKeys_2 : decode cX4_yearsOfKeys 2 = .ok (.aload_n 0, 1) := by decide +kernel
theorem dX4_yearsOfKeys_3 : decode cX4_yearsOfKeys 3 = .ok (.getfield 42, 3) := by decide +kernel
theorem dX4_yearsOfKeys_6 : decode cX4_yearsOfKeys 6 = .ok (.aload_n 0, 1) := by decide +kernel
theorem dX4_yearsOfKeys_7 : decode cX4_yearsOfKeys 7 = .ok (.getfield 10, 3) := by decide +kernel
theorem dX4_yearsOfKeys_10 : decode cX4_yearsOfKeys 10 = .ok (.invokevirtual 106, 3) := by decide +kernel
theorem dX4_yearsOfKeys_13 : decode cX4_yearsOfKeys 13 = .ok (.iconst 0, 1) := by decide +kernel
theorem dX4_yearsOfKeys_14 : decode cX4_yearsOfKeys 14 = .ok (.istore_n 3, 1) := by decide +kernel
theorem dX4_yearsOfKeys_15 : decode cX4_yearsOfKeys 15 = .ok (.iload_n 3, 1) := by decide +kernel
theorem dX4_yearsOfKeys_16 : decode cX4_yearsOfKeys 16 = .ok (.bipush 60, 2) := by decide +kernel
theorem dX4_yearsOfKeys_18 : decode cX4_yearsOfKeys 18 = .ok (.if_icmp .gt 30, 3) := by decide +kernel
theorem dX4_yearsOfKeys_21 : decode cX4_yearsOfKeys 21 = .ok (.aload_n 0, 1) := by decide +kernel
theorem dX4_yearsOfKeys_22 : decode cX4_yearsOfKeys 22 = .ok (.getfield 42, 3) := by decide +kernel
theorem dX4_yearsOfKeys_25 : decode cX4_yearsOfKeys 25 = .ok (.invokevirtual 113, 3) := by decide +kernel
theorem dX4_yearsOfKeys_28 : decode cX4_yearsOfKeys 28 = .ok (.iload_n 1, 1) := by decide +kernel
theorem dX4_yearsOfKeys_29 : decode cX4_yearsOfKeys 29 = .ok (.if_icmp .ne 6, 3) := by decide +kernel
theorem dX4_yearsOfKeys_32 : decode cX4_yearsOfKeys 32 = .ok (.iinc 2 1, 3) := by decide +kernel
theorem dX4_yearsOfKeys_35 : decode cX4_yearsOfKeys 35 = .ok (.aload_n 0, 1) := by decide +kernel
theorem dX4_yearsOfKeys_36 : decode cX4_yearsOfKeys 36 = .ok (.getfield 42, 3) := by decide +kernel
theorem dX4_yearsOfKeys_39 : decode cX4_yearsOfKeys 39 = .ok (.invokevirtual 130, 3) := by decide +kernel
theorem dX4_yearsOfKeys_42 : decode cX4_yearsOfKeys 42 = .ok (.iinc 3 1, 3) := by decide +kernel
theorem dX4_yearsOfKeys_45 : decode cX4_yearsOfKeys 45 = .ok (.goto (-30), 3) := by decide +kernel
theorem dX4_yearsOfKeys_48 : decode cX4_yearsOfKeys 48 = .ok (.iload_n 2, 1) := by decide +kernel
theorem dX4_yearsOfKeys_49 : decode cX4_yearsOfKeys 49 = .ok (.ireturn, 1) := by decide +kernel
theorem dX4_fewestRivals_0 : decode cX4_fewestRivals 0 = .ok (.aload_n 0, 1) := by decide +kernel
theorem dX4_fewestRivals_1 : decode cX4_fewestRivals 1 = .ok (.getfield 10, 3) := by decide +kernel
theorem dX4_fewestRivals_4 : decode cX4_fewestRivals 4 = .ok (.iload_n 1, 1) := by decide +kernel
theorem dX4_fewestRivals_5 : decode cX4_fewestRivals 5 = .ok (.invokevirtual 82, 3) := by decide +kernel
theorem dX4_fewestRivals_8 : decode cX4_fewestRivals 8 = .ok (.ifCond .ne 6, 3) := by decide +kernel
theorem dX4_fewestRivals_11 : decode cX4_fewestRivals 11 = .ok (.bipush (-4), 2) := by decide +kernel
theorem dX4_fewestRivals_13 : decode cX4_fewestRivals 13 = .ok (.ireturn, 1) := by decide +kernel
theorem dX4_fewestRivals_14 : decode cX4_fewestRivals 14 = .ok (.aload_n 0, 1) := by decide +kernel
theorem dX4_fewestRivals_15 : decode cX4_fewestRivals 15 = .ok (.getfield 10, 3) := by decide +kernel
theorem dX4_fewestRivals_18 : decode cX4_fewestRivals 18 = .ok (.getfield 120, 3) := by decide +kernel
theorem dX4_fewestRivals_21 : decode cX4_fewestRivals 21 = .ok (.iconst 1, 1) := by decide +kernel
theorem dX4_fewestRivals_22 : decode cX4_fewestRivals 22 = .ok (.iload_n 1, 1) := by decide +kernel
theorem dX4_fewestRivals_23 : decode cX4_fewestRivals 23 = .ok (.ishl, 1) := by decide +kernel
theorem dX4_fewestRivals_24 : decode cX4_fewestRivals 24 = .ok (.iconst (-1), 1) := by decide +kernel
theorem dX4_fewestRivals_25 : decode cX4_fewestRivals 25 = .ok (.ixor, 1) := by decide +kernel
theorem dX4_fewestRivals_26 : decode cX4_fewestRivals 26 = .ok (.iand, 1) := by decide +kernel
theorem dX4_fewestRivals_27 : decode cX4_fewestRivals 27 = .ok (.istore_n 3, 1) := by decide +kernel
theorem dX4_fewestRivals_28 : decode cX4_fewestRivals 28 = .ok (.bipush (-4), 2) := by decide +kernel
theorem dX4_fewestRivals_30 : decode cX4_fewestRivals 30 = .ok (.istore 4, 2) := by decide +kernel
theorem dX4_fewestRivals_32 : decode cX4_fewestRivals 32 = .ok (.iconst 0, 1) := by decide +kernel
theorem dX4_fewestRivals_33 : decode cX4_fewestRivals 33 = .ok (.istore 5, 2) := by decide +kernel
theorem dX4_fewestRivals_35 : decode cX4_fewestRivals 35 = .ok (.iload 5, 2) := by decide +kernel
theorem dX4_fewestRivals_37 : decode cX4_fewestRivals 37 = .ok (.iload_n 3, 1) := by decide +kernel
theorem dX4_fewestRivals_38 : decode cX4_fewestRivals 38 = .ok (.if_icmp .gt 75, 3) := by decide +kernel
theorem dX4_fewestRivals_41 : decode cX4_fewestRivals 41 = .ok (.iload 5, 2) := by decide +kernel
theorem dX4_fewestRivals_43 : decode cX4_fewestRivals 43 = .ok (.iload_n 3, 1) := by decide +kernel
theorem dX4_fewestRivals_44 : decode cX4_fewestRivals 44 = .ok (.iconst (-1), 1) := by decide +kernel
theorem dX4_fewestRivals_45 : decode cX4_fewestRivals 45 = .ok (.ixor, 1) := by decide +kernel
theorem dX4_fewestRivals_46 : decode cX4_fewestRivals 46 = .ok (.iand, 1) := by decide +kernel
theorem dX4_fewestRivals_47 : decode cX4_fewestRivals 47 = .ok (.ifCond .ne 7, 3) := by decide +kernel
theorem dX4_fewestRivals_50 : decode cX4_fewestRivals 50 = .ok (.iconst 1, 1) := by decide +kernel
theorem dX4_fewestRivals_51 : decode cX4_fewestRivals 51 = .ok (.goto 4, 3) := by decide +kernel
theorem dX4_fewestRivals_54 : decode cX4_fewestRivals 54 = .ok (.iconst 0, 1) := by decide +kernel
theorem dX4_fewestRivals_55 : decode cX4_fewestRivals 55 = .ok (.istore 6, 2) := by decide +kernel
theorem dX4_fewestRivals_57 : decode cX4_fewestRivals 57 = .ok (.iload 4, 2) := by decide +kernel
theorem dX4_fewestRivals_59 : decode cX4_fewestRivals 59 = .ok (.ifCond .lt 16, 3) := by decide +kernel
theorem dX4_fewestRivals_62 : decode cX4_fewestRivals 62 = .ok (.iload 5, 2) := by decide +kernel
theorem dX4_fewestRivals_64 : decode cX4_fewestRivals 64 = .ok (.invokestatic 163, 3) := by decide +kernel
theorem dX4_fewestRivals_67 : decode cX4_fewestRivals 67 = .ok (.iload 4, 2) := by decide +kernel
theorem dX4_fewestRivals_69 : decode cX4_fewestRivals 69 = .ok (.invokestatic 163, 3) := by decide +kernel
theorem dX4_fewestRivals_72 : decode cX4_fewestRivals 72 = .ok (.if_icmp .ge 7, 3) := by decide +kernel
theorem dX4_fewestRivals_75 : decode cX4_fewestRivals 75 = .ok (.iconst 1, 1) := by decide +kernel
theorem dX4_fewestRivals_76 : decode cX4_fewestRivals 76 = .ok (.goto 4, 3) := by decide +kernel
theorem dX4_fewestRivals_79 : decode cX4_fewestRivals 79 = .ok (.iconst 0, 1) := by decide +kernel
theorem dX4_fewestRivals_80 : decode cX4_fewestRivals 80 = .ok (.istore 7, 2) := by decide +kernel
theorem dX4_fewestRivals_82 : decode cX4_fewestRivals 82 = .ok (.iload 6, 2) := by decide +kernel
theorem dX4_fewestRivals_84 : decode cX4_fewestRivals 84 = .ok (.ifCond .eq 23, 3) := by decide +kernel
theorem dX4_fewestRivals_87 : decode cX4_fewestRivals 87 = .ok (.iload 7, 2) := by decide +kernel
theorem dX4_fewestRivals_89 : decode cX4_fewestRivals 89 = .ok (.ifCond .eq 18, 3) := by decide +kernel
theorem dX4_fewestRivals_92 : decode cX4_fewestRivals 92 = .ok (.aload_n 0, 1) := by decide +kernel
theorem dX4_fewestRivals_93 : decode cX4_fewestRivals 93 = .ok (.iload 5, 2) := by decide +kernel
theorem dX4_fewestRivals_95 : decode cX4_fewestRivals 95 = .ok (.iload_n 1, 1) := by decide +kernel
theorem dX4_fewestRivals_96 : decode cX4_fewestRivals 96 = .ok (.iload_n 2, 1) := by decide +kernel
theorem dX4_fewestRivals_97 : decode cX4_fewestRivals 97 = .ok (.invokevirtual 234, 3) := by decide +kernel
theorem dX4_fewestRivals_100 : decode cX4_fewestRivals 100 = .ok (.ifCond .eq 7, 3) := by decide +kernel
theorem dX4_fewestRivals_103 : decode cX4_fewestRivals 103 = .ok (.iload 5, 2) := by decide +kernel
theorem dX4_fewestRivals_105 : decode cX4_fewestRivals 105 = .ok (.istore 4, 2) := by decide +kernel
theorem dX4_fewestRivals_107 : decode cX4_fewestRivals 107 = .ok (.iinc 5 1, 3) := by decide +kernel
theorem dX4_fewestRivals_110 : decode cX4_fewestRivals 110 = .ok (.goto (-75), 3) := by decide +kernel
theorem dX4_fewestRivals_113 : decode cX4_fewestRivals 113 = .ok (.iload 4, 2) := by decide +kernel
theorem dX4_fewestRivals_115 : decode cX4_fewestRivals 115 = .ok (.ireturn, 1) := by decide +kernel
theorem dX4_keepsWithout_0 : decode cX4_keepsWithout 0 = .ok (.aload_n 0, 1) := by decide +kernel
theorem dX4_keepsWithout_1 : decode cX4_keepsWithout 1 = .ok (.getfield 42, 3) := by decide +kernel
theorem dX4_keepsWithout_4 : decode cX4_keepsWithout 4 = .ok (.aload_n 0, 1) := by decide +kernel
theorem dX4_keepsWithout_5 : decode cX4_keepsWithout 5 = .ok (.getfield 10, 3) := by decide +kernel
theorem dX4_keepsWithout_8 : decode cX4_keepsWithout 8 = .ok (.invokevirtual 106, 3) := by decide +kernel
theorem dX4_keepsWithout_11 : decode cX4_keepsWithout 11 = .ok (.aload_n 0, 1) := by decide +kernel
theorem dX4_keepsWithout_12 : decode cX4_keepsWithout 12 = .ok (.getfield 42, 3) := by decide +kernel
theorem dX4_keepsWithout_15 : decode cX4_keepsWithout 15 = .ok (.dup, 1) := by decide +kernel
theorem dX4_keepsWithout_16 : decode cX4_keepsWithout 16 = .ok (.getfield 120, 3) := by decide +kernel
theorem dX4_keepsWithout_19 : decode cX4_keepsWithout 19 = .ok (.iload_n 1, 1) := by decide +kernel
theorem dX4_keepsWithout_20 : decode cX4_keepsWithout 20 = .ok (.iconst (-1), 1) := by decide +kernel
theorem dX4_keepsWithout_21 : decode cX4_keepsWithout 21 = .ok (.ixor, 1) := by decide +kernel
theorem dX4_keepsWithout_22 : decode cX4_keepsWithout 22 = .ok (.iand, 1) := by decide +kernel
theorem dX4_keepsWithout_23 : decode cX4_keepsWithout 23 = .ok (.putfield 120, 3) := by decide +kernel
theorem dX4_keepsWithout_26 : decode cX4_keepsWithout 26 = .ok (.iconst 0, 1) := by decide +kernel
theorem dX4_keepsWithout_27 : decode cX4_keepsWithout 27 = .ok (.istore 4, 2) := by decide +kernel
theorem dX4_keepsWithout_29 : decode cX4_keepsWithout 29 = .ok (.iload 4, 2) := by decide +kernel
theorem dX4_keepsWithout_31 : decode cX4_keepsWithout 31 = .ok (.iload_n 3, 1) := by decide +kernel
theorem dX4_keepsWithout_32 : decode cX4_keepsWithout 32 = .ok (.if_icmp .ge 27, 3) := by decide +kernel
theorem dX4_keepsWithout_35 : decode cX4_keepsWithout 35 = .ok (.aload_n 0, 1) := by decide +kernel
theorem dX4_keepsWithout_36 : decode cX4_keepsWithout 36 = .ok (.getfield 42, 3) := by decide +kernel
theorem dX4_keepsWithout_39 : decode cX4_keepsWithout 39 = .ok (.iload_n 2, 1) := by decide +kernel
theorem dX4_keepsWithout_40 : decode cX4_keepsWithout 40 = .ok (.invokevirtual 82, 3) := by decide +kernel
theorem dX4_keepsWithout_43 : decode cX4_keepsWithout 43 = .ok (.ifCond .eq 16, 3) := by decide +kernel
theorem dX4_keepsWithout_46 : decode cX4_keepsWithout 46 = .ok (.aload_n 0, 1) := by decide +kernel
theorem dX4_keepsWithout_47 : decode cX4_keepsWithout 47 = .ok (.getfield 42, 3) := by decide +kernel
theorem dX4_keepsWithout_50 : decode cX4_keepsWithout 50 = .ok (.invokevirtual 130, 3) := by decide +kernel
theorem dX4_keepsWithout_53 : decode cX4_keepsWithout 53 = .ok (.iinc 4 1, 3) := by decide +kernel
theorem dX4_keepsWithout_56 : decode cX4_keepsWithout 56 = .ok (.goto (-27), 3) := by decide +kernel
theorem dX4_keepsWithout_59 : decode cX4_keepsWithout 59 = .ok (.aload_n 0, 1) := by decide +kernel
theorem dX4_keepsWithout_60 : decode cX4_keepsWithout 60 = .ok (.getfield 42, 3) := by decide +kernel
theorem dX4_keepsWithout_63 : decode cX4_keepsWithout 63 = .ok (.invokevirtual 113, 3) := by decide +kernel
theorem dX4_keepsWithout_66 : decode cX4_keepsWithout 66 = .ok (.iload_n 2, 1) := by decide +kernel
theorem dX4_keepsWithout_67 : decode cX4_keepsWithout 67 = .ok (.if_icmp .ne 7, 3) := by decide +kernel
theorem dX4_keepsWithout_70 : decode cX4_keepsWithout 70 = .ok (.iconst 1, 1) := by decide +kernel
theorem dX4_keepsWithout_71 : decode cX4_keepsWithout 71 = .ok (.goto 4, 3) := by decide +kernel
theorem dX4_keepsWithout_74 : decode cX4_keepsWithout 74 = .ok (.iconst 0, 1) := by decide +kernel
theorem dX4_keepsWithout_75 : decode cX4_keepsWithout 75 = .ok (.ireturn, 1) := by decide +kernel
theorem dX4_togetherIfNursed_0 : decode cX4_togetherIfNursed 0 = .ok (.aload_n 0, 1) := by decide +kernel
theorem dX4_togetherIfNursed_1 : decode cX4_togetherIfNursed 1 = .ok (.getfield 42, 3) := by decide +kernel
theorem dX4_togetherIfNursed_4 : decode cX4_togetherIfNursed 4 = .ok (.aload_n 0, 1) := by decide +kernel
theorem dX4_togetherIfNursed_5 : decode cX4_togetherIfNursed 5 = .ok (.getfield 10, 3) := by decide +kernel
theorem dX4_togetherIfNursed_8 : decode cX4_togetherIfNursed 8 = .ok (.invokevirtual 106, 3) := by decide +kernel
theorem dX4_togetherIfNursed_11 : decode cX4_togetherIfNursed 11 = .ok (.aload_n 0, 1) := by decide +kernel
theorem dX4_togetherIfNursed_12 : decode cX4_togetherIfNursed 12 = .ok (.getfield 42, 3) := by decide +kernel
theorem dX4_togetherIfNursed_15 : decode cX4_togetherIfNursed 15 = .ok (.iload_n 1, 1) := by decide +kernel
theorem dX4_togetherIfNursed_16 : decode cX4_togetherIfNursed 16 = .ok (.iconst 5, 1) := by decide +kernel
theorem dX4_togetherIfNursed_17 : decode cX4_togetherIfNursed 17 = .ok (.invokevirtual 133, 3) := by decide +kernel
theorem dX4_togetherIfNursed_20 : decode cX4_togetherIfNursed 20 = .ok (.aload_n 0, 1) := by decide +kernel
theorem dX4_togetherIfNursed_21 : decode cX4_togetherIfNursed 21 = .ok (.getfield 42, 3) := by decide +kernel
theorem dX4_togetherIfNursed_24 : decode cX4_togetherIfNursed 24 = .ok (.iload_n 2, 1) := by decide +kernel
theorem dX4_togetherIfNursed_25 : decode cX4_togetherIfNursed 25 = .ok (.invokevirtual 150, 3) := by decide +kernel
theorem dX4_togetherIfNursed_28 : decode cX4_togetherIfNursed 28 = .ok (.aload_n 0, 1) := by decide +kernel
theorem dX4_togetherIfNursed_29 : decode cX4_togetherIfNursed 29 = .ok (.getfield 42, 3) := by decide +kernel
theorem dX4_togetherIfNursed_32 : decode cX4_togetherIfNursed 32 = .ok (.getfield 120, 3) := by decide +kernel
theorem dX4_togetherIfNursed_35 : decode cX4_togetherIfNursed 35 = .ok (.invokestatic 163, 3) := by decide +kernel
theorem dX4_togetherIfNursed_38 : decode cX4_togetherIfNursed 38 = .ok (.ireturn, 1) := by decide +kernel
theorem dX4_keepsIfWedAnew_0 : decode cX4_keepsIfWedAnew 0 = .ok (.aload_n 0, 1) := by decide +kernel
theorem dX4_keepsIfWedAnew_1 : decode cX4_keepsIfWedAnew 1 = .ok (.getfield 42, 3) := by decide +kernel
theorem dX4_keepsIfWedAnew_4 : decode cX4_keepsIfWedAnew 4 = .ok (.aload_n 0, 1) := by decide +kernel
theorem dX4_keepsIfWedAnew_5 : decode cX4_keepsIfWedAnew 5 = .ok (.getfield 10, 3) := by decide +kernel
theorem dX4_keepsIfWedAnew_8 : decode cX4_keepsIfWedAnew 8 = .ok (.invokevirtual 106, 3) := by decide +kernel
theorem dX4_keepsIfWedAnew_11 : decode cX4_keepsIfWedAnew 11 = .ok (.aload_n 0, 1) := by decide +kernel
theorem dX4_keepsIfWedAnew_12 : decode cX4_keepsIfWedAnew 12 = .ok (.getfield 42, 3) := by decide +kernel
theorem dX4_keepsIfWedAnew_15 : decode cX4_keepsIfWedAnew 15 = .ok (.iload_n 1, 1) := by decide +kernel
theorem dX4_keepsIfWedAnew_16 : decode cX4_keepsIfWedAnew 16 = .ok (.invokevirtual 140, 3) := by decide +kernel
theorem dX4_keepsIfWedAnew_19 : decode cX4_keepsIfWedAnew 19 = .ok (.aload_n 0, 1) := by decide +kernel
theorem dX4_keepsIfWedAnew_20 : decode cX4_keepsIfWedAnew 20 = .ok (.getfield 42, 3) := by decide +kernel
theorem dX4_keepsIfWedAnew_23 : decode cX4_keepsIfWedAnew 23 = .ok (.iload_n 2, 1) := by decide +kernel
theorem dX4_keepsIfWedAnew_24 : decode cX4_keepsIfWedAnew 24 = .ok (.invokevirtual 150, 3) := by decide +kernel
theorem dX4_keepsIfWedAnew_27 : decode cX4_keepsIfWedAnew 27 = .ok (.aload_n 0, 1) := by decide +kernel
theorem dX4_keepsIfWedAnew_28 : decode cX4_keepsIfWedAnew 28 = .ok (.getfield 42, 3) := by decide +kernel
theorem dX4_keepsIfWedAnew_31 : decode cX4_keepsIfWedAnew 31 = .ok (.invokevirtual 113, 3) := by decide +kernel
theorem dX4_keepsIfWedAnew_34 : decode cX4_keepsIfWedAnew 34 = .ok (.iload_n 1, 1) := by decide +kernel
theorem dX4_keepsIfWedAnew_35 : decode cX4_keepsIfWedAnew 35 = .ok (.if_icmp .ne 7, 3) := by decide +kernel
theorem dX4_keepsIfWedAnew_38 : decode cX4_keepsIfWedAnew 38 = .ok (.iconst 1, 1) := by decide +kernel
theorem dX4_keepsIfWedAnew_39 : decode cX4_keepsIfWedAnew 39 = .ok (.goto 4, 3) := by decide +kernel
theorem dX4_keepsIfWedAnew_42 : decode cX4_keepsIfWedAnew 42 = .ok (.iconst 0, 1) := by decide +kernel
theorem dX4_keepsIfWedAnew_43 : decode cX4_keepsIfWedAnew 43 = .ok (.ireturn, 1) := by decide +kernel
theorem dX4_commonDivisor_0 : decode cX4_commonDivisor 0 = .ok (.iload_n 0, 1) := by decide +kernel
theorem dX4_commonDivisor_1 : decode cX4_commonDivisor 1 = .ok (.istore_n 2, 1) := by decide +kernel
theorem dX4_commonDivisor_2 : decode cX4_commonDivisor 2 = .ok (.iload_n 1, 1) := by decide +kernel
theorem dX4_commonDivisor_3 : decode cX4_commonDivisor 3 = .ok (.istore_n 3, 1) := by decide +kernel
theorem dX4_commonDivisor_4 : decode cX4_commonDivisor 4 = .ok (.iconst 0, 1) := by decide +kernel
theorem dX4_commonDivisor_5 : decode cX4_commonDivisor 5 = .ok (.istore 4, 2) := by decide +kernel
theorem dX4_commonDivisor_7 : decode cX4_commonDivisor 7 = .ok (.iload 4, 2) := by decide +kernel
theorem dX4_commonDivisor_9 : decode cX4_commonDivisor 9 = .ok (.bipush 64, 2) := by decide +kernel
theorem dX4_commonDivisor_11 : decode cX4_commonDivisor 11 = .ok (.if_icmp .ge 23, 3) := by decide +kernel
theorem dX4_commonDivisor_14 : decode cX4_commonDivisor 14 = .ok (.iload_n 3, 1) := by decide +kernel
theorem dX4_commonDivisor_15 : decode cX4_commonDivisor 15 = .ok (.ifCond .eq 19, 3) := by decide +kernel
theorem dX4_commonDivisor_18 : decode cX4_commonDivisor 18 = .ok (.iload_n 2, 1) := by decide +kernel
theorem dX4_commonDivisor_19 : decode cX4_commonDivisor 19 = .ok (.iload_n 3, 1) := by decide +kernel
theorem dX4_commonDivisor_20 : decode cX4_commonDivisor 20 = .ok (.irem, 1) := by decide +kernel
theorem dX4_commonDivisor_21 : decode cX4_commonDivisor 21 = .ok (.istore 5, 2) := by decide +kernel
theorem dX4_commonDivisor_23 : decode cX4_commonDivisor 23 = .ok (.iload_n 3, 1) := by decide +kernel
theorem dX4_commonDivisor_24 : decode cX4_commonDivisor 24 = .ok (.istore_n 2, 1) := by decide +kernel
theorem dX4_commonDivisor_25 : decode cX4_commonDivisor 25 = .ok (.iload 5, 2) := by decide +kernel
theorem dX4_commonDivisor_27 : decode cX4_commonDivisor 27 = .ok (.istore_n 3, 1) := by decide +kernel
theorem dX4_commonDivisor_28 : decode cX4_commonDivisor 28 = .ok (.iinc 4 1, 3) := by decide +kernel
theorem dX4_commonDivisor_31 : decode cX4_commonDivisor 31 = .ok (.goto (-24), 3) := by decide +kernel
theorem dX4_commonDivisor_34 : decode cX4_commonDivisor 34 = .ok (.iload_n 2, 1) := by decide +kernel
theorem dX4_commonDivisor_35 : decode cX4_commonDivisor 35 = .ok (.ireturn, 1) := by decide +kernel
theorem dX4_kindsHeard_0 : decode cX4_kindsHeard 0 = .ok (.iconst 0, 1) := by decide +kernel
theorem dX4_kindsHeard_1 : decode cX4_kindsHeard 1 = .ok (.istore 5, 2) := by decide +kernel
theorem dX4_kindsHeard_3 : decode cX4_kindsHeard 3 = .ok (.iconst 0, 1) := by decide +kernel
theorem dX4_kindsHeard_4 : decode cX4_kindsHeard 4 = .ok (.istore 6, 2) := by decide +kernel
theorem dX4_kindsHeard_6 : decode cX4_kindsHeard 6 = .ok (.iload 6, 2) := by decide +kernel
theorem dX4_kindsHeard_8 : decode cX4_kindsHeard 8 = .ok (.iconst 5, 1) := by decide +kernel
theorem dX4_kindsHeard_9 : decode cX4_kindsHeard 9 = .ok (.if_icmp .ge 52, 3) := by decide +kernel
theorem dX4_kindsHeard_12 : decode cX4_kindsHeard 12 = .ok (.aload_n 0, 1) := by decide +kernel
theorem dX4_kindsHeard_13 : decode cX4_kindsHeard 13 = .ok (.getfield 42, 3) := by decide +kernel
theorem dX4_kindsHeard_16 : decode cX4_kindsHeard 16 = .ok (.aload_n 0, 1) := by decide +kernel
theorem dX4_kindsHeard_17 : decode cX4_kindsHeard 17 = .ok (.getfield 10, 3) := by decide +kernel
theorem dX4_kindsHeard_20 : decode cX4_kindsHeard 20 = .ok (.invokevirtual 106, 3) := by decide +kernel
theorem dX4_kindsHeard_23 : decode cX4_kindsHeard 23 = .ok (.aload_n 0, 1) := by decide +kernel
theorem dX4_kindsHeard_24 : decode cX4_kindsHeard 24 = .ok (.getfield 42, 3) := by decide +kernel
theorem dX4_kindsHeard_27 : decode cX4_kindsHeard 27 = .ok (.getfield 69, 3) := by decide +kernel
theorem dX4_kindsHeard_30 : decode cX4_kindsHeard 30 = .ok (.iload_n 1, 1) := by decide +kernel
theorem dX4_kindsHeard_31 : decode cX4_kindsHeard 31 = .ok (.iload 6, 2) := by decide +kernel
theorem dX4_kindsHeard_33 : decode cX4_kindsHeard 33 = .ok (.iastore, 1) := by decide +kernel
theorem dX4_kindsHeard_34 : decode cX4_kindsHeard 34 = .ok (.aload_n 0, 1) := by decide +kernel
theorem dX4_kindsHeard_35 : decode cX4_kindsHeard 35 = .ok (.iload_n 1, 1) := by decide +kernel
theorem dX4_kindsHeard_36 : decode cX4_kindsHeard 36 = .ok (.aload_n 2, 1) := by decide +kernel
theorem dX4_kindsHeard_37 : decode cX4_kindsHeard 37 = .ok (.iload_n 3, 1) := by decide +kernel
theorem dX4_kindsHeard_38 : decode cX4_kindsHeard 38 = .ok (.iload 4, 2) := by decide +kernel
theorem dX4_kindsHeard_40 : decode cX4_kindsHeard 40 = .ok (.invokevirtual 237, 3) := by decide +kernel
theorem dX4_kindsHeard_43 : decode cX4_kindsHeard 43 = .ok (.ifCond .eq 12, 3) := by decide +kernel
theorem dX4_kindsHeard_46 : decode cX4_kindsHeard 46 = .ok (.iload 5, 2) := by decide +kernel
theorem dX4_kindsHeard_48 : decode cX4_kindsHeard 48 = .ok (.iconst 1, 1) := by decide +kernel
theorem dX4_kindsHeard_49 : decode cX4_kindsHeard 49 = .ok (.iload 6, 2) := by decide +kernel
theorem dX4_kindsHeard_51 : decode cX4_kindsHeard 51 = .ok (.ishl, 1) := by decide +kernel
theorem dX4_kindsHeard_52 : decode cX4_kindsHeard 52 = .ok (.ior, 1) := by decide +kernel
theorem dX4_kindsHeard_53 : decode cX4_kindsHeard 53 = .ok (.istore 5, 2) := by decide +kernel
theorem dX4_kindsHeard_55 : decode cX4_kindsHeard 55 = .ok (.iinc 6 1, 3) := by decide +kernel
theorem dX4_kindsHeard_58 : decode cX4_kindsHeard 58 = .ok (.goto (-52), 3) := by decide +kernel
theorem dX4_kindsHeard_61 : decode cX4_kindsHeard 61 = .ok (.iload 5, 2) := by decide +kernel
theorem dX4_kindsHeard_63 : decode cX4_kindsHeard 63 = .ok (.ireturn, 1) := by decide +kernel
theorem dX4_tempersHeard_0 : decode cX4_tempersHeard 0 = .ok (.iconst 0, 1) := by decide +kernel
theorem dX4_tempersHeard_1 : decode cX4_tempersHeard 1 = .ok (.istore 5, 2) := by decide +kernel
theorem dX4_tempersHeard_3 : decode cX4_tempersHeard 3 = .ok (.iconst 0, 1) := by decide +kernel
theorem dX4_tempersHeard_4 : decode cX4_tempersHeard 4 = .ok (.istore 6, 2) := by decide +kernel
theorem dX4_tempersHeard_6 : decode cX4_tempersHeard 6 = .ok (.iload 6, 2) := by decide +kernel
theorem dX4_tempersHeard_8 : decode cX4_tempersHeard 8 = .ok (.bipush 19, 2) := by decide +kernel
theorem dX4_tempersHeard_10 : decode cX4_tempersHeard 10 = .ok (.if_icmp .gt 52, 3) := by decide +kernel
theorem dX4_tempersHeard_13 : decode cX4_tempersHeard 13 = .ok (.aload_n 0, 1) := by decide +kernel
theorem dX4_tempersHeard_14 : decode cX4_tempersHeard 14 = .ok (.getfield 42, 3) := by decide +kernel
theorem dX4_tempersHeard_17 : decode cX4_tempersHeard 17 = .ok (.aload_n 0, 1) := by decide +kernel
theorem dX4_tempersHeard_18 : decode cX4_tempersHeard 18 = .ok (.getfield 10, 3) := by decide +kernel
theorem dX4_tempersHeard_21 : decode cX4_tempersHeard 21 = .ok (.invokevirtual 106, 3) := by decide +kernel
theorem dX4_tempersHeard_24 : decode cX4_tempersHeard 24 = .ok (.aload_n 0, 1) := by decide +kernel
theorem dX4_tempersHeard_25 : decode cX4_tempersHeard 25 = .ok (.getfield 42, 3) := by decide +kernel
theorem dX4_tempersHeard_28 : decode cX4_tempersHeard 28 = .ok (.getfield 79, 3) := by decide +kernel
theorem dX4_tempersHeard_31 : decode cX4_tempersHeard 31 = .ok (.iload_n 1, 1) := by decide +kernel
theorem dX4_tempersHeard_32 : decode cX4_tempersHeard 32 = .ok (.iload 6, 2) := by decide +kernel
theorem dX4_tempersHeard_34 : decode cX4_tempersHeard 34 = .ok (.iastore, 1) := by decide +kernel
theorem dX4_tempersHeard_35 : decode cX4_tempersHeard 35 = .ok (.aload_n 0, 1) := by decide +kernel
theorem dX4_tempersHeard_36 : decode cX4_tempersHeard 36 = .ok (.iload_n 1, 1) := by decide +kernel
theorem dX4_tempersHeard_37 : decode cX4_tempersHeard 37 = .ok (.aload_n 2, 1) := by decide +kernel
theorem dX4_tempersHeard_38 : decode cX4_tempersHeard 38 = .ok (.iload_n 3, 1) := by decide +kernel
theorem dX4_tempersHeard_39 : decode cX4_tempersHeard 39 = .ok (.iload 4, 2) := by decide +kernel
theorem dX4_tempersHeard_41 : decode cX4_tempersHeard 41 = .ok (.invokevirtual 237, 3) := by decide +kernel
theorem dX4_tempersHeard_44 : decode cX4_tempersHeard 44 = .ok (.ifCond .eq 12, 3) := by decide +kernel
theorem dX4_tempersHeard_47 : decode cX4_tempersHeard 47 = .ok (.iload 5, 2) := by decide +kernel
theorem dX4_tempersHeard_49 : decode cX4_tempersHeard 49 = .ok (.iconst 1, 1) := by decide +kernel
theorem dX4_tempersHeard_50 : decode cX4_tempersHeard 50 = .ok (.iload 6, 2) := by decide +kernel
theorem dX4_tempersHeard_52 : decode cX4_tempersHeard 52 = .ok (.ishl, 1) := by decide +kernel
theorem dX4_tempersHeard_53 : decode cX4_tempersHeard 53 = .ok (.ior, 1) := by decide +kernel
theorem dX4_tempersHeard_54 : decode cX4_tempersHeard 54 = .ok (.istore 5, 2) := by decide +kernel
theorem dX4_tempersHeard_56 : decode cX4_tempersHeard 56 = .ok (.iinc 6 1, 3) := by decide +kernel
theorem dX4_tempersHeard_59 : decode cX4_tempersHeard 59 = .ok (.goto (-53), 3) := by decide +kernel
theorem dX4_tempersHeard_62 : decode cX4_tempersHeard 62 = .ok (.iload 5, 2) := by decide +kernel
theorem dX4_tempersHeard_64 : decode cX4_tempersHeard 64 = .ok (.ireturn, 1) := by decide +kernel
theorem dX4_howManyWedHeard_0 : decode cX4_howManyWedHeard 0 = .ok (.iconst 0, 1) := by decide +kernel
theorem dX4_howManyWedHeard_1 : decode cX4_howManyWedHeard 1 = .ok (.istore 5, 2) := by decide +kernel
theorem dX4_howManyWedHeard_3 : decode cX4_howManyWedHeard 3 = .ok (.iconst 0, 1) := by decide +kernel
theorem dX4_howManyWedHeard_4 : decode cX4_howManyWedHeard 4 = .ok (.istore 6, 2) := by decide +kernel
theorem dX4_howManyWedHeard_6 : decode cX4_howManyWedHeard 6 = .ok (.iload 6, 2) := by decide +kernel
theorem dX4_howManyWedHeard_8 : decode cX4_howManyWedHeard 8 = .ok (.bipush 80, 2) := by decide +kernel
theorem dX4_howManyWedHeard_10 : decode cX4_howManyWedHeard 10 = .ok (.if_icmp .gt 26, 3) := by decide +kernel
theorem dX4_howManyWedHeard_13 : decode cX4_howManyWedHeard 13 = .ok (.aload_n 0, 1) := by decide +kernel
theorem dX4_howManyWedHeard_14 : decode cX4_howManyWedHeard 14 = .ok (.iload_n 1, 1) := by decide +kernel
theorem dX4_howManyWedHeard_15 : decode cX4_howManyWedHeard 15 = .ok (.iload 6, 2) := by decide +kernel
theorem dX4_howManyWedHeard_17 : decode cX4_howManyWedHeard 17 = .ok (.aload_n 2, 1) := by decide +kernel
theorem dX4_howManyWedHeard_18 : decode cX4_howManyWedHeard 18 = .ok (.iload_n 3, 1) := by decide +kernel
theorem dX4_howManyWedHeard_19 : decode cX4_howManyWedHeard 19 = .ok (.iload 4, 2) := by decide +kernel
theorem dX4_howManyWedHeard_21 : decode cX4_howManyWedHeard 21 = .ok (.invokevirtual 241, 3) := by decide +kernel
theorem dX4_howManyWedHeard_24 : decode cX4_howManyWedHeard 24 = .ok (.ifCond .eq 6, 3) := by decide +kernel
theorem dX4_howManyWedHeard_27 : decode cX4_howManyWedHeard 27 = .ok (.iinc 5 1, 3) := by decide +kernel
theorem dX4_howManyWedHeard_30 : decode cX4_howManyWedHeard 30 = .ok (.iinc 6 1, 3) := by decide +kernel
theorem dX4_howManyWedHeard_33 : decode cX4_howManyWedHeard 33 = .ok (.goto (-27), 3) := by decide +kernel
theorem dX4_howManyWedHeard_36 : decode cX4_howManyWedHeard 36 = .ok (.iload 5, 2) := by decide +kernel
theorem dX4_howManyWedHeard_38 : decode cX4_howManyWedHeard 38 = .ok (.ireturn, 1) := by decide +kernel
theorem dX4_leastWedHeard_0 : decode cX4_leastWedHeard 0 = .ok (.iconst 0, 1) := by decide +kernel
theorem dX4_leastWedHeard_1 : decode cX4_leastWedHeard 1 = .ok (.istore 5, 2) := by decide +kernel
theorem dX4_leastWedHeard_3 : decode cX4_leastWedHeard 3 = .ok (.iload 5, 2) := by decide +kernel
theorem dX4_leastWedHeard_5 : decode cX4_leastWedHeard 5 = .ok (.bipush 80, 2) := by decide +kernel
theorem dX4_leastWedHeard_7 : decode cX4_leastWedHeard 7 = .ok (.if_icmp .gt 26, 3) := by decide +kernel
theorem dX4_leastWedHeard_10 : decode cX4_leastWedHeard 10 = .ok (.aload_n 0, 1) := by decide +kernel
theorem dX4_leastWedHeard_11 : decode cX4_leastWedHeard 11 = .ok (.iload_n 1, 1) := by decide +kernel
theorem dX4_leastWedHeard_12 : decode cX4_leastWedHeard 12 = .ok (.iload 5, 2) := by decide +kernel
theorem dX4_leastWedHeard_14 : decode cX4_leastWedHeard 14 = .ok (.aload_n 2, 1) := by decide +kernel
theorem dX4_leastWedHeard_15 : decode cX4_leastWedHeard 15 = .ok (.iload_n 3, 1) := by decide +kernel
theorem dX4_leastWedHeard_16 : decode cX4_leastWedHeard 16 = .ok (.iload 4, 2) := by decide +kernel
theorem dX4_leastWedHeard_18 : decode cX4_leastWedHeard 18 = .ok (.invokevirtual 241, 3) := by decide +kernel
theorem dX4_leastWedHeard_21 : decode cX4_leastWedHeard 21 = .ok (.ifCond .eq 6, 3) := by decide +kernel
theorem dX4_leastWedHeard_24 : decode cX4_leastWedHeard 24 = .ok (.iload 5, 2) := by decide +kernel
theorem dX4_leastWedHeard_26 : decode cX4_leastWedHeard 26 = .ok (.ireturn, 1) := by decide +kernel
theorem dX4_leastWedHeard_27 : decode cX4_leastWedHeard 27 = .ok (.iinc 5 1, 3) := by decide +kernel
theorem dX4_leastWedHeard_30 : decode cX4_leastWedHeard 30 = .ok (.goto (-27), 3) := by decide +kernel
theorem dX4_leastWedHeard_33 : decode cX4_leastWedHeard 33 = .ok (.bipush (-4), 2) := by decide +kernel
theorem dX4_leastWedHeard_35 : decode cX4_leastWedHeard 35 = .ok (.ireturn, 1) := by decide +kernel
theorem dX4_wedTells_0 : decode cX4_wedTells 0 = .ok (.aload_n 0, 1) := by decide +kernel
theorem dX4_wedTells_1 : decode cX4_wedTells 1 = .ok (.getfield 42, 3) := by decide +kernel
theorem dX4_wedTells_4 : decode cX4_wedTells 4 = .ok (.aload_n 0, 1) := by decide +kernel
theorem dX4_wedTells_5 : decode cX4_wedTells 5 = .ok (.getfield 10, 3) := by decide +kernel
theorem dX4_wedTells_8 : decode cX4_wedTells 8 = .ok (.invokevirtual 106, 3) := by decide +kernel
theorem dX4_wedTells_11 : decode cX4_wedTells 11 = .ok (.aload_n 0, 1) := by decide +kernel
theorem dX4_wedTells_12 : decode cX4_wedTells 12 = .ok (.getfield 42, 3) := by decide +kernel
theorem dX4_wedTells_15 : decode cX4_wedTells 15 = .ok (.getfield 73, 3) := by decide +kernel
theorem dX4_wedTells_18 : decode cX4_wedTells 18 = .ok (.iload_n 1, 1) := by decide +kernel
theorem dX4_wedTells_19 : decode cX4_wedTells 19 = .ok (.iload_n 2, 1) := by decide +kernel
theorem dX4_wedTells_20 : decode cX4_wedTells 20 = .ok (.iastore, 1) := by decide +kernel
theorem dX4_wedTells_21 : decode cX4_wedTells 21 = .ok (.aload_n 0, 1) := by decide +kernel
theorem dX4_wedTells_22 : decode cX4_wedTells 22 = .ok (.iload_n 1, 1) := by decide +kernel
theorem dX4_wedTells_23 : decode cX4_wedTells 23 = .ok (.aload_n 3, 1) := by decide +kernel
theorem dX4_wedTells_24 : decode cX4_wedTells 24 = .ok (.iload 4, 2) := by decide +kernel
theorem dX4_wedTells_26 : decode cX4_wedTells 26 = .ok (.iload 5, 2) := by decide +kernel
theorem dX4_wedTells_28 : decode cX4_wedTells 28 = .ok (.invokevirtual 237, 3) := by decide +kernel
theorem dX4_wedTells_31 : decode cX4_wedTells 31 = .ok (.ireturn, 1) := by decide +kernel
theorem dX4_trialTells_0 : decode cX4_trialTells 0 = .ok (.iconst 0, 1) := by decide +kernel
theorem dX4_trialTells_1 : decode cX4_trialTells 1 = .ok (.istore 5, 2) := by decide +kernel
theorem dX4_trialTells_3 : decode cX4_trialTells 3 = .ok (.iload 5, 2) := by decide +kernel
theorem dX4_trialTells_5 : decode cX4_trialTells 5 = .ok (.iload 4, 2) := by decide +kernel
theorem dX4_trialTells_7 : decode cX4_trialTells 7 = .ok (.if_icmp .ge 41, 3) := by decide +kernel
theorem dX4_trialTells_10 : decode cX4_trialTells 10 = .ok (.aload_n 0, 1) := by decide +kernel
theorem dX4_trialTells_11 : decode cX4_trialTells 11 = .ok (.getfield 42, 3) := by decide +kernel
theorem dX4_trialTells_14 : decode cX4_trialTells 14 = .ok (.invokevirtual 130, 3) := by decide +kernel
theorem dX4_trialTells_17 : decode cX4_trialTells 17 = .ok (.aload_n 2, 1) := by decide +kernel
theorem dX4_trialTells_18 : decode cX4_trialTells 18 = .ok (.getfield 224, 3) := by decide +kernel
theorem dX4_trialTells_21 : decode cX4_trialTells 21 = .ok (.iload_n 3, 1) := by decide +kernel
theorem dX4_trialTells_22 : decode cX4_trialTells 22 = .ok (.iload 5, 2) := by decide +kernel
theorem dX4_trialTells_24 : decode cX4_trialTells 24 = .ok (.iadd, 1) := by decide +kernel
theorem dX4_trialTells_25 : decode cX4_trialTells 25 = .ok (.laload, 1) := by decide +kernel
theorem dX4_trialTells_26 : decode cX4_trialTells 26 = .ok (.aload_n 0, 1) := by decide +kernel
theorem dX4_trialTells_27 : decode cX4_trialTells 27 = .ok (.getfield 42, 3) := by decide +kernel
theorem dX4_trialTells_30 : decode cX4_trialTells 30 = .ok (.getfield 79, 3) := by decide +kernel
theorem dX4_trialTells_33 : decode cX4_trialTells 33 = .ok (.iload_n 1, 1) := by decide +kernel
theorem dX4_trialTells_34 : decode cX4_trialTells 34 = .ok (.iaload, 1) := by decide +kernel
theorem dX4_trialTells_35 : decode cX4_trialTells 35 = .ok (.i2l, 1) := by decide +kernel
theorem dX4_trialTells_36 : decode cX4_trialTells 36 = .ok (.lcmp, 1) := by decide +kernel
theorem dX4_trialTells_37 : decode cX4_trialTells 37 = .ok (.ifCond .eq 5, 3) := by decide +kernel
theorem dX4_trialTells_40 : decode cX4_trialTells 40 = .ok (.iconst 0, 1) := by decide +kernel
theorem dX4_trialTells_41 : decode cX4_trialTells 41 = .ok (.ireturn, 1) := by decide +kernel
theorem dX4_trialTells_42 : decode cX4_trialTells 42 = .ok (.iinc 5 1, 3) := by decide +kernel
theorem dX4_trialTells_45 : decode cX4_trialTells 45 = .ok (.goto (-42), 3) := by decide +kernel
theorem dX4_trialTells_48 : decode cX4_trialTells 48 = .ok (.iconst 1, 1) := by decide +kernel
theorem dX4_trialTells_49 : decode cX4_trialTells 49 = .ok (.ireturn, 1) := by decide +kernel
end
section
theorem dX5_init_0 : decode cX5_init 0 = .ok (.aload_n 0, 1) := by decide +kernel
theorem dX5_init_1 : decode cX5_init 1 = .ok (.invokespecial 1, 3) := by decide +kernel
theorem dX5_init_4 : decode cX5_init 4 = .ok (.aload_n 0, 1) := by decide +kernel
theorem dX5_init_5 : decode cX5_init 5 = .ok (.bipush 32, 2) := by decide +kernel
theorem dX5_init_7 : decode cX5_init 7 = .ok (.newarray .int, 2) := by decide +kernel
theorem dX5_init_9 : decode cX5_init 9 = .ok (.putfield 7, 3) := by decide +kernel
theorem dX5_init_12 : decode cX5_init 12 = .ok (.aload_n 0, 1) := by decide +kernel
theorem dX5_init_13 : decode cX5_init 13 = .ok (.bipush 32, 2) := by decide +kernel
theorem dX5_init_15 : decode cX5_init 15 = .ok (.newarray .int, 2) := by decide +kernel
theorem dX5_init_17 : decode cX5_init 17 = .ok (.putfield 13, 3) := by decide +kernel
theorem dX5_init_20 : decode cX5_init 20 = .ok (.aload_n 0, 1) := by decide +kernel
theorem dX5_init_21 : decode cX5_init 21 = .ok (.sipush 256, 3) := by decide +kernel
theorem dX5_init_24 : decode cX5_init 24 = .ok (.newarray .int, 2) := by decide +kernel
theorem dX5_init_26 : decode cX5_init 26 = .ok (.putfield 16, 3) := by decide +kernel
theorem dX5_init_29 : decode cX5_init 29 = .ok (.aload_n 0, 1) := by decide +kernel
theorem dX5_init_30 : decode cX5_init 30 = .ok (.bipush 32, 2) := by decide +kernel
theorem dX5_init_32 : decode cX5_init 32 = .ok (.newarray .int, 2) := by decide +kernel
theorem dX5_init_34 : decode cX5_init 34 = .ok (.putfield 19, 3) := by decide +kernel
theorem dX5_init_37 : decode cX5_init 37 = .ok (.aload_n 0, 1) := by decide +kernel
theorem dX5_init_38 : decode cX5_init 38 = .ok (.sipush 256, 3) := by decide +kernel
theorem dX5_init_41 : decode cX5_init 41 = .ok (.newarray .int, 2) := by decide +kernel
theorem dX5_init_43 : decode cX5_init 43 = .ok (.putfield 22, 3) := by decide +kernel
theorem dX5_init_46 : decode cX5_init 46 = .ok (.aload_n 0, 1) := by decide +kernel
theorem dX5_init_47 : decode cX5_init 47 = .ok (.bipush 7, 2) := by decide +kernel
theorem dX5_init_49 : decode cX5_init 49 = .ok (.newarray .int, 2) := by decide +kernel
theorem dX5_init_51 : decode cX5_init 51 = .ok (.putfield 25, 3) := by decide +kernel
theorem dX5_init_54 : decode cX5_init 54 = .ok (.aload_n 0, 1) := by decide +kernel
theorem dX5_init_55 : decode cX5_init 55 = .ok (.bipush 80, 2) := by decide +kernel
theorem dX5_init_57 : decode cX5_init 57 = .ok (.newarray .byte, 2) := by decide +kernel
theorem dX5_init_59 : decode cX5_init 59 = .ok (.putfield 28, 3) := by decide +kernel
theorem dX5_init_62 : decode cX5_init 62 = .ok (.aload_n 0, 1) := by decide +kernel
theorem dX5_init_63 : decode cX5_init 63 = .ok (.iconst 4, 1) := by decide +kernel
theorem dX5_init_64 : decode cX5_init 64 = .ok (.newarray .int, 2) := by decide +kernel
theorem dX5_init_66 : decode cX5_init 66 = .ok (.putfield 32, 3) := by decide +kernel
theorem dX5_init_69 : decode cX5_init 69 = .ok (.aload_n 0, 1) := by decide +kernel
theorem dX5_init_70 : decode cX5_init 70 = .ok (.iconst 4, 1) := by decide +kernel
theorem dX5_init_71 : decode cX5_init 71 = .ok (.newarray .int, 2) := by decide +kernel
theorem dX5_init_73 : decode cX5_init 73 = .ok (.putfield 35, 3) := by decide +kernel
theorem dX5_init_76 : decode cX5_init 76 = .ok (.aload_n 0, 1) := by decide +kernel
theorem dX5_init_77 : decode cX5_init 77 = .ok (.bipush 96, 2) := by decide +kernel
theorem dX5_init_79 : decode cX5_init 79 = .ok (.newarray .long, 2) := by decide +kernel
theorem dX5_init_81 : decode cX5_init 81 = .ok (.putfield 38, 3) := by decide +kernel
theorem dX5_init_84 : decode cX5_init 84 = .ok (.aload_n 0, 1) := by decide +kernel
theorem dX5_init_85 : decode cX5_init 85 = .ok (.bipush 24, 2) := by decide +kernel
theorem dX5_init_87 : decode cX5_init 87 = .ok (.newarray .long, 2) := by decide +kernel
theorem dX5_init_89 : decode cX5_init 89 = .ok (.putfield 42, 3) := by decide +kernel
theorem dX5_init_92 : decode cX5_init 92 = .ok (.aload_n 0, 1) := by decide +kernel
theorem dX5_init_93 : decode cX5_init 93 = .ok (.getfield 7, 3) := by decide +kernel
theorem dX5_init_96 : decode cX5_init 96 = .ok (.iconst 3, 1) := by decide +kernel
theorem dX5_init_97 : decode cX5_init 97 = .ok (.iconst 1, 1) := by decide +kernel
theorem dX5_init_98 : decode cX5_init 98 = .ok (.iastore, 1) := by decide +kernel
theorem dX5_init_99 : decode cX5_init 99 = .ok (.return_, 1) := by decide +kernel
theorem dX5_in_0 : decode cX5_in 0 = .ok (.iload_n 0, 1) := by decide +kernel
theorem dX5_in_1 : decode cX5_in 1 = .ok (.iload_n 1, 1) := by decide +kernel
theorem dX5_in_2 : decode cX5_in 2 = .ok (.if_icmp .lt 12, 3) := by decide +kernel
theorem dX5_in_5 : decode cX5_in 5 = .ok (.iload_n 0, 1) := by decide +kernel
theorem dX5_in_6 : decode cX5_in 6 = .ok (.iload_n 2, 1) := by decide +kernel
theorem dX5_in_7 : decode cX5_in 7 = .ok (.if_icmp .gt 7, 3) := by decide +kernel
theorem dX5_in_10 : decode cX5_in 10 = .ok (.iconst 1, 1) := by decide +kernel
theorem dX5_in_11 : decode cX5_in 11 = .ok (.goto 4, 3) := by decide +kernel
theorem dX5_in_14 : decode cX5_in 14 = .ok (.iconst 0, 1) := by decide +kernel
theorem dX5_in_15 : decode cX5_in 15 = .ok (.ireturn, 1) := by decide +kernel
theorem dX5_has_0 : decode cX5_has 0 = .ok (.iload_n 0, 1) := by decide +kernel
theorem dX5_has_1 : decode cX5_has 1 = .ok (.iload_n 1, 1) := by decide +kernel
theorem dX5_has_2 : decode cX5_has 2 = .ok (.ishr, 1) := by decide +kernel
theorem dX5_has_3 : decode cX5_has 3 = .ok (.iconst 1, 1) := by decide +kernel
theorem dX5_has_4 : decode cX5_has 4 = .ok (.iand, 1) := by decide +kernel
theorem dX5_has_5 : decode cX5_has 5 = .ok (.iconst 1, 1) := by decide +kernel
theorem dX5_has_6 : decode cX5_has 6 = .ok (.if_icmp .ne 7, 3) := by decide +kernel
theorem dX5_has_9 : decode cX5_has 9 = .ok (.iconst 1, 1) := by decide +kernel
theorem dX5_has_10 : decode cX5_has 10 = .ok (.goto 4, 3) := by decide +kernel
theorem dX5_has_13 : decode cX5_has 13 = .ok (.iconst 0, 1) := by decide +kernel
theorem dX5_has_14 : decode cX5_has 14 = .ok (.ireturn, 1) := by decide +kernel
theorem dX5_bitsOf_0 : decode cX5_bitsOf 0 = .ok (.iconst 0, 1) := by decide +kernel
theorem dX5_bitsOf_1 : decode cX5_bitsOf 1 = .ok (.istore_n 1, 1) := by decide +kernel
theorem dX5_bitsOf_2 : decode cX5_bitsOf 2 = .ok (.iconst 0, 1) := by decide +kernel
theorem dX5_bitsOf_3 : decode cX5_bitsOf 3 = .ok (.istore_n 2, 1) := by decide +kernel
theorem dX5_bitsOf_4 : decode cX5_bitsOf 4 = .ok (.iload_n 2, 1) := by decide +kernel
theorem dX5_bitsOf_5 : decode cX5_bitsOf 5 = .ok (.bipush 20, 2) := by decide +kernel
theorem dX5_bitsOf_7 : decode cX5_bitsOf 7 = .ok (.if_icmp .ge 17, 3) := by decide +kernel
theorem dX5_bitsOf_10 : decode cX5_bitsOf 10 = .ok (.iload_n 1, 1) := by decide +kernel
theorem dX5_bitsOf_11 : decode cX5_bitsOf 11 = .ok (.iload_n 0, 1) := by decide +kernel
theorem dX5_bitsOf_12 : decode cX5_bitsOf 12 = .ok (.iload_n 2, 1) := by decide +kernel
theorem dX5_bitsOf_13 : decode cX5_bitsOf 13 = .ok (.ishr, 1) := by decide +kernel
theorem dX5_bitsOf_14 : decode cX5_bitsOf 14 = .ok (.iconst 1, 1) := by decide +kernel
theorem dX5_bitsOf_15 : decode cX5_bitsOf 15 = .ok (.iand, 1) := by decide +kernel
theorem dX5_bitsOf_16 : decode cX5_bitsOf 16 = .ok (.iadd, 1) := by decide +kernel
theorem dX5_bitsOf_17 : decode cX5_bitsOf 17 = .ok (.istore_n 1, 1) := by decide +kernel
theorem dX5_bitsOf_18 : decode cX5_bitsOf 18 = .ok (.iinc 2 1, 3) := by decide +kernel
theorem dX5_bitsOf_21 : decode cX5_bitsOf 21 = .ok (.goto (-17), 3) := by decide +kernel
theorem dX5_bitsOf_24 : decode cX5_bitsOf 24 = .ok (.iload_n 1, 1) := by decide +kernel
theorem dX5_bitsOf_25 : decode cX5_bitsOf 25 = .ok (.ireturn, 1) := by decide +kernel
theorem dX5_take_0 : decode cX5_take 0 = .ok (.iconst 0, 1) := by decide +kernel
theorem dX5_take_1 : decode cX5_take 1 = .ok (.istore_n 1, 1) := by decide +kernel
theorem dX5_take_2 : decode cX5_take 2 = .ok (.iload_n 1, 1) := by decide +kernel
theorem dX5_take_3 : decode cX5_take 3 = .ok (.bipush 32, 2) := by decide +kernel
theorem dX5_take_5 : decode cX5_take 5 = .ok (.if_icmp .ge 21, 3) := by decide +kernel
theorem dX5_take_8 : decode cX5_take 8 = .ok (.aload_n 0, 1) := by decide +kernel
theorem dX5_take_9 : decode cX5_take 9 = .ok (.getfield 13, 3) := by decide +kernel
theorem dX5_take_12 : decode cX5_take 12 = .ok (.iload_n 1, 1) := by decide +kernel
theorem dX5_take_13 : decode cX5_take 13 = .ok (.aload_n 0, 1) := by decide +kernel
theorem dX5_take_14 : decode cX5_take 14 = .ok (.getfield 7, 3) := by decide +kernel
theorem dX5_take_17 : decode cX5_take 17 = .ok (.iload_n 1, 1) := by decide +kernel
theorem dX5_take_18 : decode cX5_take 18 = .ok (.iaload, 1) := by decide +kernel
theorem dX5_take_19 : decode cX5_take 19 = .ok (.iastore, 1) := by decide +kernel
theorem dX5_take_20 : decode cX5_take 20 = .ok (.iinc 1 1, 3) := by decide +kernel
theorem dX5_take_23 : decode cX5_take 23 = .ok (.goto (-21), 3) := by decide +kernel
theorem dX5_take_26 : decode cX5_take 26 = .ok (.return_, 1) := by decide +kernel
theorem dX5_isCouple_0 : decode cX5_isCouple 0 = .ok (.iload_n 1, 1) := by decide +kernel
theorem dX5_isCouple_1 : decode cX5_isCouple 1 = .ok (.iconst 0, 1) := by decide +kernel
theorem dX5_isCouple_2 : decode cX5_isCouple 2 = .ok (.aload_n 0, 1) := by decide +kernel
theorem dX5_isCouple_3 : decode cX5_isCouple 3 = .ok (.getfield 7, 3) := by decide +kernel
theorem dX5_isCouple_6 : decode cX5_isCouple 6 = .ok (.iconst 0, 1) := by decide +kernel
theorem dX5_isCouple_7 : decode cX5_isCouple 7 = .ok (.iaload, 1) := by decide +kernel
theorem dX5_isCouple_8 : decode cX5_isCouple 8 = .ok (.iconst 1, 1) := by decide +kernel
theorem dX5_isCouple_9 : decode cX5_isCouple 9 = .ok (.isub, 1) := by decide +kernel
theorem dX5_isCouple_10 : decode cX5_isCouple 10 = .ok (.invokestatic 45, 3) := by decide +kernel
theorem dX5_isCouple_13 : decode cX5_isCouple 13 = .ok (.ireturn, 1) := by decide +kernel
theorem dX5_isParted_0 : decode cX5_isParted 0 = .ok (.aload_n 0, 1) := by decide +kernel
theorem dX5_isParted_1 : decode cX5_isParted 1 = .ok (.iconst 2, 1) := by decide +kernel
theorem dX5_isParted_2 : decode cX5_isParted 2 = .ok (.iaload, 1) := by decide +kernel
theorem dX5_isParted_3 : decode cX5_isParted 3 = .ok (.iload_n 1, 1) := by decide +kernel
theorem dX5_isParted_4 : decode cX5_isParted 4 = .ok (.invokestatic 49, 3) := by decide +kernel
theorem dX5_isParted_7 : decode cX5_isParted 7 = .ok (.ireturn, 1) := by decide +kernel
theorem dX5_longest_0 : decode cX5_longest 0 = .ok (.bipush (-4), 2) := by decide +kernel
theorem dX5_longest_2 : decode cX5_longest 2 = .ok (.istore_n 2, 1) := by decide +kernel
theorem dX5_longest_3 : decode cX5_longest 3 = .ok (.aload_n 0, 1) := by decide +kernel
theorem dX5_longest_4 : decode cX5_longest 4 = .ok (.iconst 0, 1) := by decide +kernel
theorem dX5_longest_5 : decode cX5_longest 5 = .ok (.iaload, 1) := by decide +kernel
theorem dX5_longest_6 : decode cX5_longest 6 = .ok (.iconst 1, 1) := by decide +kernel
theorem dX5_longest_7 : decode cX5_longest 7 = .ok (.isub, 1) := by decide +kernel
theorem dX5_longest_8 : decode cX5_longest 8 = .ok (.istore_n 3, 1) := by decide +kernel
theorem dX5_longest_9 : decode cX5_longest 9 = .ok (.iload_n 3, 1) := by decide +kernel
theorem dX5_longest_10 : decode cX5_longest 10 = .ok (.ifCond .lt 61, 3) := by decide +kernel
theorem dX5_longest_13 : decode cX5_longest 13 = .ok (.aload_n 0, 1) := by decide +kernel
theorem dX5_longest_14 : decode cX5_longest 14 = .ok (.iload_n 3, 1) := by decide +kernel
theorem dX5_longest_15 : decode cX5_longest 15 = .ok (.invokestatic 53, 3) := by decide +kernel
theorem dX5_longest_18 : decode cX5_longest 18 = .ok (.ifCond .ne 12, 3) := by decide +kernel
theorem dX5_longest_21 : decode cX5_longest 21 = .ok (.iload_n 3, 1) := by decide +kernel
theorem dX5_longest_22 : decode cX5_longest 22 = .ok (.iload_n 1, 1) := by decide +kernel
theorem dX5_longest_23 : decode cX5_longest 23 = .ok (.if_icmp .eq 7, 3) := by decide +kernel
theorem dX5_longest_26 : decode cX5_longest 26 = .ok (.iconst 1, 1) := by decide +kernel
theorem dX5_longest_27 : decode cX5_longest 27 = .ok (.goto 4, 3) := by decide +kernel
theorem dX5_longest_30 : decode cX5_longest 30 = .ok (.iconst 0, 1) := by decide +kernel
theorem dX5_longest_31 : decode cX5_longest 31 = .ok (.istore 4, 2) := by decide +kernel
theorem dX5_longest_33 : decode cX5_longest 33 = .ok (.iload 4, 2) := by decide +kernel
theorem dX5_longest_35 : decode cX5_longest 35 = .ok (.ifCond .eq 28, 3) := by decide +kernel
theorem dX5_longest_38 : decode cX5_longest 38 = .ok (.iload_n 2, 1) := by decide +kernel
theorem dX5_longest_39 : decode cX5_longest 39 = .ok (.bipush (-4), 2) := by decide +kernel
theorem dX5_longest_41 : decode cX5_longest 41 = .ok (.if_icmp .eq 18, 3) := by decide +kernel
theorem dX5_longest_44 : decode cX5_longest 44 = .ok (.aload_n 0, 1) := by decide +kernel
theorem dX5_longest_45 : decode cX5_longest 45 = .ok (.bipush 11, 2) := by decide +kernel
theorem dX5_longest_47 : decode cX5_longest 47 = .ok (.iload_n 3, 1) := by decide +kernel
theorem dX5_longest_48 : decode cX5_longest 48 = .ok (.iadd, 1) := by decide +kernel
theorem dX5_longest_49 : decode cX5_longest 49 = .ok (.iaload, 1) := by decide +kernel
theorem dX5_longest_50 : decode cX5_longest 50 = .ok (.aload_n 0, 1) := by decide +kernel
theorem dX5_longest_51 : decode cX5_longest 51 = .ok (.bipush 11, 2) := by decide +kernel
theorem dX5_longest_53 : decode cX5_longest 53 = .ok (.iload_n 2, 1) := by decide +kernel
theorem dX5_longest_54 : decode cX5_longest 54 = .ok (.iadd, 1) := by decide +kernel
theorem dX5_longest_55 : decode cX5_longest 55 = .ok (.iaload, 1) := by decide +kernel
theorem dX5_longest_56 : decode cX5_longest 56 = .ok (.if_icmp .lt 7, 3) := by decide +kernel
theorem dX5_longest_59 : decode cX5_longest 59 = .ok (.iload_n 3, 1) := by decide +kernel
theorem dX5_longest_60 : decode cX5_longest 60 = .ok (.goto 4, 3) := by decide +kernel
theorem dX5_longest_63 : decode cX5_longest 63 = .ok (.iload_n 2, 1) := by decide +kernel
theorem dX5_longest_64 : decode cX5_longest 64 = .ok (.istore_n 2, 1) := by decide +kernel
theorem dX5_longest_65 : decode cX5_longest 65 = .ok (.iinc 3 (-1), 3) := by decide +kernel
theorem dX5_longest_68 : decode cX5_longest 68 = .ok (.goto (-59), 3) := by decide +kernel
theorem dX5_longest_71 : decode cX5_longest 71 = .ok (.iload_n 2, 1) := by decide +kernel
theorem dX5_longest_72 : decode cX5_longest 72 = .ok (.ireturn, 1) := by decide +kernel
theorem dX5_keysOf_0 : decode cX5_keysOf 0 = .ok (.aload_n 0, 1) := by decide +kernel
theorem dX5_keysOf_1 : decode cX5_keysOf 1 = .ok (.bipush (-4), 2) := by decide +kernel
theorem dX5_keysOf_3 : decode cX5_keysOf 3 = .ok (.invokestatic 57, 3) := by decide +kernel
theorem dX5_keysOf_6 : decode cX5_keysOf 6 = .ok (.ireturn, 1) := by decide +kernel
theorem dX5_secondOf_0 : decode cX5_secondOf 0 = .ok (.aload_n 0, 1) := by decide +kernel
theorem dX5_secondOf_1 : decode cX5_secondOf 1 = .ok (.invokestatic 61, 3) := by decide +kernel
theorem dX5_secondOf_4 : decode cX5_secondOf 4 = .ok (.istore_n 1, 1) := by decide +kernel
theorem dX5_secondOf_5 : decode cX5_secondOf 5 = .ok (.iload_n 1, 1) := by decide +kernel
theorem dX5_secondOf_6 : decode cX5_secondOf 6 = .ok (.bipush (-4), 2) := by decide +kernel
theorem dX5_secondOf_8 : decode cX5_secondOf 8 = .ok (.if_icmp .ne 8, 3) := by decide +kernel
theorem dX5_secondOf_11 : decode cX5_secondOf 11 = .ok (.bipush (-4), 2) := by decide +kernel
theorem dX5_secondOf_13 : decode cX5_secondOf 13 = .ok (.goto 8, 3) := by decide +kernel
theorem dX5_secondOf_16 : decode cX5_secondOf 16 = .ok (.aload_n 0, 1) := by decide +kernel
theorem dX5_secondOf_17 : decode cX5_secondOf 17 = .ok (.iload_n 1, 1) := by decide +kernel
theorem dX5_secondOf_18 : decode cX5_secondOf 18 = .ok (.invokestatic 57, 3) := by decide +kernel
theorem dX5_secondOf_21 : decode cX5_secondOf 21 = .ok (.ireturn, 1) := by decide +kernel
theorem dX5_worseBy_0 : decode cX5_worseBy 0 = .ok (.aload_n 0, 1) := by decide +kernel
theorem dX5_worseBy_1 : decode cX5_worseBy 1 = .ok (.invokestatic 61, 3) := by decide +kernel
theorem dX5_worseBy_4 : decode cX5_worseBy 4 = .ok (.iload_n 1, 1) := by decide +kernel
theorem dX5_worseBy_5 : decode cX5_worseBy 5 = .ok (.if_icmp .ne 7, 3) := by decide +kernel
theorem dX5_worseBy_8 : decode cX5_worseBy 8 = .ok (.iconst 1, 1) := by decide +kernel
theorem dX5_worseBy_9 : decode cX5_worseBy 9 = .ok (.goto 4, 3) := by decide +kernel
theorem dX5_worseBy_12 : decode cX5_worseBy 12 = .ok (.iconst 0, 1) := by decide +kernel
theorem dX5_worseBy_13 : decode cX5_worseBy 13 = .ok (.istore_n 2, 1) := by decide +kernel
theorem dX5_worseBy_14 : decode cX5_worseBy 14 = .ok (.iload_n 2, 1) := by decide +kernel
theorem dX5_worseBy_15 : decode cX5_worseBy 15 = .ok (.ifCond .eq 7, 3) := by decide +kernel
theorem dX5_worseBy_18 : decode cX5_worseBy 18 = .ok (.iconst 1, 1) := by decide +kernel
theorem dX5_worseBy_19 : decode cX5_worseBy 19 = .ok (.goto 4, 3) := by decide +kernel
theorem dX5_worseBy_22 : decode cX5_worseBy 22 = .ok (.iconst (-1), 1) := by decide +kernel
theorem dX5_worseBy_23 : decode cX5_worseBy 23 = .ok (.istore_n 3, 1) := by decide +kernel
theorem dX5_worseBy_24 : decode cX5_worseBy 24 = .ok (.iload_n 2, 1) := by decide +kernel
theorem dX5_worseBy_25 : decode cX5_worseBy 25 = .ok (.ifCond .eq 9, 3) := by decide +kernel
theorem dX5_worseBy_28 : decode cX5_worseBy 28 = .ok (.iload_n 3, 1) := by decide +kernel
theorem dX5_worseBy_29 : decode cX5_worseBy 29 = .ok (.iconst 2, 1) := by decide +kernel
theorem dX5_worseBy_30 : decode cX5_worseBy 30 = .ok (.iadd, 1) := by decide +kernel
theorem dX5_worseBy_31 : decode cX5_worseBy 31 = .ok (.goto 4, 3) := by decide +kernel
theorem dX5_worseBy_34 : decode cX5_worseBy 34 = .ok (.iload_n 3, 1) := by decide +kernel
theorem dX5_worseBy_35 : decode cX5_worseBy 35 = .ok (.istore 4, 2) := by decide +kernel
theorem dX5_worseBy_37 : decode cX5_worseBy 37 = .ok (.aload_n 0, 1) := by decide +kernel
theorem dX5_worseBy_38 : decode cX5_worseBy 38 = .ok (.invokestatic 65, 3) := by decide +kernel
theorem dX5_worseBy_41 : decode cX5_worseBy 41 = .ok (.iload_n 1, 1) := by decide +kernel
theorem dX5_worseBy_42 : decode cX5_worseBy 42 = .ok (.if_icmp .ne 9, 3) := by decide +kernel
theorem dX5_worseBy_45 : decode cX5_worseBy 45 = .ok (.iload_n 3, 1) := by decide +kernel
theorem dX5_worseBy_46 : decode cX5_worseBy 46 = .ok (.iconst 2, 1) := by decide +kernel
theorem dX5_worseBy_47 : decode cX5_worseBy 47 = .ok (.isub, 1) := by decide +kernel
theorem dX5_worseBy_48 : decode cX5_worseBy 48 = .ok (.goto 4, 3) := by decide +kernel
theorem dX5_worseBy_51 : decode cX5_worseBy 51 = .ok (.iload_n 3, 1) := by decide +kernel
theorem dX5_worseBy_52 : decode cX5_worseBy 52 = .ok (.istore 5, 2) := by decide +kernel
theorem dX5_worseBy_54 : decode cX5_worseBy 54 = .ok (.aload_n 0, 1) := by decide +kernel
theorem dX5_worseBy_55 : decode cX5_worseBy 55 = .ok (.iconst 4, 1) := by decide +kernel
theorem dX5_worseBy_56 : decode cX5_worseBy 56 = .ok (.iload_n 1, 1) := by decide +kernel
theorem dX5_worseBy_57 : decode cX5_worseBy 57 = .ok (.iadd, 1) := by decide +kernel
theorem dX5_worseBy_58 : decode cX5_worseBy 58 = .ok (.iaload, 1) := by decide +kernel
theorem dX5_worseBy_59 : decode cX5_worseBy 59 = .ok (.tableswitch 52 0 3 #[29, 31, 34, 37], 29) := by decide +kernel
theorem dX5_worseBy_88 : decode cX5_worseBy 88 = .ok (.iload_n 3, 1) := by decide +kernel
theorem dX5_worseBy_89 : decode cX5_worseBy 89 = .ok (.ireturn, 1) := by decide +kernel
theorem dX5_worseBy_90 : decode cX5_worseBy 90 = .ok (.iload 4, 2) := by decide +kernel
theorem dX5_worseBy_92 : decode cX5_worseBy 92 = .ok (.ireturn, 1) := by decide +kernel
theorem dX5_worseBy_93 : decode cX5_worseBy 93 = .ok (.iload 5, 2) := by decide +kernel
theorem dX5_worseBy_95 : decode cX5_worseBy 95 = .ok (.ireturn, 1) := by decide +kernel
theorem dX5_worseBy_96 : decode cX5_worseBy 96 = .ok (.aload_n 0, 1) := by decide +kernel
theorem dX5_worseBy_97 : decode cX5_worseBy 97 = .ok (.iconst 1, 1) := by decide +kernel
theorem dX5_worseBy_98 : decode cX5_worseBy 98 = .ok (.iaload, 1) := by decide +kernel
theorem dX5_worseBy_99 : decode cX5_worseBy 99 = .ok (.iconst 2, 1) := by decide +kernel
theorem dX5_worseBy_100 : decode cX5_worseBy 100 = .ok (.irem, 1) := by decide +kernel
theorem dX5_worseBy_101 : decode cX5_worseBy 101 = .ok (.ifCond .ne 8, 3) := by decide +kernel
theorem dX5_worseBy_104 : decode cX5_worseBy 104 = .ok (.iload 4, 2) := by decide +kernel
theorem dX5_worseBy_106 : decode cX5_worseBy 106 = .ok (.goto 4, 3) := by decide +kernel
theorem dX5_worseBy_109 : decode cX5_worseBy 109 = .ok (.iconst 0, 1) := by decide +kernel
theorem dX5_worseBy_110 : decode cX5_worseBy 110 = .ok (.ireturn, 1) := by decide +kernel
theorem dX5_worseBy_111 : decode cX5_worseBy 111 = .ok (.aload_n 0, 1) := by decide +kernel
theorem dX5_worseBy_112 : decode cX5_worseBy 112 = .ok (.bipush 25, 2) := by decide +kernel
theorem dX5_worseBy_114 : decode cX5_worseBy 114 = .ok (.iload_n 1, 1) := by decide +kernel
theorem dX5_worseBy_115 : decode cX5_worseBy 115 = .ok (.iadd, 1) := by decide +kernel
theorem dX5_worseBy_116 : decode cX5_worseBy 116 = .ok (.iaload, 1) := by decide +kernel
theorem dX5_worseBy_117 : decode cX5_worseBy 117 = .ok (.bipush 10, 2) := by decide +kernel
theorem dX5_worseBy_119 : decode cX5_worseBy 119 = .ok (.if_icmp .lt 10, 3) := by decide +kernel
theorem dX5_worseBy_122 : decode cX5_worseBy 122 = .ok (.iload 5, 2) := by decide +kernel
theorem dX5_worseBy_124 : decode cX5_worseBy 124 = .ok (.iconst 3, 1) := by decide +kernel
theorem dX5_worseBy_125 : decode cX5_worseBy 125 = .ok (.iadd, 1) := by decide +kernel
theorem dX5_worseBy_126 : decode cX5_worseBy 126 = .ok (.goto 5, 3) := by decide +kernel
theorem dX5_worseBy_129 : decode cX5_worseBy 129 = .ok (.iload 5, 2) := by decide +kernel
theorem dX5_worseBy_131 : decode cX5_worseBy 131 = .ok (.ireturn, 1) := by decide +kernel
theorem dX5_passOn_0 : decode cX5_passOn 0 = .ok (.iconst 0, 1) := by decide +kernel
theorem dX5_passOn_1 : decode cX5_passOn 1 = .ok (.istore_n 2, 1) := by decide +kernel
theorem dX5_passOn_2 : decode cX5_passOn 2 = .ok (.iload_n 2, 1) := by decide +kernel
theorem dX5_passOn_3 : decode cX5_passOn 3 = .ok (.aload_n 1, 1) := by decide +kernel
theorem dX5_passOn_4 : decode cX5_passOn 4 = .ok (.iconst 0, 1) := by decide +kernel
theorem dX5_passOn_5 : decode cX5_passOn 5 = .ok (.iaload, 1) := by decide +kernel
theorem dX5_passOn_6 : decode cX5_passOn 6 = .ok (.if_icmp .ge 54, 3) := by decide +kernel
theorem dX5_passOn_9 : decode cX5_passOn 9 = .ok (.aload_n 1, 1) := by decide +kernel
theorem dX5_passOn_10 : decode cX5_passOn 10 = .ok (.iload_n 2, 1) := by decide +kernel
theorem dX5_passOn_11 : decode cX5_passOn 11 = .ok (.invokestatic 53, 3) := by decide +kernel
theorem dX5_passOn_14 : decode cX5_passOn 14 = .ok (.ifCond .eq 12, 3) := by decide +kernel
theorem dX5_passOn_17 : decode cX5_passOn 17 = .ok (.aload_n 1, 1) := by decide +kernel
theorem dX5_passOn_18 : decode cX5_passOn 18 = .ok (.bipush 25, 2) := by decide +kernel
theorem dX5_passOn_20 : decode cX5_passOn 20 = .ok (.iload_n 2, 1) := by decide +kernel
theorem dX5_passOn_21 : decode cX5_passOn 21 = .ok (.iadd, 1) := by decide +kernel
theorem dX5_passOn_22 : decode cX5_passOn 22 = .ok (.iaload, 1) := by decide +kernel
theorem dX5_passOn_23 : decode cX5_passOn 23 = .ok (.goto 15, 3) := by decide +kernel
theorem dX5_passOn_26 : decode cX5_passOn 26 = .ok (.aload_n 1, 1) := by decide +kernel
theorem dX5_passOn_27 : decode cX5_passOn 27 = .ok (.bipush 25, 2) := by decide +kernel
theorem dX5_passOn_29 : decode cX5_passOn 29 = .ok (.iload_n 2, 1) := by decide +kernel
theorem dX5_passOn_30 : decode cX5_passOn 30 = .ok (.iadd, 1) := by decide +kernel
theorem dX5_passOn_31 : decode cX5_passOn 31 = .ok (.iaload, 1) := by decide +kernel
theorem dX5_passOn_32 : decode cX5_passOn 32 = .ok (.aload_n 1, 1) := by decide +kernel
theorem dX5_passOn_33 : decode cX5_passOn 33 = .ok (.iload_n 2, 1) := by decide +kernel
theorem dX5_passOn_34 : decode cX5_passOn 34 = .ok (.invokestatic 68, 3) := by decide +kernel
theorem dX5_passOn_37 : decode cX5_passOn 37 = .ok (.iadd, 1) := by decide +kernel
theorem dX5_passOn_38 : decode cX5_passOn 38 = .ok (.istore_n 3, 1) := by decide +kernel
theorem dX5_passOn_39 : decode cX5_passOn 39 = .ok (.aload_n 0, 1) := by decide +kernel
theorem dX5_passOn_40 : decode cX5_passOn 40 = .ok (.getfield 25, 3) := by decide +kernel
theorem dX5_passOn_43 : decode cX5_passOn 43 = .ok (.iload_n 2, 1) := by decide +kernel
theorem dX5_passOn_44 : decode cX5_passOn 44 = .ok (.iload_n 3, 1) := by decide +kernel
theorem dX5_passOn_45 : decode cX5_passOn 45 = .ok (.ifCond .ge 7, 3) := by decide +kernel
theorem dX5_passOn_48 : decode cX5_passOn 48 = .ok (.iconst 0, 1) := by decide +kernel
theorem dX5_passOn_49 : decode cX5_passOn 49 = .ok (.goto 4, 3) := by decide +kernel
theorem dX5_passOn_52 : decode cX5_passOn 52 = .ok (.iload_n 3, 1) := by decide +kernel
theorem dX5_passOn_53 : decode cX5_passOn 53 = .ok (.iastore, 1) := by decide +kernel
theorem dX5_passOn_54 : decode cX5_passOn 54 = .ok (.iinc 2 1, 3) := by decide +kernel
theorem dX5_passOn_57 : decode cX5_passOn 57 = .ok (.goto (-55), 3) := by decide +kernel
theorem dX5_passOn_60 : decode cX5_passOn 60 = .ok (.iconst 0, 1) := by decide +kernel
theorem dX5_passOn_61 : decode cX5_passOn 61 = .ok (.istore_n 2, 1) := by decide +kernel
theorem dX5_passOn_62 : decode cX5_passOn 62 = .ok (.iload_n 2, 1) := by decide +kernel
theorem dX5_passOn_63 : decode cX5_passOn 63 = .ok (.aload_n 1, 1) := by decide +kernel
theorem dX5_passOn_64 : decode cX5_passOn 64 = .ok (.iconst 0, 1) := by decide +kernel
theorem dX5_passOn_65 : decode cX5_passOn 65 = .ok (.iaload, 1) := by decide +kernel
theorem dX5_passOn_66 : decode cX5_passOn 66 = .ok (.if_icmp .ge 151, 3) := by decide +kernel
theorem dX5_passOn_69 : decode cX5_passOn 69 = .ok (.aload_n 1, 1) := by decide +kernel
theorem dX5_passOn_70 : decode cX5_passOn 70 = .ok (.iload_n 2, 1) := by decide +kernel
theorem dX5_passOn_71 : decode cX5_passOn 71 = .ok (.invokestatic 53, 3) := by decide +kernel
theorem dX5_passOn_74 : decode cX5_passOn 74 = .ok (.ifCond .ne 137, 3) := by decide +kernel
theorem dX5_passOn_77 : decode cX5_passOn 77 = .ok (.aload_n 1, 1) := by decide +kernel
theorem dX5_passOn_78 : decode cX5_passOn 78 = .ok (.bipush 25, 2) := by decide +kernel
theorem dX5_passOn_80 : decode cX5_passOn 80 = .ok (.iload_n 2, 1) := by decide +kernel
theorem dX5_passOn_81 : decode cX5_passOn 81 = .ok (.iadd, 1) := by decide +kernel
theorem dX5_passOn_82 : decode cX5_passOn 82 = .ok (.aload_n 0, 1) := by decide +kernel
theorem dX5_passOn_83 : decode cX5_passOn 83 = .ok (.getfield 25, 3) := by decide +kernel
theorem dX5_passOn_86 : decode cX5_passOn 86 = .ok (.iload_n 2, 1) := by decide +kernel
theorem dX5_passOn_87 : decode cX5_passOn 87 = .ok (.iaload, 1) := by decide +kernel
theorem dX5_passOn_88 : decode cX5_passOn 88 = .ok (.iastore, 1) := by decide +kernel
theorem dX5_passOn_89 : decode cX5_passOn 89 = .ok (.aload_n 1, 1) := by decide +kernel
theorem dX5_passOn_90 : decode cX5_passOn 90 = .ok (.bipush 11, 2) := by decide +kernel
theorem dX5_passOn_92 : decode cX5_passOn 92 = .ok (.iload_n 2, 1) := by decide +kernel
theorem dX5_passOn_93 : decode cX5_passOn 93 = .ok (.iadd, 1) := by decide +kernel
theorem dX5_passOn_94 : decode cX5_passOn 94 = .ok (.dup2, 1) := by decide +kernel
theorem dX5_passOn_95 : decode cX5_passOn 95 = .ok (.iaload, 1) := by decide +kernel
theorem dX5_passOn_96 : decode cX5_passOn 96 = .ok (.aload_n 1, 1) := by decide +kernel
theorem dX5_passOn_97 : decode cX5_passOn 97 = .ok (.bipush 11, 2) := by decide +kernel
theorem dX5_passOn_99 : decode cX5_passOn 99 = .ok (.iload_n 2, 1) := by decide +kernel
theorem dX5_passOn_100 : decode cX5_passOn 100 = .ok (.iadd, 1) := by decide +kernel
theorem dX5_passOn_101 : decode cX5_passOn 101 = .ok (.iaload, 1) := by decide +kernel
theorem dX5_passOn_102 : decode cX5_passOn 102 = .ok (.bipush 99, 2) := by decide +kernel
theorem dX5_passOn_104 : decode cX5_passOn 104 = .ok (.if_icmp .ge 7, 3) := by decide +kernel
theorem dX5_passOn_107 : decode cX5_passOn 107 = .ok (.iconst 1, 1) := by decide +kernel
theorem dX5_passOn_108 : decode cX5_passOn 108 = .ok (.goto 4, 3) := by decide +kernel
theorem dX5_passOn_111 : decode cX5_passOn 111 = .ok (.iconst 0, 1) := by decide +kernel
theorem dX5_passOn_112 : decode cX5_passOn 112 = .ok (.iadd, 1) := by decide +kernel
theorem dX5_passOn_113 : decode cX5_passOn 113 = .ok (.iastore, 1) := by decide +kernel
theorem dX5_passOn_114 : decode cX5_passOn 114 = .ok (.aload_n 1, 1) := by decide +kernel
theorem dX5_passOn_115 : decode cX5_passOn 115 = .ok (.bipush 18, 2) := by decide +kernel
theorem dX5_passOn_117 : decode cX5_passOn 117 = .ok (.iload_n 2, 1) := by decide +kernel
theorem dX5_passOn_118 : decode cX5_passOn 118 = .ok (.iadd, 1) := by decide +kernel
theorem dX5_passOn_119 : decode cX5_passOn 119 = .ok (.dup2, 1) := by decide +kernel
theorem dX5_passOn_120 : decode cX5_passOn 120 = .ok (.iaload, 1) := by decide +kernel
theorem dX5_passOn_121 : decode cX5_passOn 121 = .ok (.iconst 1, 1) := by decide +kernel
theorem dX5_passOn_122 : decode cX5_passOn 122 = .ok (.iadd, 1) := by decide +kernel
theorem dX5_passOn_123 : decode cX5_passOn 123 = .ok (.iastore, 1) := by decide +kernel
theorem dX5_passOn_124 : decode cX5_passOn 124 = .ok (.aload_n 1, 1) := by decide +kernel
theorem dX5_passOn_125 : decode cX5_passOn 125 = .ok (.bipush 25, 2) := by decide +kernel
theorem dX5_passOn_127 : decode cX5_passOn 127 = .ok (.iload_n 2, 1) := by decide +kernel
theorem dX5_passOn_128 : decode cX5_passOn 128 = .ok (.iadd, 1) := by decide +kernel
theorem dX5_passOn_129 : decode cX5_passOn 129 = .ok (.iaload, 1) := by decide +kernel
theorem dX5_passOn_130 : decode cX5_passOn 130 = .ok (.bipush 19, 2) := by decide +kernel
theorem dX5_passOn_132 : decode cX5_passOn 132 = .ok (.if_icmp .gt 14, 3) := by decide +kernel
theorem dX5_passOn_135 : decode cX5_passOn 135 = .ok (.aload_n 1, 1) := by decide +kernel
theorem dX5_passOn_136 : decode cX5_passOn 136 = .ok (.bipush 18, 2) := by decide +kernel
theorem dX5_passOn_138 : decode cX5_passOn 138 = .ok (.iload_n 2, 1) := by decide +kernel
theorem dX5_passOn_139 : decode cX5_passOn 139 = .ok (.iadd, 1) := by decide +kernel
theorem dX5_passOn_140 : decode cX5_passOn 140 = .ok (.iaload, 1) := by decide +kernel
theorem dX5_passOn_141 : decode cX5_passOn 141 = .ok (.bipush 99, 2) := by decide +kernel
theorem dX5_passOn_143 : decode cX5_passOn 143 = .ok (.if_icmp .le 68, 3) := by decide +kernel
theorem dX5_passOn_146 : decode cX5_passOn 146 = .ok (.aload_n 1, 1) := by decide +kernel
theorem dX5_passOn_147 : decode cX5_passOn 147 = .ok (.iconst 2, 1) := by decide +kernel
theorem dX5_passOn_148 : decode cX5_passOn 148 = .ok (.dup2, 1) := by decide +kernel
theorem dX5_passOn_149 : decode cX5_passOn 149 = .ok (.iaload, 1) := by decide +kernel
theorem dX5_passOn_150 : decode cX5_passOn 150 = .ok (.iconst 1, 1) := by decide +kernel
theorem dX5_passOn_151 : decode cX5_passOn 151 = .ok (.iload_n 2, 1) := by decide +kernel
theorem dX5_passOn_152 : decode cX5_passOn 152 = .ok (.ishl, 1) := by decide +kernel
theorem dX5_passOn_153 : decode cX5_passOn 153 = .ok (.ior, 1) := by decide +kernel
theorem dX5_passOn_154 : decode cX5_passOn 154 = .ok (.iastore, 1) := by decide +kernel
theorem dX5_passOn_155 : decode cX5_passOn 155 = .ok (.aload_n 1, 1) := by decide +kernel
theorem dX5_passOn_156 : decode cX5_passOn 156 = .ok (.bipush 25, 2) := by decide +kernel
theorem dX5_passOn_158 : decode cX5_passOn 158 = .ok (.iload_n 2, 1) := by decide +kernel
theorem dX5_passOn_159 : decode cX5_passOn 159 = .ok (.iadd, 1) := by decide +kernel
theorem dX5_passOn_160 : decode cX5_passOn 160 = .ok (.aload_n 1, 1) := by decide +kernel
theorem dX5_passOn_161 : decode cX5_passOn 161 = .ok (.bipush 25, 2) := by decide +kernel
theorem dX5_passOn_163 : decode cX5_passOn 163 = .ok (.iload_n 2, 1) := by decide +kernel
theorem dX5_passOn_164 : decode cX5_passOn 164 = .ok (.iadd, 1) := by decide +kernel
theorem dX5_passOn_165 : decode cX5_passOn 165 = .ok (.iaload, 1) := by decide +kernel
theorem dX5_passOn_166 : decode cX5_passOn 166 = .ok (.bipush 19, 2) := by decide +kernel
theorem dX5_passOn_168 : decode cX5_passOn 168 = .ok (.if_icmp .le 8, 3) := by decide +kernel
theorem dX5_passOn_171 : decode cX5_passOn 171 = .ok (.bipush 19, 2) := by decide +kernel
theorem dX5_passOn_173 : decode cX5_passOn 173 = .ok (.goto 9, 3) := by decide +kernel
theorem dX5_passOn_176 : decode cX5_passOn 176 = .ok (.aload_n 1, 1) := by decide +kernel
theorem dX5_passOn_177 : decode cX5_passOn 177 = .ok (.bipush 25, 2) := by decide +kernel
theorem dX5_passOn_179 : decode cX5_passOn 179 = .ok (.iload_n 2, 1) := by decide +kernel
theorem dX5_passOn_180 : decode cX5_passOn 180 = .ok (.iadd, 1) := by decide +kernel
theorem dX5_passOn_181 : decode cX5_passOn 181 = .ok (.iaload, 1) := by decide +kernel
theorem dX5_passOn_182 : decode cX5_passOn 182 = .ok (.iastore, 1) := by decide +kernel
theorem dX5_passOn_183 : decode cX5_passOn 183 = .ok (.aload_n 1, 1) := by decide +kernel
theorem dX5_passOn_184 : decode cX5_passOn 184 = .ok (.bipush 18, 2) := by decide +kernel
theorem dX5_passOn_186 : decode cX5_passOn 186 = .ok (.iload_n 2, 1) := by decide +kernel
theorem dX5_passOn_187 : decode cX5_passOn 187 = .ok (.iadd, 1) := by decide +kernel
theorem dX5_passOn_188 : decode cX5_passOn 188 = .ok (.aload_n 1, 1) := by decide +kernel
theorem dX5_passOn_189 : decode cX5_passOn 189 = .ok (.bipush 18, 2) := by decide +kernel
theorem dX5_passOn_191 : decode cX5_passOn 191 = .ok (.iload_n 2, 1) := by decide +kernel
theorem dX5_passOn_192 : decode cX5_passOn 192 = .ok (.iadd, 1) := by decide +kernel
theorem dX5_passOn_193 : decode cX5_passOn 193 = .ok (.iaload, 1) := by decide +kernel
theorem dX5_passOn_194 : decode cX5_passOn 194 = .ok (.bipush 99, 2) := by decide +kernel
theorem dX5_passOn_196 : decode cX5_passOn 196 = .ok (.if_icmp .le 8, 3) := by decide +kernel
theorem dX5_passOn_199 : decode cX5_passOn 199 = .ok (.bipush 99, 2) := by decide +kernel
theorem dX5_passOn_201 : decode cX5_passOn 201 = .ok (.goto 9, 3) := by decide +kernel
theorem dX5_passOn_204 : decode cX5_passOn 204 = .ok (.aload_n 1, 1) := by decide +kernel
theorem dX5_passOn_205 : decode cX5_passOn 205 = .ok (.bipush 18, 2) := by decide +kernel
theorem dX5_passOn_207 : decode cX5_passOn 207 = .ok (.iload_n 2, 1) := by decide +kernel
theorem dX5_passOn_208 : decode cX5_passOn 208 = .ok (.iadd, 1) := by decide +kernel
theorem dX5_passOn_209 : decode cX5_passOn 209 = .ok (.iaload, 1) := by decide +kernel
theorem dX5_passOn_210 : decode cX5_passOn 210 = .ok (.iastore, 1) := by decide +kernel
theorem dX5_passOn_211 : decode cX5_passOn 211 = .ok (.iinc 2 1, 3) := by decide +kernel
theorem dX5_passOn_214 : decode cX5_passOn 214 = .ok (.goto (-152), 3) := by decide +kernel
theorem dX5_passOn_217 : decode cX5_passOn 217 = .ok (.aload_n 1, 1) := by decide +kernel
theorem dX5_passOn_218 : decode cX5_passOn 218 = .ok (.iconst 1, 1) := by decide +kernel
theorem dX5_passOn_219 : decode cX5_passOn 219 = .ok (.dup2, 1) := by decide +kernel
theorem dX5_passOn_220 : decode cX5_passOn 220 = .ok (.iaload, 1) := by decide +kernel
theorem dX5_passOn_221 : decode cX5_passOn 221 = .ok (.iconst 1, 1) := by decide +kernel
theorem dX5_passOn_222 : decode cX5_passOn 222 = .ok (.iadd, 1) := by decide +kernel
theorem dX5_passOn_223 : decode cX5_passOn 223 = .ok (.iastore, 1) := by decide +kernel
theorem dX5_passOn_224 : decode cX5_passOn 224 = .ok (.return_, 1) := by decide +kernel
theorem dX5_stirOn_0 : decode cX5_stirOn 0 = .ok (.aload_n 0, 1) := by decide +kernel
theorem dX5_stirOn_1 : decode cX5_stirOn 1 = .ok (.bipush 25, 2) := by decide +kernel
theorem dX5_stirOn_3 : decode cX5_stirOn 3 = .ok (.iload_n 1, 1) := by decide +kernel
theorem dX5_stirOn_4 : decode cX5_stirOn 4 = .ok (.iadd, 1) := by decide +kernel
theorem dX5_stirOn_5 : decode cX5_stirOn 5 = .ok (.dup2, 1) := by decide +kernel
theorem dX5_stirOn_6 : decode cX5_stirOn 6 = .ok (.iaload, 1) := by decide +kernel
theorem dX5_stirOn_7 : decode cX5_stirOn 7 = .ok (.iload_n 2, 1) := by decide +kernel
theorem dX5_stirOn_8 : decode cX5_stirOn 8 = .ok (.iadd, 1) := by decide +kernel
theorem dX5_stirOn_9 : decode cX5_stirOn 9 = .ok (.iastore, 1) := by decide +kernel
theorem dX5_stirOn_10 : decode cX5_stirOn 10 = .ok (.aload_n 0, 1) := by decide +kernel
theorem dX5_stirOn_11 : decode cX5_stirOn 11 = .ok (.bipush 25, 2) := by decide +kernel
theorem dX5_stirOn_13 : decode cX5_stirOn 13 = .ok (.iload_n 1, 1) := by decide +kernel
theorem dX5_stirOn_14 : decode cX5_stirOn 14 = .ok (.iadd, 1) := by decide +kernel
theorem dX5_stirOn_15 : decode cX5_stirOn 15 = .ok (.iaload, 1) := by decide +kernel
theorem dX5_stirOn_16 : decode cX5_stirOn 16 = .ok (.bipush 19, 2) := by decide +kernel
theorem dX5_stirOn_18 : decode cX5_stirOn 18 = .ok (.if_icmp .le 20, 3) := by decide +kernel
theorem dX5_stirOn_21 : decode cX5_stirOn 21 = .ok (.aload_n 0, 1) := by decide +kernel
theorem dX5_stirOn_22 : decode cX5_stirOn 22 = .ok (.bipush 25, 2) := by decide +kernel
theorem dX5_stirOn_24 : decode cX5_stirOn 24 = .ok (.iload_n 1, 1) := by decide +kernel
theorem dX5_stirOn_25 : decode cX5_stirOn 25 = .ok (.iadd, 1) := by decide +kernel
theorem dX5_stirOn_26 : decode cX5_stirOn 26 = .ok (.bipush 19, 2) := by decide +kernel
theorem dX5_stirOn_28 : decode cX5_stirOn 28 = .ok (.iastore, 1) := by decide +kernel
theorem dX5_stirOn_29 : decode cX5_stirOn 29 = .ok (.aload_n 0, 1) := by decide +kernel
theorem dX5_stirOn_30 : decode cX5_stirOn 30 = .ok (.iconst 2, 1) := by decide +kernel
theorem dX5_stirOn_31 : decode cX5_stirOn 31 = .ok (.dup2, 1) := by decide +kernel
theorem dX5_stirOn_32 : decode cX5_stirOn 32 = .ok (.iaload, 1) := by decide +kernel
theorem dX5_stirOn_33 : decode cX5_stirOn 33 = .ok (.iconst 1, 1) := by decide +kernel
theorem dX5_stirOn_34 : decode cX5_stirOn 34 = .ok (.iload_n 1, 1) := by decide +kernel
theorem dX5_stirOn_35 : decode cX5_stirOn 35 = .ok (.ishl, 1) := by decide +kernel
theorem dX5_stirOn_36 : decode cX5_stirOn 36 = .ok (.ior, 1) := by decide +kernel
theorem dX5_stirOn_37 : decode cX5_stirOn 37 = .ok (.iastore, 1) := by decide +kernel
theorem dX5_stirOn_38 : decode cX5_stirOn 38 = .ok (.return_, 1) := by decide +kernel
theorem dX5_nurseOn_0 : decode cX5_nurseOn 0 = .ok (.aload_n 0, 1) := by decide +kernel
theorem dX5_nurseOn_1 : decode cX5_nurseOn 1 = .ok (.bipush 25, 2) := by decide +kernel
theorem dX5_nurseOn_3 : decode cX5_nurseOn 3 = .ok (.iload_n 1, 1) := by decide +kernel
theorem dX5_nurseOn_4 : decode cX5_nurseOn 4 = .ok (.iadd, 1) := by decide +kernel
theorem dX5_nurseOn_5 : decode cX5_nurseOn 5 = .ok (.aload_n 0, 1) := by decide +kernel
theorem dX5_nurseOn_6 : decode cX5_nurseOn 6 = .ok (.bipush 25, 2) := by decide +kernel
theorem dX5_nurseOn_8 : decode cX5_nurseOn 8 = .ok (.iload_n 1, 1) := by decide +kernel
theorem dX5_nurseOn_9 : decode cX5_nurseOn 9 = .ok (.iadd, 1) := by decide +kernel
theorem dX5_nurseOn_10 : decode cX5_nurseOn 10 = .ok (.iaload, 1) := by decide +kernel
theorem dX5_nurseOn_11 : decode cX5_nurseOn 11 = .ok (.iload_n 2, 1) := by decide +kernel
theorem dX5_nurseOn_12 : decode cX5_nurseOn 12 = .ok (.if_icmp .le 14, 3) := by decide +kernel
theorem dX5_nurseOn_15 : decode cX5_nurseOn 15 = .ok (.aload_n 0, 1) := by decide +kernel
theorem dX5_nurseOn_16 : decode cX5_nurseOn 16 = .ok (.bipush 25, 2) := by decide +kernel
theorem dX5_nurseOn_18 : decode cX5_nurseOn 18 = .ok (.iload_n 1, 1) := by decide +kernel
theorem dX5_nurseOn_19 : decode cX5_nurseOn 19 = .ok (.iadd, 1) := by decide +kernel
theorem dX5_nurseOn_20 : decode cX5_nurseOn 20 = .ok (.iaload, 1) := by decide +kernel
theorem dX5_nurseOn_21 : decode cX5_nurseOn 21 = .ok (.iload_n 2, 1) := by decide +kernel
theorem dX5_nurseOn_22 : decode cX5_nurseOn 22 = .ok (.isub, 1) := by decide +kernel
theorem dX5_nurseOn_23 : decode cX5_nurseOn 23 = .ok (.goto 4, 3) := by decide +kernel
theorem dX5_nurseOn_26 : decode cX5_nurseOn 26 = .ok (.iconst 0, 1) := by decide +kernel
theorem dX5_nurseOn_27 : decode cX5_nurseOn 27 = .ok (.iastore, 1) := by decide +kernel
theorem dX5_nurseOn_28 : decode cX5_nurseOn 28 = .ok (.return_, 1) := by decide +kernel
theorem dX5_wedOn_0 : decode cX5_wedOn 0 = .ok (.aload_n 0, 1) := by decide +kernel
theorem dX5_wedOn_1 : decode cX5_wedOn 1 = .ok (.iconst 2, 1) := by decide +kernel
theorem dX5_wedOn_2 : decode cX5_wedOn 2 = .ok (.dup2, 1) := by decide +kernel
theorem dX5_wedOn_3 : decode cX5_wedOn 3 = .ok (.iaload, 1) := by decide +kernel
theorem dX5_wedOn_4 : decode cX5_wedOn 4 = .ok (.iconst 1, 1) := by decide +kernel
theorem dX5_wedOn_5 : decode cX5_wedOn 5 = .ok (.iload_n 1, 1) := by decide +kernel
theorem dX5_wedOn_6 : decode cX5_wedOn 6 = .ok (.ishl, 1) := by decide +kernel
theorem dX5_wedOn_7 : decode cX5_wedOn 7 = .ok (.iconst (-1), 1) := by decide +kernel
theorem dX5_wedOn_8 : decode cX5_wedOn 8 = .ok (.ixor, 1) := by decide +kernel
theorem dX5_wedOn_9 : decode cX5_wedOn 9 = .ok (.iand, 1) := by decide +kernel
theorem dX5_wedOn_10 : decode cX5_wedOn 10 = .ok (.iastore, 1) := by decide +kernel
theorem dX5_wedOn_11 : decode cX5_wedOn 11 = .ok (.aload_n 0, 1) := by decide +kernel
theorem dX5_wedOn_12 : decode cX5_wedOn 12 = .ok (.bipush 11, 2) := by decide +kernel
theorem dX5_wedOn_14 : decode cX5_wedOn 14 = .ok (.iload_n 1, 1) := by decide +kernel
theorem dX5_wedOn_15 : decode cX5_wedOn 15 = .ok (.iadd, 1) := by decide +kernel
theorem dX5_wedOn_16 : decode cX5_wedOn 16 = .ok (.iconst 0, 1) := by decide +kernel
theorem dX5_wedOn_17 : decode cX5_wedOn 17 = .ok (.iastore, 1) := by decide +kernel
theorem dX5_wedOn_18 : decode cX5_wedOn 18 = .ok (.aload_n 0, 1) := by decide +kernel
theorem dX5_wedOn_19 : decode cX5_wedOn 19 = .ok (.bipush 18, 2) := by decide +kernel
theorem dX5_wedOn_21 : decode cX5_wedOn 21 = .ok (.iload_n 1, 1) := by decide +kernel
theorem dX5_wedOn_22 : decode cX5_wedOn 22 = .ok (.iadd, 1) := by decide +kernel
theorem dX5_wedOn_23 : decode cX5_wedOn 23 = .ok (.bipush 20, 2) := by decide +kernel
theorem dX5_wedOn_25 : decode cX5_wedOn 25 = .ok (.iastore, 1) := by decide +kernel
theorem dX5_wedOn_26 : decode cX5_wedOn 26 = .ok (.aload_n 0, 1) := by decide +kernel
theorem dX5_wedOn_27 : decode cX5_wedOn 27 = .ok (.bipush 25, 2) := by decide +kernel
theorem dX5_wedOn_29 : decode cX5_wedOn 29 = .ok (.iload_n 1, 1) := by decide +kernel
theorem dX5_wedOn_30 : decode cX5_wedOn 30 = .ok (.iadd, 1) := by decide +kernel
theorem dX5_wedOn_31 : decode cX5_wedOn 31 = .ok (.iconst 0, 1) := by decide +kernel
theorem dX5_wedOn_32 : decode cX5_wedOn 32 = .ok (.iastore, 1) := by decide +kernel
theorem dX5_wedOn_33 : decode cX5_wedOn 33 = .ok (.return_, 1) := by decide +kernel
theorem dX5_togetherOf_0 : decode cX5_togetherOf 0 = .ok (.iconst 1, 1) := by decide +kernel
theorem dX5_togetherOf_1 : decode cX5_togetherOf 1 = .ok (.aload_n 0, 1) := by decide +kernel
theorem dX5_togetherOf_2 : decode cX5_togetherOf 2 = .ok (.iconst 0, 1) := by decide +kernel
theorem dX5_togetherOf_3 : decode cX5_togetherOf 3 = .ok (.iaload, 1) := by decide +kernel
theorem dX5_togetherOf_4 : decode cX5_togetherOf 4 = .ok (.ishl, 1) := by decide +kernel
theorem dX5_togetherOf_5 : decode cX5_togetherOf 5 = .ok (.iconst 1, 1) := by decide +kernel
theorem dX5_togetherOf_6 : decode cX5_togetherOf 6 = .ok (.isub, 1) := by decide +kernel
theorem dX5_togetherOf_7 : decode cX5_togetherOf 7 = .ok (.aload_n 0, 1) := by decide +kernel
theorem dX5_togetherOf_8 : decode cX5_togetherOf 8 = .ok (.iconst 2, 1) := by decide +kernel
theorem dX5_togetherOf_9 : decode cX5_togetherOf 9 = .ok (.iaload, 1) := by decide +kernel
theorem dX5_togetherOf_10 : decode cX5_togetherOf 10 = .ok (.iconst (-1), 1) := by decide +kernel
theorem dX5_togetherOf_11 : decode cX5_togetherOf 11 = .ok (.ixor, 1) := by decide +kernel
theorem dX5_togetherOf_12 : decode cX5_togetherOf 12 = .ok (.iand, 1) := by decide +kernel
theorem dX5_togetherOf_13 : decode cX5_togetherOf 13 = .ok (.ireturn, 1) := by decide +kernel
theorem dX5_join_0 : decode cX5_join 0 = .ok (.aload_n 0, 1) := by decide +kernel
theorem dX5_join_1 : decode cX5_join 1 = .ok (.iconst 0, 1) := by decide +kernel
theorem dX5_join_2 : decode cX5_join 2 = .ok (.iaload, 1) := by decide +kernel
theorem dX5_join_3 : decode cX5_join 3 = .ok (.istore 6, 2) := by decide +kernel
theorem dX5_join_5 : decode cX5_join 5 = .ok (.aload_n 0, 1) := by decide +kernel
theorem dX5_join_6 : decode cX5_join 6 = .ok (.iconst 4, 1) := by decide +kernel
theorem dX5_join_7 : decode cX5_join 7 = .ok (.iload 6, 2) := by decide +kernel
theorem dX5_join_9 : decode cX5_join 9 = .ok (.iadd, 1) := by decide +kernel
theorem dX5_join_10 : decode cX5_join 10 = .ok (.iload_n 1, 1) := by decide +kernel
theorem dX5_join_11 : decode cX5_join 11 = .ok (.iastore, 1) := by decide +kernel
theorem dX5_join_12 : decode cX5_join 12 = .ok (.aload_n 0, 1) := by decide +kernel
theorem dX5_join_13 : decode cX5_join 13 = .ok (.bipush 11, 2) := by decide +kernel
theorem dX5_join_15 : decode cX5_join 15 = .ok (.iload 6, 2) := by decide +kernel
theorem dX5_join_17 : decode cX5_join 17 = .ok (.iadd, 1) := by decide +kernel
theorem dX5_join_18 : decode cX5_join 18 = .ok (.iload_n 2, 1) := by decide +kernel
theorem dX5_join_19 : decode cX5_join 19 = .ok (.iastore, 1) := by decide +kernel
theorem dX5_join_20 : decode cX5_join 20 = .ok (.aload_n 0, 1) := by decide +kernel
theorem dX5_join_21 : decode cX5_join 21 = .ok (.bipush 18, 2) := by decide +kernel
theorem dX5_join_23 : decode cX5_join 23 = .ok (.iload 6, 2) := by decide +kernel
theorem dX5_join_25 : decode cX5_join 25 = .ok (.iadd, 1) := by decide +kernel
theorem dX5_join_26 : decode cX5_join 26 = .ok (.iload_n 3, 1) := by decide +kernel
theorem dX5_join_27 : decode cX5_join 27 = .ok (.iastore, 1) := by decide +kernel
theorem dX5_join_28 : decode cX5_join 28 = .ok (.aload_n 0, 1) := by decide +kernel
theorem dX5_join_29 : decode cX5_join 29 = .ok (.bipush 25, 2) := by decide +kernel
theorem dX5_join_31 : decode cX5_join 31 = .ok (.iload 6, 2) := by decide +kernel
theorem dX5_join_33 : decode cX5_join 33 = .ok (.iadd, 1) := by decide +kernel
theorem dX5_join_34 : decode cX5_join 34 = .ok (.iload 4, 2) := by decide +kernel
theorem dX5_join_36 : decode cX5_join 36 = .ok (.iastore, 1) := by decide +kernel
theorem dX5_join_37 : decode cX5_join 37 = .ok (.aload_n 0, 1) := by decide +kernel
theorem dX5_join_38 : decode cX5_join 38 = .ok (.iconst 2, 1) := by decide +kernel
theorem dX5_join_39 : decode cX5_join 39 = .ok (.iload 5, 2) := by decide +kernel
theorem dX5_join_41 : decode cX5_join 41 = .ok (.ifCond .eq 14, 3) := by decide +kernel
theorem dX5_join_44 : decode cX5_join 44 = .ok (.aload_n 0, 1) := by decide +kernel
theorem dX5_join_45 : decode cX5_join 45 = .ok (.iconst 2, 1) := by decide +kernel
theorem dX5_join_46 : decode cX5_join 46 = .ok (.iaload, 1) := by decide +kernel
theorem dX5_join_47 : decode cX5_join 47 = .ok (.iconst 1, 1) := by decide +kernel
theorem dX5_join_48 : decode cX5_join 48 = .ok (.iload 6, 2) := by decide +kernel
theorem dX5_join_50 : decode cX5_join 50 = .ok (.ishl, 1) := by decide +kernel
theorem dX5_join_51 : decode cX5_join 51 = .ok (.ior, 1) := by decide +kernel
theorem dX5_join_52 : decode cX5_join 52 = .ok (.goto 13, 3) := by decide +kernel
theorem dX5_join_55 : decode cX5_join 55 = .ok (.aload_n 0, 1) := by decide +kernel
theorem dX5_join_56 : decode cX5_join 56 = .ok (.iconst 2, 1) := by decide +kernel
theorem dX5_join_57 : decode cX5_join 57 = .ok (.iaload, 1) := by decide +kernel
theorem dX5_join_58 : decode cX5_join 58 = .ok (.iconst 1, 1) := by decide +kernel
theorem dX5_join_59 : decode cX5_join 59 = .ok (.iload 6, 2) := by decide +kernel
theorem dX5_join_61 : decode cX5_join 61 = .ok (.ishl, 1) := by decide +kernel
theorem dX5_join_62 : decode cX5_join 62 = .ok (.iconst (-1), 1) := by decide +kernel
theorem dX5_join_63 : decode cX5_join 63 = .ok (.ixor, 1) := by decide +kernel
theorem dX5_join_64 : decode cX5_join 64 = .ok (.iand, 1) := by decide +kernel
theorem dX5_join_65 : decode cX5_join 65 = .ok (.iastore, 1) := by decide +kernel
theorem dX5_join_66 : decode cX5_join 66 = .ok (.aload_n 0, 1) := by decide +kernel
theorem dX5_join_67 : decode cX5_join 67 = .ok (.iconst 0, 1) := by decide +kernel
theorem dX5_join_68 : decode cX5_join 68 = .ok (.dup2, 1) := by decide +kernel
theorem dX5_join_69 : decode cX5_join 69 = .ok (.iaload, 1) := by decide +kernel
theorem dX5_join_70 : decode cX5_join 70 = .ok (.iconst 1, 1) := by decide +kernel
theorem dX5_join_71 : decode cX5_join 71 = .ok (.iadd, 1) := by decide +kernel
theorem dX5_join_72 : decode cX5_join 72 = .ok (.iastore, 1) := by decide +kernel
theorem dX5_join_73 : decode cX5_join 73 = .ok (.return_, 1) := by decide +kernel
theorem dX5_couple_0 : decode cX5_couple 0 = .ok (.iload_n 1, 1) := by decide +kernel
theorem dX5_couple_1 : decode cX5_couple 1 = .ok (.iconst 0, 1) := by decide +kernel
theorem dX5_couple_2 : decode cX5_couple 2 = .ok (.iconst 4, 1) := by decide +kernel
theorem dX5_couple_3 : decode cX5_couple 3 = .ok (.invokestatic 45, 3) := by decide +kernel
theorem dX5_couple_6 : decode cX5_couple 6 = .ok (.ifCond .eq 13, 3) := by decide +kernel
theorem dX5_couple_9 : decode cX5_couple 9 = .ok (.iload_n 2, 1) := by decide +kernel
theorem dX5_couple_10 : decode cX5_couple 10 = .ok (.iconst 0, 1) := by decide +kernel
theorem dX5_couple_11 : decode cX5_couple 11 = .ok (.bipush 80, 2) := by decide +kernel
theorem dX5_couple_13 : decode cX5_couple 13 = .ok (.invokestatic 45, 3) := by decide +kernel
theorem dX5_couple_16 : decode cX5_couple 16 = .ok (.ifCond .ne 5, 3) := by decide +kernel
theorem dX5_couple_19 : decode cX5_couple 19 = .ok (.iconst (-1), 1) := by decide +kernel
theorem dX5_couple_20 : decode cX5_couple 20 = .ok (.ireturn, 1) := by decide +kernel
theorem dX5_couple_21 : decode cX5_couple 21 = .ok (.aload_n 0, 1) := by decide +kernel
theorem dX5_couple_22 : decode cX5_couple 22 = .ok (.getfield 7, 3) := by decide +kernel
theorem dX5_couple_25 : decode cX5_couple 25 = .ok (.iconst 0, 1) := by decide +kernel
theorem dX5_couple_26 : decode cX5_couple 26 = .ok (.iaload, 1) := by decide +kernel
theorem dX5_couple_27 : decode cX5_couple 27 = .ok (.bipush 7, 2) := by decide +kernel
theorem dX5_couple_29 : decode cX5_couple 29 = .ok (.if_icmp .ne 6, 3) := by decide +kernel
theorem dX5_couple_32 : decode cX5_couple 32 = .ok (.bipush (-3), 2) := by decide +kernel
theorem dX5_couple_34 : decode cX5_couple 34 = .ok (.ireturn, 1) := by decide +kernel
theorem dX5_couple_35 : decode cX5_couple 35 = .ok (.aload_n 0, 1) := by decide +kernel
theorem dX5_couple_36 : decode cX5_couple 36 = .ok (.getfield 7, 3) := by decide +kernel
theorem dX5_couple_39 : decode cX5_couple 39 = .ok (.iload_n 1, 1) := by decide +kernel
theorem dX5_couple_40 : decode cX5_couple 40 = .ok (.iload_n 2, 1) := by decide +kernel
theorem dX5_couple_41 : decode cX5_couple 41 = .ok (.bipush 40, 2) := by decide +kernel
theorem dX5_couple_43 : decode cX5_couple 43 = .ok (.iconst 0, 1) := by decide +kernel
theorem dX5_couple_44 : decode cX5_couple 44 = .ok (.iconst 0, 1) := by decide +kernel
theorem dX5_couple_45 : decode cX5_couple 45 = .ok (.invokestatic 71, 3) := by decide +kernel
theorem dX5_couple_48 : decode cX5_couple 48 = .ok (.aload_n 0, 1) := by decide +kernel
theorem dX5_couple_49 : decode cX5_couple 49 = .ok (.iconst 0, 1) := by decide +kernel
theorem dX5_couple_50 : decode cX5_couple 50 = .ok (.putfield 75, 3) := by decide +kernel
theorem dX5_couple_53 : decode cX5_couple 53 = .ok (.aload_n 0, 1) := by decide +kernel
theorem dX5_couple_54 : decode cX5_couple 54 = .ok (.getfield 7, 3) := by decide +kernel
theorem dX5_couple_57 : decode cX5_couple 57 = .ok (.iconst 0, 1) := by decide +kernel
theorem dX5_couple_58 : decode cX5_couple 58 = .ok (.iaload, 1) := by decide +kernel
theorem dX5_couple_59 : decode cX5_couple 59 = .ok (.iconst 1, 1) := by decide +kernel
theorem dX5_couple_60 : decode cX5_couple 60 = .ok (.isub, 1) := by decide +kernel
theorem dX5_couple_61 : decode cX5_couple 61 = .ok (.ireturn, 1) := by decide +kernel
theorem dX5_of_0 : decode cX5_of 0 = .ok (.aload_n 0, 1) := by decide +kernel
theorem dX5_of_1 : decode cX5_of 1 = .ok (.iload_n 1, 1) := by decide +kernel
theorem dX5_of_2 : decode cX5_of 2 = .ok (.invokevirtual 79, 3) := by decide +kernel
theorem dX5_of_5 : decode cX5_of 5 = .ok (.ifCond .ne 5, 3) := by decide +kernel
theorem dX5_of_8 : decode cX5_of 8 = .ok (.iconst (-1), 1) := by decide +kernel
theorem dX5_of_9 : decode cX5_of 9 = .ok (.ireturn, 1) := by decide +kernel
theorem dX5_of_10 : decode cX5_of 10 = .ok (.iload_n 2, 1) := by decide +kernel
theorem dX5_of_11 : decode cX5_of 11 = .ok (.tableswitch 121 0 5 #[37, 46, 56, 66, 76, 93], 37) := by decide +kernel
theorem dX5_of_48 : decode cX5_of 48 = .ok (.aload_n 0, 1) := by decide +kernel
theorem dX5_of_49 : decode cX5_of 49 = .ok (.getfield 7, 3) := by decide +kernel
theorem dX5_of_52 : decode cX5_of 52 = .ok (.iconst 4, 1) := by decide +kernel
theorem dX5_of_53 : decode cX5_of 53 = .ok (.iload_n 1, 1) := by decide +kernel
theorem dX5_of_54 : decode cX5_of 54 = .ok (.iadd, 1) := by decide +kernel
theorem dX5_of_55 : decode cX5_of 55 = .ok (.iaload, 1) := by decide +kernel
theorem dX5_of_56 : decode cX5_of 56 = .ok (.ireturn, 1) := by decide +kernel
theorem dX5_of_57 : decode cX5_of 57 = .ok (.aload_n 0, 1) := by decide +kernel
theorem dX5_of_58 : decode cX5_of 58 = .ok (.getfield 7, 3) := by decide +kernel
theorem dX5_of_61 : decode cX5_of 61 = .ok (.bipush 11, 2) := by decide +kernel
theorem dX5_of_63 : decode cX5_of 63 = .ok (.iload_n 1, 1) := by decide +kernel
theorem dX5_of_64 : decode cX5_of 64 = .ok (.iadd, 1) := by decide +kernel
theorem dX5_of_65 : decode cX5_of 65 = .ok (.iaload, 1) := by decide +kernel
theorem dX5_of_66 : decode cX5_of 66 = .ok (.ireturn, 1) := by decide +kernel
theorem dX5_of_67 : decode cX5_of 67 = .ok (.aload_n 0, 1) := by decide +kernel
theorem dX5_of_68 : decode cX5_of 68 = .ok (.getfield 7, 3) := by decide +kernel
theorem dX5_of_71 : decode cX5_of 71 = .ok (.bipush 18, 2) := by decide +kernel
theorem dX5_of_73 : decode cX5_of 73 = .ok (.iload_n 1, 1) := by decide +kernel
theorem dX5_of_74 : decode cX5_of 74 = .ok (.iadd, 1) := by decide +kernel
theorem dX5_of_75 : decode cX5_of 75 = .ok (.iaload, 1) := by decide +kernel
theorem dX5_of_76 : decode cX5_of 76 = .ok (.ireturn, 1) := by decide +kernel
theorem dX5_of_77 : decode cX5_of 77 = .ok (.aload_n 0, 1) := by decide +kernel
theorem dX5_of_78 : decode cX5_of 78 = .ok (.getfield 7, 3) := by decide +kernel
theorem dX5_of_81 : decode cX5_of 81 = .ok (.bipush 25, 2) := by decide +kernel
theorem dX5_of_83 : decode cX5_of 83 = .ok (.iload_n 1, 1) := by decide +kernel
theorem dX5_of_84 : decode cX5_of 84 = .ok (.iadd, 1) := by decide +kernel
theorem dX5_of_85 : decode cX5_of 85 = .ok (.iaload, 1) := by decide +kernel
theorem dX5_of_86 : decode cX5_of 86 = .ok (.ireturn, 1) := by decide +kernel
theorem dX5_of_87 : decode cX5_of 87 = .ok (.aload_n 0, 1) := by decide +kernel
theorem dX5_of_88 : decode cX5_of 88 = .ok (.getfield 7, 3) := by decide +kernel
theorem dX5_of_91 : decode cX5_of 91 = .ok (.iload_n 1, 1) := by decide +kernel
theorem dX5_of_92 : decode cX5_of 92 = .ok (.invokestatic 53, 3) := by decide +kernel
theorem dX5_of_95 : decode cX5_of 95 = .ok (.ifCond .eq 7, 3) := by decide +kernel
theorem dX5_of_98 : decode cX5_of 98 = .ok (.iconst 1, 1) := by decide +kernel
theorem dX5_of_99 : decode cX5_of 99 = .ok (.goto 4, 3) := by decide +kernel
theorem dX5_of_102 : decode cX5_of 102 = .ok (.iconst 0, 1) := by decide +kernel
theorem dX5_of_103 : decode cX5_of 103 = .ok (.ireturn, 1) := by decide +kernel
theorem dX5_of_104 : decode cX5_of 104 = .ok (.aload_n 0, 1) := by decide +kernel
theorem dX5_of_105 : decode cX5_of 105 = .ok (.getfield 7, 3) := by decide +kernel
theorem dX5_of_108 : decode cX5_of 108 = .ok (.iload_n 1, 1) := by decide +kernel
theorem dX5_of_109 : decode cX5_of 109 = .ok (.invokestatic 53, 3) := by decide +kernel
theorem dX5_of_112 : decode cX5_of 112 = .ok (.ifCond .eq 8, 3) := by decide +kernel
theorem dX5_of_115 : decode cX5_of 115 = .ok (.bipush 10, 2) := by decide +kernel
theorem dX5_of_117 : decode cX5_of 117 = .ok (.goto 14, 3) := by decide +kernel
theorem dX5_of_120 : decode cX5_of 120 = .ok (.aload_n 0, 1) := by decide +kernel
theorem dX5_of_121 : decode cX5_of 121 = .ok (.getfield 7, 3) := by decide +kernel
theorem dX5_of_124 : decode cX5_of 124 = .ok (.iload_n 1, 1) := by decide +kernel
theorem dX5_of_125 : decode cX5_of 125 = .ok (.invokestatic 68, 3) := by decide +kernel
theorem dX5_of_128 : decode cX5_of 128 = .ok (.bipush 10, 2) := by decide +kernel
theorem dX5_of_130 : decode cX5_of 130 = .ok (.iadd, 1) := by decide +kernel
theorem dX5_of_131 : decode cX5_of 131 = .ok (.ireturn, 1) := by decide +kernel
theorem dX5_of_132 : decode cX5_of 132 = .ok (.iconst (-1), 1) := by decide +kernel
theorem dX5_of_133 : decode cX5_of 133 = .ok (.ireturn, 1) := by decide +kernel
theorem dX5_type_0 : decode cX5_type 0 = .ok (.iload_n 1, 1) := by decide +kernel
theorem dX5_type_1 : decode cX5_type 1 = .ok (.bipush 32, 2) := by decide +kernel
theorem dX5_type_3 : decode cX5_type 3 = .ok (.bipush 126, 2) := by decide +kernel
theorem dX5_type_5 : decode cX5_type 5 = .ok (.invokestatic 45, 3) := by decide +kernel
theorem dX5_type_8 : decode cX5_type 8 = .ok (.ifCond .ne 5, 3) := by decide +kernel
theorem dX5_type_11 : decode cX5_type 11 = .ok (.iconst (-1), 1) := by decide +kernel
theorem dX5_type_12 : decode cX5_type 12 = .ok (.ireturn, 1) := by decide +kernel
theorem dX5_type_13 : decode cX5_type 13 = .ok (.aload_n 0, 1) := by decide +kernel
theorem dX5_type_14 : decode cX5_type 14 = .ok (.getfield 83, 3) := by decide +kernel
theorem dX5_type_17 : decode cX5_type 17 = .ok (.bipush 80, 2) := by decide +kernel
theorem dX5_type_19 : decode cX5_type 19 = .ok (.if_icmp .ne 6, 3) := by decide +kernel
theorem dX5_type_22 : decode cX5_type 22 = .ok (.bipush (-3), 2) := by decide +kernel
theorem dX5_type_24 : decode cX5_type 24 = .ok (.ireturn, 1) := by decide +kernel
theorem dX5_type_25 : decode cX5_type 25 = .ok (.aload_n 0, 1) := by decide +kernel
theorem dX5_type_26 : decode cX5_type 26 = .ok (.getfield 28, 3) := by decide +kernel
theorem dX5_type_29 : decode cX5_type 29 = .ok (.aload_n 0, 1) := by decide +kernel
theorem dX5_type_30 : decode cX5_type 30 = .ok (.getfield 83, 3) := by decide +kernel
theorem dX5_type_33 : decode cX5_type 33 = .ok (.iload_n 1, 1) := by decide +kernel
theorem dX5_type_34 : decode cX5_type 34 = .ok (.i2b, 1) := by decide +kernel
theorem dX5_type_35 : decode cX5_type 35 = .ok (.bastore, 1) := by decide +kernel
theorem dX5_type_36 : decode cX5_type 36 = .ok (.aload_n 0, 1) := by decide +kernel
theorem dX5_type_37 : decode cX5_type 37 = .ok (.dup, 1) := by decide +kernel
theorem dX5_type_38 : decode cX5_type 38 = .ok (.getfield 83, 3) := by decide +kernel
theorem dX5_type_41 : decode cX5_type 41 = .ok (.iconst 1, 1) := by decide +kernel
theorem dX5_type_42 : decode cX5_type 42 = .ok (.iadd, 1) := by decide +kernel
theorem dX5_type_43 : decode cX5_type 43 = .ok (.putfield 83, 3) := by decide +kernel
theorem dX5_type_46 : decode cX5_type 46 = .ok (.aload_n 0, 1) := by decide +kernel
theorem dX5_type_47 : decode cX5_type 47 = .ok (.getfield 83, 3) := by decide +kernel
theorem dX5_type_50 : decode cX5_type 50 = .ok (.ireturn, 1) := by decide +kernel
theorem dX5_here_0 : decode cX5_here 0 = .ok (.aload_n 0, 1) := by decide +kernel
theorem dX5_here_1 : decode cX5_here 1 = .ok (.getfield 86, 3) := by decide +kernel
theorem dX5_here_4 : decode cX5_here 4 = .ok (.aload_n 0, 1) := by decide +kernel
theorem dX5_here_5 : decode cX5_here 5 = .ok (.getfield 83, 3) := by decide +kernel
theorem dX5_here_8 : decode cX5_here 8 = .ok (.if_icmp .ge 30, 3) := by decide +kernel
theorem dX5_here_11 : decode cX5_here 11 = .ok (.aload_n 0, 1) := by decide +kernel
theorem dX5_here_12 : decode cX5_here 12 = .ok (.getfield 28, 3) := by decide +kernel
theorem dX5_here_15 : decode cX5_here 15 = .ok (.aload_n 0, 1) := by decide +kernel
theorem dX5_here_16 : decode cX5_here 16 = .ok (.getfield 86, 3) := by decide +kernel
theorem dX5_here_19 : decode cX5_here 19 = .ok (.baload, 1) := by decide +kernel
theorem dX5_here_20 : decode cX5_here 20 = .ok (.bipush 32, 2) := by decide +kernel
theorem dX5_here_22 : decode cX5_here 22 = .ok (.if_icmp .ne 16, 3) := by decide +kernel
theorem dX5_here_25 : decode cX5_here 25 = .ok (.aload_n 0, 1) := by decide +kernel
theorem dX5_here_26 : decode cX5_here 26 = .ok (.dup, 1) := by decide +kernel
theorem dX5_here_27 : decode cX5_here 27 = .ok (.getfield 86, 3) := by decide +kernel
theorem dX5_here_30 : decode cX5_here 30 = .ok (.iconst 1, 1) := by decide +kernel
theorem dX5_here_31 : decode cX5_here 31 = .ok (.iadd, 1) := by decide +kernel
theorem dX5_here_32 : decode cX5_here 32 = .ok (.putfield 86, 3) := by decide +kernel
theorem dX5_here_35 : decode cX5_here 35 = .ok (.goto (-35), 3) := by decide +kernel
theorem dX5_here_38 : decode cX5_here 38 = .ok (.aload_n 0, 1) := by decide +kernel
theorem dX5_here_39 : decode cX5_here 39 = .ok (.getfield 86, 3) := by decide +kernel
theorem dX5_here_42 : decode cX5_here 42 = .ok (.aload_n 0, 1) := by decide +kernel
theorem dX5_here_43 : decode cX5_here 43 = .ok (.getfield 83, 3) := by decide +kernel
theorem dX5_here_46 : decode cX5_here 46 = .ok (.if_icmp .ge 15, 3) := by decide +kernel
theorem dX5_here_49 : decode cX5_here 49 = .ok (.aload_n 0, 1) := by decide +kernel
theorem dX5_here_50 : decode cX5_here 50 = .ok (.getfield 28, 3) := by decide +kernel
theorem dX5_here_53 : decode cX5_here 53 = .ok (.aload_n 0, 1) := by decide +kernel
theorem dX5_here_54 : decode cX5_here 54 = .ok (.getfield 86, 3) := by decide +kernel
theorem dX5_here_57 : decode cX5_here 57 = .ok (.baload, 1) := by decide +kernel
theorem dX5_here_58 : decode cX5_here 58 = .ok (.goto 5, 3) := by decide +kernel
theorem dX5_here_61 : decode cX5_here 61 = .ok (.bipush (-4), 2) := by decide +kernel
theorem dX5_here_63 : decode cX5_here 63 = .ok (.ireturn, 1) := by decide +kernel
theorem dX5_wrongAt_0 : decode cX5_wrongAt 0 = .ok (.aload_n 0, 1) := by decide +kernel
theorem dX5_wrongAt_1 : decode cX5_wrongAt 1 = .ok (.aload_n 0, 1) := by decide +kernel
theorem dX5_wrongAt_2 : decode cX5_wrongAt 2 = .ok (.getfield 89, 3) := by decide +kernel
theorem dX5_wrongAt_5 : decode cX5_wrongAt 5 = .ok (.ifCond .eq 10, 3) := by decide +kernel
theorem dX5_wrongAt_8 : decode cX5_wrongAt 8 = .ok (.aload_n 0, 1) := by decide +kernel
theorem dX5_wrongAt_9 : decode cX5_wrongAt 9 = .ok (.getfield 93, 3) := by decide +kernel
theorem dX5_wrongAt_12 : decode cX5_wrongAt 12 = .ok (.goto 4, 3) := by decide +kernel
theorem dX5_wrongAt_15 : decode cX5_wrongAt 15 = .ok (.iload_n 1, 1) := by decide +kernel
theorem dX5_wrongAt_16 : decode cX5_wrongAt 16 = .ok (.putfield 93, 3) := by decide +kernel
theorem dX5_wrongAt_19 : decode cX5_wrongAt 19 = .ok (.aload_n 0, 1) := by decide +kernel
theorem dX5_wrongAt_20 : decode cX5_wrongAt 20 = .ok (.iconst 1, 1) := by decide +kernel
theorem dX5_wrongAt_21 : decode cX5_wrongAt 21 = .ok (.putfield 89, 3) := by decide +kernel
theorem dX5_wrongAt_24 : decode cX5_wrongAt 24 = .ok (.return_, 1) := by decide +kernel
theorem dX5_number_0 : decode cX5_number 0 = .ok (.aload_n 0, 1) := by decide +kernel
theorem dX5_number_1 : decode cX5_number 1 = .ok (.invokevirtual 96, 3) := by decide +kernel
theorem dX5_number_4 : decode cX5_number 4 = .ok (.bipush 48, 2) := by decide +kernel
theorem dX5_number_6 : decode cX5_number 6 = .ok (.bipush 57, 2) := by decide +kernel
theorem dX5_number_8 : decode cX5_number 8 = .ok (.invokestatic 45, 3) := by decide +kernel
theorem dX5_number_11 : decode cX5_number 11 = .ok (.istore_n 3, 1) := by decide +kernel
theorem dX5_number_12 : decode cX5_number 12 = .ok (.aload_n 0, 1) := by decide +kernel
theorem dX5_number_13 : decode cX5_number 13 = .ok (.getfield 86, 3) := by decide +kernel
theorem dX5_number_16 : decode cX5_number 16 = .ok (.istore 4, 2) := by decide +kernel
theorem dX5_number_18 : decode cX5_number 18 = .ok (.iconst 0, 1) := by decide +kernel
theorem dX5_number_19 : decode cX5_number 19 = .ok (.istore 5, 2) := by decide +kernel
theorem dX5_number_21 : decode cX5_number 21 = .ok (.iconst 0, 1) := by decide +kernel
theorem dX5_number_22 : decode cX5_number 22 = .ok (.istore 6, 2) := by decide +kernel
theorem dX5_number_24 : decode cX5_number 24 = .ok (.iload 6, 2) := by decide +kernel
theorem dX5_number_26 : decode cX5_number 26 = .ok (.iconst 2, 1) := by decide +kernel
theorem dX5_number_27 : decode cX5_number 27 = .ok (.if_icmp .ge 69, 3) := by decide +kernel
theorem dX5_number_30 : decode cX5_number 30 = .ok (.aload_n 0, 1) := by decide +kernel
theorem dX5_number_31 : decode cX5_number 31 = .ok (.getfield 86, 3) := by decide +kernel
theorem dX5_number_34 : decode cX5_number 34 = .ok (.aload_n 0, 1) := by decide +kernel
theorem dX5_number_35 : decode cX5_number 35 = .ok (.getfield 83, 3) := by decide +kernel
theorem dX5_number_38 : decode cX5_number 38 = .ok (.if_icmp .ge 58, 3) := by decide +kernel
theorem dX5_number_41 : decode cX5_number 41 = .ok (.aload_n 0, 1) := by decide +kernel
theorem dX5_number_42 : decode cX5_number 42 = .ok (.getfield 28, 3) := by decide +kernel
theorem dX5_number_45 : decode cX5_number 45 = .ok (.aload_n 0, 1) := by decide +kernel
theorem dX5_number_46 : decode cX5_number 46 = .ok (.getfield 86, 3) := by decide +kernel
theorem dX5_number_49 : decode cX5_number 49 = .ok (.baload, 1) := by decide +kernel
theorem dX5_number_50 : decode cX5_number 50 = .ok (.bipush 48, 2) := by decide +kernel
theorem dX5_number_52 : decode cX5_number 52 = .ok (.bipush 57, 2) := by decide +kernel
theorem dX5_number_54 : decode cX5_number 54 = .ok (.invokestatic 45, 3) := by decide +kernel
theorem dX5_number_57 : decode cX5_number 57 = .ok (.ifCond .eq 39, 3) := by decide +kernel
theorem dX5_number_60 : decode cX5_number 60 = .ok (.bipush 10, 2) := by decide +kernel
theorem dX5_number_62 : decode cX5_number 62 = .ok (.iload 5, 2) := by decide +kernel
theorem dX5_number_64 : decode cX5_number 64 = .ok (.imul, 1) := by decide +kernel
theorem dX5_number_65 : decode cX5_number 65 = .ok (.aload_n 0, 1) := by decide +kernel
theorem dX5_number_66 : decode cX5_number 66 = .ok (.getfield 28, 3) := by decide +kernel
theorem dX5_number_69 : decode cX5_number 69 = .ok (.aload_n 0, 1) := by decide +kernel
theorem dX5_number_70 : decode cX5_number 70 = .ok (.getfield 86, 3) := by decide +kernel
theorem dX5_number_73 : decode cX5_number 73 = .ok (.baload, 1) := by decide +kernel
theorem dX5_number_74 : decode cX5_number 74 = .ok (.iadd, 1) := by decide +kernel
theorem dX5_number_75 : decode cX5_number 75 = .ok (.bipush 48, 2) := by decide +kernel
theorem dX5_number_77 : decode cX5_number 77 = .ok (.isub, 1) := by decide +kernel
theorem dX5_number_78 : decode cX5_number 78 = .ok (.istore 5, 2) := by decide +kernel
theorem dX5_number_80 : decode cX5_number 80 = .ok (.aload_n 0, 1) := by decide +kernel
theorem dX5_number_81 : decode cX5_number 81 = .ok (.dup, 1) := by decide +kernel
theorem dX5_number_82 : decode cX5_number 82 = .ok (.getfield 86, 3) := by decide +kernel
theorem dX5_number_85 : decode cX5_number 85 = .ok (.iconst 1, 1) := by decide +kernel
theorem dX5_number_86 : decode cX5_number 86 = .ok (.iadd, 1) := by decide +kernel
theorem dX5_number_87 : decode cX5_number 87 = .ok (.putfield 86, 3) := by decide +kernel
theorem dX5_number_90 : decode cX5_number 90 = .ok (.iinc 6 1, 3) := by decide +kernel
theorem dX5_number_93 : decode cX5_number 93 = .ok (.goto (-69), 3) := by decide +kernel
theorem dX5_number_96 : decode cX5_number 96 = .ok (.iload_n 3, 1) := by decide +kernel
theorem dX5_number_97 : decode cX5_number 97 = .ok (.ifCond .eq 13, 3) := by decide +kernel
theorem dX5_number_100 : decode cX5_number 100 = .ok (.iload 5, 2) := by decide +kernel
theorem dX5_number_102 : decode cX5_number 102 = .ok (.iload_n 1, 1) := by decide +kernel
theorem dX5_number_103 : decode cX5_number 103 = .ok (.iload_n 2, 1) := by decide +kernel
theorem dX5_number_104 : decode cX5_number 104 = .ok (.invokestatic 45, 3) := by decide +kernel
theorem dX5_number_107 : decode cX5_number 107 = .ok (.ifCond .ne 12, 3) := by decide +kernel
theorem dX5_number_110 : decode cX5_number 110 = .ok (.aload_n 0, 1) := by decide +kernel
theorem dX5_number_111 : decode cX5_number 111 = .ok (.iload 4, 2) := by decide +kernel
theorem dX5_number_113 : decode cX5_number 113 = .ok (.invokevirtual 100, 3) := by decide +kernel
theorem dX5_number_116 : decode cX5_number 116 = .ok (.goto 41, 3) := by decide +kernel
theorem dX5_number_119 : decode cX5_number 119 = .ok (.aload_n 0, 1) := by decide +kernel
theorem dX5_number_120 : decode cX5_number 120 = .ok (.getfield 86, 3) := by decide +kernel
theorem dX5_number_123 : decode cX5_number 123 = .ok (.aload_n 0, 1) := by decide +kernel
theorem dX5_number_124 : decode cX5_number 124 = .ok (.getfield 83, 3) := by decide +kernel
theorem dX5_number_127 : decode cX5_number 127 = .ok (.if_icmp .ge 30, 3) := by decide +kernel
theorem dX5_number_130 : decode cX5_number 130 = .ok (.aload_n 0, 1) := by decide +kernel
theorem dX5_number_131 : decode cX5_number 131 = .ok (.getfield 28, 3) := by decide +kernel
theorem dX5_number_134 : decode cX5_number 134 = .ok (.aload_n 0, 1) := by decide +kernel
theorem dX5_number_135 : decode cX5_number 135 = .ok (.getfield 86, 3) := by decide +kernel
theorem dX5_number_138 : decode cX5_number 138 = .ok (.baload, 1) := by decide +kernel
theorem dX5_number_139 : decode cX5_number 139 = .ok (.bipush 48, 2) := by decide +kernel
theorem dX5_number_141 : decode cX5_number 141 = .ok (.bipush 57, 2) := by decide +kernel
theorem dX5_number_143 : decode cX5_number 143 = .ok (.invokestatic 45, 3) := by decide +kernel
theorem dX5_number_146 : decode cX5_number 146 = .ok (.ifCond .eq 11, 3) := by decide +kernel
theorem dX5_number_149 : decode cX5_number 149 = .ok (.aload_n 0, 1) := by decide +kernel
theorem dX5_number_150 : decode cX5_number 150 = .ok (.aload_n 0, 1) := by decide +kernel
theorem dX5_number_151 : decode cX5_number 151 = .ok (.getfield 86, 3) := by decide +kernel
theorem dX5_number_154 : decode cX5_number 154 = .ok (.invokevirtual 100, 3) := by decide +kernel
theorem dX5_number_157 : decode cX5_number 157 = .ok (.iload 5, 2) := by decide +kernel
theorem dX5_number_159 : decode cX5_number 159 = .ok (.ireturn, 1) := by decide +kernel
theorem dX5_takes_0 : decode cX5_takes 0 = .ok (.aload_n 0, 1) := by decide +kernel
theorem dX5_takes_1 : decode cX5_takes 1 = .ok (.invokevirtual 96, 3) := by decide +kernel
theorem dX5_takes_4 : decode cX5_takes 4 = .ok (.iload_n 1, 1) := by decide +kernel
theorem dX5_takes_5 : decode cX5_takes 5 = .ok (.if_icmp .ne 7, 3) := by decide +kernel
theorem dX5_takes_8 : decode cX5_takes 8 = .ok (.iconst 1, 1) := by decide +kernel
theorem dX5_takes_9 : decode cX5_takes 9 = .ok (.goto 4, 3) := by decide +kernel
theorem dX5_takes_12 : decode cX5_takes 12 = .ok (.iconst 0, 1) := by decide +kernel
theorem dX5_takes_13 : decode cX5_takes 13 = .ok (.istore_n 2, 1) := by decide +kernel
theorem dX5_takes_14 : decode cX5_takes 14 = .ok (.aload_n 0, 1) := by decide +kernel
theorem dX5_takes_15 : decode cX5_takes 15 = .ok (.dup, 1) := by decide +kernel
theorem dX5_takes_16 : decode cX5_takes 16 = .ok (.getfield 86, 3) := by decide +kernel
theorem dX5_takes_19 : decode cX5_takes 19 = .ok (.iload_n 2, 1) := by decide +kernel
theorem dX5_takes_20 : decode cX5_takes 20 = .ok (.ifCond .eq 7, 3) := by decide +kernel
theorem dX5_takes_23 : decode cX5_takes 23 = .ok (.iconst 1, 1) := by decide +kernel
theorem dX5_takes_24 : decode cX5_takes 24 = .ok (.goto 4, 3) := by decide +kernel
theorem dX5_takes_27 : decode cX5_takes 27 = .ok (.iconst 0, 1) := by decide +kernel
theorem dX5_takes_28 : decode cX5_takes 28 = .ok (.iadd, 1) := by decide +kernel
theorem dX5_takes_29 : decode cX5_takes 29 = .ok (.putfield 86, 3) := by decide +kernel
theorem dX5_takes_32 : decode cX5_takes 32 = .ok (.iload_n 2, 1) := by decide +kernel
theorem dX5_takes_33 : decode cX5_takes 33 = .ok (.ireturn, 1) := by decide +kernel
theorem dX5_readCouple_0 : decode cX5_readCouple 0 = .ok (.aload_n 0, 1) := by decide +kernel
theorem dX5_readCouple_1 : decode cX5_readCouple 1 = .ok (.invokevirtual 96, 3) := by decide +kernel
theorem dX5_readCouple_4 : decode cX5_readCouple 4 = .ok (.istore_n 1, 1) := by decide +kernel
theorem dX5_readCouple_5 : decode cX5_readCouple 5 = .ok (.iload_n 1, 1) := by decide +kernel
theorem dX5_readCouple_6 : decode cX5_readCouple 6 = .ok (.bipush 112, 2) := by decide +kernel
theorem dX5_readCouple_8 : decode cX5_readCouple 8 = .ok (.if_icmp .ne 7, 3) := by decide +kernel
theorem dX5_readCouple_11 : decode cX5_readCouple 11 = .ok (.iconst 0, 1) := by decide +kernel
theorem dX5_readCouple_12 : decode cX5_readCouple 12 = .ok (.goto 45, 3) := by decide +kernel
theorem dX5_readCouple_15 : decode cX5_readCouple 15 = .ok (.iload_n 1, 1) := by decide +kernel
theorem dX5_readCouple_16 : decode cX5_readCouple 16 = .ok (.bipush 100, 2) := by decide +kernel
theorem dX5_readCouple_18 : decode cX5_readCouple 18 = .ok (.if_icmp .ne 7, 3) := by decide +kernel
theorem dX5_readCouple_21 : decode cX5_readCouple 21 = .ok (.iconst 1, 1) := by decide +kernel
theorem dX5_readCouple_22 : decode cX5_readCouple 22 = .ok (.goto 35, 3) := by decide +kernel
theorem dX5_readCouple_25 : decode cX5_readCouple 25 = .ok (.iload_n 1, 1) := by decide +kernel
theorem dX5_readCouple_26 : decode cX5_readCouple 26 = .ok (.bipush 115, 2) := by decide +kernel
theorem dX5_readCouple_28 : decode cX5_readCouple 28 = .ok (.if_icmp .ne 7, 3) := by decide +kernel
theorem dX5_readCouple_31 : decode cX5_readCouple 31 = .ok (.iconst 2, 1) := by decide +kernel
theorem dX5_readCouple_32 : decode cX5_readCouple 32 = .ok (.goto 25, 3) := by decide +kernel
theorem dX5_readCouple_35 : decode cX5_readCouple 35 = .ok (.iload_n 1, 1) := by decide +kernel
theorem dX5_readCouple_36 : decode cX5_readCouple 36 = .ok (.bipush 108, 2) := by decide +kernel
theorem dX5_readCouple_38 : decode cX5_readCouple 38 = .ok (.if_icmp .ne 7, 3) := by decide +kernel
theorem dX5_readCouple_41 : decode cX5_readCouple 41 = .ok (.iconst 3, 1) := by decide +kernel
theorem dX5_readCouple_42 : decode cX5_readCouple 42 = .ok (.goto 15, 3) := by decide +kernel
theorem dX5_readCouple_45 : decode cX5_readCouple 45 = .ok (.iload_n 1, 1) := by decide +kernel
theorem dX5_readCouple_46 : decode cX5_readCouple 46 = .ok (.bipush 98, 2) := by decide +kernel
theorem dX5_readCouple_48 : decode cX5_readCouple 48 = .ok (.if_icmp .ne 7, 3) := by decide +kernel
theorem dX5_readCouple_51 : decode cX5_readCouple 51 = .ok (.iconst 4, 1) := by decide +kernel
theorem dX5_readCouple_52 : decode cX5_readCouple 52 = .ok (.goto 5, 3) := by decide +kernel
theorem dX5_readCouple_55 : decode cX5_readCouple 55 = .ok (.bipush (-4), 2) := by decide +kernel
theorem dX5_readCouple_57 : decode cX5_readCouple 57 = .ok (.istore_n 2, 1) := by decide +kernel
theorem dX5_readCouple_58 : decode cX5_readCouple 58 = .ok (.iload_n 2, 1) := by decide +kernel
theorem dX5_readCouple_59 : decode cX5_readCouple 59 = .ok (.bipush (-4), 2) := by decide +kernel
theorem dX5_readCouple_61 : decode cX5_readCouple 61 = .ok (.if_icmp .ne 12, 3) := by decide +kernel
theorem dX5_readCouple_64 : decode cX5_readCouple 64 = .ok (.aload_n 0, 1) := by decide +kernel
theorem dX5_readCouple_65 : decode cX5_readCouple 65 = .ok (.aload_n 0, 1) := by decide +kernel
theorem dX5_readCouple_66 : decode cX5_readCouple 66 = .ok (.getfield 86, 3) := by decide +kernel
theorem dX5_readCouple_69 : decode cX5_readCouple 69 = .ok (.invokevirtual 100, 3) := by decide +kernel
theorem dX5_readCouple_72 : decode cX5_readCouple 72 = .ok (.return_, 1) := by decide +kernel
theorem dX5_readCouple_73 : decode cX5_readCouple 73 = .ok (.aload_n 0, 1) := by decide +kernel
theorem dX5_readCouple_74 : decode cX5_readCouple 74 = .ok (.dup, 1) := by decide +kernel
theorem dX5_readCouple_75 : decode cX5_readCouple 75 = .ok (.getfield 86, 3) := by decide +kernel
theorem dX5_readCouple_78 : decode cX5_readCouple 78 = .ok (.iconst 1, 1) := by decide +kernel
theorem dX5_readCouple_79 : decode cX5_readCouple 79 = .ok (.iadd, 1) := by decide +kernel
theorem dX5_readCouple_80 : decode cX5_readCouple 80 = .ok (.putfield 86, 3) := by decide +kernel
theorem dX5_readCouple_83 : decode cX5_readCouple 83 = .ok (.aload_n 0, 1) := by decide +kernel
theorem dX5_readCouple_84 : decode cX5_readCouple 84 = .ok (.iconst 0, 1) := by decide +kernel
theorem dX5_readCouple_85 : decode cX5_readCouple 85 = .ok (.bipush 80, 2) := by decide +kernel
theorem dX5_readCouple_87 : decode cX5_readCouple 87 = .ok (.invokevirtual 104, 3) := by decide +kernel
theorem dX5_readCouple_90 : decode cX5_readCouple 90 = .ok (.istore_n 3, 1) := by decide +kernel
theorem dX5_readCouple_91 : decode cX5_readCouple 91 = .ok (.aload_n 0, 1) := by decide +kernel
theorem dX5_readCouple_92 : decode cX5_readCouple 92 = .ok (.getfield 89, 3) := by decide +kernel
theorem dX5_readCouple_95 : decode cX5_readCouple 95 = .ok (.ifCond .ne 23, 3) := by decide +kernel
theorem dX5_readCouple_98 : decode cX5_readCouple 98 = .ok (.aload_n 0, 1) := by decide +kernel
theorem dX5_readCouple_99 : decode cX5_readCouple 99 = .ok (.bipush 64, 2) := by decide +kernel
theorem dX5_readCouple_101 : decode cX5_readCouple 101 = .ok (.invokevirtual 108, 3) := by decide +kernel
theorem dX5_readCouple_104 : decode cX5_readCouple 104 = .ok (.ifCond .eq 14, 3) := by decide +kernel
theorem dX5_readCouple_107 : decode cX5_readCouple 107 = .ok (.aload_n 0, 1) := by decide +kernel
theorem dX5_readCouple_108 : decode cX5_readCouple 108 = .ok (.bipush 20, 2) := by decide +kernel
theorem dX5_readCouple_110 : decode cX5_readCouple 110 = .ok (.bipush 99, 2) := by decide +kernel
theorem dX5_readCouple_112 : decode cX5_readCouple 112 = .ok (.invokevirtual 104, 3) := by decide +kernel
theorem dX5_readCouple_115 : decode cX5_readCouple 115 = .ok (.goto 5, 3) := by decide +kernel
theorem dX5_readCouple_118 : decode cX5_readCouple 118 = .ok (.bipush 40, 2) := by decide +kernel
theorem dX5_readCouple_120 : decode cX5_readCouple 120 = .ok (.istore 4, 2) := by decide +kernel
theorem dX5_readCouple_122 : decode cX5_readCouple 122 = .ok (.aload_n 0, 1) := by decide +kernel
theorem dX5_readCouple_123 : decode cX5_readCouple 123 = .ok (.getfield 89, 3) := by decide +kernel
theorem dX5_readCouple_126 : decode cX5_readCouple 126 = .ok (.ifCond .ne 22, 3) := by decide +kernel
theorem dX5_readCouple_129 : decode cX5_readCouple 129 = .ok (.aload_n 0, 1) := by decide +kernel
theorem dX5_readCouple_130 : decode cX5_readCouple 130 = .ok (.bipush 126, 2) := by decide +kernel
theorem dX5_readCouple_132 : decode cX5_readCouple 132 = .ok (.invokevirtual 108, 3) := by decide +kernel
theorem dX5_readCouple_135 : decode cX5_readCouple 135 = .ok (.ifCond .eq 13, 3) := by decide +kernel
theorem dX5_readCouple_138 : decode cX5_readCouple 138 = .ok (.aload_n 0, 1) := by decide +kernel
theorem dX5_readCouple_139 : decode cX5_readCouple 139 = .ok (.iconst 0, 1) := by decide +kernel
theorem dX5_readCouple_140 : decode cX5_readCouple 140 = .ok (.bipush 19, 2) := by decide +kernel
theorem dX5_readCouple_142 : decode cX5_readCouple 142 = .ok (.invokevirtual 104, 3) := by decide +kernel
theorem dX5_readCouple_145 : decode cX5_readCouple 145 = .ok (.goto 4, 3) := by decide +kernel
theorem dX5_readCouple_148 : decode cX5_readCouple 148 = .ok (.iconst 0, 1) := by decide +kernel
theorem dX5_readCouple_149 : decode cX5_readCouple 149 = .ok (.istore 5, 2) := by decide +kernel
theorem dX5_readCouple_151 : decode cX5_readCouple 151 = .ok (.aload_n 0, 1) := by decide +kernel
theorem dX5_readCouple_152 : decode cX5_readCouple 152 = .ok (.getfield 89, 3) := by decide +kernel
theorem dX5_readCouple_155 : decode cX5_readCouple 155 = .ok (.ifCond .ne 16, 3) := by decide +kernel
theorem dX5_readCouple_158 : decode cX5_readCouple 158 = .ok (.aload_n 0, 1) := by decide +kernel
theorem dX5_readCouple_159 : decode cX5_readCouple 159 = .ok (.bipush 120, 2) := by decide +kernel
theorem dX5_readCouple_161 : decode cX5_readCouple 161 = .ok (.invokevirtual 108, 3) := by decide +kernel
theorem dX5_readCouple_164 : decode cX5_readCouple 164 = .ok (.ifCond .eq 7, 3) := by decide +kernel
theorem dX5_readCouple_167 : decode cX5_readCouple 167 = .ok (.iconst 1, 1) := by decide +kernel
theorem dX5_readCouple_168 : decode cX5_readCouple 168 = .ok (.goto 4, 3) := by decide +kernel
theorem dX5_readCouple_171 : decode cX5_readCouple 171 = .ok (.iconst 0, 1) := by decide +kernel
theorem dX5_readCouple_172 : decode cX5_readCouple 172 = .ok (.istore 6, 2) := by decide +kernel
theorem dX5_readCouple_174 : decode cX5_readCouple 174 = .ok (.aload_n 0, 1) := by decide +kernel
theorem dX5_readCouple_175 : decode cX5_readCouple 175 = .ok (.getfield 89, 3) := by decide +kernel
theorem dX5_readCouple_178 : decode cX5_readCouple 178 = .ok (.ifCond .ne 18, 3) := by decide +kernel
theorem dX5_readCouple_181 : decode cX5_readCouple 181 = .ok (.aload_n 0, 1) := by decide +kernel
theorem dX5_readCouple_182 : decode cX5_readCouple 182 = .ok (.getfield 13, 3) := by decide +kernel
theorem dX5_readCouple_185 : decode cX5_readCouple 185 = .ok (.iload_n 2, 1) := by decide +kernel
theorem dX5_readCouple_186 : decode cX5_readCouple 186 = .ok (.iload_n 3, 1) := by decide +kernel
theorem dX5_readCouple_187 : decode cX5_readCouple 187 = .ok (.iload 4, 2) := by decide +kernel
theorem dX5_readCouple_189 : decode cX5_readCouple 189 = .ok (.iload 5, 2) := by decide +kernel
theorem dX5_readCouple_191 : decode cX5_readCouple 191 = .ok (.iload 6, 2) := by decide +kernel
theorem dX5_readCouple_193 : decode cX5_readCouple 193 = .ok (.invokestatic 71, 3) := by decide +kernel
theorem dX5_readCouple_196 : decode cX5_readCouple 196 = .ok (.return_, 1) := by decide +kernel
theorem dX5_town_0 : decode cX5_town 0 = .ok (.iconst 0, 1) := by decide +kernel
theorem dX5_town_1 : decode cX5_town 1 = .ok (.istore_n 1, 1) := by decide +kernel
theorem dX5_town_2 : decode cX5_town 2 = .ok (.iload_n 1, 1) := by decide +kernel
theorem dX5_town_3 : decode cX5_town 3 = .ok (.bipush 32, 2) := by decide +kernel
theorem dX5_town_5 : decode cX5_town 5 = .ok (.if_icmp .ge 16, 3) := by decide +kernel
theorem dX5_town_8 : decode cX5_town 8 = .ok (.aload_n 0, 1) := by decide +kernel
theorem dX5_town_9 : decode cX5_town 9 = .ok (.getfield 13, 3) := by decide +kernel
theorem dX5_town_12 : decode cX5_town 12 = .ok (.iload_n 1, 1) := by decide +kernel
theorem dX5_town_13 : decode cX5_town 13 = .ok (.iconst 0, 1) := by decide +kernel
theorem dX5_town_14 : decode cX5_town 14 = .ok (.iastore, 1) := by decide +kernel
theorem dX5_town_15 : decode cX5_town 15 = .ok (.iinc 1 1, 3) := by decide +kernel
theorem dX5_town_18 : decode cX5_town 18 = .ok (.goto (-16), 3) := by decide +kernel
theorem dX5_town_21 : decode cX5_town 21 = .ok (.aload_n 0, 1) := by decide +kernel
theorem dX5_town_22 : decode cX5_town 22 = .ok (.getfield 13, 3) := by decide +kernel
theorem dX5_town_25 : decode cX5_town 25 = .ok (.iconst 3, 1) := by decide +kernel
theorem dX5_town_26 : decode cX5_town 26 = .ok (.aload_n 0, 1) := by decide +kernel
theorem dX5_town_27 : decode cX5_town 27 = .ok (.getfield 7, 3) := by decide +kernel
theorem dX5_town_30 : decode cX5_town 30 = .ok (.iconst 3, 1) := by decide +kernel
theorem dX5_town_31 : decode cX5_town 31 = .ok (.iaload, 1) := by decide +kernel
theorem dX5_town_32 : decode cX5_town 32 = .ok (.iastore, 1) := by decide +kernel
theorem dX5_town_33 : decode cX5_town 33 = .ok (.aload_n 0, 1) := by decide +kernel
theorem dX5_town_34 : decode cX5_town 34 = .ok (.iconst 0, 1) := by decide +kernel
theorem dX5_town_35 : decode cX5_town 35 = .ok (.putfield 86, 3) := by decide +kernel
theorem dX5_town_38 : decode cX5_town 38 = .ok (.aload_n 0, 1) := by decide +kernel
theorem dX5_town_39 : decode cX5_town 39 = .ok (.iconst 0, 1) := by decide +kernel
theorem dX5_town_40 : decode cX5_town 40 = .ok (.putfield 89, 3) := by decide +kernel
theorem dX5_town_43 : decode cX5_town 43 = .ok (.aload_n 0, 1) := by decide +kernel
theorem dX5_town_44 : decode cX5_town 44 = .ok (.invokevirtual 111, 3) := by decide +kernel
theorem dX5_town_47 : decode cX5_town 47 = .ok (.aload_n 0, 1) := by decide +kernel
theorem dX5_town_48 : decode cX5_town 48 = .ok (.getfield 89, 3) := by decide +kernel
theorem dX5_town_51 : decode cX5_town 51 = .ok (.ifCond .ne 50, 3) := by decide +kernel
theorem dX5_town_54 : decode cX5_town 54 = .ok (.aload_n 0, 1) := by decide +kernel
theorem dX5_town_55 : decode cX5_town 55 = .ok (.invokevirtual 96, 3) := by decide +kernel
theorem dX5_town_58 : decode cX5_town 58 = .ok (.bipush (-4), 2) := by decide +kernel
theorem dX5_town_60 : decode cX5_town 60 = .ok (.if_icmp .eq 41, 3) := by decide +kernel
theorem dX5_town_63 : decode cX5_town 63 = .ok (.aload_n 0, 1) := by decide +kernel
theorem dX5_town_64 : decode cX5_town 64 = .ok (.getfield 13, 3) := by decide +kernel
theorem dX5_town_67 : decode cX5_town 67 = .ok (.iconst 0, 1) := by decide +kernel
theorem dX5_town_68 : decode cX5_town 68 = .ok (.iaload, 1) := by decide +kernel
theorem dX5_town_69 : decode cX5_town 69 = .ok (.bipush 7, 2) := by decide +kernel
theorem dX5_town_71 : decode cX5_town 71 = .ok (.if_icmp .ge 19, 3) := by decide +kernel
theorem dX5_town_74 : decode cX5_town 74 = .ok (.aload_n 0, 1) := by decide +kernel
theorem dX5_town_75 : decode cX5_town 75 = .ok (.bipush 44, 2) := by decide +kernel
theorem dX5_town_77 : decode cX5_town 77 = .ok (.invokevirtual 108, 3) := by decide +kernel
theorem dX5_town_80 : decode cX5_town 80 = .ok (.ifCond .eq 10, 3) := by decide +kernel
theorem dX5_town_83 : decode cX5_town 83 = .ok (.aload_n 0, 1) := by decide +kernel
theorem dX5_town_84 : decode cX5_town 84 = .ok (.invokevirtual 111, 3) := by decide +kernel
theorem dX5_town_87 : decode cX5_town 87 = .ok (.goto (-40), 3) := by decide +kernel
theorem dX5_town_90 : decode cX5_town 90 = .ok (.aload_n 0, 1) := by decide +kernel
theorem dX5_town_91 : decode cX5_town 91 = .ok (.aload_n 0, 1) := by decide +kernel
theorem dX5_town_92 : decode cX5_town 92 = .ok (.getfield 86, 3) := by decide +kernel
theorem dX5_town_95 : decode cX5_town 95 = .ok (.invokevirtual 100, 3) := by decide +kernel
theorem dX5_town_98 : decode cX5_town 98 = .ok (.goto (-51), 3) := by decide +kernel
theorem dX5_town_101 : decode cX5_town 101 = .ok (.aload_n 0, 1) := by decide +kernel
theorem dX5_town_102 : decode cX5_town 102 = .ok (.iconst 0, 1) := by decide +kernel
theorem dX5_town_103 : decode cX5_town 103 = .ok (.putfield 83, 3) := by decide +kernel
theorem dX5_town_106 : decode cX5_town 106 = .ok (.aload_n 0, 1) := by decide +kernel
theorem dX5_town_107 : decode cX5_town 107 = .ok (.getfield 89, 3) := by decide +kernel
theorem dX5_town_110 : decode cX5_town 110 = .ok (.ifCond .eq 11, 3) := by decide +kernel
theorem dX5_town_113 : decode cX5_town 113 = .ok (.bipush (-20), 2) := by decide +kernel
theorem dX5_town_115 : decode cX5_town 115 = .ok (.aload_n 0, 1) := by decide +kernel
theorem dX5_town_116 : decode cX5_town 116 = .ok (.getfield 93, 3) := by decide +kernel
theorem dX5_town_119 : decode cX5_town 119 = .ok (.isub, 1) := by decide +kernel
theorem dX5_town_120 : decode cX5_town 120 = .ok (.ireturn, 1) := by decide +kernel
theorem dX5_town_121 : decode cX5_town 121 = .ok (.iconst 0, 1) := by decide +kernel
theorem dX5_town_122 : decode cX5_town 122 = .ok (.istore_n 1, 1) := by decide +kernel
theorem dX5_town_123 : decode cX5_town 123 = .ok (.iload_n 1, 1) := by decide +kernel
theorem dX5_town_124 : decode cX5_town 124 = .ok (.bipush 32, 2) := by decide +kernel
theorem dX5_town_126 : decode cX5_town 126 = .ok (.if_icmp .ge 21, 3) := by decide +kernel
theorem dX5_town_129 : decode cX5_town 129 = .ok (.aload_n 0, 1) := by decide +kernel
theorem dX5_town_130 : decode cX5_town 130 = .ok (.getfield 7, 3) := by decide +kernel
theorem dX5_town_133 : decode cX5_town 133 = .ok (.iload_n 1, 1) := by decide +kernel
theorem dX5_town_134 : decode cX5_town 134 = .ok (.aload_n 0, 1) := by decide +kernel
theorem dX5_town_135 : decode cX5_town 135 = .ok (.getfield 13, 3) := by decide +kernel
theorem dX5_town_138 : decode cX5_town 138 = .ok (.iload_n 1, 1) := by decide +kernel
theorem dX5_town_139 : decode cX5_town 139 = .ok (.iaload, 1) := by decide +kernel
theorem dX5_town_140 : decode cX5_town 140 = .ok (.iastore, 1) := by decide +kernel
theorem dX5_town_141 : decode cX5_town 141 = .ok (.iinc 1 1, 3) := by decide +kernel
theorem dX5_town_144 : decode cX5_town 144 = .ok (.goto (-21), 3) := by decide +kernel
theorem dX5_town_147 : decode cX5_town 147 = .ok (.aload_n 0, 1) := by decide +kernel
theorem dX5_town_148 : decode cX5_town 148 = .ok (.iconst 0, 1) := by decide +kernel
theorem dX5_town_149 : decode cX5_town 149 = .ok (.putfield 75, 3) := by decide +kernel
theorem dX5_town_152 : decode cX5_town 152 = .ok (.aload_n 0, 1) := by decide +kernel
theorem dX5_town_153 : decode cX5_town 153 = .ok (.getfield 7, 3) := by decide +kernel
theorem dX5_town_156 : decode cX5_town 156 = .ok (.iconst 0, 1) := by decide +kernel
theorem dX5_town_157 : decode cX5_town 157 = .ok (.iaload, 1) := by decide +kernel
theorem dX5_town_158 : decode cX5_town 158 = .ok (.ireturn, 1) := by decide +kernel
theorem dX5_count_0 : decode cX5_count 0 = .ok (.iconst 0, 1) := by decide +kernel
theorem dX5_count_1 : decode cX5_count 1 = .ok (.istore_n 2, 1) := by decide +kernel
theorem dX5_count_2 : decode cX5_count 2 = .ok (.iload_n 1, 1) := by decide +kernel
theorem dX5_count_3 : decode cX5_count 3 = .ok (.tableswitch 131 0 6 #[41, 48, 55, 63, 71, 79, 126], 41) := by decide +kernel
theorem dX5_count_44 : decode cX5_count 44 = .ok (.aload_n 0, 1) := by decide +kernel
theorem dX5_count_45 : decode cX5_count 45 = .ok (.getfield 7, 3) := by decide +kernel
theorem dX5_count_48 : decode cX5_count 48 = .ok (.iconst 0, 1) := by decide +kernel
theorem dX5_count_49 : decode cX5_count 49 = .ok (.iaload, 1) := by decide +kernel
theorem dX5_count_50 : decode cX5_count 50 = .ok (.ireturn, 1) := by decide +kernel
theorem dX5_count_51 : decode cX5_count 51 = .ok (.aload_n 0, 1) := by decide +kernel
theorem dX5_count_52 : decode cX5_count 52 = .ok (.getfield 7, 3) := by decide +kernel
theorem dX5_count_55 : decode cX5_count 55 = .ok (.iconst 1, 1) := by decide +kernel
theorem dX5_count_56 : decode cX5_count 56 = .ok (.iaload, 1) := by decide +kernel
theorem dX5_count_57 : decode cX5_count 57 = .ok (.ireturn, 1) := by decide +kernel
theorem dX5_count_58 : decode cX5_count 58 = .ok (.aload_n 0, 1) := by decide +kernel
theorem dX5_count_59 : decode cX5_count 59 = .ok (.getfield 7, 3) := by decide +kernel
theorem dX5_count_62 : decode cX5_count 62 = .ok (.invokestatic 61, 3) := by decide +kernel
theorem dX5_count_65 : decode cX5_count 65 = .ok (.ireturn, 1) := by decide +kernel
theorem dX5_count_66 : decode cX5_count 66 = .ok (.aload_n 0, 1) := by decide +kernel
theorem dX5_count_67 : decode cX5_count 67 = .ok (.getfield 7, 3) := by decide +kernel
theorem dX5_count_70 : decode cX5_count 70 = .ok (.invokestatic 65, 3) := by decide +kernel
theorem dX5_count_73 : decode cX5_count 73 = .ok (.ireturn, 1) := by decide +kernel
theorem dX5_count_74 : decode cX5_count 74 = .ok (.aload_n 0, 1) := by decide +kernel
theorem dX5_count_75 : decode cX5_count 75 = .ok (.getfield 7, 3) := by decide +kernel
theorem dX5_count_78 : decode cX5_count 78 = .ok (.invokestatic 114, 3) := by decide +kernel
theorem dX5_count_81 : decode cX5_count 81 = .ok (.ireturn, 1) := by decide +kernel
theorem dX5_count_82 : decode cX5_count 82 = .ok (.iconst 0, 1) := by decide +kernel
theorem dX5_count_83 : decode cX5_count 83 = .ok (.istore_n 3, 1) := by decide +kernel
theorem dX5_count_84 : decode cX5_count 84 = .ok (.iload_n 3, 1) := by decide +kernel
theorem dX5_count_85 : decode cX5_count 85 = .ok (.aload_n 0, 1) := by decide +kernel
theorem dX5_count_86 : decode cX5_count 86 = .ok (.getfield 7, 3) := by decide +kernel
theorem dX5_count_89 : decode cX5_count 89 = .ok (.iconst 0, 1) := by decide +kernel
theorem dX5_count_90 : decode cX5_count 90 = .ok (.iaload, 1) := by decide +kernel
theorem dX5_count_91 : decode cX5_count 91 = .ok (.if_icmp .ge 36, 3) := by decide +kernel
theorem dX5_count_94 : decode cX5_count 94 = .ok (.iload_n 2, 1) := by decide +kernel
theorem dX5_count_95 : decode cX5_count 95 = .ok (.aload_n 0, 1) := by decide +kernel
theorem dX5_count_96 : decode cX5_count 96 = .ok (.getfield 7, 3) := by decide +kernel
theorem dX5_count_99 : decode cX5_count 99 = .ok (.iload_n 3, 1) := by decide +kernel
theorem dX5_count_100 : decode cX5_count 100 = .ok (.invokestatic 53, 3) := by decide +kernel
theorem dX5_count_103 : decode cX5_count 103 = .ok (.ifCond .eq 7, 3) := by decide +kernel
theorem dX5_count_106 : decode cX5_count 106 = .ok (.iconst 0, 1) := by decide +kernel
theorem dX5_count_107 : decode cX5_count 107 = .ok (.goto 12, 3) := by decide +kernel
theorem dX5_count_110 : decode cX5_count 110 = .ok (.aload_n 0, 1) := by decide +kernel
theorem dX5_count_111 : decode cX5_count 111 = .ok (.getfield 7, 3) := by decide +kernel
theorem dX5_count_114 : decode cX5_count 114 = .ok (.bipush 25, 2) := by decide +kernel
theorem dX5_count_116 : decode cX5_count 116 = .ok (.iload_n 3, 1) := by decide +kernel
theorem dX5_count_117 : decode cX5_count 117 = .ok (.iadd, 1) := by decide +kernel
theorem dX5_count_118 : decode cX5_count 118 = .ok (.iaload, 1) := by decide +kernel
theorem dX5_count_119 : decode cX5_count 119 = .ok (.iadd, 1) := by decide +kernel
theorem dX5_count_120 : decode cX5_count 120 = .ok (.istore_n 2, 1) := by decide +kernel
theorem dX5_count_121 : decode cX5_count 121 = .ok (.iinc 3 1, 3) := by decide +kernel
theorem dX5_count_124 : decode cX5_count 124 = .ok (.goto (-40), 3) := by decide +kernel
theorem dX5_count_127 : decode cX5_count 127 = .ok (.iload_n 2, 1) := by decide +kernel
theorem dX5_count_128 : decode cX5_count 128 = .ok (.ireturn, 1) := by decide +kernel
theorem dX5_count_129 : decode cX5_count 129 = .ok (.aload_n 0, 1) := by decide +kernel
theorem dX5_count_130 : decode cX5_count 130 = .ok (.getfield 75, 3) := by decide +kernel
theorem dX5_count_133 : decode cX5_count 133 = .ok (.ireturn, 1) := by decide +kernel
theorem dX5_count_134 : decode cX5_count 134 = .ok (.iconst (-1), 1) := by decide +kernel
theorem dX5_count_135 : decode cX5_count 135 = .ok (.ireturn, 1) := by decide +kernel
theorem dX5_know_0 : decode cX5_know 0 = .ok (.aload_n 0, 1) := by decide +kernel
theorem dX5_know_1 : decode cX5_know 1 = .ok (.getfield 75, 3) := by decide +kernel
theorem dX5_know_4 : decode cX5_know 4 = .ok (.bipush 8, 2) := by decide +kernel
theorem dX5_know_6 : decode cX5_know 6 = .ok (.if_icmp .ne 43, 3) := by decide +kernel
theorem dX5_know_9 : decode cX5_know 9 = .ok (.iconst 0, 1) := by decide +kernel
theorem dX5_know_10 : decode cX5_know 10 = .ok (.istore_n 1, 1) := by decide +kernel
theorem dX5_know_11 : decode cX5_know 11 = .ok (.iload_n 1, 1) := by decide +kernel
theorem dX5_know_12 : decode cX5_know 12 = .ok (.sipush 224, 3) := by decide +kernel
theorem dX5_know_15 : decode cX5_know 15 = .ok (.if_icmp .ge 24, 3) := by decide +kernel
theorem dX5_know_18 : decode cX5_know 18 = .ok (.aload_n 0, 1) := by decide +kernel
theorem dX5_know_19 : decode cX5_know 19 = .ok (.getfield 16, 3) := by decide +kernel
theorem dX5_know_22 : decode cX5_know 22 = .ok (.iload_n 1, 1) := by decide +kernel
theorem dX5_know_23 : decode cX5_know 23 = .ok (.aload_n 0, 1) := by decide +kernel
theorem dX5_know_24 : decode cX5_know 24 = .ok (.getfield 16, 3) := by decide +kernel
theorem dX5_know_27 : decode cX5_know 27 = .ok (.bipush 32, 2) := by decide +kernel
theorem dX5_know_29 : decode cX5_know 29 = .ok (.iload_n 1, 1) := by decide +kernel
theorem dX5_know_30 : decode cX5_know 30 = .ok (.iadd, 1) := by decide +kernel
theorem dX5_know_31 : decode cX5_know 31 = .ok (.iaload, 1) := by decide +kernel
theorem dX5_know_32 : decode cX5_know 32 = .ok (.iastore, 1) := by decide +kernel
theorem dX5_know_33 : decode cX5_know 33 = .ok (.iinc 1 1, 3) := by decide +kernel
theorem dX5_know_36 : decode cX5_know 36 = .ok (.goto (-25), 3) := by decide +kernel
theorem dX5_know_39 : decode cX5_know 39 = .ok (.aload_n 0, 1) := by decide +kernel
theorem dX5_know_40 : decode cX5_know 40 = .ok (.dup, 1) := by decide +kernel
theorem dX5_know_41 : decode cX5_know 41 = .ok (.getfield 75, 3) := by decide +kernel
theorem dX5_know_44 : decode cX5_know 44 = .ok (.iconst 1, 1) := by decide +kernel
theorem dX5_know_45 : decode cX5_know 45 = .ok (.isub, 1) := by decide +kernel
theorem dX5_know_46 : decode cX5_know 46 = .ok (.putfield 75, 3) := by decide +kernel
theorem dX5_know_49 : decode cX5_know 49 = .ok (.iconst 0, 1) := by decide +kernel
theorem dX5_know_50 : decode cX5_know 50 = .ok (.istore_n 1, 1) := by decide +kernel
theorem dX5_know_51 : decode cX5_know 51 = .ok (.iload_n 1, 1) := by decide +kernel
theorem dX5_know_52 : decode cX5_know 52 = .ok (.bipush 32, 2) := by decide +kernel
theorem dX5_know_54 : decode cX5_know 54 = .ok (.if_icmp .ge 29, 3) := by decide +kernel
theorem dX5_know_57 : decode cX5_know 57 = .ok (.aload_n 0, 1) := by decide +kernel
theorem dX5_know_58 : decode cX5_know 58 = .ok (.getfield 16, 3) := by decide +kernel
theorem dX5_know_61 : decode cX5_know 61 = .ok (.bipush 32, 2) := by decide +kernel
theorem dX5_know_63 : decode cX5_know 63 = .ok (.aload_n 0, 1) := by decide +kernel
theorem dX5_know_64 : decode cX5_know 64 = .ok (.getfield 75, 3) := by decide +kernel
theorem dX5_know_67 : decode cX5_know 67 = .ok (.imul, 1) := by decide +kernel
theorem dX5_know_68 : decode cX5_know 68 = .ok (.iload_n 1, 1) := by decide +kernel
theorem dX5_know_69 : decode cX5_know 69 = .ok (.iadd, 1) := by decide +kernel
theorem dX5_know_70 : decode cX5_know 70 = .ok (.aload_n 0, 1) := by decide +kernel
theorem dX5_know_71 : decode cX5_know 71 = .ok (.getfield 7, 3) := by decide +kernel
theorem dX5_know_74 : decode cX5_know 74 = .ok (.iload_n 1, 1) := by decide +kernel
theorem dX5_know_75 : decode cX5_know 75 = .ok (.iaload, 1) := by decide +kernel
theorem dX5_know_76 : decode cX5_know 76 = .ok (.iastore, 1) := by decide +kernel
theorem dX5_know_77 : decode cX5_know 77 = .ok (.iinc 1 1, 3) := by decide +kernel
theorem dX5_know_80 : decode cX5_know 80 = .ok (.goto (-29), 3) := by decide +kernel
theorem dX5_know_83 : decode cX5_know 83 = .ok (.aload_n 0, 1) := by decide +kernel
theorem dX5_know_84 : decode cX5_know 84 = .ok (.dup, 1) := by decide +kernel
theorem dX5_know_85 : decode cX5_know 85 = .ok (.getfield 75, 3) := by decide +kernel
theorem dX5_know_88 : decode cX5_know 88 = .ok (.iconst 1, 1) := by decide +kernel
theorem dX5_know_89 : decode cX5_know 89 = .ok (.iadd, 1) := by decide +kernel
theorem dX5_know_90 : decode cX5_know 90 = .ok (.putfield 75, 3) := by decide +kernel
theorem dX5_know_93 : decode cX5_know 93 = .ok (.return_, 1) := by decide +kernel
theorem dX5_years_0 : decode cX5_years 0 = .ok (.iload_n 1, 1) := by decide +kernel
theorem dX5_years_1 : decode cX5_years 1 = .ok (.iconst 1, 1) := by decide +kernel
theorem dX5_years_2 : decode cX5_years 2 = .ok (.bipush 40, 2) := by decide +kernel
theorem dX5_years_4 : decode cX5_years 4 = .ok (.invokestatic 45, 3) := by decide +kernel
theorem dX5_years_7 : decode cX5_years 7 = .ok (.ifCond .ne 5, 3) := by decide +kernel
theorem dX5_years_10 : decode cX5_years 10 = .ok (.iconst (-1), 1) := by decide +kernel
theorem dX5_years_11 : decode cX5_years 11 = .ok (.ireturn, 1) := by decide +kernel
theorem dX5_years_12 : decode cX5_years 12 = .ok (.aload_n 0, 1) := by decide +kernel
theorem dX5_years_13 : decode cX5_years 13 = .ok (.getfield 7, 3) := by decide +kernel
theorem dX5_years_16 : decode cX5_years 16 = .ok (.iconst 1, 1) := by decide +kernel
theorem dX5_years_17 : decode cX5_years 17 = .ok (.iaload, 1) := by decide +kernel
theorem dX5_years_18 : decode cX5_years 18 = .ok (.iload_n 1, 1) := by decide +kernel
theorem dX5_years_19 : decode cX5_years 19 = .ok (.iadd, 1) := by decide +kernel
theorem dX5_years_20 : decode cX5_years 20 = .ok (.sipush 9999, 3) := by decide +kernel
theorem dX5_years_23 : decode cX5_years 23 = .ok (.if_icmp .le 6, 3) := by decide +kernel
theorem dX5_years_26 : decode cX5_years 26 = .ok (.bipush (-3), 2) := by decide +kernel
theorem dX5_years_28 : decode cX5_years 28 = .ok (.ireturn, 1) := by decide +kernel
theorem dX5_years_29 : decode cX5_years 29 = .ok (.iconst 0, 1) := by decide +kernel
theorem dX5_years_30 : decode cX5_years 30 = .ok (.istore_n 2, 1) := by decide +kernel
theorem dX5_years_31 : decode cX5_years 31 = .ok (.iload_n 2, 1) := by decide +kernel
theorem dX5_years_32 : decode cX5_years 32 = .ok (.iload_n 1, 1) := by decide +kernel
theorem dX5_years_33 : decode cX5_years 33 = .ok (.if_icmp .ge 21, 3) := by decide +kernel
theorem dX5_years_36 : decode cX5_years 36 = .ok (.aload_n 0, 1) := by decide +kernel
theorem dX5_years_37 : decode cX5_years 37 = .ok (.invokevirtual 117, 3) := by decide +kernel
theorem dX5_years_40 : decode cX5_years 40 = .ok (.aload_n 0, 1) := by decide +kernel
theorem dX5_years_41 : decode cX5_years 41 = .ok (.aload_n 0, 1) := by decide +kernel
theorem dX5_years_42 : decode cX5_years 42 = .ok (.getfield 7, 3) := by decide +kernel
theorem dX5_years_45 : decode cX5_years 45 = .ok (.invokevirtual 120, 3) := by decide +kernel
theorem dX5_years_48 : decode cX5_years 48 = .ok (.iinc 2 1, 3) := by decide +kernel
theorem dX5_years_51 : decode cX5_years 51 = .ok (.goto (-20), 3) := by decide +kernel
theorem dX5_years_54 : decode cX5_years 54 = .ok (.aload_n 0, 1) := by decide +kernel
theorem dX5_years_55 : decode cX5_years 55 = .ok (.getfield 7, 3) := by decide +kernel
theorem dX5_years_58 : decode cX5_years 58 = .ok (.invokestatic 61, 3) := by decide +kernel
theorem dX5_years_61 : decode cX5_years 61 = .ok (.ireturn, 1) := by decide +kernel
theorem dX5_nurse_0 : decode cX5_nurse 0 = .ok (.aload_n 0, 1) := by decide +kernel
theorem dX5_nurse_1 : decode cX5_nurse 1 = .ok (.iload_n 1, 1) := by decide +kernel
theorem dX5_nurse_2 : decode cX5_nurse 2 = .ok (.invokevirtual 79, 3) := by decide +kernel
theorem dX5_nurse_5 : decode cX5_nurse 5 = .ok (.ifCond .eq 13, 3) := by decide +kernel
theorem dX5_nurse_8 : decode cX5_nurse 8 = .ok (.iload_n 2, 1) := by decide +kernel
theorem dX5_nurse_9 : decode cX5_nurse 9 = .ok (.iconst 1, 1) := by decide +kernel
theorem dX5_nurse_10 : decode cX5_nurse 10 = .ok (.bipush 19, 2) := by decide +kernel
theorem dX5_nurse_12 : decode cX5_nurse 12 = .ok (.invokestatic 45, 3) := by decide +kernel
theorem dX5_nurse_15 : decode cX5_nurse 15 = .ok (.ifCond .ne 5, 3) := by decide +kernel
theorem dX5_nurse_18 : decode cX5_nurse 18 = .ok (.iconst (-1), 1) := by decide +kernel
theorem dX5_nurse_19 : decode cX5_nurse 19 = .ok (.ireturn, 1) := by decide +kernel
theorem dX5_nurse_20 : decode cX5_nurse 20 = .ok (.aload_n 0, 1) := by decide +kernel
theorem dX5_nurse_21 : decode cX5_nurse 21 = .ok (.getfield 7, 3) := by decide +kernel
theorem dX5_nurse_24 : decode cX5_nurse 24 = .ok (.iload_n 1, 1) := by decide +kernel
theorem dX5_nurse_25 : decode cX5_nurse 25 = .ok (.invokestatic 53, 3) := by decide +kernel
theorem dX5_nurse_28 : decode cX5_nurse 28 = .ok (.ifCond .ne 15, 3) := by decide +kernel
theorem dX5_nurse_31 : decode cX5_nurse 31 = .ok (.aload_n 0, 1) := by decide +kernel
theorem dX5_nurse_32 : decode cX5_nurse 32 = .ok (.getfield 7, 3) := by decide +kernel
theorem dX5_nurse_35 : decode cX5_nurse 35 = .ok (.bipush 25, 2) := by decide +kernel
theorem dX5_nurse_37 : decode cX5_nurse 37 = .ok (.iload_n 1, 1) := by decide +kernel
theorem dX5_nurse_38 : decode cX5_nurse 38 = .ok (.iadd, 1) := by decide +kernel
theorem dX5_nurse_39 : decode cX5_nurse 39 = .ok (.iaload, 1) := by decide +kernel
theorem dX5_nurse_40 : decode cX5_nurse 40 = .ok (.ifCond .ne 6, 3) := by decide +kernel
theorem dX5_nurse_43 : decode cX5_nurse 43 = .ok (.bipush (-2), 2) := by decide +kernel
theorem dX5_nurse_45 : decode cX5_nurse 45 = .ok (.ireturn, 1) := by decide +kernel
theorem dX5_nurse_46 : decode cX5_nurse 46 = .ok (.aload_n 0, 1) := by decide +kernel
theorem dX5_nurse_47 : decode cX5_nurse 47 = .ok (.invokevirtual 117, 3) := by decide +kernel
theorem dX5_nurse_50 : decode cX5_nurse 50 = .ok (.aload_n 0, 1) := by decide +kernel
theorem dX5_nurse_51 : decode cX5_nurse 51 = .ok (.getfield 7, 3) := by decide +kernel
theorem dX5_nurse_54 : decode cX5_nurse 54 = .ok (.iload_n 1, 1) := by decide +kernel
theorem dX5_nurse_55 : decode cX5_nurse 55 = .ok (.iload_n 2, 1) := by decide +kernel
theorem dX5_nurse_56 : decode cX5_nurse 56 = .ok (.invokestatic 124, 3) := by decide +kernel
theorem dX5_nurse_59 : decode cX5_nurse 59 = .ok (.aload_n 0, 1) := by decide +kernel
theorem dX5_nurse_60 : decode cX5_nurse 60 = .ok (.getfield 7, 3) := by decide +kernel
theorem dX5_nurse_63 : decode cX5_nurse 63 = .ok (.bipush 25, 2) := by decide +kernel
theorem dX5_nurse_65 : decode cX5_nurse 65 = .ok (.iload_n 1, 1) := by decide +kernel
theorem dX5_nurse_66 : decode cX5_nurse 66 = .ok (.iadd, 1) := by decide +kernel
theorem dX5_nurse_67 : decode cX5_nurse 67 = .ok (.iaload, 1) := by decide +kernel
theorem dX5_nurse_68 : decode cX5_nurse 68 = .ok (.ireturn, 1) := by decide +kernel
theorem dX5_stir_0 : decode cX5_stir 0 = .ok (.aload_n 0, 1) := by decide +kernel
theorem dX5_stir_1 : decode cX5_stir 1 = .ok (.iload_n 1, 1) := by decide +kernel
theorem dX5_stir_2 : decode cX5_stir 2 = .ok (.invokevirtual 79, 3) := by decide +kernel
theorem dX5_stir_5 : decode cX5_stir 5 = .ok (.ifCond .eq 13, 3) := by decide +kernel
theorem dX5_stir_8 : decode cX5_stir 8 = .ok (.iload_n 2, 1) := by decide +kernel
theorem dX5_stir_9 : decode cX5_stir 9 = .ok (.iconst 1, 1) := by decide +kernel
theorem dX5_stir_10 : decode cX5_stir 10 = .ok (.bipush 20, 2) := by decide +kernel
theorem dX5_stir_12 : decode cX5_stir 12 = .ok (.invokestatic 45, 3) := by decide +kernel
theorem dX5_stir_15 : decode cX5_stir 15 = .ok (.ifCond .ne 5, 3) := by decide +kernel
theorem dX5_stir_18 : decode cX5_stir 18 = .ok (.iconst (-1), 1) := by decide +kernel
theorem dX5_stir_19 : decode cX5_stir 19 = .ok (.ireturn, 1) := by decide +kernel
theorem dX5_stir_20 : decode cX5_stir 20 = .ok (.aload_n 0, 1) := by decide +kernel
theorem dX5_stir_21 : decode cX5_stir 21 = .ok (.getfield 7, 3) := by decide +kernel
theorem dX5_stir_24 : decode cX5_stir 24 = .ok (.iload_n 1, 1) := by decide +kernel
theorem dX5_stir_25 : decode cX5_stir 25 = .ok (.invokestatic 53, 3) := by decide +kernel
theorem dX5_stir_28 : decode cX5_stir 28 = .ok (.ifCond .eq 6, 3) := by decide +kernel
theorem dX5_stir_31 : decode cX5_stir 31 = .ok (.bipush (-2), 2) := by decide +kernel
theorem dX5_stir_33 : decode cX5_stir 33 = .ok (.ireturn, 1) := by decide +kernel
theorem dX5_stir_34 : decode cX5_stir 34 = .ok (.aload_n 0, 1) := by decide +kernel
theorem dX5_stir_35 : decode cX5_stir 35 = .ok (.invokevirtual 117, 3) := by decide +kernel
theorem dX5_stir_38 : decode cX5_stir 38 = .ok (.aload_n 0, 1) := by decide +kernel
theorem dX5_stir_39 : decode cX5_stir 39 = .ok (.getfield 7, 3) := by decide +kernel
theorem dX5_stir_42 : decode cX5_stir 42 = .ok (.iload_n 1, 1) := by decide +kernel
theorem dX5_stir_43 : decode cX5_stir 43 = .ok (.iload_n 2, 1) := by decide +kernel
theorem dX5_stir_44 : decode cX5_stir 44 = .ok (.invokestatic 128, 3) := by decide +kernel
theorem dX5_stir_47 : decode cX5_stir 47 = .ok (.aload_n 0, 1) := by decide +kernel
theorem dX5_stir_48 : decode cX5_stir 48 = .ok (.getfield 7, 3) := by decide +kernel
theorem dX5_stir_51 : decode cX5_stir 51 = .ok (.bipush 25, 2) := by decide +kernel
theorem dX5_stir_53 : decode cX5_stir 53 = .ok (.iload_n 1, 1) := by decide +kernel
theorem dX5_stir_54 : decode cX5_stir 54 = .ok (.iadd, 1) := by decide +kernel
theorem dX5_stir_55 : decode cX5_stir 55 = .ok (.iaload, 1) := by decide +kernel
theorem dX5_stir_56 : decode cX5_stir 56 = .ok (.ireturn, 1) := by decide +kernel
theorem dX5_wed_0 : decode cX5_wed 0 = .ok (.aload_n 0, 1) := by decide +kernel
theorem dX5_wed_1 : decode cX5_wed 1 = .ok (.iload_n 1, 1) := by decide +kernel
theorem dX5_wed_2 : decode cX5_wed 2 = .ok (.invokevirtual 79, 3) := by decide +kernel
theorem dX5_wed_5 : decode cX5_wed 5 = .ok (.ifCond .ne 5, 3) := by decide +kernel
theorem dX5_wed_8 : decode cX5_wed 8 = .ok (.iconst (-1), 1) := by decide +kernel
theorem dX5_wed_9 : decode cX5_wed 9 = .ok (.ireturn, 1) := by decide +kernel
theorem dX5_wed_10 : decode cX5_wed 10 = .ok (.aload_n 0, 1) := by decide +kernel
theorem dX5_wed_11 : decode cX5_wed 11 = .ok (.getfield 7, 3) := by decide +kernel
theorem dX5_wed_14 : decode cX5_wed 14 = .ok (.iload_n 1, 1) := by decide +kernel
theorem dX5_wed_15 : decode cX5_wed 15 = .ok (.invokestatic 53, 3) := by decide +kernel
theorem dX5_wed_18 : decode cX5_wed 18 = .ok (.ifCond .ne 6, 3) := by decide +kernel
theorem dX5_wed_21 : decode cX5_wed 21 = .ok (.bipush (-2), 2) := by decide +kernel
theorem dX5_wed_23 : decode cX5_wed 23 = .ok (.ireturn, 1) := by decide +kernel
theorem dX5_wed_24 : decode cX5_wed 24 = .ok (.aload_n 0, 1) := by decide +kernel
theorem dX5_wed_25 : decode cX5_wed 25 = .ok (.invokevirtual 117, 3) := by decide +kernel
theorem dX5_wed_28 : decode cX5_wed 28 = .ok (.aload_n 0, 1) := by decide +kernel
theorem dX5_wed_29 : decode cX5_wed 29 = .ok (.getfield 7, 3) := by decide +kernel
theorem dX5_wed_32 : decode cX5_wed 32 = .ok (.iload_n 1, 1) := by decide +kernel
theorem dX5_wed_33 : decode cX5_wed 33 = .ok (.invokestatic 131, 3) := by decide +kernel
theorem dX5_wed_36 : decode cX5_wed 36 = .ok (.aload_n 0, 1) := by decide +kernel
theorem dX5_wed_37 : decode cX5_wed 37 = .ok (.getfield 7, 3) := by decide +kernel
theorem dX5_wed_40 : decode cX5_wed 40 = .ok (.invokestatic 61, 3) := by decide +kernel
theorem dX5_wed_43 : decode cX5_wed 43 = .ok (.ireturn, 1) := by decide +kernel
theorem dX5_drift_0 : decode cX5_drift 0 = .ok (.iload_n 1, 1) := by decide +kernel
theorem dX5_drift_1 : decode cX5_drift 1 = .ok (.iconst 1, 1) := by decide +kernel
theorem dX5_drift_2 : decode cX5_drift 2 = .ok (.bipush 40, 2) := by decide +kernel
theorem dX5_drift_4 : decode cX5_drift 4 = .ok (.invokestatic 45, 3) := by decide +kernel
theorem dX5_drift_7 : decode cX5_drift 7 = .ok (.ifCond .ne 5, 3) := by decide +kernel
theorem dX5_drift_10 : decode cX5_drift 10 = .ok (.iconst (-1), 1) := by decide +kernel
theorem dX5_drift_11 : decode cX5_drift 11 = .ok (.ireturn, 1) := by decide +kernel
theorem dX5_drift_12 : decode cX5_drift 12 = .ok (.aload_n 0, 1) := by decide +kernel
theorem dX5_drift_13 : decode cX5_drift 13 = .ok (.getfield 7, 3) := by decide +kernel
theorem dX5_drift_16 : decode cX5_drift 16 = .ok (.iconst 1, 1) := by decide +kernel
theorem dX5_drift_17 : decode cX5_drift 17 = .ok (.iaload, 1) := by decide +kernel
theorem dX5_drift_18 : decode cX5_drift 18 = .ok (.iload_n 1, 1) := by decide +kernel
theorem dX5_drift_19 : decode cX5_drift 19 = .ok (.iadd, 1) := by decide +kernel
theorem dX5_drift_20 : decode cX5_drift 20 = .ok (.sipush 9999, 3) := by decide +kernel
theorem dX5_drift_23 : decode cX5_drift 23 = .ok (.if_icmp .le 6, 3) := by decide +kernel
theorem dX5_drift_26 : decode cX5_drift 26 = .ok (.bipush (-3), 2) := by decide +kernel
theorem dX5_drift_28 : decode cX5_drift 28 = .ok (.ireturn, 1) := by decide +kernel
theorem dX5_drift_29 : decode cX5_drift 29 = .ok (.iconst 0, 1) := by decide +kernel
theorem dX5_drift_30 : decode cX5_drift 30 = .ok (.istore_n 2, 1) := by decide +kernel
end
section
theorem dX5_drift_31 : decode cX5_drift 31 = .ok (.iload_n 2, 1) := by decide +kernel
theorem dX5_drift_32 : decode cX5_drift 32 = .ok (.iload_n 1, 1) := by decide +kernel
theorem dX5_drift_33 : decode cX5_drift 33 = .ok (.if_icmp .ge 125, 3) := by decide +kernel
theorem dX5_drift_36 : decode cX5_drift 36 = .ok (.aload_n 0, 1) := by decide +kernel
theorem dX5_drift_37 : decode cX5_drift 37 = .ok (.invokevirtual 117, 3) := by decide +kernel
theorem dX5_drift_40 : decode cX5_drift 40 = .ok (.aload_n 0, 1) := by decide +kernel
theorem dX5_drift_41 : decode cX5_drift 41 = .ok (.getfield 7, 3) := by decide +kernel
theorem dX5_drift_44 : decode cX5_drift 44 = .ok (.iconst 3, 1) := by decide +kernel
theorem dX5_drift_45 : decode cX5_drift 45 = .ok (.aload_n 0, 1) := by decide +kernel
theorem dX5_drift_46 : decode cX5_drift 46 = .ok (.getfield 7, 3) := by decide +kernel
theorem dX5_drift_49 : decode cX5_drift 49 = .ok (.iconst 3, 1) := by decide +kernel
theorem dX5_drift_50 : decode cX5_drift 50 = .ok (.iaload, 1) := by decide +kernel
theorem dX5_drift_51 : decode cX5_drift 51 = .ok (.i2l, 1) := by decide +kernel
theorem dX5_drift_52 : decode cX5_drift 52 = .ok (.ldc2_w 135, 3) := by decide +kernel
theorem dX5_drift_55 : decode cX5_drift 55 = .ok (.lmul, 1) := by decide +kernel
theorem dX5_drift_56 : decode cX5_drift 56 = .ok (.ldc2_w 137, 3) := by decide +kernel
theorem dX5_drift_59 : decode cX5_drift 59 = .ok (.ladd, 1) := by decide +kernel
theorem dX5_drift_60 : decode cX5_drift 60 = .ok (.ldc2_w 139, 3) := by decide +kernel
theorem dX5_drift_63 : decode cX5_drift 63 = .ok (.lrem, 1) := by decide +kernel
theorem dX5_drift_64 : decode cX5_drift 64 = .ok (.l2i, 1) := by decide +kernel
theorem dX5_drift_65 : decode cX5_drift 65 = .ok (.iastore, 1) := by decide +kernel
theorem dX5_drift_66 : decode cX5_drift 66 = .ok (.aload_n 0, 1) := by decide +kernel
theorem dX5_drift_67 : decode cX5_drift 67 = .ok (.getfield 7, 3) := by decide +kernel
theorem dX5_drift_70 : decode cX5_drift 70 = .ok (.iconst 0, 1) := by decide +kernel
theorem dX5_drift_71 : decode cX5_drift 71 = .ok (.iaload, 1) := by decide +kernel
theorem dX5_drift_72 : decode cX5_drift 72 = .ok (.ifCond .le 72, 3) := by decide +kernel
theorem dX5_drift_75 : decode cX5_drift 75 = .ok (.aload_n 0, 1) := by decide +kernel
theorem dX5_drift_76 : decode cX5_drift 76 = .ok (.getfield 7, 3) := by decide +kernel
theorem dX5_drift_79 : decode cX5_drift 79 = .ok (.iconst 3, 1) := by decide +kernel
theorem dX5_drift_80 : decode cX5_drift 80 = .ok (.iaload, 1) := by decide +kernel
theorem dX5_drift_81 : decode cX5_drift 81 = .ok (.ldc 141, 2) := by decide +kernel
theorem dX5_drift_83 : decode cX5_drift 83 = .ok (.idiv, 1) := by decide +kernel
theorem dX5_drift_84 : decode cX5_drift 84 = .ok (.aload_n 0, 1) := by decide +kernel
theorem dX5_drift_85 : decode cX5_drift 85 = .ok (.getfield 7, 3) := by decide +kernel
theorem dX5_drift_88 : decode cX5_drift 88 = .ok (.iconst 0, 1) := by decide +kernel
theorem dX5_drift_89 : decode cX5_drift 89 = .ok (.iaload, 1) := by decide +kernel
theorem dX5_drift_90 : decode cX5_drift 90 = .ok (.irem, 1) := by decide +kernel
theorem dX5_drift_91 : decode cX5_drift 91 = .ok (.istore_n 3, 1) := by decide +kernel
theorem dX5_drift_92 : decode cX5_drift 92 = .ok (.aload_n 0, 1) := by decide +kernel
theorem dX5_drift_93 : decode cX5_drift 93 = .ok (.getfield 7, 3) := by decide +kernel
theorem dX5_drift_96 : decode cX5_drift 96 = .ok (.iconst 3, 1) := by decide +kernel
theorem dX5_drift_97 : decode cX5_drift 97 = .ok (.iaload, 1) := by decide +kernel
theorem dX5_drift_98 : decode cX5_drift 98 = .ok (.sipush 128, 3) := by decide +kernel
theorem dX5_drift_101 : decode cX5_drift 101 = .ok (.idiv, 1) := by decide +kernel
theorem dX5_drift_102 : decode cX5_drift 102 = .ok (.bipush 7, 2) := by decide +kernel
theorem dX5_drift_104 : decode cX5_drift 104 = .ok (.irem, 1) := by decide +kernel
theorem dX5_drift_105 : decode cX5_drift 105 = .ok (.istore 4, 2) := by decide +kernel
theorem dX5_drift_107 : decode cX5_drift 107 = .ok (.aload_n 0, 1) := by decide +kernel
theorem dX5_drift_108 : decode cX5_drift 108 = .ok (.getfield 7, 3) := by decide +kernel
theorem dX5_drift_111 : decode cX5_drift 111 = .ok (.iload_n 3, 1) := by decide +kernel
theorem dX5_drift_112 : decode cX5_drift 112 = .ok (.invokestatic 53, 3) := by decide +kernel
theorem dX5_drift_115 : decode cX5_drift 115 = .ok (.ifCond .ne 16, 3) := by decide +kernel
theorem dX5_drift_118 : decode cX5_drift 118 = .ok (.aload_n 0, 1) := by decide +kernel
theorem dX5_drift_119 : decode cX5_drift 119 = .ok (.getfield 7, 3) := by decide +kernel
theorem dX5_drift_122 : decode cX5_drift 122 = .ok (.iload_n 3, 1) := by decide +kernel
theorem dX5_drift_123 : decode cX5_drift 123 = .ok (.iload 4, 2) := by decide +kernel
theorem dX5_drift_125 : decode cX5_drift 125 = .ok (.invokestatic 128, 3) := by decide +kernel
theorem dX5_drift_128 : decode cX5_drift 128 = .ok (.goto 16, 3) := by decide +kernel
theorem dX5_drift_131 : decode cX5_drift 131 = .ok (.iload 4, 2) := by decide +kernel
theorem dX5_drift_133 : decode cX5_drift 133 = .ok (.ifCond .ne 11, 3) := by decide +kernel
theorem dX5_drift_136 : decode cX5_drift 136 = .ok (.aload_n 0, 1) := by decide +kernel
theorem dX5_drift_137 : decode cX5_drift 137 = .ok (.getfield 7, 3) := by decide +kernel
theorem dX5_drift_140 : decode cX5_drift 140 = .ok (.iload_n 3, 1) := by decide +kernel
theorem dX5_drift_141 : decode cX5_drift 141 = .ok (.invokestatic 131, 3) := by decide +kernel
theorem dX5_drift_144 : decode cX5_drift 144 = .ok (.aload_n 0, 1) := by decide +kernel
theorem dX5_drift_145 : decode cX5_drift 145 = .ok (.aload_n 0, 1) := by decide +kernel
theorem dX5_drift_146 : decode cX5_drift 146 = .ok (.getfield 7, 3) := by decide +kernel
theorem dX5_drift_149 : decode cX5_drift 149 = .ok (.invokevirtual 120, 3) := by decide +kernel
theorem dX5_drift_152 : decode cX5_drift 152 = .ok (.iinc 2 1, 3) := by decide +kernel
theorem dX5_drift_155 : decode cX5_drift 155 = .ok (.goto (-124), 3) := by decide +kernel
theorem dX5_drift_158 : decode cX5_drift 158 = .ok (.aload_n 0, 1) := by decide +kernel
theorem dX5_drift_159 : decode cX5_drift 159 = .ok (.getfield 7, 3) := by decide +kernel
theorem dX5_drift_162 : decode cX5_drift 162 = .ok (.invokestatic 61, 3) := by decide +kernel
theorem dX5_drift_165 : decode cX5_drift 165 = .ok (.ireturn, 1) := by decide +kernel
theorem dX5_undo_0 : decode cX5_undo 0 = .ok (.aload_n 0, 1) := by decide +kernel
theorem dX5_undo_1 : decode cX5_undo 1 = .ok (.getfield 75, 3) := by decide +kernel
theorem dX5_undo_4 : decode cX5_undo 4 = .ok (.ifCond .ne 6, 3) := by decide +kernel
theorem dX5_undo_7 : decode cX5_undo 7 = .ok (.bipush (-4), 2) := by decide +kernel
theorem dX5_undo_9 : decode cX5_undo 9 = .ok (.ireturn, 1) := by decide +kernel
theorem dX5_undo_10 : decode cX5_undo 10 = .ok (.aload_n 0, 1) := by decide +kernel
theorem dX5_undo_11 : decode cX5_undo 11 = .ok (.dup, 1) := by decide +kernel
theorem dX5_undo_12 : decode cX5_undo 12 = .ok (.getfield 75, 3) := by decide +kernel
theorem dX5_undo_15 : decode cX5_undo 15 = .ok (.iconst 1, 1) := by decide +kernel
theorem dX5_undo_16 : decode cX5_undo 16 = .ok (.isub, 1) := by decide +kernel
theorem dX5_undo_17 : decode cX5_undo 17 = .ok (.putfield 75, 3) := by decide +kernel
theorem dX5_undo_20 : decode cX5_undo 20 = .ok (.iconst 0, 1) := by decide +kernel
theorem dX5_undo_21 : decode cX5_undo 21 = .ok (.istore_n 1, 1) := by decide +kernel
theorem dX5_undo_22 : decode cX5_undo 22 = .ok (.iload_n 1, 1) := by decide +kernel
theorem dX5_undo_23 : decode cX5_undo 23 = .ok (.bipush 32, 2) := by decide +kernel
theorem dX5_undo_25 : decode cX5_undo 25 = .ok (.if_icmp .ge 29, 3) := by decide +kernel
theorem dX5_undo_28 : decode cX5_undo 28 = .ok (.aload_n 0, 1) := by decide +kernel
theorem dX5_undo_29 : decode cX5_undo 29 = .ok (.getfield 7, 3) := by decide +kernel
theorem dX5_undo_32 : decode cX5_undo 32 = .ok (.iload_n 1, 1) := by decide +kernel
theorem dX5_undo_33 : decode cX5_undo 33 = .ok (.aload_n 0, 1) := by decide +kernel
theorem dX5_undo_34 : decode cX5_undo 34 = .ok (.getfield 16, 3) := by decide +kernel
theorem dX5_undo_37 : decode cX5_undo 37 = .ok (.bipush 32, 2) := by decide +kernel
theorem dX5_undo_39 : decode cX5_undo 39 = .ok (.aload_n 0, 1) := by decide +kernel
theorem dX5_undo_40 : decode cX5_undo 40 = .ok (.getfield 75, 3) := by decide +kernel
theorem dX5_undo_43 : decode cX5_undo 43 = .ok (.imul, 1) := by decide +kernel
theorem dX5_undo_44 : decode cX5_undo 44 = .ok (.iload_n 1, 1) := by decide +kernel
theorem dX5_undo_45 : decode cX5_undo 45 = .ok (.iadd, 1) := by decide +kernel
theorem dX5_undo_46 : decode cX5_undo 46 = .ok (.iaload, 1) := by decide +kernel
theorem dX5_undo_47 : decode cX5_undo 47 = .ok (.iastore, 1) := by decide +kernel
theorem dX5_undo_48 : decode cX5_undo 48 = .ok (.iinc 1 1, 3) := by decide +kernel
theorem dX5_undo_51 : decode cX5_undo 51 = .ok (.goto (-29), 3) := by decide +kernel
theorem dX5_undo_54 : decode cX5_undo 54 = .ok (.aload_n 0, 1) := by decide +kernel
theorem dX5_undo_55 : decode cX5_undo 55 = .ok (.getfield 75, 3) := by decide +kernel
theorem dX5_undo_58 : decode cX5_undo 58 = .ok (.ireturn, 1) := by decide +kernel
theorem dX5_seed_0 : decode cX5_seed 0 = .ok (.iload_n 1, 1) := by decide +kernel
theorem dX5_seed_1 : decode cX5_seed 1 = .ok (.ifCond .ge 5, 3) := by decide +kernel
theorem dX5_seed_4 : decode cX5_seed 4 = .ok (.iconst (-1), 1) := by decide +kernel
theorem dX5_seed_5 : decode cX5_seed 5 = .ok (.ireturn, 1) := by decide +kernel
theorem dX5_seed_6 : decode cX5_seed 6 = .ok (.aload_n 0, 1) := by decide +kernel
theorem dX5_seed_7 : decode cX5_seed 7 = .ok (.getfield 7, 3) := by decide +kernel
theorem dX5_seed_10 : decode cX5_seed 10 = .ok (.iconst 3, 1) := by decide +kernel
theorem dX5_seed_11 : decode cX5_seed 11 = .ok (.iaload, 1) := by decide +kernel
theorem dX5_seed_12 : decode cX5_seed 12 = .ok (.istore_n 2, 1) := by decide +kernel
theorem dX5_seed_13 : decode cX5_seed 13 = .ok (.aload_n 0, 1) := by decide +kernel
theorem dX5_seed_14 : decode cX5_seed 14 = .ok (.getfield 7, 3) := by decide +kernel
theorem dX5_seed_17 : decode cX5_seed 17 = .ok (.iconst 3, 1) := by decide +kernel
theorem dX5_seed_18 : decode cX5_seed 18 = .ok (.iload_n 1, 1) := by decide +kernel
theorem dX5_seed_19 : decode cX5_seed 19 = .ok (.iastore, 1) := by decide +kernel
theorem dX5_seed_20 : decode cX5_seed 20 = .ok (.iload_n 2, 1) := by decide +kernel
theorem dX5_seed_21 : decode cX5_seed 21 = .ok (.ireturn, 1) := by decide +kernel
theorem dX5_goOn_0 : decode cX5_goOn 0 = .ok (.iconst 0, 1) := by decide +kernel
theorem dX5_goOn_1 : decode cX5_goOn 1 = .ok (.istore_n 2, 1) := by decide +kernel
theorem dX5_goOn_2 : decode cX5_goOn 2 = .ok (.iload_n 2, 1) := by decide +kernel
theorem dX5_goOn_3 : decode cX5_goOn 3 = .ok (.iload_n 1, 1) := by decide +kernel
theorem dX5_goOn_4 : decode cX5_goOn 4 = .ok (.if_icmp .ge 17, 3) := by decide +kernel
theorem dX5_goOn_7 : decode cX5_goOn 7 = .ok (.aload_n 0, 1) := by decide +kernel
theorem dX5_goOn_8 : decode cX5_goOn 8 = .ok (.aload_n 0, 1) := by decide +kernel
theorem dX5_goOn_9 : decode cX5_goOn 9 = .ok (.getfield 13, 3) := by decide +kernel
theorem dX5_goOn_12 : decode cX5_goOn 12 = .ok (.invokevirtual 120, 3) := by decide +kernel
theorem dX5_goOn_15 : decode cX5_goOn 15 = .ok (.iinc 2 1, 3) := by decide +kernel
theorem dX5_goOn_18 : decode cX5_goOn 18 = .ok (.goto (-16), 3) := by decide +kernel
theorem dX5_goOn_21 : decode cX5_goOn 21 = .ok (.return_, 1) := by decide +kernel
theorem dX5_keys_0 : decode cX5_keys 0 = .ok (.iload_n 1, 1) := by decide +kernel
theorem dX5_keys_1 : decode cX5_keys 1 = .ok (.iconst 0, 1) := by decide +kernel
theorem dX5_keys_2 : decode cX5_keys 2 = .ok (.bipush 60, 2) := by decide +kernel
theorem dX5_keys_4 : decode cX5_keys 4 = .ok (.invokestatic 45, 3) := by decide +kernel
theorem dX5_keys_7 : decode cX5_keys 7 = .ok (.ifCond .ne 5, 3) := by decide +kernel
theorem dX5_keys_10 : decode cX5_keys 10 = .ok (.iconst (-1), 1) := by decide +kernel
theorem dX5_keys_11 : decode cX5_keys 11 = .ok (.ireturn, 1) := by decide +kernel
theorem dX5_keys_12 : decode cX5_keys 12 = .ok (.aload_n 0, 1) := by decide +kernel
theorem dX5_keys_13 : decode cX5_keys 13 = .ok (.invokevirtual 142, 3) := by decide +kernel
theorem dX5_keys_16 : decode cX5_keys 16 = .ok (.aload_n 0, 1) := by decide +kernel
theorem dX5_keys_17 : decode cX5_keys 17 = .ok (.iload_n 1, 1) := by decide +kernel
theorem dX5_keys_18 : decode cX5_keys 18 = .ok (.invokevirtual 145, 3) := by decide +kernel
theorem dX5_keys_21 : decode cX5_keys 21 = .ok (.aload_n 0, 1) := by decide +kernel
theorem dX5_keys_22 : decode cX5_keys 22 = .ok (.getfield 13, 3) := by decide +kernel
theorem dX5_keys_25 : decode cX5_keys 25 = .ok (.invokestatic 61, 3) := by decide +kernel
theorem dX5_keys_28 : decode cX5_keys 28 = .ok (.ireturn, 1) := by decide +kernel
theorem dX5_ahead_0 : decode cX5_ahead 0 = .ok (.aload_n 0, 1) := by decide +kernel
theorem dX5_ahead_1 : decode cX5_ahead 1 = .ok (.iload_n 1, 1) := by decide +kernel
theorem dX5_ahead_2 : decode cX5_ahead 2 = .ok (.invokevirtual 79, 3) := by decide +kernel
theorem dX5_ahead_5 : decode cX5_ahead 5 = .ok (.ifCond .eq 13, 3) := by decide +kernel
theorem dX5_ahead_8 : decode cX5_ahead 8 = .ok (.iload_n 2, 1) := by decide +kernel
theorem dX5_ahead_9 : decode cX5_ahead 9 = .ok (.iconst 0, 1) := by decide +kernel
theorem dX5_ahead_10 : decode cX5_ahead 10 = .ok (.bipush 60, 2) := by decide +kernel
theorem dX5_ahead_12 : decode cX5_ahead 12 = .ok (.invokestatic 45, 3) := by decide +kernel
theorem dX5_ahead_15 : decode cX5_ahead 15 = .ok (.ifCond .ne 5, 3) := by decide +kernel
theorem dX5_ahead_18 : decode cX5_ahead 18 = .ok (.iconst (-1), 1) := by decide +kernel
theorem dX5_ahead_19 : decode cX5_ahead 19 = .ok (.ireturn, 1) := by decide +kernel
theorem dX5_ahead_20 : decode cX5_ahead 20 = .ok (.aload_n 0, 1) := by decide +kernel
theorem dX5_ahead_21 : decode cX5_ahead 21 = .ok (.invokevirtual 142, 3) := by decide +kernel
theorem dX5_ahead_24 : decode cX5_ahead 24 = .ok (.aload_n 0, 1) := by decide +kernel
theorem dX5_ahead_25 : decode cX5_ahead 25 = .ok (.iload_n 2, 1) := by decide +kernel
theorem dX5_ahead_26 : decode cX5_ahead 26 = .ok (.invokevirtual 145, 3) := by decide +kernel
theorem dX5_ahead_29 : decode cX5_ahead 29 = .ok (.aload_n 0, 1) := by decide +kernel
theorem dX5_ahead_30 : decode cX5_ahead 30 = .ok (.getfield 13, 3) := by decide +kernel
theorem dX5_ahead_33 : decode cX5_ahead 33 = .ok (.bipush 25, 2) := by decide +kernel
theorem dX5_ahead_35 : decode cX5_ahead 35 = .ok (.iload_n 1, 1) := by decide +kernel
theorem dX5_ahead_36 : decode cX5_ahead 36 = .ok (.iadd, 1) := by decide +kernel
theorem dX5_ahead_37 : decode cX5_ahead 37 = .ok (.iaload, 1) := by decide +kernel
theorem dX5_ahead_38 : decode cX5_ahead 38 = .ok (.ireturn, 1) := by decide +kernel
theorem dX5_then_0 : decode cX5_then 0 = .ok (.iload_n 1, 1) := by decide +kernel
theorem dX5_then_1 : decode cX5_then 1 = .ok (.iconst 0, 1) := by decide +kernel
theorem dX5_then_2 : decode cX5_then 2 = .ok (.bipush 60, 2) := by decide +kernel
theorem dX5_then_4 : decode cX5_then 4 = .ok (.invokestatic 45, 3) := by decide +kernel
theorem dX5_then_7 : decode cX5_then 7 = .ok (.ifCond .ne 5, 3) := by decide +kernel
theorem dX5_then_10 : decode cX5_then 10 = .ok (.iconst (-1), 1) := by decide +kernel
theorem dX5_then_11 : decode cX5_then 11 = .ok (.ireturn, 1) := by decide +kernel
theorem dX5_then_12 : decode cX5_then 12 = .ok (.aload_n 0, 1) := by decide +kernel
theorem dX5_then_13 : decode cX5_then 13 = .ok (.invokevirtual 142, 3) := by decide +kernel
theorem dX5_then_16 : decode cX5_then 16 = .ok (.aload_n 0, 1) := by decide +kernel
theorem dX5_then_17 : decode cX5_then 17 = .ok (.iload_n 1, 1) := by decide +kernel
theorem dX5_then_18 : decode cX5_then 18 = .ok (.invokevirtual 145, 3) := by decide +kernel
theorem dX5_then_21 : decode cX5_then 21 = .ok (.aload_n 0, 1) := by decide +kernel
theorem dX5_then_22 : decode cX5_then 22 = .ok (.getfield 13, 3) := by decide +kernel
theorem dX5_then_25 : decode cX5_then 25 = .ok (.invokestatic 114, 3) := by decide +kernel
theorem dX5_then_28 : decode cX5_then 28 = .ok (.ireturn, 1) := by decide +kernel
theorem dX5_rises_0 : decode cX5_rises 0 = .ok (.aload_n 0, 1) := by decide +kernel
theorem dX5_rises_1 : decode cX5_rises 1 = .ok (.iload_n 1, 1) := by decide +kernel
theorem dX5_rises_2 : decode cX5_rises 2 = .ok (.invokevirtual 79, 3) := by decide +kernel
theorem dX5_rises_5 : decode cX5_rises 5 = .ok (.ifCond .eq 12, 3) := by decide +kernel
theorem dX5_rises_8 : decode cX5_rises 8 = .ok (.iload_n 2, 1) := by decide +kernel
theorem dX5_rises_9 : decode cX5_rises 9 = .ok (.iconst 0, 1) := by decide +kernel
theorem dX5_rises_10 : decode cX5_rises 10 = .ok (.iconst 1, 1) := by decide +kernel
theorem dX5_rises_11 : decode cX5_rises 11 = .ok (.invokestatic 45, 3) := by decide +kernel
theorem dX5_rises_14 : decode cX5_rises 14 = .ok (.ifCond .ne 5, 3) := by decide +kernel
theorem dX5_rises_17 : decode cX5_rises 17 = .ok (.iconst (-1), 1) := by decide +kernel
theorem dX5_rises_18 : decode cX5_rises 18 = .ok (.ireturn, 1) := by decide +kernel
theorem dX5_rises_19 : decode cX5_rises 19 = .ok (.aload_n 0, 1) := by decide +kernel
theorem dX5_rises_20 : decode cX5_rises 20 = .ok (.invokevirtual 142, 3) := by decide +kernel
theorem dX5_rises_23 : decode cX5_rises 23 = .ok (.bipush (-4), 2) := by decide +kernel
theorem dX5_rises_25 : decode cX5_rises 25 = .ok (.istore_n 3, 1) := by decide +kernel
theorem dX5_rises_26 : decode cX5_rises 26 = .ok (.iconst 0, 1) := by decide +kernel
theorem dX5_rises_27 : decode cX5_rises 27 = .ok (.istore 4, 2) := by decide +kernel
theorem dX5_rises_29 : decode cX5_rises 29 = .ok (.iconst 0, 1) := by decide +kernel
theorem dX5_rises_30 : decode cX5_rises 30 = .ok (.istore 5, 2) := by decide +kernel
theorem dX5_rises_32 : decode cX5_rises 32 = .ok (.iload 5, 2) := by decide +kernel
theorem dX5_rises_34 : decode cX5_rises 34 = .ok (.bipush 60, 2) := by decide +kernel
theorem dX5_rises_36 : decode cX5_rises 36 = .ok (.if_icmp .gt 68, 3) := by decide +kernel
theorem dX5_rises_39 : decode cX5_rises 39 = .ok (.aload_n 0, 1) := by decide +kernel
theorem dX5_rises_40 : decode cX5_rises 40 = .ok (.getfield 13, 3) := by decide +kernel
theorem dX5_rises_43 : decode cX5_rises 43 = .ok (.invokestatic 61, 3) := by decide +kernel
theorem dX5_rises_46 : decode cX5_rises 46 = .ok (.iload_n 1, 1) := by decide +kernel
theorem dX5_rises_47 : decode cX5_rises 47 = .ok (.if_icmp .ne 7, 3) := by decide +kernel
theorem dX5_rises_50 : decode cX5_rises 50 = .ok (.iconst 1, 1) := by decide +kernel
theorem dX5_rises_51 : decode cX5_rises 51 = .ok (.goto 4, 3) := by decide +kernel
theorem dX5_rises_54 : decode cX5_rises 54 = .ok (.iconst 0, 1) := by decide +kernel
theorem dX5_rises_55 : decode cX5_rises 55 = .ok (.istore 6, 2) := by decide +kernel
theorem dX5_rises_57 : decode cX5_rises 57 = .ok (.iload 6, 2) := by decide +kernel
theorem dX5_rises_59 : decode cX5_rises 59 = .ok (.ifCond .eq 14, 3) := by decide +kernel
theorem dX5_rises_62 : decode cX5_rises 62 = .ok (.iload_n 3, 1) := by decide +kernel
theorem dX5_rises_63 : decode cX5_rises 63 = .ok (.bipush (-4), 2) := by decide +kernel
theorem dX5_rises_65 : decode cX5_rises 65 = .ok (.if_icmp .ne 8, 3) := by decide +kernel
theorem dX5_rises_68 : decode cX5_rises 68 = .ok (.iload 5, 2) := by decide +kernel
theorem dX5_rises_70 : decode cX5_rises 70 = .ok (.goto 4, 3) := by decide +kernel
theorem dX5_rises_73 : decode cX5_rises 73 = .ok (.iload_n 3, 1) := by decide +kernel
theorem dX5_rises_74 : decode cX5_rises 74 = .ok (.istore_n 3, 1) := by decide +kernel
theorem dX5_rises_75 : decode cX5_rises 75 = .ok (.iload 4, 2) := by decide +kernel
theorem dX5_rises_77 : decode cX5_rises 77 = .ok (.iload 6, 2) := by decide +kernel
theorem dX5_rises_79 : decode cX5_rises 79 = .ok (.ifCond .eq 7, 3) := by decide +kernel
theorem dX5_rises_82 : decode cX5_rises 82 = .ok (.iconst 1, 1) := by decide +kernel
theorem dX5_rises_83 : decode cX5_rises 83 = .ok (.goto 4, 3) := by decide +kernel
theorem dX5_rises_86 : decode cX5_rises 86 = .ok (.iconst 0, 1) := by decide +kernel
theorem dX5_rises_87 : decode cX5_rises 87 = .ok (.iadd, 1) := by decide +kernel
theorem dX5_rises_88 : decode cX5_rises 88 = .ok (.istore 4, 2) := by decide +kernel
theorem dX5_rises_90 : decode cX5_rises 90 = .ok (.aload_n 0, 1) := by decide +kernel
theorem dX5_rises_91 : decode cX5_rises 91 = .ok (.aload_n 0, 1) := by decide +kernel
theorem dX5_rises_92 : decode cX5_rises 92 = .ok (.getfield 13, 3) := by decide +kernel
theorem dX5_rises_95 : decode cX5_rises 95 = .ok (.invokevirtual 120, 3) := by decide +kernel
theorem dX5_rises_98 : decode cX5_rises 98 = .ok (.iinc 5 1, 3) := by decide +kernel
theorem dX5_rises_101 : decode cX5_rises 101 = .ok (.goto (-69), 3) := by decide +kernel
theorem dX5_rises_104 : decode cX5_rises 104 = .ok (.iload_n 2, 1) := by decide +kernel
theorem dX5_rises_105 : decode cX5_rises 105 = .ok (.ifCond .ne 7, 3) := by decide +kernel
theorem dX5_rises_108 : decode cX5_rises 108 = .ok (.iload_n 3, 1) := by decide +kernel
theorem dX5_rises_109 : decode cX5_rises 109 = .ok (.goto 5, 3) := by decide +kernel
theorem dX5_rises_112 : decode cX5_rises 112 = .ok (.iload 4, 2) := by decide +kernel
theorem dX5_rises_114 : decode cX5_rises 114 = .ok (.ireturn, 1) := by decide +kernel
theorem dX5_parts_0 : decode cX5_parts 0 = .ok (.aload_n 0, 1) := by decide +kernel
theorem dX5_parts_1 : decode cX5_parts 1 = .ok (.iload_n 1, 1) := by decide +kernel
theorem dX5_parts_2 : decode cX5_parts 2 = .ok (.invokevirtual 79, 3) := by decide +kernel
theorem dX5_parts_5 : decode cX5_parts 5 = .ok (.ifCond .ne 5, 3) := by decide +kernel
theorem dX5_parts_8 : decode cX5_parts 8 = .ok (.iconst (-1), 1) := by decide +kernel
theorem dX5_parts_9 : decode cX5_parts 9 = .ok (.ireturn, 1) := by decide +kernel
theorem dX5_parts_10 : decode cX5_parts 10 = .ok (.aload_n 0, 1) := by decide +kernel
theorem dX5_parts_11 : decode cX5_parts 11 = .ok (.invokevirtual 142, 3) := by decide +kernel
theorem dX5_parts_14 : decode cX5_parts 14 = .ok (.iconst 1, 1) := by decide +kernel
theorem dX5_parts_15 : decode cX5_parts 15 = .ok (.istore_n 2, 1) := by decide +kernel
theorem dX5_parts_16 : decode cX5_parts 16 = .ok (.iload_n 2, 1) := by decide +kernel
theorem dX5_parts_17 : decode cX5_parts 17 = .ok (.bipush 60, 2) := by decide +kernel
theorem dX5_parts_19 : decode cX5_parts 19 = .ok (.if_icmp .gt 41, 3) := by decide +kernel
theorem dX5_parts_22 : decode cX5_parts 22 = .ok (.aload_n 0, 1) := by decide +kernel
theorem dX5_parts_23 : decode cX5_parts 23 = .ok (.getfield 7, 3) := by decide +kernel
theorem dX5_parts_26 : decode cX5_parts 26 = .ok (.iload_n 1, 1) := by decide +kernel
theorem dX5_parts_27 : decode cX5_parts 27 = .ok (.invokestatic 53, 3) := by decide +kernel
theorem dX5_parts_30 : decode cX5_parts 30 = .ok (.ifCond .ne 30, 3) := by decide +kernel
theorem dX5_parts_33 : decode cX5_parts 33 = .ok (.aload_n 0, 1) := by decide +kernel
theorem dX5_parts_34 : decode cX5_parts 34 = .ok (.aload_n 0, 1) := by decide +kernel
theorem dX5_parts_35 : decode cX5_parts 35 = .ok (.getfield 13, 3) := by decide +kernel
theorem dX5_parts_38 : decode cX5_parts 38 = .ok (.invokevirtual 120, 3) := by decide +kernel
theorem dX5_parts_41 : decode cX5_parts 41 = .ok (.aload_n 0, 1) := by decide +kernel
theorem dX5_parts_42 : decode cX5_parts 42 = .ok (.getfield 13, 3) := by decide +kernel
theorem dX5_parts_45 : decode cX5_parts 45 = .ok (.iload_n 1, 1) := by decide +kernel
theorem dX5_parts_46 : decode cX5_parts 46 = .ok (.invokestatic 53, 3) := by decide +kernel
theorem dX5_parts_49 : decode cX5_parts 49 = .ok (.ifCond .eq 5, 3) := by decide +kernel
theorem dX5_parts_52 : decode cX5_parts 52 = .ok (.iload_n 2, 1) := by decide +kernel
theorem dX5_parts_53 : decode cX5_parts 53 = .ok (.ireturn, 1) := by decide +kernel
theorem dX5_parts_54 : decode cX5_parts 54 = .ok (.iinc 2 1, 3) := by decide +kernel
theorem dX5_parts_57 : decode cX5_parts 57 = .ok (.goto (-41), 3) := by decide +kernel
theorem dX5_parts_60 : decode cX5_parts 60 = .ok (.bipush (-4), 2) := by decide +kernel
theorem dX5_parts_62 : decode cX5_parts 62 = .ok (.ireturn, 1) := by decide +kernel
theorem dX5_ever_0 : decode cX5_ever 0 = .ok (.aload_n 0, 1) := by decide +kernel
theorem dX5_ever_1 : decode cX5_ever 1 = .ok (.invokevirtual 142, 3) := by decide +kernel
theorem dX5_ever_4 : decode cX5_ever 4 = .ok (.iconst 0, 1) := by decide +kernel
theorem dX5_ever_5 : decode cX5_ever 5 = .ok (.istore_n 1, 1) := by decide +kernel
theorem dX5_ever_6 : decode cX5_ever 6 = .ok (.iconst 0, 1) := by decide +kernel
theorem dX5_ever_7 : decode cX5_ever 7 = .ok (.istore_n 2, 1) := by decide +kernel
theorem dX5_ever_8 : decode cX5_ever 8 = .ok (.iload_n 2, 1) := by decide +kernel
theorem dX5_ever_9 : decode cX5_ever 9 = .ok (.bipush 60, 2) := by decide +kernel
theorem dX5_ever_11 : decode cX5_ever 11 = .ok (.if_icmp .gt 41, 3) := by decide +kernel
theorem dX5_ever_14 : decode cX5_ever 14 = .ok (.aload_n 0, 1) := by decide +kernel
theorem dX5_ever_15 : decode cX5_ever 15 = .ok (.getfield 13, 3) := by decide +kernel
theorem dX5_ever_18 : decode cX5_ever 18 = .ok (.invokestatic 61, 3) := by decide +kernel
theorem dX5_ever_21 : decode cX5_ever 21 = .ok (.istore_n 3, 1) := by decide +kernel
theorem dX5_ever_22 : decode cX5_ever 22 = .ok (.iload_n 1, 1) := by decide +kernel
theorem dX5_ever_23 : decode cX5_ever 23 = .ok (.iload_n 3, 1) := by decide +kernel
theorem dX5_ever_24 : decode cX5_ever 24 = .ok (.bipush (-4), 2) := by decide +kernel
theorem dX5_ever_26 : decode cX5_ever 26 = .ok (.if_icmp .ne 7, 3) := by decide +kernel
theorem dX5_ever_29 : decode cX5_ever 29 = .ok (.iconst 0, 1) := by decide +kernel
theorem dX5_ever_30 : decode cX5_ever 30 = .ok (.goto 6, 3) := by decide +kernel
theorem dX5_ever_33 : decode cX5_ever 33 = .ok (.iconst 1, 1) := by decide +kernel
theorem dX5_ever_34 : decode cX5_ever 34 = .ok (.iload_n 3, 1) := by decide +kernel
theorem dX5_ever_35 : decode cX5_ever 35 = .ok (.ishl, 1) := by decide +kernel
theorem dX5_ever_36 : decode cX5_ever 36 = .ok (.ior, 1) := by decide +kernel
theorem dX5_ever_37 : decode cX5_ever 37 = .ok (.istore_n 1, 1) := by decide +kernel
theorem dX5_ever_38 : decode cX5_ever 38 = .ok (.aload_n 0, 1) := by decide +kernel
theorem dX5_ever_39 : decode cX5_ever 39 = .ok (.aload_n 0, 1) := by decide +kernel
theorem dX5_ever_40 : decode cX5_ever 40 = .ok (.getfield 13, 3) := by decide +kernel
theorem dX5_ever_43 : decode cX5_ever 43 = .ok (.invokevirtual 120, 3) := by decide +kernel
theorem dX5_ever_46 : decode cX5_ever 46 = .ok (.iinc 2 1, 3) := by decide +kernel
theorem dX5_ever_49 : decode cX5_ever 49 = .ok (.goto (-41), 3) := by decide +kernel
theorem dX5_ever_52 : decode cX5_ever 52 = .ok (.iload_n 1, 1) := by decide +kernel
theorem dX5_ever_53 : decode cX5_ever 53 = .ok (.ireturn, 1) := by decide +kernel
theorem dX5_rivals_0 : decode cX5_rivals 0 = .ok (.aload_n 0, 1) := by decide +kernel
theorem dX5_rivals_1 : decode cX5_rivals 1 = .ok (.iload_n 1, 1) := by decide +kernel
theorem dX5_rivals_2 : decode cX5_rivals 2 = .ok (.invokevirtual 79, 3) := by decide +kernel
theorem dX5_rivals_5 : decode cX5_rivals 5 = .ok (.ifCond .eq 22, 3) := by decide +kernel
theorem dX5_rivals_8 : decode cX5_rivals 8 = .ok (.iload_n 2, 1) := by decide +kernel
theorem dX5_rivals_9 : decode cX5_rivals 9 = .ok (.iconst 0, 1) := by decide +kernel
theorem dX5_rivals_10 : decode cX5_rivals 10 = .ok (.bipush 40, 2) := by decide +kernel
theorem dX5_rivals_12 : decode cX5_rivals 12 = .ok (.invokestatic 45, 3) := by decide +kernel
theorem dX5_rivals_15 : decode cX5_rivals 15 = .ok (.ifCond .eq 12, 3) := by decide +kernel
theorem dX5_rivals_18 : decode cX5_rivals 18 = .ok (.iload_n 3, 1) := by decide +kernel
theorem dX5_rivals_19 : decode cX5_rivals 19 = .ok (.iconst 0, 1) := by decide +kernel
theorem dX5_rivals_20 : decode cX5_rivals 20 = .ok (.iconst 1, 1) := by decide +kernel
theorem dX5_rivals_21 : decode cX5_rivals 21 = .ok (.invokestatic 45, 3) := by decide +kernel
theorem dX5_rivals_24 : decode cX5_rivals 24 = .ok (.ifCond .ne 5, 3) := by decide +kernel
theorem dX5_rivals_27 : decode cX5_rivals 27 = .ok (.iconst (-1), 1) := by decide +kernel
theorem dX5_rivals_28 : decode cX5_rivals 28 = .ok (.ireturn, 1) := by decide +kernel
theorem dX5_rivals_29 : decode cX5_rivals 29 = .ok (.aload_n 0, 1) := by decide +kernel
theorem dX5_rivals_30 : decode cX5_rivals 30 = .ok (.getfield 7, 3) := by decide +kernel
theorem dX5_rivals_33 : decode cX5_rivals 33 = .ok (.invokestatic 114, 3) := by decide +kernel
theorem dX5_rivals_36 : decode cX5_rivals 36 = .ok (.iconst 1, 1) := by decide +kernel
theorem dX5_rivals_37 : decode cX5_rivals 37 = .ok (.iload_n 1, 1) := by decide +kernel
theorem dX5_rivals_38 : decode cX5_rivals 38 = .ok (.ishl, 1) := by decide +kernel
theorem dX5_rivals_39 : decode cX5_rivals 39 = .ok (.iconst (-1), 1) := by decide +kernel
theorem dX5_rivals_40 : decode cX5_rivals 40 = .ok (.ixor, 1) := by decide +kernel
theorem dX5_rivals_41 : decode cX5_rivals 41 = .ok (.iand, 1) := by decide +kernel
theorem dX5_rivals_42 : decode cX5_rivals 42 = .ok (.istore 4, 2) := by decide +kernel
theorem dX5_rivals_44 : decode cX5_rivals 44 = .ok (.bipush (-4), 2) := by decide +kernel
theorem dX5_rivals_46 : decode cX5_rivals 46 = .ok (.istore 5, 2) := by decide +kernel
theorem dX5_rivals_48 : decode cX5_rivals 48 = .ok (.iconst 0, 1) := by decide +kernel
theorem dX5_rivals_49 : decode cX5_rivals 49 = .ok (.istore 6, 2) := by decide +kernel
theorem dX5_rivals_51 : decode cX5_rivals 51 = .ok (.iload 6, 2) := by decide +kernel
theorem dX5_rivals_53 : decode cX5_rivals 53 = .ok (.iload 4, 2) := by decide +kernel
theorem dX5_rivals_55 : decode cX5_rivals 55 = .ok (.if_icmp .gt 79, 3) := by decide +kernel
theorem dX5_rivals_58 : decode cX5_rivals 58 = .ok (.iload 6, 2) := by decide +kernel
theorem dX5_rivals_60 : decode cX5_rivals 60 = .ok (.iload 4, 2) := by decide +kernel
theorem dX5_rivals_62 : decode cX5_rivals 62 = .ok (.iconst (-1), 1) := by decide +kernel
theorem dX5_rivals_63 : decode cX5_rivals 63 = .ok (.ixor, 1) := by decide +kernel
theorem dX5_rivals_64 : decode cX5_rivals 64 = .ok (.iand, 1) := by decide +kernel
theorem dX5_rivals_65 : decode cX5_rivals 65 = .ok (.ifCond .ne 63, 3) := by decide +kernel
theorem dX5_rivals_68 : decode cX5_rivals 68 = .ok (.iload 5, 2) := by decide +kernel
theorem dX5_rivals_70 : decode cX5_rivals 70 = .ok (.bipush (-4), 2) := by decide +kernel
theorem dX5_rivals_72 : decode cX5_rivals 72 = .ok (.if_icmp .eq 16, 3) := by decide +kernel
theorem dX5_rivals_75 : decode cX5_rivals 75 = .ok (.iload 6, 2) := by decide +kernel
theorem dX5_rivals_77 : decode cX5_rivals 77 = .ok (.invokestatic 148, 3) := by decide +kernel
theorem dX5_rivals_80 : decode cX5_rivals 80 = .ok (.iload 5, 2) := by decide +kernel
theorem dX5_rivals_82 : decode cX5_rivals 82 = .ok (.invokestatic 148, 3) := by decide +kernel
theorem dX5_rivals_85 : decode cX5_rivals 85 = .ok (.if_icmp .ge 43, 3) := by decide +kernel
theorem dX5_rivals_88 : decode cX5_rivals 88 = .ok (.aload_n 0, 1) := by decide +kernel
theorem dX5_rivals_89 : decode cX5_rivals 89 = .ok (.invokevirtual 142, 3) := by decide +kernel
theorem dX5_rivals_92 : decode cX5_rivals 92 = .ok (.aload_n 0, 1) := by decide +kernel
theorem dX5_rivals_93 : decode cX5_rivals 93 = .ok (.getfield 13, 3) := by decide +kernel
theorem dX5_rivals_96 : decode cX5_rivals 96 = .ok (.iconst 2, 1) := by decide +kernel
theorem dX5_rivals_97 : decode cX5_rivals 97 = .ok (.dup2, 1) := by decide +kernel
theorem dX5_rivals_98 : decode cX5_rivals 98 = .ok (.iaload, 1) := by decide +kernel
theorem dX5_rivals_99 : decode cX5_rivals 99 = .ok (.iload 6, 2) := by decide +kernel
theorem dX5_rivals_101 : decode cX5_rivals 101 = .ok (.ior, 1) := by decide +kernel
theorem dX5_rivals_102 : decode cX5_rivals 102 = .ok (.iastore, 1) := by decide +kernel
theorem dX5_rivals_103 : decode cX5_rivals 103 = .ok (.aload_n 0, 1) := by decide +kernel
theorem dX5_rivals_104 : decode cX5_rivals 104 = .ok (.iload_n 2, 1) := by decide +kernel
theorem dX5_rivals_105 : decode cX5_rivals 105 = .ok (.invokevirtual 145, 3) := by decide +kernel
theorem dX5_rivals_108 : decode cX5_rivals 108 = .ok (.aload_n 0, 1) := by decide +kernel
theorem dX5_rivals_109 : decode cX5_rivals 109 = .ok (.getfield 13, 3) := by decide +kernel
theorem dX5_rivals_112 : decode cX5_rivals 112 = .ok (.invokestatic 61, 3) := by decide +kernel
theorem dX5_rivals_115 : decode cX5_rivals 115 = .ok (.iload_n 1, 1) := by decide +kernel
theorem dX5_rivals_116 : decode cX5_rivals 116 = .ok (.if_icmp .ne 8, 3) := by decide +kernel
theorem dX5_rivals_119 : decode cX5_rivals 119 = .ok (.iload 6, 2) := by decide +kernel
theorem dX5_rivals_121 : decode cX5_rivals 121 = .ok (.goto 5, 3) := by decide +kernel
theorem dX5_rivals_124 : decode cX5_rivals 124 = .ok (.iload 5, 2) := by decide +kernel
theorem dX5_rivals_126 : decode cX5_rivals 126 = .ok (.istore 5, 2) := by decide +kernel
theorem dX5_rivals_128 : decode cX5_rivals 128 = .ok (.iinc 6 1, 3) := by decide +kernel
theorem dX5_rivals_131 : decode cX5_rivals 131 = .ok (.goto (-80), 3) := by decide +kernel
theorem dX5_rivals_134 : decode cX5_rivals 134 = .ok (.iload 5, 2) := by decide +kernel
theorem dX5_rivals_136 : decode cX5_rivals 136 = .ok (.bipush (-4), 2) := by decide +kernel
theorem dX5_rivals_138 : decode cX5_rivals 138 = .ok (.if_icmp .eq 8, 3) := by decide +kernel
theorem dX5_rivals_141 : decode cX5_rivals 141 = .ok (.iload_n 3, 1) := by decide +kernel
theorem dX5_rivals_142 : decode cX5_rivals 142 = .ok (.iconst 1, 1) := by decide +kernel
theorem dX5_rivals_143 : decode cX5_rivals 143 = .ok (.if_icmp .ne 8, 3) := by decide +kernel
theorem dX5_rivals_146 : decode cX5_rivals 146 = .ok (.iload 5, 2) := by decide +kernel
theorem dX5_rivals_148 : decode cX5_rivals 148 = .ok (.goto 8, 3) := by decide +kernel
theorem dX5_rivals_151 : decode cX5_rivals 151 = .ok (.iload 5, 2) := by decide +kernel
theorem dX5_rivals_153 : decode cX5_rivals 153 = .ok (.invokestatic 148, 3) := by decide +kernel
theorem dX5_rivals_156 : decode cX5_rivals 156 = .ok (.ireturn, 1) := by decide +kernel
theorem dX5_needs_0 : decode cX5_needs 0 = .ok (.aload_n 0, 1) := by decide +kernel
theorem dX5_needs_1 : decode cX5_needs 1 = .ok (.iload_n 1, 1) := by decide +kernel
theorem dX5_needs_2 : decode cX5_needs 2 = .ok (.invokevirtual 79, 3) := by decide +kernel
theorem dX5_needs_5 : decode cX5_needs 5 = .ok (.ifCond .eq 13, 3) := by decide +kernel
theorem dX5_needs_8 : decode cX5_needs 8 = .ok (.iload_n 2, 1) := by decide +kernel
theorem dX5_needs_9 : decode cX5_needs 9 = .ok (.iconst 1, 1) := by decide +kernel
theorem dX5_needs_10 : decode cX5_needs 10 = .ok (.bipush 40, 2) := by decide +kernel
theorem dX5_needs_12 : decode cX5_needs 12 = .ok (.invokestatic 45, 3) := by decide +kernel
theorem dX5_needs_15 : decode cX5_needs 15 = .ok (.ifCond .ne 5, 3) := by decide +kernel
theorem dX5_needs_18 : decode cX5_needs 18 = .ok (.iconst (-1), 1) := by decide +kernel
theorem dX5_needs_19 : decode cX5_needs 19 = .ok (.ireturn, 1) := by decide +kernel
theorem dX5_needs_20 : decode cX5_needs 20 = .ok (.aload_n 0, 1) := by decide +kernel
theorem dX5_needs_21 : decode cX5_needs 21 = .ok (.getfield 7, 3) := by decide +kernel
theorem dX5_needs_24 : decode cX5_needs 24 = .ok (.iload_n 1, 1) := by decide +kernel
theorem dX5_needs_25 : decode cX5_needs 25 = .ok (.invokestatic 53, 3) := by decide +kernel
theorem dX5_needs_28 : decode cX5_needs 28 = .ok (.ifCond .eq 6, 3) := by decide +kernel
theorem dX5_needs_31 : decode cX5_needs 31 = .ok (.bipush (-2), 2) := by decide +kernel
theorem dX5_needs_33 : decode cX5_needs 33 = .ok (.ireturn, 1) := by decide +kernel
theorem dX5_needs_34 : decode cX5_needs 34 = .ok (.iconst 0, 1) := by decide +kernel
theorem dX5_needs_35 : decode cX5_needs 35 = .ok (.istore_n 3, 1) := by decide +kernel
theorem dX5_needs_36 : decode cX5_needs 36 = .ok (.iload_n 3, 1) := by decide +kernel
theorem dX5_needs_37 : decode cX5_needs 37 = .ok (.bipush 19, 2) := by decide +kernel
theorem dX5_needs_39 : decode cX5_needs 39 = .ok (.if_icmp .gt 40, 3) := by decide +kernel
theorem dX5_needs_42 : decode cX5_needs 42 = .ok (.aload_n 0, 1) := by decide +kernel
theorem dX5_needs_43 : decode cX5_needs 43 = .ok (.invokevirtual 142, 3) := by decide +kernel
theorem dX5_needs_46 : decode cX5_needs 46 = .ok (.aload_n 0, 1) := by decide +kernel
theorem dX5_needs_47 : decode cX5_needs 47 = .ok (.getfield 13, 3) := by decide +kernel
theorem dX5_needs_50 : decode cX5_needs 50 = .ok (.iload_n 1, 1) := by decide +kernel
theorem dX5_needs_51 : decode cX5_needs 51 = .ok (.iload_n 3, 1) := by decide +kernel
theorem dX5_needs_52 : decode cX5_needs 52 = .ok (.invokestatic 124, 3) := by decide +kernel
theorem dX5_needs_55 : decode cX5_needs 55 = .ok (.aload_n 0, 1) := by decide +kernel
theorem dX5_needs_56 : decode cX5_needs 56 = .ok (.iload_n 2, 1) := by decide +kernel
theorem dX5_needs_57 : decode cX5_needs 57 = .ok (.invokevirtual 145, 3) := by decide +kernel
theorem dX5_needs_60 : decode cX5_needs 60 = .ok (.aload_n 0, 1) := by decide +kernel
theorem dX5_needs_61 : decode cX5_needs 61 = .ok (.getfield 13, 3) := by decide +kernel
theorem dX5_needs_64 : decode cX5_needs 64 = .ok (.iload_n 1, 1) := by decide +kernel
theorem dX5_needs_65 : decode cX5_needs 65 = .ok (.invokestatic 53, 3) := by decide +kernel
theorem dX5_needs_68 : decode cX5_needs 68 = .ok (.ifCond .ne 5, 3) := by decide +kernel
theorem dX5_needs_71 : decode cX5_needs 71 = .ok (.iload_n 3, 1) := by decide +kernel
theorem dX5_needs_72 : decode cX5_needs 72 = .ok (.ireturn, 1) := by decide +kernel
theorem dX5_needs_73 : decode cX5_needs 73 = .ok (.iinc 3 1, 3) := by decide +kernel
theorem dX5_needs_76 : decode cX5_needs 76 = .ok (.goto (-40), 3) := by decide +kernel
theorem dX5_needs_79 : decode cX5_needs 79 = .ok (.bipush (-4), 2) := by decide +kernel
theorem dX5_needs_81 : decode cX5_needs 81 = .ok (.ireturn, 1) := by decide +kernel
theorem dX5_soothe_0 : decode cX5_soothe 0 = .ok (.iload_n 1, 1) := by decide +kernel
theorem dX5_soothe_1 : decode cX5_soothe 1 = .ok (.iconst 1, 1) := by decide +kernel
theorem dX5_soothe_2 : decode cX5_soothe 2 = .ok (.bipush 40, 2) := by decide +kernel
theorem dX5_soothe_4 : decode cX5_soothe 4 = .ok (.invokestatic 45, 3) := by decide +kernel
theorem dX5_soothe_7 : decode cX5_soothe 7 = .ok (.ifCond .eq 12, 3) := by decide +kernel
theorem dX5_soothe_10 : decode cX5_soothe 10 = .ok (.iload_n 2, 1) := by decide +kernel
theorem dX5_soothe_11 : decode cX5_soothe 11 = .ok (.iconst 0, 1) := by decide +kernel
theorem dX5_soothe_12 : decode cX5_soothe 12 = .ok (.iconst 1, 1) := by decide +kernel
theorem dX5_soothe_13 : decode cX5_soothe 13 = .ok (.invokestatic 45, 3) := by decide +kernel
theorem dX5_soothe_16 : decode cX5_soothe 16 = .ok (.ifCond .ne 5, 3) := by decide +kernel
theorem dX5_soothe_19 : decode cX5_soothe 19 = .ok (.iconst (-1), 1) := by decide +kernel
theorem dX5_soothe_20 : decode cX5_soothe 20 = .ok (.ireturn, 1) := by decide +kernel
theorem dX5_soothe_21 : decode cX5_soothe 21 = .ok (.bipush (-4), 2) := by decide +kernel
theorem dX5_soothe_23 : decode cX5_soothe 23 = .ok (.istore_n 3, 1) := by decide +kernel
theorem dX5_soothe_24 : decode cX5_soothe 24 = .ok (.bipush (-4), 2) := by decide +kernel
theorem dX5_soothe_26 : decode cX5_soothe 26 = .ok (.istore 4, 2) := by decide +kernel
theorem dX5_soothe_28 : decode cX5_soothe 28 = .ok (.iconst 0, 1) := by decide +kernel
theorem dX5_soothe_29 : decode cX5_soothe 29 = .ok (.istore 5, 2) := by decide +kernel
theorem dX5_soothe_31 : decode cX5_soothe 31 = .ok (.iload 5, 2) := by decide +kernel
theorem dX5_soothe_33 : decode cX5_soothe 33 = .ok (.aload_n 0, 1) := by decide +kernel
theorem dX5_soothe_34 : decode cX5_soothe 34 = .ok (.getfield 7, 3) := by decide +kernel
theorem dX5_soothe_37 : decode cX5_soothe 37 = .ok (.iconst 0, 1) := by decide +kernel
theorem dX5_soothe_38 : decode cX5_soothe 38 = .ok (.iaload, 1) := by decide +kernel
theorem dX5_soothe_39 : decode cX5_soothe 39 = .ok (.if_icmp .ge 66, 3) := by decide +kernel
theorem dX5_soothe_42 : decode cX5_soothe 42 = .ok (.aload_n 0, 1) := by decide +kernel
theorem dX5_soothe_43 : decode cX5_soothe 43 = .ok (.getfield 7, 3) := by decide +kernel
theorem dX5_soothe_46 : decode cX5_soothe 46 = .ok (.iload 5, 2) := by decide +kernel
theorem dX5_soothe_48 : decode cX5_soothe 48 = .ok (.invokestatic 53, 3) := by decide +kernel
theorem dX5_soothe_51 : decode cX5_soothe 51 = .ok (.ifCond .ne 48, 3) := by decide +kernel
theorem dX5_soothe_54 : decode cX5_soothe 54 = .ok (.aload_n 0, 1) := by decide +kernel
theorem dX5_soothe_55 : decode cX5_soothe 55 = .ok (.invokevirtual 142, 3) := by decide +kernel
theorem dX5_soothe_58 : decode cX5_soothe 58 = .ok (.aload_n 0, 1) := by decide +kernel
theorem dX5_soothe_59 : decode cX5_soothe 59 = .ok (.getfield 13, 3) := by decide +kernel
theorem dX5_soothe_62 : decode cX5_soothe 62 = .ok (.iload 5, 2) := by decide +kernel
theorem dX5_soothe_64 : decode cX5_soothe 64 = .ok (.iconst 5, 1) := by decide +kernel
theorem dX5_soothe_65 : decode cX5_soothe 65 = .ok (.invokestatic 124, 3) := by decide +kernel
theorem dX5_soothe_68 : decode cX5_soothe 68 = .ok (.aload_n 0, 1) := by decide +kernel
theorem dX5_soothe_69 : decode cX5_soothe 69 = .ok (.iload_n 1, 1) := by decide +kernel
theorem dX5_soothe_70 : decode cX5_soothe 70 = .ok (.invokevirtual 145, 3) := by decide +kernel
theorem dX5_soothe_73 : decode cX5_soothe 73 = .ok (.aload_n 0, 1) := by decide +kernel
theorem dX5_soothe_74 : decode cX5_soothe 74 = .ok (.getfield 13, 3) := by decide +kernel
theorem dX5_soothe_77 : decode cX5_soothe 77 = .ok (.invokestatic 114, 3) := by decide +kernel
theorem dX5_soothe_80 : decode cX5_soothe 80 = .ok (.invokestatic 148, 3) := by decide +kernel
theorem dX5_soothe_83 : decode cX5_soothe 83 = .ok (.istore 6, 2) := by decide +kernel
theorem dX5_soothe_85 : decode cX5_soothe 85 = .ok (.iload 6, 2) := by decide +kernel
theorem dX5_soothe_87 : decode cX5_soothe 87 = .ok (.iload 4, 2) := by decide +kernel
theorem dX5_soothe_89 : decode cX5_soothe 89 = .ok (.if_icmp .le 10, 3) := by decide +kernel
theorem dX5_soothe_92 : decode cX5_soothe 92 = .ok (.iload 5, 2) := by decide +kernel
theorem dX5_soothe_94 : decode cX5_soothe 94 = .ok (.istore_n 3, 1) := by decide +kernel
theorem dX5_soothe_95 : decode cX5_soothe 95 = .ok (.iload 6, 2) := by decide +kernel
theorem dX5_soothe_97 : decode cX5_soothe 97 = .ok (.istore 4, 2) := by decide +kernel
theorem dX5_soothe_99 : decode cX5_soothe 99 = .ok (.iinc 5 1, 3) := by decide +kernel
theorem dX5_soothe_102 : decode cX5_soothe 102 = .ok (.goto (-71), 3) := by decide +kernel
theorem dX5_soothe_105 : decode cX5_soothe 105 = .ok (.iload_n 2, 1) := by decide +kernel
theorem dX5_soothe_106 : decode cX5_soothe 106 = .ok (.ifCond .ne 7, 3) := by decide +kernel
theorem dX5_soothe_109 : decode cX5_soothe 109 = .ok (.iload_n 3, 1) := by decide +kernel
theorem dX5_soothe_110 : decode cX5_soothe 110 = .ok (.goto 5, 3) := by decide +kernel
theorem dX5_soothe_113 : decode cX5_soothe 113 = .ok (.iload 4, 2) := by decide +kernel
theorem dX5_soothe_115 : decode cX5_soothe 115 = .ok (.ireturn, 1) := by decide +kernel
theorem dX5_start_0 : decode cX5_start 0 = .ok (.iload_n 1, 1) := by decide +kernel
theorem dX5_start_1 : decode cX5_start 1 = .ok (.iconst 0, 1) := by decide +kernel
theorem dX5_start_2 : decode cX5_start 2 = .ok (.bipush 60, 2) := by decide +kernel
theorem dX5_start_4 : decode cX5_start 4 = .ok (.invokestatic 45, 3) := by decide +kernel
theorem dX5_start_7 : decode cX5_start 7 = .ok (.ifCond .ne 5, 3) := by decide +kernel
theorem dX5_start_10 : decode cX5_start 10 = .ok (.iconst (-1), 1) := by decide +kernel
theorem dX5_start_11 : decode cX5_start 11 = .ok (.ireturn, 1) := by decide +kernel
theorem dX5_start_12 : decode cX5_start 12 = .ok (.iconst 0, 1) := by decide +kernel
theorem dX5_start_13 : decode cX5_start 13 = .ok (.istore_n 2, 1) := by decide +kernel
theorem dX5_start_14 : decode cX5_start 14 = .ok (.iload_n 2, 1) := by decide +kernel
theorem dX5_start_15 : decode cX5_start 15 = .ok (.aload_n 0, 1) := by decide +kernel
theorem dX5_start_16 : decode cX5_start 16 = .ok (.getfield 7, 3) := by decide +kernel
theorem dX5_start_19 : decode cX5_start 19 = .ok (.iconst 0, 1) := by decide +kernel
theorem dX5_start_20 : decode cX5_start 20 = .ok (.iaload, 1) := by decide +kernel
theorem dX5_start_21 : decode cX5_start 21 = .ok (.if_icmp .ge 50, 3) := by decide +kernel
theorem dX5_start_24 : decode cX5_start 24 = .ok (.aload_n 0, 1) := by decide +kernel
theorem dX5_start_25 : decode cX5_start 25 = .ok (.getfield 7, 3) := by decide +kernel
theorem dX5_start_28 : decode cX5_start 28 = .ok (.iload_n 2, 1) := by decide +kernel
theorem dX5_start_29 : decode cX5_start 29 = .ok (.invokestatic 53, 3) := by decide +kernel
theorem dX5_start_32 : decode cX5_start 32 = .ok (.ifCond .eq 33, 3) := by decide +kernel
theorem dX5_start_35 : decode cX5_start 35 = .ok (.aload_n 0, 1) := by decide +kernel
theorem dX5_start_36 : decode cX5_start 36 = .ok (.invokevirtual 142, 3) := by decide +kernel
theorem dX5_start_39 : decode cX5_start 39 = .ok (.aload_n 0, 1) := by decide +kernel
theorem dX5_start_40 : decode cX5_start 40 = .ok (.getfield 13, 3) := by decide +kernel
theorem dX5_start_43 : decode cX5_start 43 = .ok (.iload_n 2, 1) := by decide +kernel
theorem dX5_start_44 : decode cX5_start 44 = .ok (.invokestatic 131, 3) := by decide +kernel
theorem dX5_start_47 : decode cX5_start 47 = .ok (.aload_n 0, 1) := by decide +kernel
theorem dX5_start_48 : decode cX5_start 48 = .ok (.iload_n 1, 1) := by decide +kernel
theorem dX5_start_49 : decode cX5_start 49 = .ok (.invokevirtual 145, 3) := by decide +kernel
theorem dX5_start_52 : decode cX5_start 52 = .ok (.aload_n 0, 1) := by decide +kernel
theorem dX5_start_53 : decode cX5_start 53 = .ok (.getfield 13, 3) := by decide +kernel
theorem dX5_start_56 : decode cX5_start 56 = .ok (.invokestatic 61, 3) := by decide +kernel
theorem dX5_start_59 : decode cX5_start 59 = .ok (.iload_n 2, 1) := by decide +kernel
theorem dX5_start_60 : decode cX5_start 60 = .ok (.if_icmp .ne 5, 3) := by decide +kernel
theorem dX5_start_63 : decode cX5_start 63 = .ok (.iload_n 2, 1) := by decide +kernel
theorem dX5_start_64 : decode cX5_start 64 = .ok (.ireturn, 1) := by decide +kernel
theorem dX5_start_65 : decode cX5_start 65 = .ok (.iinc 2 1, 3) := by decide +kernel
theorem dX5_start_68 : decode cX5_start 68 = .ok (.goto (-54), 3) := by decide +kernel
theorem dX5_start_71 : decode cX5_start 71 = .ok (.bipush (-4), 2) := by decide +kernel
theorem dX5_start_73 : decode cX5_start 73 = .ok (.ireturn, 1) := by decide +kernel
theorem dX5_sum_0 : decode cX5_sum 0 = .ok (.iload_n 1, 1) := by decide +kernel
theorem dX5_sum_1 : decode cX5_sum 1 = .ok (.iconst 1, 1) := by decide +kernel
theorem dX5_sum_2 : decode cX5_sum 2 = .ok (.bipush 40, 2) := by decide +kernel
theorem dX5_sum_4 : decode cX5_sum 4 = .ok (.invokestatic 45, 3) := by decide +kernel
theorem dX5_sum_7 : decode cX5_sum 7 = .ok (.ifCond .ne 5, 3) := by decide +kernel
theorem dX5_sum_10 : decode cX5_sum 10 = .ok (.iconst (-1), 1) := by decide +kernel
theorem dX5_sum_11 : decode cX5_sum 11 = .ok (.ireturn, 1) := by decide +kernel
theorem dX5_sum_12 : decode cX5_sum 12 = .ok (.aload_n 0, 1) := by decide +kernel
theorem dX5_sum_13 : decode cX5_sum 13 = .ok (.invokevirtual 142, 3) := by decide +kernel
theorem dX5_sum_16 : decode cX5_sum 16 = .ok (.iconst 0, 1) := by decide +kernel
theorem dX5_sum_17 : decode cX5_sum 17 = .ok (.istore_n 2, 1) := by decide +kernel
theorem dX5_sum_18 : decode cX5_sum 18 = .ok (.iconst 0, 1) := by decide +kernel
theorem dX5_sum_19 : decode cX5_sum 19 = .ok (.istore_n 3, 1) := by decide +kernel
theorem dX5_sum_20 : decode cX5_sum 20 = .ok (.iload_n 3, 1) := by decide +kernel
theorem dX5_sum_21 : decode cX5_sum 21 = .ok (.iload_n 1, 1) := by decide +kernel
theorem dX5_sum_22 : decode cX5_sum 22 = .ok (.if_icmp .ge 50, 3) := by decide +kernel
theorem dX5_sum_25 : decode cX5_sum 25 = .ok (.aload_n 0, 1) := by decide +kernel
theorem dX5_sum_26 : decode cX5_sum 26 = .ok (.getfield 13, 3) := by decide +kernel
theorem dX5_sum_29 : decode cX5_sum 29 = .ok (.invokestatic 61, 3) := by decide +kernel
theorem dX5_sum_32 : decode cX5_sum 32 = .ok (.istore 4, 2) := by decide +kernel
theorem dX5_sum_34 : decode cX5_sum 34 = .ok (.iload_n 2, 1) := by decide +kernel
theorem dX5_sum_35 : decode cX5_sum 35 = .ok (.iload 4, 2) := by decide +kernel
theorem dX5_sum_37 : decode cX5_sum 37 = .ok (.bipush (-4), 2) := by decide +kernel
theorem dX5_sum_39 : decode cX5_sum 39 = .ok (.if_icmp .ne 7, 3) := by decide +kernel
theorem dX5_sum_42 : decode cX5_sum 42 = .ok (.iconst 0, 1) := by decide +kernel
theorem dX5_sum_43 : decode cX5_sum 43 = .ok (.goto 13, 3) := by decide +kernel
theorem dX5_sum_46 : decode cX5_sum 46 = .ok (.aload_n 0, 1) := by decide +kernel
theorem dX5_sum_47 : decode cX5_sum 47 = .ok (.getfield 13, 3) := by decide +kernel
theorem dX5_sum_50 : decode cX5_sum 50 = .ok (.bipush 25, 2) := by decide +kernel
theorem dX5_sum_52 : decode cX5_sum 52 = .ok (.iload 4, 2) := by decide +kernel
theorem dX5_sum_54 : decode cX5_sum 54 = .ok (.iadd, 1) := by decide +kernel
theorem dX5_sum_55 : decode cX5_sum 55 = .ok (.iaload, 1) := by decide +kernel
theorem dX5_sum_56 : decode cX5_sum 56 = .ok (.iadd, 1) := by decide +kernel
theorem dX5_sum_57 : decode cX5_sum 57 = .ok (.istore_n 2, 1) := by decide +kernel
theorem dX5_sum_58 : decode cX5_sum 58 = .ok (.aload_n 0, 1) := by decide +kernel
theorem dX5_sum_59 : decode cX5_sum 59 = .ok (.aload_n 0, 1) := by decide +kernel
theorem dX5_sum_60 : decode cX5_sum 60 = .ok (.getfield 13, 3) := by decide +kernel
theorem dX5_sum_63 : decode cX5_sum 63 = .ok (.invokevirtual 120, 3) := by decide +kernel
theorem dX5_sum_66 : decode cX5_sum 66 = .ok (.iinc 3 1, 3) := by decide +kernel
theorem dX5_sum_69 : decode cX5_sum 69 = .ok (.goto (-49), 3) := by decide +kernel
theorem dX5_sum_72 : decode cX5_sum 72 = .ok (.iload_n 2, 1) := by decide +kernel
theorem dX5_sum_73 : decode cX5_sum 73 = .ok (.ireturn, 1) := by decide +kernel
theorem dX5_rows_0 : decode cX5_rows 0 = .ok (.iload_n 1, 1) := by decide +kernel
theorem dX5_rows_1 : decode cX5_rows 1 = .ok (.iconst (-1), 1) := by decide +kernel
theorem dX5_rows_2 : decode cX5_rows 2 = .ok (.if_icmp .eq 11, 3) := by decide +kernel
theorem dX5_rows_5 : decode cX5_rows 5 = .ok (.aload_n 0, 1) := by decide +kernel
theorem dX5_rows_6 : decode cX5_rows 6 = .ok (.iload_n 1, 1) := by decide +kernel
theorem dX5_rows_7 : decode cX5_rows 7 = .ok (.invokevirtual 79, 3) := by decide +kernel
theorem dX5_rows_10 : decode cX5_rows 10 = .ok (.ifCond .eq 22, 3) := by decide +kernel
theorem dX5_rows_13 : decode cX5_rows 13 = .ok (.iload_n 2, 1) := by decide +kernel
theorem dX5_rows_14 : decode cX5_rows 14 = .ok (.iconst 0, 1) := by decide +kernel
theorem dX5_rows_15 : decode cX5_rows 15 = .ok (.bipush 10, 2) := by decide +kernel
theorem dX5_rows_17 : decode cX5_rows 17 = .ok (.invokestatic 45, 3) := by decide +kernel
theorem dX5_rows_20 : decode cX5_rows 20 = .ok (.ifCond .eq 12, 3) := by decide +kernel
theorem dX5_rows_23 : decode cX5_rows 23 = .ok (.iload_n 3, 1) := by decide +kernel
theorem dX5_rows_24 : decode cX5_rows 24 = .ok (.iconst 0, 1) := by decide +kernel
theorem dX5_rows_25 : decode cX5_rows 25 = .ok (.iconst 1, 1) := by decide +kernel
theorem dX5_rows_26 : decode cX5_rows 26 = .ok (.invokestatic 45, 3) := by decide +kernel
theorem dX5_rows_29 : decode cX5_rows 29 = .ok (.ifCond .ne 5, 3) := by decide +kernel
theorem dX5_rows_32 : decode cX5_rows 32 = .ok (.iconst (-1), 1) := by decide +kernel
theorem dX5_rows_33 : decode cX5_rows 33 = .ok (.ireturn, 1) := by decide +kernel
theorem dX5_rows_34 : decode cX5_rows 34 = .ok (.aload_n 0, 1) := by decide +kernel
theorem dX5_rows_35 : decode cX5_rows 35 = .ok (.getfield 7, 3) := by decide +kernel
theorem dX5_rows_38 : decode cX5_rows 38 = .ok (.invokestatic 114, 3) := by decide +kernel
theorem dX5_rows_41 : decode cX5_rows 41 = .ok (.istore 4, 2) := by decide +kernel
theorem dX5_rows_43 : decode cX5_rows 43 = .ok (.iconst 0, 1) := by decide +kernel
theorem dX5_rows_44 : decode cX5_rows 44 = .ok (.istore 5, 2) := by decide +kernel
theorem dX5_rows_46 : decode cX5_rows 46 = .ok (.iconst 1, 1) := by decide +kernel
theorem dX5_rows_47 : decode cX5_rows 47 = .ok (.istore 6, 2) := by decide +kernel
theorem dX5_rows_49 : decode cX5_rows 49 = .ok (.iconst 0, 1) := by decide +kernel
theorem dX5_rows_50 : decode cX5_rows 50 = .ok (.istore 7, 2) := by decide +kernel
theorem dX5_rows_52 : decode cX5_rows 52 = .ok (.iload 7, 2) := by decide +kernel
theorem dX5_rows_54 : decode cX5_rows 54 = .ok (.iload 4, 2) := by decide +kernel
theorem dX5_rows_56 : decode cX5_rows 56 = .ok (.if_icmp .gt 145, 3) := by decide +kernel
theorem dX5_rows_59 : decode cX5_rows 59 = .ok (.iload 7, 2) := by decide +kernel
theorem dX5_rows_61 : decode cX5_rows 61 = .ok (.iload 4, 2) := by decide +kernel
theorem dX5_rows_63 : decode cX5_rows 63 = .ok (.iconst (-1), 1) := by decide +kernel
theorem dX5_rows_64 : decode cX5_rows 64 = .ok (.ixor, 1) := by decide +kernel
theorem dX5_rows_65 : decode cX5_rows 65 = .ok (.iand, 1) := by decide +kernel
theorem dX5_rows_66 : decode cX5_rows 66 = .ok (.ifCond .ne 7, 3) := by decide +kernel
theorem dX5_rows_69 : decode cX5_rows 69 = .ok (.iconst 1, 1) := by decide +kernel
theorem dX5_rows_70 : decode cX5_rows 70 = .ok (.goto 4, 3) := by decide +kernel
theorem dX5_rows_73 : decode cX5_rows 73 = .ok (.iconst 0, 1) := by decide +kernel
theorem dX5_rows_74 : decode cX5_rows 74 = .ok (.istore 8, 2) := by decide +kernel
theorem dX5_rows_76 : decode cX5_rows 76 = .ok (.aload_n 0, 1) := by decide +kernel
theorem dX5_rows_77 : decode cX5_rows 77 = .ok (.invokevirtual 142, 3) := by decide +kernel
theorem dX5_rows_80 : decode cX5_rows 80 = .ok (.iconst 0, 1) := by decide +kernel
theorem dX5_rows_81 : decode cX5_rows 81 = .ok (.istore 9, 2) := by decide +kernel
theorem dX5_rows_83 : decode cX5_rows 83 = .ok (.iload 9, 2) := by decide +kernel
theorem dX5_rows_85 : decode cX5_rows 85 = .ok (.aload_n 0, 1) := by decide +kernel
theorem dX5_rows_86 : decode cX5_rows 86 = .ok (.getfield 7, 3) := by decide +kernel
theorem dX5_rows_89 : decode cX5_rows 89 = .ok (.iconst 0, 1) := by decide +kernel
theorem dX5_rows_90 : decode cX5_rows 90 = .ok (.iaload, 1) := by decide +kernel
theorem dX5_rows_91 : decode cX5_rows 91 = .ok (.if_icmp .ge 72, 3) := by decide +kernel
theorem dX5_rows_94 : decode cX5_rows 94 = .ok (.iload 8, 2) := by decide +kernel
theorem dX5_rows_96 : decode cX5_rows 96 = .ok (.ifCond .le 67, 3) := by decide +kernel
theorem dX5_rows_99 : decode cX5_rows 99 = .ok (.iload 4, 2) := by decide +kernel
theorem dX5_rows_101 : decode cX5_rows 101 = .ok (.iload 9, 2) := by decide +kernel
theorem dX5_rows_103 : decode cX5_rows 103 = .ok (.invokestatic 49, 3) := by decide +kernel
theorem dX5_rows_106 : decode cX5_rows 106 = .ok (.ifCond .eq 51, 3) := by decide +kernel
theorem dX5_rows_109 : decode cX5_rows 109 = .ok (.iload 8, 2) := by decide +kernel
theorem dX5_rows_111 : decode cX5_rows 111 = .ok (.iload 7, 2) := by decide +kernel
theorem dX5_rows_113 : decode cX5_rows 113 = .ok (.iload 9, 2) := by decide +kernel
theorem dX5_rows_115 : decode cX5_rows 115 = .ok (.invokestatic 49, 3) := by decide +kernel
theorem dX5_rows_118 : decode cX5_rows 118 = .ok (.ifCond .eq 7, 3) := by decide +kernel
theorem dX5_rows_121 : decode cX5_rows 121 = .ok (.iload_n 2, 1) := by decide +kernel
theorem dX5_rows_122 : decode cX5_rows 122 = .ok (.goto 7, 3) := by decide +kernel
theorem dX5_rows_125 : decode cX5_rows 125 = .ok (.bipush 10, 2) := by decide +kernel
theorem dX5_rows_127 : decode cX5_rows 127 = .ok (.iload_n 2, 1) := by decide +kernel
theorem dX5_rows_128 : decode cX5_rows 128 = .ok (.isub, 1) := by decide +kernel
theorem dX5_rows_129 : decode cX5_rows 129 = .ok (.imul, 1) := by decide +kernel
theorem dX5_rows_130 : decode cX5_rows 130 = .ok (.istore 8, 2) := by decide +kernel
theorem dX5_rows_132 : decode cX5_rows 132 = .ok (.aload_n 0, 1) := by decide +kernel
theorem dX5_rows_133 : decode cX5_rows 133 = .ok (.getfield 13, 3) := by decide +kernel
theorem dX5_rows_136 : decode cX5_rows 136 = .ok (.iload 9, 2) := by decide +kernel
theorem dX5_rows_138 : decode cX5_rows 138 = .ok (.iload 7, 2) := by decide +kernel
theorem dX5_rows_140 : decode cX5_rows 140 = .ok (.iload 9, 2) := by decide +kernel
theorem dX5_rows_142 : decode cX5_rows 142 = .ok (.invokestatic 49, 3) := by decide +kernel
theorem dX5_rows_145 : decode cX5_rows 145 = .ok (.ifCond .eq 8, 3) := by decide +kernel
theorem dX5_rows_148 : decode cX5_rows 148 = .ok (.bipush 10, 2) := by decide +kernel
theorem dX5_rows_150 : decode cX5_rows 150 = .ok (.goto 4, 3) := by decide +kernel
theorem dX5_rows_153 : decode cX5_rows 153 = .ok (.iconst 0, 1) := by decide +kernel
theorem dX5_rows_154 : decode cX5_rows 154 = .ok (.invokestatic 128, 3) := by decide +kernel
theorem dX5_rows_157 : decode cX5_rows 157 = .ok (.iinc 9 1, 3) := by decide +kernel
theorem dX5_rows_160 : decode cX5_rows 160 = .ok (.goto (-77), 3) := by decide +kernel
theorem dX5_rows_163 : decode cX5_rows 163 = .ok (.iload 5, 2) := by decide +kernel
theorem dX5_rows_165 : decode cX5_rows 165 = .ok (.aload_n 0, 1) := by decide +kernel
theorem dX5_rows_166 : decode cX5_rows 166 = .ok (.getfield 13, 3) := by decide +kernel
theorem dX5_rows_169 : decode cX5_rows 169 = .ok (.invokestatic 61, 3) := by decide +kernel
theorem dX5_rows_172 : decode cX5_rows 172 = .ok (.iload_n 1, 1) := by decide +kernel
theorem dX5_rows_173 : decode cX5_rows 173 = .ok (.iconst (-1), 1) := by decide +kernel
theorem dX5_rows_174 : decode cX5_rows 174 = .ok (.if_icmp .ne 8, 3) := by decide +kernel
theorem dX5_rows_177 : decode cX5_rows 177 = .ok (.bipush (-4), 2) := by decide +kernel
theorem dX5_rows_179 : decode cX5_rows 179 = .ok (.goto 4, 3) := by decide +kernel
theorem dX5_rows_182 : decode cX5_rows 182 = .ok (.iload_n 1, 1) := by decide +kernel
theorem dX5_rows_183 : decode cX5_rows 183 = .ok (.if_icmp .ne 8, 3) := by decide +kernel
theorem dX5_rows_186 : decode cX5_rows 186 = .ok (.iload 8, 2) := by decide +kernel
theorem dX5_rows_188 : decode cX5_rows 188 = .ok (.goto 4, 3) := by decide +kernel
theorem dX5_rows_191 : decode cX5_rows 191 = .ok (.iconst 0, 1) := by decide +kernel
theorem dX5_rows_192 : decode cX5_rows 192 = .ok (.iadd, 1) := by decide +kernel
theorem dX5_rows_193 : decode cX5_rows 193 = .ok (.istore 5, 2) := by decide +kernel
theorem dX5_rows_195 : decode cX5_rows 195 = .ok (.iinc 7 1, 3) := by decide +kernel
theorem dX5_rows_198 : decode cX5_rows 198 = .ok (.goto (-146), 3) := by decide +kernel
theorem dX5_rows_201 : decode cX5_rows 201 = .ok (.iconst 0, 1) := by decide +kernel
theorem dX5_rows_202 : decode cX5_rows 202 = .ok (.istore 7, 2) := by decide +kernel
theorem dX5_rows_204 : decode cX5_rows 204 = .ok (.iload 7, 2) := by decide +kernel
theorem dX5_rows_206 : decode cX5_rows 206 = .ok (.aload_n 0, 1) := by decide +kernel
theorem dX5_rows_207 : decode cX5_rows 207 = .ok (.getfield 7, 3) := by decide +kernel
theorem dX5_rows_210 : decode cX5_rows 210 = .ok (.iconst 0, 1) := by decide +kernel
theorem dX5_rows_211 : decode cX5_rows 211 = .ok (.iaload, 1) := by decide +kernel
theorem dX5_rows_212 : decode cX5_rows 212 = .ok (.if_icmp .ge 30, 3) := by decide +kernel
theorem dX5_rows_215 : decode cX5_rows 215 = .ok (.iload 6, 2) := by decide +kernel
theorem dX5_rows_217 : decode cX5_rows 217 = .ok (.iload 4, 2) := by decide +kernel
theorem dX5_rows_219 : decode cX5_rows 219 = .ok (.iload 7, 2) := by decide +kernel
theorem dX5_rows_221 : decode cX5_rows 221 = .ok (.invokestatic 49, 3) := by decide +kernel
theorem dX5_rows_224 : decode cX5_rows 224 = .ok (.ifCond .eq 8, 3) := by decide +kernel
theorem dX5_rows_227 : decode cX5_rows 227 = .ok (.bipush 10, 2) := by decide +kernel
theorem dX5_rows_229 : decode cX5_rows 229 = .ok (.goto 4, 3) := by decide +kernel
theorem dX5_rows_232 : decode cX5_rows 232 = .ok (.iconst 1, 1) := by decide +kernel
theorem dX5_rows_233 : decode cX5_rows 233 = .ok (.imul, 1) := by decide +kernel
theorem dX5_rows_234 : decode cX5_rows 234 = .ok (.istore 6, 2) := by decide +kernel
theorem dX5_rows_236 : decode cX5_rows 236 = .ok (.iinc 7 1, 3) := by decide +kernel
theorem dX5_rows_239 : decode cX5_rows 239 = .ok (.goto (-35), 3) := by decide +kernel
theorem dX5_rows_242 : decode cX5_rows 242 = .ok (.iload 5, 2) := by decide +kernel
theorem dX5_rows_244 : decode cX5_rows 244 = .ok (.istore 7, 2) := by decide +kernel
theorem dX5_rows_246 : decode cX5_rows 246 = .ok (.iload 6, 2) := by decide +kernel
theorem dX5_rows_248 : decode cX5_rows 248 = .ok (.istore 8, 2) := by decide +kernel
theorem dX5_rows_250 : decode cX5_rows 250 = .ok (.iload 8, 2) := by decide +kernel
theorem dX5_rows_252 : decode cX5_rows 252 = .ok (.ifCond .eq 21, 3) := by decide +kernel
theorem dX5_rows_255 : decode cX5_rows 255 = .ok (.iload 7, 2) := by decide +kernel
theorem dX5_rows_257 : decode cX5_rows 257 = .ok (.iload 8, 2) := by decide +kernel
theorem dX5_rows_259 : decode cX5_rows 259 = .ok (.irem, 1) := by decide +kernel
theorem dX5_rows_260 : decode cX5_rows 260 = .ok (.istore 9, 2) := by decide +kernel
theorem dX5_rows_262 : decode cX5_rows 262 = .ok (.iload 8, 2) := by decide +kernel
theorem dX5_rows_264 : decode cX5_rows 264 = .ok (.istore 7, 2) := by decide +kernel
theorem dX5_rows_266 : decode cX5_rows 266 = .ok (.iload 9, 2) := by decide +kernel
theorem dX5_rows_268 : decode cX5_rows 268 = .ok (.istore 8, 2) := by decide +kernel
theorem dX5_rows_270 : decode cX5_rows 270 = .ok (.goto (-20), 3) := by decide +kernel
theorem dX5_rows_273 : decode cX5_rows 273 = .ok (.iload_n 3, 1) := by decide +kernel
theorem dX5_rows_274 : decode cX5_rows 274 = .ok (.ifCond .ne 11, 3) := by decide +kernel
theorem dX5_rows_277 : decode cX5_rows 277 = .ok (.iload 5, 2) := by decide +kernel
theorem dX5_rows_279 : decode cX5_rows 279 = .ok (.iload 7, 2) := by decide +kernel
theorem dX5_rows_281 : decode cX5_rows 281 = .ok (.idiv, 1) := by decide +kernel
theorem dX5_rows_282 : decode cX5_rows 282 = .ok (.goto 8, 3) := by decide +kernel
theorem dX5_rows_285 : decode cX5_rows 285 = .ok (.iload 6, 2) := by decide +kernel
theorem dX5_rows_287 : decode cX5_rows 287 = .ok (.iload 7, 2) := by decide +kernel
theorem dX5_rows_289 : decode cX5_rows 289 = .ok (.idiv, 1) := by decide +kernel
theorem dX5_rows_290 : decode cX5_rows 290 = .ok (.ireturn, 1) := by decide +kernel
theorem dX5_image_0 : decode cX5_image 0 = .ok (.iconst 0, 1) := by decide +kernel
theorem dX5_image_1 : decode cX5_image 1 = .ok (.istore_n 1, 1) := by decide +kernel
theorem dX5_image_2 : decode cX5_image 2 = .ok (.iload_n 1, 1) := by decide +kernel
theorem dX5_image_3 : decode cX5_image 3 = .ok (.bipush 32, 2) := by decide +kernel
theorem dX5_image_5 : decode cX5_image 5 = .ok (.if_icmp .ge 21, 3) := by decide +kernel
theorem dX5_image_8 : decode cX5_image 8 = .ok (.aload_n 0, 1) := by decide +kernel
theorem dX5_image_9 : decode cX5_image 9 = .ok (.getfield 19, 3) := by decide +kernel
theorem dX5_image_12 : decode cX5_image 12 = .ok (.iload_n 1, 1) := by decide +kernel
theorem dX5_image_13 : decode cX5_image 13 = .ok (.aload_n 0, 1) := by decide +kernel
theorem dX5_image_14 : decode cX5_image 14 = .ok (.getfield 7, 3) := by decide +kernel
theorem dX5_image_17 : decode cX5_image 17 = .ok (.iload_n 1, 1) := by decide +kernel
theorem dX5_image_18 : decode cX5_image 18 = .ok (.iaload, 1) := by decide +kernel
theorem dX5_image_19 : decode cX5_image 19 = .ok (.iastore, 1) := by decide +kernel
theorem dX5_image_20 : decode cX5_image 20 = .ok (.iinc 1 1, 3) := by decide +kernel
theorem dX5_image_23 : decode cX5_image 23 = .ok (.goto (-21), 3) := by decide +kernel
theorem dX5_image_26 : decode cX5_image 26 = .ok (.iconst 0, 1) := by decide +kernel
theorem dX5_image_27 : decode cX5_image 27 = .ok (.istore_n 1, 1) := by decide +kernel
theorem dX5_image_28 : decode cX5_image 28 = .ok (.iload_n 1, 1) := by decide +kernel
theorem dX5_image_29 : decode cX5_image 29 = .ok (.sipush 256, 3) := by decide +kernel
theorem dX5_image_32 : decode cX5_image 32 = .ok (.if_icmp .ge 21, 3) := by decide +kernel
theorem dX5_image_35 : decode cX5_image 35 = .ok (.aload_n 0, 1) := by decide +kernel
theorem dX5_image_36 : decode cX5_image 36 = .ok (.getfield 22, 3) := by decide +kernel
theorem dX5_image_39 : decode cX5_image 39 = .ok (.iload_n 1, 1) := by decide +kernel
theorem dX5_image_40 : decode cX5_image 40 = .ok (.aload_n 0, 1) := by decide +kernel
theorem dX5_image_41 : decode cX5_image 41 = .ok (.getfield 16, 3) := by decide +kernel
theorem dX5_image_44 : decode cX5_image 44 = .ok (.iload_n 1, 1) := by decide +kernel
theorem dX5_image_45 : decode cX5_image 45 = .ok (.iaload, 1) := by decide +kernel
theorem dX5_image_46 : decode cX5_image 46 = .ok (.iastore, 1) := by decide +kernel
theorem dX5_image_47 : decode cX5_image 47 = .ok (.iinc 1 1, 3) := by decide +kernel
theorem dX5_image_50 : decode cX5_image 50 = .ok (.goto (-22), 3) := by decide +kernel
theorem dX5_image_53 : decode cX5_image 53 = .ok (.aload_n 0, 1) := by decide +kernel
theorem dX5_image_54 : decode cX5_image 54 = .ok (.aload_n 0, 1) := by decide +kernel
theorem dX5_image_55 : decode cX5_image 55 = .ok (.getfield 75, 3) := by decide +kernel
theorem dX5_image_58 : decode cX5_image 58 = .ok (.putfield 152, 3) := by decide +kernel
theorem dX5_image_61 : decode cX5_image 61 = .ok (.aload_n 0, 1) := by decide +kernel
theorem dX5_image_62 : decode cX5_image 62 = .ok (.iconst 1, 1) := by decide +kernel
theorem dX5_image_63 : decode cX5_image 63 = .ok (.putfield 155, 3) := by decide +kernel
theorem dX5_image_66 : decode cX5_image 66 = .ok (.iconst 1, 1) := by decide +kernel
theorem dX5_image_67 : decode cX5_image 67 = .ok (.ireturn, 1) := by decide +kernel
theorem dX5_restore_0 : decode cX5_restore 0 = .ok (.aload_n 0, 1) := by decide +kernel
theorem dX5_restore_1 : decode cX5_restore 1 = .ok (.getfield 155, 3) := by decide +kernel
theorem dX5_restore_4 : decode cX5_restore 4 = .ok (.ifCond .ne 6, 3) := by decide +kernel
theorem dX5_restore_7 : decode cX5_restore 7 = .ok (.bipush (-4), 2) := by decide +kernel
theorem dX5_restore_9 : decode cX5_restore 9 = .ok (.ireturn, 1) := by decide +kernel
theorem dX5_restore_10 : decode cX5_restore 10 = .ok (.iconst 0, 1) := by decide +kernel
theorem dX5_restore_11 : decode cX5_restore 11 = .ok (.istore_n 1, 1) := by decide +kernel
theorem dX5_restore_12 : decode cX5_restore 12 = .ok (.iload_n 1, 1) := by decide +kernel
theorem dX5_restore_13 : decode cX5_restore 13 = .ok (.bipush 32, 2) := by decide +kernel
theorem dX5_restore_15 : decode cX5_restore 15 = .ok (.if_icmp .ge 21, 3) := by decide +kernel
theorem dX5_restore_18 : decode cX5_restore 18 = .ok (.aload_n 0, 1) := by decide +kernel
theorem dX5_restore_19 : decode cX5_restore 19 = .ok (.getfield 7, 3) := by decide +kernel
theorem dX5_restore_22 : decode cX5_restore 22 = .ok (.iload_n 1, 1) := by decide +kernel
theorem dX5_restore_23 : decode cX5_restore 23 = .ok (.aload_n 0, 1) := by decide +kernel
theorem dX5_restore_24 : decode cX5_restore 24 = .ok (.getfield 19, 3) := by decide +kernel
theorem dX5_restore_27 : decode cX5_restore 27 = .ok (.iload_n 1, 1) := by decide +kernel
theorem dX5_restore_28 : decode cX5_restore 28 = .ok (.iaload, 1) := by decide +kernel
theorem dX5_restore_29 : decode cX5_restore 29 = .ok (.iastore, 1) := by decide +kernel
theorem dX5_restore_30 : decode cX5_restore 30 = .ok (.iinc 1 1, 3) := by decide +kernel
theorem dX5_restore_33 : decode cX5_restore 33 = .ok (.goto (-21), 3) := by decide +kernel
theorem dX5_restore_36 : decode cX5_restore 36 = .ok (.iconst 0, 1) := by decide +kernel
theorem dX5_restore_37 : decode cX5_restore 37 = .ok (.istore_n 1, 1) := by decide +kernel
theorem dX5_restore_38 : decode cX5_restore 38 = .ok (.iload_n 1, 1) := by decide +kernel
theorem dX5_restore_39 : decode cX5_restore 39 = .ok (.sipush 256, 3) := by decide +kernel
theorem dX5_restore_42 : decode cX5_restore 42 = .ok (.if_icmp .ge 21, 3) := by decide +kernel
theorem dX5_restore_45 : decode cX5_restore 45 = .ok (.aload_n 0, 1) := by decide +kernel
theorem dX5_restore_46 : decode cX5_restore 46 = .ok (.getfield 16, 3) := by decide +kernel
theorem dX5_restore_49 : decode cX5_restore 49 = .ok (.iload_n 1, 1) := by decide +kernel
theorem dX5_restore_50 : decode cX5_restore 50 = .ok (.aload_n 0, 1) := by decide +kernel
theorem dX5_restore_51 : decode cX5_restore 51 = .ok (.getfield 22, 3) := by decide +kernel
theorem dX5_restore_54 : decode cX5_restore 54 = .ok (.iload_n 1, 1) := by decide +kernel
theorem dX5_restore_55 : decode cX5_restore 55 = .ok (.iaload, 1) := by decide +kernel
theorem dX5_restore_56 : decode cX5_restore 56 = .ok (.iastore, 1) := by decide +kernel
theorem dX5_restore_57 : decode cX5_restore 57 = .ok (.iinc 1 1, 3) := by decide +kernel
theorem dX5_restore_60 : decode cX5_restore 60 = .ok (.goto (-22), 3) := by decide +kernel
theorem dX5_restore_63 : decode cX5_restore 63 = .ok (.aload_n 0, 1) := by decide +kernel
theorem dX5_restore_64 : decode cX5_restore 64 = .ok (.aload_n 0, 1) := by decide +kernel
theorem dX5_restore_65 : decode cX5_restore 65 = .ok (.getfield 152, 3) := by decide +kernel
theorem dX5_restore_68 : decode cX5_restore 68 = .ok (.putfield 75, 3) := by decide +kernel
theorem dX5_restore_71 : decode cX5_restore 71 = .ok (.iconst 1, 1) := by decide +kernel
theorem dX5_restore_72 : decode cX5_restore 72 = .ok (.ireturn, 1) := by decide +kernel
theorem dX5_isSheet_0 : decode cX5_isSheet 0 = .ok (.iload_n 0, 1) := by decide +kernel
theorem dX5_isSheet_1 : decode cX5_isSheet 1 = .ok (.iconst 0, 1) := by decide +kernel
theorem dX5_isSheet_2 : decode cX5_isSheet 2 = .ok (.iconst 3, 1) := by decide +kernel
theorem dX5_isSheet_3 : decode cX5_isSheet 3 = .ok (.invokestatic 45, 3) := by decide +kernel
theorem dX5_isSheet_6 : decode cX5_isSheet 6 = .ok (.ireturn, 1) := by decide +kernel
theorem dX5_findOf_0 : decode cX5_findOf 0 = .ok (.aload_n 0, 1) := by decide +kernel
theorem dX5_findOf_1 : decode cX5_findOf 1 = .ok (.getfield 32, 3) := by decide +kernel
theorem dX5_findOf_4 : decode cX5_findOf 4 = .ok (.iload_n 1, 1) := by decide +kernel
theorem dX5_findOf_5 : decode cX5_findOf 5 = .ok (.iaload, 1) := by decide +kernel
theorem dX5_findOf_6 : decode cX5_findOf 6 = .ok (.ifCond .ne 6, 3) := by decide +kernel
theorem dX5_findOf_9 : decode cX5_findOf 9 = .ok (.bipush (-11), 2) := by decide +kernel
theorem dX5_findOf_11 : decode cX5_findOf 11 = .ok (.ireturn, 1) := by decide +kernel
theorem dX5_findOf_12 : decode cX5_findOf 12 = .ok (.aload_n 0, 1) := by decide +kernel
theorem dX5_findOf_13 : decode cX5_findOf 13 = .ok (.getfield 32, 3) := by decide +kernel
theorem dX5_findOf_16 : decode cX5_findOf 16 = .ok (.iload_n 1, 1) := by decide +kernel
theorem dX5_findOf_17 : decode cX5_findOf 17 = .ok (.iaload, 1) := by decide +kernel
theorem dX5_findOf_18 : decode cX5_findOf 18 = .ok (.iload_n 2, 1) := by decide +kernel
theorem dX5_findOf_19 : decode cX5_findOf 19 = .ok (.iconst 1, 1) := by decide +kernel
theorem dX5_findOf_20 : decode cX5_findOf 20 = .ok (.iadd, 1) := by decide +kernel
theorem dX5_findOf_21 : decode cX5_findOf 21 = .ok (.if_icmp .eq 6, 3) := by decide +kernel
theorem dX5_findOf_24 : decode cX5_findOf 24 = .ok (.bipush (-12), 2) := by decide +kernel
theorem dX5_findOf_26 : decode cX5_findOf 26 = .ok (.ireturn, 1) := by decide +kernel
theorem dX5_findOf_27 : decode cX5_findOf 27 = .ok (.iload_n 3, 1) := by decide +kernel
theorem dX5_findOf_28 : decode cX5_findOf 28 = .ok (.ifCond .lt 21, 3) := by decide +kernel
theorem dX5_findOf_31 : decode cX5_findOf 31 = .ok (.iload 4, 2) := by decide +kernel
theorem dX5_findOf_33 : decode cX5_findOf 33 = .ok (.ifCond .lt 16, 3) := by decide +kernel
theorem dX5_findOf_36 : decode cX5_findOf 36 = .ok (.iload_n 3, 1) := by decide +kernel
theorem dX5_findOf_37 : decode cX5_findOf 37 = .ok (.aload_n 0, 1) := by decide +kernel
theorem dX5_findOf_38 : decode cX5_findOf 38 = .ok (.getfield 35, 3) := by decide +kernel
theorem dX5_findOf_41 : decode cX5_findOf 41 = .ok (.iload_n 1, 1) := by decide +kernel
theorem dX5_findOf_42 : decode cX5_findOf 42 = .ok (.iaload, 1) := by decide +kernel
theorem dX5_findOf_43 : decode cX5_findOf 43 = .ok (.iload 4, 2) := by decide +kernel
theorem dX5_findOf_45 : decode cX5_findOf 45 = .ok (.isub, 1) := by decide +kernel
theorem dX5_findOf_46 : decode cX5_findOf 46 = .ok (.if_icmp .le 8, 3) := by decide +kernel
theorem dX5_findOf_49 : decode cX5_findOf 49 = .ok (.bipush (-13), 2) := by decide +kernel
theorem dX5_findOf_51 : decode cX5_findOf 51 = .ok (.goto 4, 3) := by decide +kernel
theorem dX5_findOf_54 : decode cX5_findOf 54 = .ok (.iconst 0, 1) := by decide +kernel
theorem dX5_findOf_55 : decode cX5_findOf 55 = .ok (.ireturn, 1) := by decide +kernel
theorem dX5_lowest_0 : decode cX5_lowest 0 = .ok (.iload_n 0, 1) := by decide +kernel
theorem dX5_lowest_1 : decode cX5_lowest 1 = .ok (.ifCond .ne 10, 3) := by decide +kernel
theorem dX5_lowest_4 : decode cX5_lowest 4 = .ok (.lload_n 1, 1) := by decide +kernel
theorem dX5_lowest_5 : decode cX5_lowest 5 = .ok (.l2i, 1) := by decide +kernel
theorem dX5_lowest_6 : decode cX5_lowest 6 = .ok (.i2b, 1) := by decide +kernel
theorem dX5_lowest_7 : decode cX5_lowest 7 = .ok (.i2l, 1) := by decide +kernel
theorem dX5_lowest_8 : decode cX5_lowest 8 = .ok (.goto 27, 3) := by decide +kernel
theorem dX5_lowest_11 : decode cX5_lowest 11 = .ok (.iload_n 0, 1) := by decide +kernel
theorem dX5_lowest_12 : decode cX5_lowest 12 = .ok (.iconst 1, 1) := by decide +kernel
theorem dX5_lowest_13 : decode cX5_lowest 13 = .ok (.if_icmp .ne 10, 3) := by decide +kernel
theorem dX5_lowest_16 : decode cX5_lowest 16 = .ok (.lload_n 1, 1) := by decide +kernel
theorem dX5_lowest_17 : decode cX5_lowest 17 = .ok (.l2i, 1) := by decide +kernel
theorem dX5_lowest_18 : decode cX5_lowest 18 = .ok (.i2s, 1) := by decide +kernel
theorem dX5_lowest_19 : decode cX5_lowest 19 = .ok (.i2l, 1) := by decide +kernel
theorem dX5_lowest_20 : decode cX5_lowest 20 = .ok (.goto 15, 3) := by decide +kernel
theorem dX5_lowest_23 : decode cX5_lowest 23 = .ok (.iload_n 0, 1) := by decide +kernel
theorem dX5_lowest_24 : decode cX5_lowest 24 = .ok (.iconst 2, 1) := by decide +kernel
theorem dX5_lowest_25 : decode cX5_lowest 25 = .ok (.if_icmp .ne 9, 3) := by decide +kernel
theorem dX5_lowest_28 : decode cX5_lowest 28 = .ok (.lload_n 1, 1) := by decide +kernel
theorem dX5_lowest_29 : decode cX5_lowest 29 = .ok (.l2i, 1) := by decide +kernel
theorem dX5_lowest_30 : decode cX5_lowest 30 = .ok (.i2l, 1) := by decide +kernel
theorem dX5_lowest_31 : decode cX5_lowest 31 = .ok (.goto 4, 3) := by decide +kernel
theorem dX5_lowest_34 : decode cX5_lowest 34 = .ok (.lload_n 1, 1) := by decide +kernel
theorem dX5_lowest_35 : decode cX5_lowest 35 = .ok (.lreturn, 1) := by decide +kernel
theorem dX5_isHeard_0 : decode cX5_isHeard 0 = .ok (.iconst 1, 1) := by decide +kernel
theorem dX5_isHeard_1 : decode cX5_isHeard 1 = .ok (.istore 5, 2) := by decide +kernel
theorem dX5_isHeard_3 : decode cX5_isHeard 3 = .ok (.iconst 0, 1) := by decide +kernel
theorem dX5_isHeard_4 : decode cX5_isHeard 4 = .ok (.istore 6, 2) := by decide +kernel
theorem dX5_isHeard_6 : decode cX5_isHeard 6 = .ok (.iload 6, 2) := by decide +kernel
theorem dX5_isHeard_8 : decode cX5_isHeard 8 = .ok (.iload 4, 2) := by decide +kernel
theorem dX5_isHeard_10 : decode cX5_isHeard 10 = .ok (.if_icmp .ge 57, 3) := by decide +kernel
theorem dX5_isHeard_13 : decode cX5_isHeard 13 = .ok (.iload 5, 2) := by decide +kernel
theorem dX5_isHeard_15 : decode cX5_isHeard 15 = .ok (.ifCond .eq 52, 3) := by decide +kernel
theorem dX5_isHeard_18 : decode cX5_isHeard 18 = .ok (.aload_n 0, 1) := by decide +kernel
theorem dX5_isHeard_19 : decode cX5_isHeard 19 = .ok (.aload_n 0, 1) := by decide +kernel
theorem dX5_isHeard_20 : decode cX5_isHeard 20 = .ok (.getfield 13, 3) := by decide +kernel
theorem dX5_isHeard_23 : decode cX5_isHeard 23 = .ok (.invokevirtual 120, 3) := by decide +kernel
theorem dX5_isHeard_26 : decode cX5_isHeard 26 = .ok (.aload_n 0, 1) := by decide +kernel
theorem dX5_isHeard_27 : decode cX5_isHeard 27 = .ok (.getfield 38, 3) := by decide +kernel
theorem dX5_isHeard_30 : decode cX5_isHeard 30 = .ok (.bipush 24, 2) := by decide +kernel
theorem dX5_isHeard_32 : decode cX5_isHeard 32 = .ok (.iload_n 2, 1) := by decide +kernel
theorem dX5_isHeard_33 : decode cX5_isHeard 33 = .ok (.imul, 1) := by decide +kernel
theorem dX5_isHeard_34 : decode cX5_isHeard 34 = .ok (.iload_n 3, 1) := by decide +kernel
theorem dX5_isHeard_35 : decode cX5_isHeard 35 = .ok (.iadd, 1) := by decide +kernel
theorem dX5_isHeard_36 : decode cX5_isHeard 36 = .ok (.iload 6, 2) := by decide +kernel
theorem dX5_isHeard_38 : decode cX5_isHeard 38 = .ok (.iadd, 1) := by decide +kernel
theorem dX5_isHeard_39 : decode cX5_isHeard 39 = .ok (.laload, 1) := by decide +kernel
theorem dX5_isHeard_40 : decode cX5_isHeard 40 = .ok (.aload_n 0, 1) := by decide +kernel
theorem dX5_isHeard_41 : decode cX5_isHeard 41 = .ok (.getfield 13, 3) := by decide +kernel
theorem dX5_isHeard_44 : decode cX5_isHeard 44 = .ok (.bipush 25, 2) := by decide +kernel
theorem dX5_isHeard_46 : decode cX5_isHeard 46 = .ok (.iload_n 1, 1) := by decide +kernel
theorem dX5_isHeard_47 : decode cX5_isHeard 47 = .ok (.iadd, 1) := by decide +kernel
theorem dX5_isHeard_48 : decode cX5_isHeard 48 = .ok (.iaload, 1) := by decide +kernel
theorem dX5_isHeard_49 : decode cX5_isHeard 49 = .ok (.i2l, 1) := by decide +kernel
theorem dX5_isHeard_50 : decode cX5_isHeard 50 = .ok (.lcmp, 1) := by decide +kernel
theorem dX5_isHeard_51 : decode cX5_isHeard 51 = .ok (.ifCond .ne 7, 3) := by decide +kernel
theorem dX5_isHeard_54 : decode cX5_isHeard 54 = .ok (.iconst 1, 1) := by decide +kernel
theorem dX5_isHeard_55 : decode cX5_isHeard 55 = .ok (.goto 4, 3) := by decide +kernel
theorem dX5_isHeard_58 : decode cX5_isHeard 58 = .ok (.iconst 0, 1) := by decide +kernel
theorem dX5_isHeard_59 : decode cX5_isHeard 59 = .ok (.istore 5, 2) := by decide +kernel
theorem dX5_isHeard_61 : decode cX5_isHeard 61 = .ok (.iinc 6 1, 3) := by decide +kernel
theorem dX5_isHeard_64 : decode cX5_isHeard 64 = .ok (.goto (-58), 3) := by decide +kernel
theorem dX5_isHeard_67 : decode cX5_isHeard 67 = .ok (.iload 5, 2) := by decide +kernel
theorem dX5_isHeard_69 : decode cX5_isHeard 69 = .ok (.ireturn, 1) := by decide +kernel
theorem dX5_heard_0 : decode cX5_heard 0 = .ok (.aload_n 0, 1) := by decide +kernel
theorem dX5_heard_1 : decode cX5_heard 1 = .ok (.iload_n 1, 1) := by decide +kernel
theorem dX5_heard_2 : decode cX5_heard 2 = .ok (.invokevirtual 79, 3) := by decide +kernel
theorem dX5_heard_5 : decode cX5_heard 5 = .ok (.ifCond .eq 40, 3) := by decide +kernel
theorem dX5_heard_8 : decode cX5_heard 8 = .ok (.iload_n 2, 1) := by decide +kernel
theorem dX5_heard_9 : decode cX5_heard 9 = .ok (.invokestatic 158, 3) := by decide +kernel
theorem dX5_heard_12 : decode cX5_heard 12 = .ok (.ifCond .eq 33, 3) := by decide +kernel
theorem dX5_heard_15 : decode cX5_heard 15 = .ok (.iload_n 3, 1) := by decide +kernel
theorem dX5_heard_16 : decode cX5_heard 16 = .ok (.iconst 0, 1) := by decide +kernel
theorem dX5_heard_17 : decode cX5_heard 17 = .ok (.iconst 3, 1) := by decide +kernel
theorem dX5_heard_18 : decode cX5_heard 18 = .ok (.invokestatic 45, 3) := by decide +kernel
theorem dX5_heard_21 : decode cX5_heard 21 = .ok (.ifCond .eq 24, 3) := by decide +kernel
theorem dX5_heard_24 : decode cX5_heard 24 = .ok (.iload 5, 2) := by decide +kernel
theorem dX5_heard_26 : decode cX5_heard 26 = .ok (.iconst 1, 1) := by decide +kernel
theorem dX5_heard_27 : decode cX5_heard 27 = .ok (.bipush 8, 2) := by decide +kernel
theorem dX5_heard_29 : decode cX5_heard 29 = .ok (.invokestatic 45, 3) := by decide +kernel
theorem dX5_heard_32 : decode cX5_heard 32 = .ok (.ifCond .eq 13, 3) := by decide +kernel
theorem dX5_heard_35 : decode cX5_heard 35 = .ok (.iload 6, 2) := by decide +kernel
theorem dX5_heard_37 : decode cX5_heard 37 = .ok (.iconst 0, 1) := by decide +kernel
theorem dX5_heard_38 : decode cX5_heard 38 = .ok (.iconst 3, 1) := by decide +kernel
theorem dX5_heard_39 : decode cX5_heard 39 = .ok (.invokestatic 45, 3) := by decide +kernel
theorem dX5_heard_42 : decode cX5_heard 42 = .ok (.ifCond .ne 5, 3) := by decide +kernel
theorem dX5_heard_45 : decode cX5_heard 45 = .ok (.iconst (-1), 1) := by decide +kernel
theorem dX5_heard_46 : decode cX5_heard 46 = .ok (.ireturn, 1) := by decide +kernel
theorem dX5_heard_47 : decode cX5_heard 47 = .ok (.aload_n 0, 1) := by decide +kernel
theorem dX5_heard_48 : decode cX5_heard 48 = .ok (.iload_n 2, 1) := by decide +kernel
theorem dX5_heard_49 : decode cX5_heard 49 = .ok (.iload_n 3, 1) := by decide +kernel
theorem dX5_heard_50 : decode cX5_heard 50 = .ok (.iload 4, 2) := by decide +kernel
theorem dX5_heard_52 : decode cX5_heard 52 = .ok (.iload 5, 2) := by decide +kernel
theorem dX5_heard_54 : decode cX5_heard 54 = .ok (.invokevirtual 161, 3) := by decide +kernel
theorem dX5_heard_57 : decode cX5_heard 57 = .ok (.istore 7, 2) := by decide +kernel
theorem dX5_heard_59 : decode cX5_heard 59 = .ok (.iload 7, 2) := by decide +kernel
theorem dX5_heard_61 : decode cX5_heard 61 = .ok (.ifCond .eq 6, 3) := by decide +kernel
theorem dX5_heard_64 : decode cX5_heard 64 = .ok (.iload 7, 2) := by decide +kernel
theorem dX5_heard_66 : decode cX5_heard 66 = .ok (.ireturn, 1) := by decide +kernel
theorem dX5_heard_67 : decode cX5_heard 67 = .ok (.iconst 0, 1) := by decide +kernel
theorem dX5_heard_68 : decode cX5_heard 68 = .ok (.istore 8, 2) := by decide +kernel
theorem dX5_heard_70 : decode cX5_heard 70 = .ok (.iconst 0, 1) := by decide +kernel
theorem dX5_heard_71 : decode cX5_heard 71 = .ok (.istore 9, 2) := by decide +kernel
theorem dX5_heard_73 : decode cX5_heard 73 = .ok (.bipush (-4), 2) := by decide +kernel
theorem dX5_heard_75 : decode cX5_heard 75 = .ok (.istore 10, 2) := by decide +kernel
theorem dX5_heard_77 : decode cX5_heard 77 = .ok (.iload 6, 2) := by decide +kernel
theorem dX5_heard_79 : decode cX5_heard 79 = .ok (.ifCond .ne 7, 3) := by decide +kernel
theorem dX5_heard_82 : decode cX5_heard 82 = .ok (.iconst 4, 1) := by decide +kernel
theorem dX5_heard_83 : decode cX5_heard 83 = .ok (.goto 16, 3) := by decide +kernel
theorem dX5_heard_86 : decode cX5_heard 86 = .ok (.iload 6, 2) := by decide +kernel
theorem dX5_heard_88 : decode cX5_heard 88 = .ok (.iconst 1, 1) := by decide +kernel
theorem dX5_heard_89 : decode cX5_heard 89 = .ok (.if_icmp .ne 8, 3) := by decide +kernel
theorem dX5_heard_92 : decode cX5_heard 92 = .ok (.bipush 19, 2) := by decide +kernel
theorem dX5_heard_94 : decode cX5_heard 94 = .ok (.goto 5, 3) := by decide +kernel
theorem dX5_heard_97 : decode cX5_heard 97 = .ok (.bipush 80, 2) := by decide +kernel
theorem dX5_heard_99 : decode cX5_heard 99 = .ok (.istore 11, 2) := by decide +kernel
theorem dX5_heard_101 : decode cX5_heard 101 = .ok (.iload 11, 2) := by decide +kernel
theorem dX5_heard_103 : decode cX5_heard 103 = .ok (.istore 12, 2) := by decide +kernel
theorem dX5_heard_105 : decode cX5_heard 105 = .ok (.iload 12, 2) := by decide +kernel
theorem dX5_heard_107 : decode cX5_heard 107 = .ok (.ifCond .lt 83, 3) := by decide +kernel
theorem dX5_heard_110 : decode cX5_heard 110 = .ok (.aload_n 0, 1) := by decide +kernel
theorem dX5_heard_111 : decode cX5_heard 111 = .ok (.invokevirtual 142, 3) := by decide +kernel
theorem dX5_heard_114 : decode cX5_heard 114 = .ok (.aload_n 0, 1) := by decide +kernel
theorem dX5_heard_115 : decode cX5_heard 115 = .ok (.getfield 13, 3) := by decide +kernel
theorem dX5_heard_118 : decode cX5_heard 118 = .ok (.iload 6, 2) := by decide +kernel
theorem dX5_heard_120 : decode cX5_heard 120 = .ok (.ifCond .ne 7, 3) := by decide +kernel
theorem dX5_heard_123 : decode cX5_heard 123 = .ok (.iconst 4, 1) := by decide +kernel
theorem dX5_heard_124 : decode cX5_heard 124 = .ok (.goto 16, 3) := by decide +kernel
theorem dX5_heard_127 : decode cX5_heard 127 = .ok (.iload 6, 2) := by decide +kernel
theorem dX5_heard_129 : decode cX5_heard 129 = .ok (.iconst 1, 1) := by decide +kernel
theorem dX5_heard_130 : decode cX5_heard 130 = .ok (.if_icmp .ne 8, 3) := by decide +kernel
theorem dX5_heard_133 : decode cX5_heard 133 = .ok (.bipush 25, 2) := by decide +kernel
theorem dX5_heard_135 : decode cX5_heard 135 = .ok (.goto 5, 3) := by decide +kernel
theorem dX5_heard_138 : decode cX5_heard 138 = .ok (.bipush 11, 2) := by decide +kernel
theorem dX5_heard_140 : decode cX5_heard 140 = .ok (.iload_n 1, 1) := by decide +kernel
theorem dX5_heard_141 : decode cX5_heard 141 = .ok (.iadd, 1) := by decide +kernel
theorem dX5_heard_142 : decode cX5_heard 142 = .ok (.iload 12, 2) := by decide +kernel
theorem dX5_heard_144 : decode cX5_heard 144 = .ok (.iastore, 1) := by decide +kernel
theorem dX5_heard_145 : decode cX5_heard 145 = .ok (.aload_n 0, 1) := by decide +kernel
theorem dX5_heard_146 : decode cX5_heard 146 = .ok (.iload_n 1, 1) := by decide +kernel
theorem dX5_heard_147 : decode cX5_heard 147 = .ok (.iload_n 2, 1) := by decide +kernel
theorem dX5_heard_148 : decode cX5_heard 148 = .ok (.iload 4, 2) := by decide +kernel
theorem dX5_heard_150 : decode cX5_heard 150 = .ok (.iload 5, 2) := by decide +kernel
theorem dX5_heard_152 : decode cX5_heard 152 = .ok (.invokevirtual 165, 3) := by decide +kernel
theorem dX5_heard_155 : decode cX5_heard 155 = .ok (.ifCond .eq 29, 3) := by decide +kernel
theorem dX5_heard_158 : decode cX5_heard 158 = .ok (.iload 8, 2) := by decide +kernel
theorem dX5_heard_160 : decode cX5_heard 160 = .ok (.iload 6, 2) := by decide +kernel
theorem dX5_heard_162 : decode cX5_heard 162 = .ok (.iconst 2, 1) := by decide +kernel
theorem dX5_heard_163 : decode cX5_heard 163 = .ok (.if_icmp .ge 10, 3) := by decide +kernel
theorem dX5_heard_166 : decode cX5_heard 166 = .ok (.iconst 1, 1) := by decide +kernel
theorem dX5_heard_167 : decode cX5_heard 167 = .ok (.iload 12, 2) := by decide +kernel
theorem dX5_heard_169 : decode cX5_heard 169 = .ok (.ishl, 1) := by decide +kernel
theorem dX5_heard_170 : decode cX5_heard 170 = .ok (.goto 4, 3) := by decide +kernel
theorem dX5_heard_173 : decode cX5_heard 173 = .ok (.iconst 0, 1) := by decide +kernel
theorem dX5_heard_174 : decode cX5_heard 174 = .ok (.ior, 1) := by decide +kernel
theorem dX5_heard_175 : decode cX5_heard 175 = .ok (.istore 8, 2) := by decide +kernel
theorem dX5_heard_177 : decode cX5_heard 177 = .ok (.iinc 9 1, 3) := by decide +kernel
theorem dX5_heard_180 : decode cX5_heard 180 = .ok (.iload 12, 2) := by decide +kernel
theorem dX5_heard_182 : decode cX5_heard 182 = .ok (.istore 10, 2) := by decide +kernel
theorem dX5_heard_184 : decode cX5_heard 184 = .ok (.iinc 12 (-1), 3) := by decide +kernel
theorem dX5_heard_187 : decode cX5_heard 187 = .ok (.goto (-82), 3) := by decide +kernel
theorem dX5_heard_190 : decode cX5_heard 190 = .ok (.iload 6, 2) := by decide +kernel
theorem dX5_heard_192 : decode cX5_heard 192 = .ok (.iconst 2, 1) := by decide +kernel
theorem dX5_heard_193 : decode cX5_heard 193 = .ok (.if_icmp .ge 8, 3) := by decide +kernel
theorem dX5_heard_196 : decode cX5_heard 196 = .ok (.iload 8, 2) := by decide +kernel
theorem dX5_heard_198 : decode cX5_heard 198 = .ok (.goto 16, 3) := by decide +kernel
theorem dX5_heard_201 : decode cX5_heard 201 = .ok (.iload 6, 2) := by decide +kernel
theorem dX5_heard_203 : decode cX5_heard 203 = .ok (.iconst 2, 1) := by decide +kernel
theorem dX5_heard_204 : decode cX5_heard 204 = .ok (.if_icmp .ne 8, 3) := by decide +kernel
theorem dX5_heard_207 : decode cX5_heard 207 = .ok (.iload 9, 2) := by decide +kernel
theorem dX5_heard_209 : decode cX5_heard 209 = .ok (.goto 5, 3) := by decide +kernel
theorem dX5_heard_212 : decode cX5_heard 212 = .ok (.iload 10, 2) := by decide +kernel
theorem dX5_heard_214 : decode cX5_heard 214 = .ok (.ireturn, 1) := by decide +kernel
theorem dX5_film_0 : decode cX5_film 0 = .ok (.aload_n 0, 1) := by decide +kernel
theorem dX5_film_1 : decode cX5_film 1 = .ok (.iload_n 1, 1) := by decide +kernel
theorem dX5_film_2 : decode cX5_film 2 = .ok (.invokevirtual 79, 3) := by decide +kernel
theorem dX5_film_5 : decode cX5_film 5 = .ok (.ifCond .eq 30, 3) := by decide +kernel
theorem dX5_film_8 : decode cX5_film 8 = .ok (.iload_n 2, 1) := by decide +kernel
theorem dX5_film_9 : decode cX5_film 9 = .ok (.iconst 1, 1) := by decide +kernel
theorem dX5_film_10 : decode cX5_film 10 = .ok (.bipush 24, 2) := by decide +kernel
theorem dX5_film_12 : decode cX5_film 12 = .ok (.invokestatic 45, 3) := by decide +kernel
theorem dX5_film_15 : decode cX5_film 15 = .ok (.ifCond .eq 20, 3) := by decide +kernel
theorem dX5_film_18 : decode cX5_film 18 = .ok (.iload_n 3, 1) := by decide +kernel
theorem dX5_film_19 : decode cX5_film 19 = .ok (.invokestatic 158, 3) := by decide +kernel
theorem dX5_film_22 : decode cX5_film 22 = .ok (.ifCond .eq 13, 3) := by decide +kernel
theorem dX5_film_25 : decode cX5_film 25 = .ok (.iload 4, 2) := by decide +kernel
theorem dX5_film_27 : decode cX5_film 27 = .ok (.iconst 0, 1) := by decide +kernel
theorem dX5_film_28 : decode cX5_film 28 = .ok (.iconst 3, 1) := by decide +kernel
theorem dX5_film_29 : decode cX5_film 29 = .ok (.invokestatic 45, 3) := by decide +kernel
theorem dX5_film_32 : decode cX5_film 32 = .ok (.ifCond .ne 5, 3) := by decide +kernel
theorem dX5_film_35 : decode cX5_film 35 = .ok (.iconst (-1), 1) := by decide +kernel
theorem dX5_film_36 : decode cX5_film 36 = .ok (.ireturn, 1) := by decide +kernel
theorem dX5_film_37 : decode cX5_film 37 = .ok (.aload_n 0, 1) := by decide +kernel
theorem dX5_film_38 : decode cX5_film 38 = .ok (.iload_n 3, 1) := by decide +kernel
theorem dX5_film_39 : decode cX5_film 39 = .ok (.iload 4, 2) := by decide +kernel
theorem dX5_film_41 : decode cX5_film 41 = .ok (.iload 5, 2) := by decide +kernel
theorem dX5_film_43 : decode cX5_film 43 = .ok (.iload_n 2, 1) := by decide +kernel
theorem dX5_film_44 : decode cX5_film 44 = .ok (.invokevirtual 161, 3) := by decide +kernel
theorem dX5_film_47 : decode cX5_film 47 = .ok (.istore 6, 2) := by decide +kernel
theorem dX5_film_49 : decode cX5_film 49 = .ok (.iload 6, 2) := by decide +kernel
theorem dX5_film_51 : decode cX5_film 51 = .ok (.ifCond .eq 6, 3) := by decide +kernel
theorem dX5_film_54 : decode cX5_film 54 = .ok (.iload 6, 2) := by decide +kernel
theorem dX5_film_56 : decode cX5_film 56 = .ok (.ireturn, 1) := by decide +kernel
theorem dX5_film_57 : decode cX5_film 57 = .ok (.aload_n 0, 1) := by decide +kernel
theorem dX5_film_58 : decode cX5_film 58 = .ok (.invokevirtual 142, 3) := by decide +kernel
theorem dX5_film_61 : decode cX5_film 61 = .ok (.iconst 0, 1) := by decide +kernel
theorem dX5_film_62 : decode cX5_film 62 = .ok (.istore 7, 2) := by decide +kernel
theorem dX5_film_64 : decode cX5_film 64 = .ok (.iload 7, 2) := by decide +kernel
theorem dX5_film_66 : decode cX5_film 66 = .ok (.iload_n 2, 1) := by decide +kernel
theorem dX5_film_67 : decode cX5_film 67 = .ok (.if_icmp .ge 42, 3) := by decide +kernel
theorem dX5_film_70 : decode cX5_film 70 = .ok (.aload_n 0, 1) := by decide +kernel
theorem dX5_film_71 : decode cX5_film 71 = .ok (.aload_n 0, 1) := by decide +kernel
theorem dX5_film_72 : decode cX5_film 72 = .ok (.getfield 13, 3) := by decide +kernel
theorem dX5_film_75 : decode cX5_film 75 = .ok (.invokevirtual 120, 3) := by decide +kernel
theorem dX5_film_78 : decode cX5_film 78 = .ok (.aload_n 0, 1) := by decide +kernel
theorem dX5_film_79 : decode cX5_film 79 = .ok (.getfield 38, 3) := by decide +kernel
theorem dX5_film_82 : decode cX5_film 82 = .ok (.bipush 24, 2) := by decide +kernel
theorem dX5_film_84 : decode cX5_film 84 = .ok (.iload_n 3, 1) := by decide +kernel
theorem dX5_film_85 : decode cX5_film 85 = .ok (.imul, 1) := by decide +kernel
theorem dX5_film_86 : decode cX5_film 86 = .ok (.iload 5, 2) := by decide +kernel
theorem dX5_film_88 : decode cX5_film 88 = .ok (.iadd, 1) := by decide +kernel
theorem dX5_film_89 : decode cX5_film 89 = .ok (.iload 7, 2) := by decide +kernel
theorem dX5_film_91 : decode cX5_film 91 = .ok (.iadd, 1) := by decide +kernel
theorem dX5_film_92 : decode cX5_film 92 = .ok (.aload_n 0, 1) := by decide +kernel
theorem dX5_film_93 : decode cX5_film 93 = .ok (.getfield 13, 3) := by decide +kernel
theorem dX5_film_96 : decode cX5_film 96 = .ok (.bipush 25, 2) := by decide +kernel
theorem dX5_film_98 : decode cX5_film 98 = .ok (.iload_n 1, 1) := by decide +kernel
theorem dX5_film_99 : decode cX5_film 99 = .ok (.iadd, 1) := by decide +kernel
theorem dX5_film_100 : decode cX5_film 100 = .ok (.iaload, 1) := by decide +kernel
theorem dX5_film_101 : decode cX5_film 101 = .ok (.i2l, 1) := by decide +kernel
theorem dX5_film_102 : decode cX5_film 102 = .ok (.lastore, 1) := by decide +kernel
theorem dX5_film_103 : decode cX5_film 103 = .ok (.iinc 7 1, 3) := by decide +kernel
theorem dX5_film_106 : decode cX5_film 106 = .ok (.goto (-42), 3) := by decide +kernel
theorem dX5_film_109 : decode cX5_film 109 = .ok (.iload_n 2, 1) := by decide +kernel
theorem dX5_film_110 : decode cX5_film 110 = .ok (.ireturn, 1) := by decide +kernel
theorem dX5_sheet_0 : decode cX5_sheet 0 = .ok (.iload_n 1, 1) := by decide +kernel
theorem dX5_sheet_1 : decode cX5_sheet 1 = .ok (.invokestatic 158, 3) := by decide +kernel
theorem dX5_sheet_4 : decode cX5_sheet 4 = .ok (.ifCond .eq 18, 3) := by decide +kernel
theorem dX5_sheet_7 : decode cX5_sheet 7 = .ok (.iload_n 2, 1) := by decide +kernel
theorem dX5_sheet_8 : decode cX5_sheet 8 = .ok (.iconst 0, 1) := by decide +kernel
theorem dX5_sheet_9 : decode cX5_sheet 9 = .ok (.iconst 3, 1) := by decide +kernel
theorem dX5_sheet_10 : decode cX5_sheet 10 = .ok (.invokestatic 45, 3) := by decide +kernel
theorem dX5_sheet_13 : decode cX5_sheet 13 = .ok (.ifCond .eq 9, 3) := by decide +kernel
theorem dX5_sheet_16 : decode cX5_sheet 16 = .ok (.iload_n 3, 1) := by decide +kernel
theorem dX5_sheet_17 : decode cX5_sheet 17 = .ok (.bipush 24, 2) := by decide +kernel
theorem dX5_sheet_19 : decode cX5_sheet 19 = .ok (.if_icmp .le 5, 3) := by decide +kernel
theorem dX5_sheet_22 : decode cX5_sheet 22 = .ok (.iconst (-1), 1) := by decide +kernel
theorem dX5_sheet_23 : decode cX5_sheet 23 = .ok (.ireturn, 1) := by decide +kernel
theorem dX5_sheet_24 : decode cX5_sheet 24 = .ok (.iload_n 3, 1) := by decide +kernel
theorem dX5_sheet_25 : decode cX5_sheet 25 = .ok (.ifCond .ge 6, 3) := by decide +kernel
theorem dX5_sheet_28 : decode cX5_sheet 28 = .ok (.bipush (-14), 2) := by decide +kernel
theorem dX5_sheet_30 : decode cX5_sheet 30 = .ok (.ireturn, 1) := by decide +kernel
theorem dX5_sheet_31 : decode cX5_sheet 31 = .ok (.aload_n 0, 1) := by decide +kernel
theorem dX5_sheet_32 : decode cX5_sheet 32 = .ok (.getfield 32, 3) := by decide +kernel
theorem dX5_sheet_35 : decode cX5_sheet 35 = .ok (.iload_n 1, 1) := by decide +kernel
theorem dX5_sheet_36 : decode cX5_sheet 36 = .ok (.iload_n 2, 1) := by decide +kernel
theorem dX5_sheet_37 : decode cX5_sheet 37 = .ok (.iconst 1, 1) := by decide +kernel
theorem dX5_sheet_38 : decode cX5_sheet 38 = .ok (.iadd, 1) := by decide +kernel
theorem dX5_sheet_39 : decode cX5_sheet 39 = .ok (.iastore, 1) := by decide +kernel
theorem dX5_sheet_40 : decode cX5_sheet 40 = .ok (.aload_n 0, 1) := by decide +kernel
theorem dX5_sheet_41 : decode cX5_sheet 41 = .ok (.getfield 35, 3) := by decide +kernel
theorem dX5_sheet_44 : decode cX5_sheet 44 = .ok (.iload_n 1, 1) := by decide +kernel
theorem dX5_sheet_45 : decode cX5_sheet 45 = .ok (.iload_n 3, 1) := by decide +kernel
theorem dX5_sheet_46 : decode cX5_sheet 46 = .ok (.iastore, 1) := by decide +kernel
theorem dX5_sheet_47 : decode cX5_sheet 47 = .ok (.iconst 0, 1) := by decide +kernel
theorem dX5_sheet_48 : decode cX5_sheet 48 = .ok (.istore 4, 2) := by decide +kernel
theorem dX5_sheet_50 : decode cX5_sheet 50 = .ok (.iload 4, 2) := by decide +kernel
theorem dX5_sheet_52 : decode cX5_sheet 52 = .ok (.bipush 24, 2) := by decide +kernel
theorem dX5_sheet_54 : decode cX5_sheet 54 = .ok (.if_icmp .ge 22, 3) := by decide +kernel
theorem dX5_sheet_57 : decode cX5_sheet 57 = .ok (.aload_n 0, 1) := by decide +kernel
theorem dX5_sheet_58 : decode cX5_sheet 58 = .ok (.getfield 38, 3) := by decide +kernel
theorem dX5_sheet_61 : decode cX5_sheet 61 = .ok (.bipush 24, 2) := by decide +kernel
theorem dX5_sheet_63 : decode cX5_sheet 63 = .ok (.iload_n 1, 1) := by decide +kernel
theorem dX5_sheet_64 : decode cX5_sheet 64 = .ok (.imul, 1) := by decide +kernel
theorem dX5_sheet_65 : decode cX5_sheet 65 = .ok (.iload 4, 2) := by decide +kernel
theorem dX5_sheet_67 : decode cX5_sheet 67 = .ok (.iadd, 1) := by decide +kernel
theorem dX5_sheet_68 : decode cX5_sheet 68 = .ok (.lconst 0, 1) := by decide +kernel
theorem dX5_sheet_69 : decode cX5_sheet 69 = .ok (.lastore, 1) := by decide +kernel
theorem dX5_sheet_70 : decode cX5_sheet 70 = .ok (.iinc 4 1, 3) := by decide +kernel
theorem dX5_sheet_73 : decode cX5_sheet 73 = .ok (.goto (-23), 3) := by decide +kernel
theorem dX5_sheet_76 : decode cX5_sheet 76 = .ok (.iload_n 3, 1) := by decide +kernel
theorem dX5_sheet_77 : decode cX5_sheet 77 = .ok (.ireturn, 1) := by decide +kernel
theorem dX5_drop_0 : decode cX5_drop 0 = .ok (.iload_n 1, 1) := by decide +kernel
theorem dX5_drop_1 : decode cX5_drop 1 = .ok (.invokestatic 158, 3) := by decide +kernel
theorem dX5_drop_4 : decode cX5_drop 4 = .ok (.ifCond .ne 5, 3) := by decide +kernel
theorem dX5_drop_7 : decode cX5_drop 7 = .ok (.iconst (-1), 1) := by decide +kernel
theorem dX5_drop_8 : decode cX5_drop 8 = .ok (.ireturn, 1) := by decide +kernel
theorem dX5_drop_9 : decode cX5_drop 9 = .ok (.aload_n 0, 1) := by decide +kernel
theorem dX5_drop_10 : decode cX5_drop 10 = .ok (.getfield 32, 3) := by decide +kernel
theorem dX5_drop_13 : decode cX5_drop 13 = .ok (.iload_n 1, 1) := by decide +kernel
theorem dX5_drop_14 : decode cX5_drop 14 = .ok (.iaload, 1) := by decide +kernel
theorem dX5_drop_15 : decode cX5_drop 15 = .ok (.ifCond .ne 6, 3) := by decide +kernel
theorem dX5_drop_18 : decode cX5_drop 18 = .ok (.bipush (-11), 2) := by decide +kernel
theorem dX5_drop_20 : decode cX5_drop 20 = .ok (.ireturn, 1) := by decide +kernel
theorem dX5_drop_21 : decode cX5_drop 21 = .ok (.aload_n 0, 1) := by decide +kernel
theorem dX5_drop_22 : decode cX5_drop 22 = .ok (.getfield 32, 3) := by decide +kernel
theorem dX5_drop_25 : decode cX5_drop 25 = .ok (.iload_n 1, 1) := by decide +kernel
theorem dX5_drop_26 : decode cX5_drop 26 = .ok (.iconst 0, 1) := by decide +kernel
theorem dX5_drop_27 : decode cX5_drop 27 = .ok (.iastore, 1) := by decide +kernel
theorem dX5_drop_28 : decode cX5_drop 28 = .ok (.aload_n 0, 1) := by decide +kernel
theorem dX5_drop_29 : decode cX5_drop 29 = .ok (.getfield 35, 3) := by decide +kernel
theorem dX5_drop_32 : decode cX5_drop 32 = .ok (.iload_n 1, 1) := by decide +kernel
theorem dX5_drop_33 : decode cX5_drop 33 = .ok (.iaload, 1) := by decide +kernel
theorem dX5_drop_34 : decode cX5_drop 34 = .ok (.ireturn, 1) := by decide +kernel
theorem dX5_item_0 : decode cX5_item 0 = .ok (.iload_n 1, 1) := by decide +kernel
theorem dX5_item_1 : decode cX5_item 1 = .ok (.invokestatic 158, 3) := by decide +kernel
theorem dX5_item_4 : decode cX5_item 4 = .ok (.ifCond .eq 12, 3) := by decide +kernel
theorem dX5_item_7 : decode cX5_item 7 = .ok (.iload_n 2, 1) := by decide +kernel
theorem dX5_item_8 : decode cX5_item 8 = .ok (.iconst 0, 1) := by decide +kernel
theorem dX5_item_9 : decode cX5_item 9 = .ok (.iconst 3, 1) := by decide +kernel
theorem dX5_item_10 : decode cX5_item 10 = .ok (.invokestatic 45, 3) := by decide +kernel
theorem dX5_item_13 : decode cX5_item 13 = .ok (.ifCond .ne 5, 3) := by decide +kernel
theorem dX5_item_16 : decode cX5_item 16 = .ok (.iconst (-1), 1) := by decide +kernel
theorem dX5_item_17 : decode cX5_item 17 = .ok (.ireturn, 1) := by decide +kernel
theorem dX5_item_18 : decode cX5_item 18 = .ok (.aload_n 0, 1) := by decide +kernel
theorem dX5_item_19 : decode cX5_item 19 = .ok (.iload_n 1, 1) := by decide +kernel
theorem dX5_item_20 : decode cX5_item 20 = .ok (.iload_n 2, 1) := by decide +kernel
theorem dX5_item_21 : decode cX5_item 21 = .ok (.iload_n 3, 1) := by decide +kernel
theorem dX5_item_22 : decode cX5_item 22 = .ok (.iconst 1, 1) := by decide +kernel
theorem dX5_item_23 : decode cX5_item 23 = .ok (.invokevirtual 161, 3) := by decide +kernel
theorem dX5_item_26 : decode cX5_item 26 = .ok (.istore 6, 2) := by decide +kernel
theorem dX5_item_28 : decode cX5_item 28 = .ok (.iload 6, 2) := by decide +kernel
theorem dX5_item_30 : decode cX5_item 30 = .ok (.ifCond .eq 6, 3) := by decide +kernel
theorem dX5_item_33 : decode cX5_item 33 = .ok (.iload 6, 2) := by decide +kernel
theorem dX5_item_35 : decode cX5_item 35 = .ok (.ireturn, 1) := by decide +kernel
theorem dX5_item_36 : decode cX5_item 36 = .ok (.aload_n 0, 1) := by decide +kernel
theorem dX5_item_37 : decode cX5_item 37 = .ok (.getfield 38, 3) := by decide +kernel
theorem dX5_item_40 : decode cX5_item 40 = .ok (.bipush 24, 2) := by decide +kernel
theorem dX5_item_42 : decode cX5_item 42 = .ok (.iload_n 1, 1) := by decide +kernel
theorem dX5_item_43 : decode cX5_item 43 = .ok (.imul, 1) := by decide +kernel
theorem dX5_item_44 : decode cX5_item 44 = .ok (.iload_n 3, 1) := by decide +kernel
theorem dX5_item_45 : decode cX5_item 45 = .ok (.iadd, 1) := by decide +kernel
theorem dX5_item_46 : decode cX5_item 46 = .ok (.iload_n 2, 1) := by decide +kernel
theorem dX5_item_47 : decode cX5_item 47 = .ok (.lload 4, 2) := by decide +kernel
theorem dX5_item_49 : decode cX5_item 49 = .ok (.invokestatic 169, 3) := by decide +kernel
theorem dX5_item_52 : decode cX5_item 52 = .ok (.lastore, 1) := by decide +kernel
theorem dX5_item_53 : decode cX5_item 53 = .ok (.iconst 1, 1) := by decide +kernel
theorem dX5_item_54 : decode cX5_item 54 = .ok (.ireturn, 1) := by decide +kernel
theorem dX5_copy_0 : decode cX5_copy 0 = .ok (.iload_n 1, 1) := by decide +kernel
theorem dX5_copy_1 : decode cX5_copy 1 = .ok (.invokestatic 158, 3) := by decide +kernel
theorem dX5_copy_4 : decode cX5_copy 4 = .ok (.ifCond .eq 10, 3) := by decide +kernel
theorem dX5_copy_7 : decode cX5_copy 7 = .ok (.iload_n 3, 1) := by decide +kernel
theorem dX5_copy_8 : decode cX5_copy 8 = .ok (.invokestatic 158, 3) := by decide +kernel
theorem dX5_copy_11 : decode cX5_copy 11 = .ok (.ifCond .ne 5, 3) := by decide +kernel
theorem dX5_copy_14 : decode cX5_copy 14 = .ok (.iconst (-1), 1) := by decide +kernel
theorem dX5_copy_15 : decode cX5_copy 15 = .ok (.ireturn, 1) := by decide +kernel
theorem dX5_copy_16 : decode cX5_copy 16 = .ok (.aload_n 0, 1) := by decide +kernel
theorem dX5_copy_17 : decode cX5_copy 17 = .ok (.getfield 32, 3) := by decide +kernel
theorem dX5_copy_20 : decode cX5_copy 20 = .ok (.iload_n 1, 1) := by decide +kernel
theorem dX5_copy_21 : decode cX5_copy 21 = .ok (.iaload, 1) := by decide +kernel
theorem dX5_copy_22 : decode cX5_copy 22 = .ok (.ifCond .eq 12, 3) := by decide +kernel
theorem dX5_copy_25 : decode cX5_copy 25 = .ok (.aload_n 0, 1) := by decide +kernel
theorem dX5_copy_26 : decode cX5_copy 26 = .ok (.getfield 32, 3) := by decide +kernel
theorem dX5_copy_29 : decode cX5_copy 29 = .ok (.iload_n 3, 1) := by decide +kernel
theorem dX5_copy_30 : decode cX5_copy 30 = .ok (.iaload, 1) := by decide +kernel
theorem dX5_copy_31 : decode cX5_copy 31 = .ok (.ifCond .ne 6, 3) := by decide +kernel
theorem dX5_copy_34 : decode cX5_copy 34 = .ok (.bipush (-11), 2) := by decide +kernel
theorem dX5_copy_36 : decode cX5_copy 36 = .ok (.ireturn, 1) := by decide +kernel
theorem dX5_copy_37 : decode cX5_copy 37 = .ok (.aload_n 0, 1) := by decide +kernel
theorem dX5_copy_38 : decode cX5_copy 38 = .ok (.getfield 32, 3) := by decide +kernel
theorem dX5_copy_41 : decode cX5_copy 41 = .ok (.iload_n 1, 1) := by decide +kernel
theorem dX5_copy_42 : decode cX5_copy 42 = .ok (.iaload, 1) := by decide +kernel
theorem dX5_copy_43 : decode cX5_copy 43 = .ok (.aload_n 0, 1) := by decide +kernel
theorem dX5_copy_44 : decode cX5_copy 44 = .ok (.getfield 32, 3) := by decide +kernel
theorem dX5_copy_47 : decode cX5_copy 47 = .ok (.iload_n 3, 1) := by decide +kernel
theorem dX5_copy_48 : decode cX5_copy 48 = .ok (.iaload, 1) := by decide +kernel
theorem dX5_copy_49 : decode cX5_copy 49 = .ok (.if_icmp .eq 6, 3) := by decide +kernel
theorem dX5_copy_52 : decode cX5_copy 52 = .ok (.bipush (-12), 2) := by decide +kernel
theorem dX5_copy_54 : decode cX5_copy 54 = .ok (.ireturn, 1) := by decide +kernel
theorem dX5_copy_55 : decode cX5_copy 55 = .ok (.aload_n 0, 1) := by decide +kernel
theorem dX5_copy_56 : decode cX5_copy 56 = .ok (.iload_n 1, 1) := by decide +kernel
theorem dX5_copy_57 : decode cX5_copy 57 = .ok (.aload_n 0, 1) := by decide +kernel
theorem dX5_copy_58 : decode cX5_copy 58 = .ok (.getfield 32, 3) := by decide +kernel
theorem dX5_copy_61 : decode cX5_copy 61 = .ok (.iload_n 1, 1) := by decide +kernel
theorem dX5_copy_62 : decode cX5_copy 62 = .ok (.iaload, 1) := by decide +kernel
theorem dX5_copy_63 : decode cX5_copy 63 = .ok (.iconst 1, 1) := by decide +kernel
theorem dX5_copy_64 : decode cX5_copy 64 = .ok (.isub, 1) := by decide +kernel
theorem dX5_copy_65 : decode cX5_copy 65 = .ok (.iload_n 2, 1) := by decide +kernel
theorem dX5_copy_66 : decode cX5_copy 66 = .ok (.iload 5, 2) := by decide +kernel
theorem dX5_copy_68 : decode cX5_copy 68 = .ok (.invokevirtual 161, 3) := by decide +kernel
theorem dX5_copy_71 : decode cX5_copy 71 = .ok (.ifCond .ne 23, 3) := by decide +kernel
theorem dX5_copy_74 : decode cX5_copy 74 = .ok (.aload_n 0, 1) := by decide +kernel
theorem dX5_copy_75 : decode cX5_copy 75 = .ok (.iload_n 3, 1) := by decide +kernel
theorem dX5_copy_76 : decode cX5_copy 76 = .ok (.aload_n 0, 1) := by decide +kernel
theorem dX5_copy_77 : decode cX5_copy 77 = .ok (.getfield 32, 3) := by decide +kernel
theorem dX5_copy_80 : decode cX5_copy 80 = .ok (.iload_n 3, 1) := by decide +kernel
theorem dX5_copy_81 : decode cX5_copy 81 = .ok (.iaload, 1) := by decide +kernel
theorem dX5_copy_82 : decode cX5_copy 82 = .ok (.iconst 1, 1) := by decide +kernel
theorem dX5_copy_83 : decode cX5_copy 83 = .ok (.isub, 1) := by decide +kernel
theorem dX5_copy_84 : decode cX5_copy 84 = .ok (.iload 4, 2) := by decide +kernel
theorem dX5_copy_86 : decode cX5_copy 86 = .ok (.iload 5, 2) := by decide +kernel
theorem dX5_copy_88 : decode cX5_copy 88 = .ok (.invokevirtual 161, 3) := by decide +kernel
theorem dX5_copy_91 : decode cX5_copy 91 = .ok (.ifCond .eq 6, 3) := by decide +kernel
theorem dX5_copy_94 : decode cX5_copy 94 = .ok (.bipush (-13), 2) := by decide +kernel
theorem dX5_copy_96 : decode cX5_copy 96 = .ok (.ireturn, 1) := by decide +kernel
theorem dX5_copy_97 : decode cX5_copy 97 = .ok (.iconst 0, 1) := by decide +kernel
theorem dX5_copy_98 : decode cX5_copy 98 = .ok (.istore 6, 2) := by decide +kernel
theorem dX5_copy_100 : decode cX5_copy 100 = .ok (.iload 6, 2) := by decide +kernel
theorem dX5_copy_102 : decode cX5_copy 102 = .ok (.iload 5, 2) := by decide +kernel
theorem dX5_copy_104 : decode cX5_copy 104 = .ok (.if_icmp .ge 30, 3) := by decide +kernel
theorem dX5_copy_107 : decode cX5_copy 107 = .ok (.aload_n 0, 1) := by decide +kernel
theorem dX5_copy_108 : decode cX5_copy 108 = .ok (.getfield 42, 3) := by decide +kernel
theorem dX5_copy_111 : decode cX5_copy 111 = .ok (.iload 6, 2) := by decide +kernel
theorem dX5_copy_113 : decode cX5_copy 113 = .ok (.aload_n 0, 1) := by decide +kernel
theorem dX5_copy_114 : decode cX5_copy 114 = .ok (.getfield 38, 3) := by decide +kernel
theorem dX5_copy_117 : decode cX5_copy 117 = .ok (.bipush 24, 2) := by decide +kernel
theorem dX5_copy_119 : decode cX5_copy 119 = .ok (.iload_n 1, 1) := by decide +kernel
theorem dX5_copy_120 : decode cX5_copy 120 = .ok (.imul, 1) := by decide +kernel
theorem dX5_copy_121 : decode cX5_copy 121 = .ok (.iload_n 2, 1) := by decide +kernel
theorem dX5_copy_122 : decode cX5_copy 122 = .ok (.iadd, 1) := by decide +kernel
theorem dX5_copy_123 : decode cX5_copy 123 = .ok (.iload 6, 2) := by decide +kernel
theorem dX5_copy_125 : decode cX5_copy 125 = .ok (.iadd, 1) := by decide +kernel
theorem dX5_copy_126 : decode cX5_copy 126 = .ok (.laload, 1) := by decide +kernel
theorem dX5_copy_127 : decode cX5_copy 127 = .ok (.lastore, 1) := by decide +kernel
theorem dX5_copy_128 : decode cX5_copy 128 = .ok (.iinc 6 1, 3) := by decide +kernel
theorem dX5_copy_131 : decode cX5_copy 131 = .ok (.goto (-31), 3) := by decide +kernel
theorem dX5_copy_134 : decode cX5_copy 134 = .ok (.iconst 0, 1) := by decide +kernel
theorem dX5_copy_135 : decode cX5_copy 135 = .ok (.istore 6, 2) := by decide +kernel
theorem dX5_copy_137 : decode cX5_copy 137 = .ok (.iload 6, 2) := by decide +kernel
theorem dX5_copy_139 : decode cX5_copy 139 = .ok (.iload 5, 2) := by decide +kernel
theorem dX5_copy_141 : decode cX5_copy 141 = .ok (.if_icmp .ge 31, 3) := by decide +kernel
theorem dX5_copy_144 : decode cX5_copy 144 = .ok (.aload_n 0, 1) := by decide +kernel
theorem dX5_copy_145 : decode cX5_copy 145 = .ok (.getfield 38, 3) := by decide +kernel
theorem dX5_copy_148 : decode cX5_copy 148 = .ok (.bipush 24, 2) := by decide +kernel
theorem dX5_copy_150 : decode cX5_copy 150 = .ok (.iload_n 3, 1) := by decide +kernel
theorem dX5_copy_151 : decode cX5_copy 151 = .ok (.imul, 1) := by decide +kernel
theorem dX5_copy_152 : decode cX5_copy 152 = .ok (.iload 4, 2) := by decide +kernel
theorem dX5_copy_154 : decode cX5_copy 154 = .ok (.iadd, 1) := by decide +kernel
theorem dX5_copy_155 : decode cX5_copy 155 = .ok (.iload 6, 2) := by decide +kernel
theorem dX5_copy_157 : decode cX5_copy 157 = .ok (.iadd, 1) := by decide +kernel
theorem dX5_copy_158 : decode cX5_copy 158 = .ok (.aload_n 0, 1) := by decide +kernel
theorem dX5_copy_159 : decode cX5_copy 159 = .ok (.getfield 42, 3) := by decide +kernel
theorem dX5_copy_162 : decode cX5_copy 162 = .ok (.iload 6, 2) := by decide +kernel
theorem dX5_copy_164 : decode cX5_copy 164 = .ok (.laload, 1) := by decide +kernel
theorem dX5_copy_165 : decode cX5_copy 165 = .ok (.lastore, 1) := by decide +kernel
theorem dX5_copy_166 : decode cX5_copy 166 = .ok (.iinc 6 1, 3) := by decide +kernel
theorem dX5_copy_169 : decode cX5_copy 169 = .ok (.goto (-32), 3) := by decide +kernel
theorem dX5_copy_172 : decode cX5_copy 172 = .ok (.iload 5, 2) := by decide +kernel
theorem dX5_copy_174 : decode cX5_copy 174 = .ok (.ireturn, 1) := by decide +kernel
end
section
theorem dL_law_0 : decode cL_law 0 = .ok (.new 7, 3) := by decide +kernel
theorem dL_law_3 : decode cL_law 3 = .ok (.dup, 1) := by decide +kernel
theorem dL_law_4 : decode cL_law 4 = .ok (.invokespecial 9, 3) := by decide +kernel
theorem dL_law_7 : decode cL_law 7 = .ok (.astore_n 1, 1) := by decide +kernel
theorem dL_law_8 : decode cL_law 8 = .ok (.new 10, 3) := by decide +kernel
theorem dL_law_11 : decode cL_law 11 = .ok (.dup, 1) := by decide +kernel
theorem dL_law_12 : decode cL_law 12 = .ok (.invokespecial 12, 3) := by decide +kernel
theorem dL_law_15 : decode cL_law 15 = .ok (.astore_n 2, 1) := by decide +kernel
theorem dL_law_16 : decode cL_law 16 = .ok (.iconst 0, 1) := by decide +kernel
theorem dL_law_17 : decode cL_law 17 = .ok (.istore_n 3, 1) := by decide +kernel
theorem dL_law_18 : decode cL_law 18 = .ok (.iload_n 3, 1) := by decide +kernel
theorem dL_law_19 : decode cL_law 19 = .ok (.aload_n 0, 1) := by decide +kernel
theorem dL_law_20 : decode cL_law 20 = .ok (.arraylength, 1) := by decide +kernel
theorem dL_law_21 : decode cL_law 21 = .ok (.bipush 7, 2) := by decide +kernel
theorem dL_law_23 : decode cL_law 23 = .ok (.isub, 1) := by decide +kernel
theorem dL_law_24 : decode cL_law 24 = .ok (.if_icmp .gt 1176, 3) := by decide +kernel
theorem dL_law_27 : decode cL_law 27 = .ok (.aload_n 0, 1) := by decide +kernel
theorem dL_law_28 : decode cL_law 28 = .ok (.iload_n 3, 1) := by decide +kernel
theorem dL_law_29 : decode cL_law 29 = .ok (.iaload, 1) := by decide +kernel
theorem dL_law_30 : decode cL_law 30 = .ok (.bipush 31, 2) := by decide +kernel
theorem dL_law_32 : decode cL_law 32 = .ok (.iand, 1) := by decide +kernel
theorem dL_law_33 : decode cL_law 33 = .ok (.tableswitch 1161 0 31 #[143, 176, 209, 232, 245, 268, 291, 324, 357, 380, 403, 416, 439, 462, 495, 518, 551, 574, 587, 630, 663, 696, 719, 742, 785, 798, 811, 886, 949, 992, 1015, 1098], 143) := by decide +kernel
theorem dL_law_176 : decode cL_law 176 = .ok (.aload_n 1, 1) := by decide +kernel
theorem dL_law_177 : decode cL_law 177 = .ok (.aload_n 0, 1) := by decide +kernel
theorem dL_law_178 : decode cL_law 178 = .ok (.iload_n 3, 1) := by decide +kernel
theorem dL_law_179 : decode cL_law 179 = .ok (.iconst 1, 1) := by decide +kernel
theorem dL_law_180 : decode cL_law 180 = .ok (.iadd, 1) := by decide +kernel
theorem dL_law_181 : decode cL_law 181 = .ok (.iaload, 1) := by decide +kernel
theorem dL_law_182 : decode cL_law 182 = .ok (.aload_n 0, 1) := by decide +kernel
theorem dL_law_183 : decode cL_law 183 = .ok (.iload_n 3, 1) := by decide +kernel
theorem dL_law_184 : decode cL_law 184 = .ok (.iconst 2, 1) := by decide +kernel
theorem dL_law_185 : decode cL_law 185 = .ok (.iadd, 1) := by decide +kernel
theorem dL_law_186 : decode cL_law 186 = .ok (.iaload, 1) := by decide +kernel
theorem dL_law_187 : decode cL_law 187 = .ok (.invokevirtual 13, 3) := by decide +kernel
theorem dL_law_190 : decode cL_law 190 = .ok (.aload_n 2, 1) := by decide +kernel
theorem dL_law_191 : decode cL_law 191 = .ok (.aload_n 0, 1) := by decide +kernel
theorem dL_law_192 : decode cL_law 192 = .ok (.iload_n 3, 1) := by decide +kernel
theorem dL_law_193 : decode cL_law 193 = .ok (.iconst 1, 1) := by decide +kernel
theorem dL_law_194 : decode cL_law 194 = .ok (.iadd, 1) := by decide +kernel
theorem dL_law_195 : decode cL_law 195 = .ok (.iaload, 1) := by decide +kernel
theorem dL_law_196 : decode cL_law 196 = .ok (.aload_n 0, 1) := by decide +kernel
theorem dL_law_197 : decode cL_law 197 = .ok (.iload_n 3, 1) := by decide +kernel
theorem dL_law_198 : decode cL_law 198 = .ok (.iconst 2, 1) := by decide +kernel
theorem dL_law_199 : decode cL_law 199 = .ok (.iadd, 1) := by decide +kernel
theorem dL_law_200 : decode cL_law 200 = .ok (.iaload, 1) := by decide +kernel
theorem dL_law_201 : decode cL_law 201 = .ok (.invokevirtual 17, 3) := by decide +kernel
theorem dL_law_204 : decode cL_law 204 = .ok (.if_icmp .eq 990, 3) := by decide +kernel
theorem dL_law_207 : decode cL_law 207 = .ok (.iconst 0, 1) := by decide +kernel
theorem dL_law_208 : decode cL_law 208 = .ok (.ireturn, 1) := by decide +kernel
theorem dL_law_209 : decode cL_law 209 = .ok (.aload_n 1, 1) := by decide +kernel
theorem dL_law_210 : decode cL_law 210 = .ok (.aload_n 0, 1) := by decide +kernel
theorem dL_law_211 : decode cL_law 211 = .ok (.iload_n 3, 1) := by decide +kernel
theorem dL_law_212 : decode cL_law 212 = .ok (.iconst 1, 1) := by decide +kernel
theorem dL_law_213 : decode cL_law 213 = .ok (.iadd, 1) := by decide +kernel
theorem dL_law_214 : decode cL_law 214 = .ok (.iaload, 1) := by decide +kernel
theorem dL_law_215 : decode cL_law 215 = .ok (.aload_n 0, 1) := by decide +kernel
theorem dL_law_216 : decode cL_law 216 = .ok (.iload_n 3, 1) := by decide +kernel
theorem dL_law_217 : decode cL_law 217 = .ok (.iconst 2, 1) := by decide +kernel
theorem dL_law_218 : decode cL_law 218 = .ok (.iadd, 1) := by decide +kernel
theorem dL_law_219 : decode cL_law 219 = .ok (.iaload, 1) := by decide +kernel
theorem dL_law_220 : decode cL_law 220 = .ok (.invokevirtual 18, 3) := by decide +kernel
theorem dL_law_223 : decode cL_law 223 = .ok (.aload_n 2, 1) := by decide +kernel
theorem dL_law_224 : decode cL_law 224 = .ok (.aload_n 0, 1) := by decide +kernel
theorem dL_law_225 : decode cL_law 225 = .ok (.iload_n 3, 1) := by decide +kernel
theorem dL_law_226 : decode cL_law 226 = .ok (.iconst 1, 1) := by decide +kernel
theorem dL_law_227 : decode cL_law 227 = .ok (.iadd, 1) := by decide +kernel
theorem dL_law_228 : decode cL_law 228 = .ok (.iaload, 1) := by decide +kernel
theorem dL_law_229 : decode cL_law 229 = .ok (.aload_n 0, 1) := by decide +kernel
theorem dL_law_230 : decode cL_law 230 = .ok (.iload_n 3, 1) := by decide +kernel
theorem dL_law_231 : decode cL_law 231 = .ok (.iconst 2, 1) := by decide +kernel
theorem dL_law_232 : decode cL_law 232 = .ok (.iadd, 1) := by decide +kernel
theorem dL_law_233 : decode cL_law 233 = .ok (.iaload, 1) := by decide +kernel
theorem dL_law_234 : decode cL_law 234 = .ok (.invokevirtual 21, 3) := by decide +kernel
theorem dL_law_237 : decode cL_law 237 = .ok (.if_icmp .eq 957, 3) := by decide +kernel
theorem dL_law_240 : decode cL_law 240 = .ok (.iconst 0, 1) := by decide +kernel
theorem dL_law_241 : decode cL_law 241 = .ok (.ireturn, 1) := by decide +kernel
theorem dL_law_242 : decode cL_law 242 = .ok (.aload_n 1, 1) := by decide +kernel
theorem dL_law_243 : decode cL_law 243 = .ok (.aload_n 0, 1) := by decide +kernel
theorem dL_law_244 : decode cL_law 244 = .ok (.iload_n 3, 1) := by decide +kernel
theorem dL_law_245 : decode cL_law 245 = .ok (.iconst 1, 1) := by decide +kernel
theorem dL_law_246 : decode cL_law 246 = .ok (.iadd, 1) := by decide +kernel
theorem dL_law_247 : decode cL_law 247 = .ok (.iaload, 1) := by decide +kernel
theorem dL_law_248 : decode cL_law 248 = .ok (.invokevirtual 22, 3) := by decide +kernel
theorem dL_law_251 : decode cL_law 251 = .ok (.aload_n 2, 1) := by decide +kernel
theorem dL_law_252 : decode cL_law 252 = .ok (.aload_n 0, 1) := by decide +kernel
theorem dL_law_253 : decode cL_law 253 = .ok (.iload_n 3, 1) := by decide +kernel
theorem dL_law_254 : decode cL_law 254 = .ok (.iconst 1, 1) := by decide +kernel
theorem dL_law_255 : decode cL_law 255 = .ok (.iadd, 1) := by decide +kernel
theorem dL_law_256 : decode cL_law 256 = .ok (.iaload, 1) := by decide +kernel
theorem dL_law_257 : decode cL_law 257 = .ok (.invokevirtual 26, 3) := by decide +kernel
theorem dL_law_260 : decode cL_law 260 = .ok (.if_icmp .eq 934, 3) := by decide +kernel
theorem dL_law_263 : decode cL_law 263 = .ok (.iconst 0, 1) := by decide +kernel
theorem dL_law_264 : decode cL_law 264 = .ok (.ireturn, 1) := by decide +kernel
theorem dL_law_265 : decode cL_law 265 = .ok (.aload_n 1, 1) := by decide +kernel
theorem dL_law_266 : decode cL_law 266 = .ok (.invokevirtual 27, 3) := by decide +kernel
theorem dL_law_269 : decode cL_law 269 = .ok (.aload_n 2, 1) := by decide +kernel
theorem dL_law_270 : decode cL_law 270 = .ok (.invokevirtual 31, 3) := by decide +kernel
theorem dL_law_273 : decode cL_law 273 = .ok (.if_icmp .eq 921, 3) := by decide +kernel
theorem dL_law_276 : decode cL_law 276 = .ok (.iconst 0, 1) := by decide +kernel
theorem dL_law_277 : decode cL_law 277 = .ok (.ireturn, 1) := by decide +kernel
theorem dL_law_278 : decode cL_law 278 = .ok (.aload_n 1, 1) := by decide +kernel
theorem dL_law_279 : decode cL_law 279 = .ok (.aload_n 0, 1) := by decide +kernel
theorem dL_law_280 : decode cL_law 280 = .ok (.iload_n 3, 1) := by decide +kernel
theorem dL_law_281 : decode cL_law 281 = .ok (.iconst 1, 1) := by decide +kernel
theorem dL_law_282 : decode cL_law 282 = .ok (.iadd, 1) := by decide +kernel
theorem dL_law_283 : decode cL_law 283 = .ok (.iaload, 1) := by decide +kernel
theorem dL_law_284 : decode cL_law 284 = .ok (.invokevirtual 32, 3) := by decide +kernel
theorem dL_law_287 : decode cL_law 287 = .ok (.aload_n 2, 1) := by decide +kernel
theorem dL_law_288 : decode cL_law 288 = .ok (.aload_n 0, 1) := by decide +kernel
theorem dL_law_289 : decode cL_law 289 = .ok (.iload_n 3, 1) := by decide +kernel
theorem dL_law_290 : decode cL_law 290 = .ok (.iconst 1, 1) := by decide +kernel
theorem dL_law_291 : decode cL_law 291 = .ok (.iadd, 1) := by decide +kernel
theorem dL_law_292 : decode cL_law 292 = .ok (.iaload, 1) := by decide +kernel
theorem dL_law_293 : decode cL_law 293 = .ok (.invokevirtual 35, 3) := by decide +kernel
theorem dL_law_296 : decode cL_law 296 = .ok (.if_icmp .eq 898, 3) := by decide +kernel
theorem dL_law_299 : decode cL_law 299 = .ok (.iconst 0, 1) := by decide +kernel
theorem dL_law_300 : decode cL_law 300 = .ok (.ireturn, 1) := by decide +kernel
theorem dL_law_301 : decode cL_law 301 = .ok (.aload_n 1, 1) := by decide +kernel
theorem dL_law_302 : decode cL_law 302 = .ok (.aload_n 0, 1) := by decide +kernel
theorem dL_law_303 : decode cL_law 303 = .ok (.iload_n 3, 1) := by decide +kernel
theorem dL_law_304 : decode cL_law 304 = .ok (.iconst 1, 1) := by decide +kernel
theorem dL_law_305 : decode cL_law 305 = .ok (.iadd, 1) := by decide +kernel
theorem dL_law_306 : decode cL_law 306 = .ok (.iaload, 1) := by decide +kernel
theorem dL_law_307 : decode cL_law 307 = .ok (.invokevirtual 36, 3) := by decide +kernel
theorem dL_law_310 : decode cL_law 310 = .ok (.aload_n 2, 1) := by decide +kernel
theorem dL_law_311 : decode cL_law 311 = .ok (.aload_n 0, 1) := by decide +kernel
theorem dL_law_312 : decode cL_law 312 = .ok (.iload_n 3, 1) := by decide +kernel
theorem dL_law_313 : decode cL_law 313 = .ok (.iconst 1, 1) := by decide +kernel
theorem dL_law_314 : decode cL_law 314 = .ok (.iadd, 1) := by decide +kernel
theorem dL_law_315 : decode cL_law 315 = .ok (.iaload, 1) := by decide +kernel
theorem dL_law_316 : decode cL_law 316 = .ok (.invokevirtual 39, 3) := by decide +kernel
theorem dL_law_319 : decode cL_law 319 = .ok (.if_icmp .eq 875, 3) := by decide +kernel
theorem dL_law_322 : decode cL_law 322 = .ok (.iconst 0, 1) := by decide +kernel
theorem dL_law_323 : decode cL_law 323 = .ok (.ireturn, 1) := by decide +kernel
theorem dL_law_324 : decode cL_law 324 = .ok (.aload_n 1, 1) := by decide +kernel
theorem dL_law_325 : decode cL_law 325 = .ok (.aload_n 0, 1) := by decide +kernel
theorem dL_law_326 : decode cL_law 326 = .ok (.iload_n 3, 1) := by decide +kernel
theorem dL_law_327 : decode cL_law 327 = .ok (.iconst 1, 1) := by decide +kernel
theorem dL_law_328 : decode cL_law 328 = .ok (.iadd, 1) := by decide +kernel
theorem dL_law_329 : decode cL_law 329 = .ok (.iaload, 1) := by decide +kernel
theorem dL_law_330 : decode cL_law 330 = .ok (.aload_n 0, 1) := by decide +kernel
theorem dL_law_331 : decode cL_law 331 = .ok (.iload_n 3, 1) := by decide +kernel
theorem dL_law_332 : decode cL_law 332 = .ok (.iconst 2, 1) := by decide +kernel
theorem dL_law_333 : decode cL_law 333 = .ok (.iadd, 1) := by decide +kernel
theorem dL_law_334 : decode cL_law 334 = .ok (.iaload, 1) := by decide +kernel
theorem dL_law_335 : decode cL_law 335 = .ok (.invokevirtual 40, 3) := by decide +kernel
theorem dL_law_338 : decode cL_law 338 = .ok (.aload_n 2, 1) := by decide +kernel
theorem dL_law_339 : decode cL_law 339 = .ok (.aload_n 0, 1) := by decide +kernel
theorem dL_law_340 : decode cL_law 340 = .ok (.iload_n 3, 1) := by decide +kernel
theorem dL_law_341 : decode cL_law 341 = .ok (.iconst 1, 1) := by decide +kernel
theorem dL_law_342 : decode cL_law 342 = .ok (.iadd, 1) := by decide +kernel
theorem dL_law_343 : decode cL_law 343 = .ok (.iaload, 1) := by decide +kernel
theorem dL_law_344 : decode cL_law 344 = .ok (.aload_n 0, 1) := by decide +kernel
theorem dL_law_345 : decode cL_law 345 = .ok (.iload_n 3, 1) := by decide +kernel
theorem dL_law_346 : decode cL_law 346 = .ok (.iconst 2, 1) := by decide +kernel
theorem dL_law_347 : decode cL_law 347 = .ok (.iadd, 1) := by decide +kernel
theorem dL_law_348 : decode cL_law 348 = .ok (.iaload, 1) := by decide +kernel
theorem dL_law_349 : decode cL_law 349 = .ok (.invokevirtual 43, 3) := by decide +kernel
theorem dL_law_352 : decode cL_law 352 = .ok (.if_icmp .eq 842, 3) := by decide +kernel
theorem dL_law_355 : decode cL_law 355 = .ok (.iconst 0, 1) := by decide +kernel
theorem dL_law_356 : decode cL_law 356 = .ok (.ireturn, 1) := by decide +kernel
theorem dL_law_357 : decode cL_law 357 = .ok (.aload_n 1, 1) := by decide +kernel
theorem dL_law_358 : decode cL_law 358 = .ok (.aload_n 0, 1) := by decide +kernel
theorem dL_law_359 : decode cL_law 359 = .ok (.iload_n 3, 1) := by decide +kernel
theorem dL_law_360 : decode cL_law 360 = .ok (.iconst 1, 1) := by decide +kernel
theorem dL_law_361 : decode cL_law 361 = .ok (.iadd, 1) := by decide +kernel
theorem dL_law_362 : decode cL_law 362 = .ok (.iaload, 1) := by decide +kernel
theorem dL_law_363 : decode cL_law 363 = .ok (.aload_n 0, 1) := by decide +kernel
theorem dL_law_364 : decode cL_law 364 = .ok (.iload_n 3, 1) := by decide +kernel
theorem dL_law_365 : decode cL_law 365 = .ok (.iconst 2, 1) := by decide +kernel
theorem dL_law_366 : decode cL_law 366 = .ok (.iadd, 1) := by decide +kernel
theorem dL_law_367 : decode cL_law 367 = .ok (.iaload, 1) := by decide +kernel
theorem dL_law_368 : decode cL_law 368 = .ok (.invokevirtual 44, 3) := by decide +kernel
theorem dL_law_371 : decode cL_law 371 = .ok (.aload_n 2, 1) := by decide +kernel
theorem dL_law_372 : decode cL_law 372 = .ok (.aload_n 0, 1) := by decide +kernel
theorem dL_law_373 : decode cL_law 373 = .ok (.iload_n 3, 1) := by decide +kernel
theorem dL_law_374 : decode cL_law 374 = .ok (.iconst 1, 1) := by decide +kernel
theorem dL_law_375 : decode cL_law 375 = .ok (.iadd, 1) := by decide +kernel
theorem dL_law_376 : decode cL_law 376 = .ok (.iaload, 1) := by decide +kernel
theorem dL_law_377 : decode cL_law 377 = .ok (.aload_n 0, 1) := by decide +kernel
theorem dL_law_378 : decode cL_law 378 = .ok (.iload_n 3, 1) := by decide +kernel
theorem dL_law_379 : decode cL_law 379 = .ok (.iconst 2, 1) := by decide +kernel
theorem dL_law_380 : decode cL_law 380 = .ok (.iadd, 1) := by decide +kernel
theorem dL_law_381 : decode cL_law 381 = .ok (.iaload, 1) := by decide +kernel
theorem dL_law_382 : decode cL_law 382 = .ok (.invokevirtual 47, 3) := by decide +kernel
theorem dL_law_385 : decode cL_law 385 = .ok (.if_icmp .eq 809, 3) := by decide +kernel
theorem dL_law_388 : decode cL_law 388 = .ok (.iconst 0, 1) := by decide +kernel
theorem dL_law_389 : decode cL_law 389 = .ok (.ireturn, 1) := by decide +kernel
theorem dL_law_390 : decode cL_law 390 = .ok (.aload_n 1, 1) := by decide +kernel
theorem dL_law_391 : decode cL_law 391 = .ok (.aload_n 0, 1) := by decide +kernel
theorem dL_law_392 : decode cL_law 392 = .ok (.iload_n 3, 1) := by decide +kernel
theorem dL_law_393 : decode cL_law 393 = .ok (.iconst 1, 1) := by decide +kernel
theorem dL_law_394 : decode cL_law 394 = .ok (.iadd, 1) := by decide +kernel
theorem dL_law_395 : decode cL_law 395 = .ok (.iaload, 1) := by decide +kernel
theorem dL_law_396 : decode cL_law 396 = .ok (.invokevirtual 48, 3) := by decide +kernel
theorem dL_law_399 : decode cL_law 399 = .ok (.aload_n 2, 1) := by decide +kernel
theorem dL_law_400 : decode cL_law 400 = .ok (.aload_n 0, 1) := by decide +kernel
theorem dL_law_401 : decode cL_law 401 = .ok (.iload_n 3, 1) := by decide +kernel
theorem dL_law_402 : decode cL_law 402 = .ok (.iconst 1, 1) := by decide +kernel
theorem dL_law_403 : decode cL_law 403 = .ok (.iadd, 1) := by decide +kernel
theorem dL_law_404 : decode cL_law 404 = .ok (.iaload, 1) := by decide +kernel
theorem dL_law_405 : decode cL_law 405 = .ok (.invokevirtual 51, 3) := by decide +kernel
theorem dL_law_408 : decode cL_law 408 = .ok (.if_icmp .eq 786, 3) := by decide +kernel
theorem dL_law_411 : decode cL_law 411 = .ok (.iconst 0, 1) := by decide +kernel
theorem dL_law_412 : decode cL_law 412 = .ok (.ireturn, 1) := by decide +kernel
theorem dL_law_413 : decode cL_law 413 = .ok (.aload_n 1, 1) := by decide +kernel
theorem dL_law_414 : decode cL_law 414 = .ok (.aload_n 0, 1) := by decide +kernel
theorem dL_law_415 : decode cL_law 415 = .ok (.iload_n 3, 1) := by decide +kernel
theorem dL_law_416 : decode cL_law 416 = .ok (.iconst 1, 1) := by decide +kernel
theorem dL_law_417 : decode cL_law 417 = .ok (.iadd, 1) := by decide +kernel
theorem dL_law_418 : decode cL_law 418 = .ok (.iaload, 1) := by decide +kernel
theorem dL_law_419 : decode cL_law 419 = .ok (.invokevirtual 52, 3) := by decide +kernel
theorem dL_law_422 : decode cL_law 422 = .ok (.aload_n 2, 1) := by decide +kernel
theorem dL_law_423 : decode cL_law 423 = .ok (.aload_n 0, 1) := by decide +kernel
theorem dL_law_424 : decode cL_law 424 = .ok (.iload_n 3, 1) := by decide +kernel
theorem dL_law_425 : decode cL_law 425 = .ok (.iconst 1, 1) := by decide +kernel
theorem dL_law_426 : decode cL_law 426 = .ok (.iadd, 1) := by decide +kernel
theorem dL_law_427 : decode cL_law 427 = .ok (.iaload, 1) := by decide +kernel
theorem dL_law_428 : decode cL_law 428 = .ok (.invokevirtual 55, 3) := by decide +kernel
theorem dL_law_431 : decode cL_law 431 = .ok (.if_icmp .eq 763, 3) := by decide +kernel
theorem dL_law_434 : decode cL_law 434 = .ok (.iconst 0, 1) := by decide +kernel
theorem dL_law_435 : decode cL_law 435 = .ok (.ireturn, 1) := by decide +kernel
theorem dL_law_436 : decode cL_law 436 = .ok (.aload_n 1, 1) := by decide +kernel
theorem dL_law_437 : decode cL_law 437 = .ok (.invokevirtual 56, 3) := by decide +kernel
theorem dL_law_440 : decode cL_law 440 = .ok (.aload_n 2, 1) := by decide +kernel
theorem dL_law_441 : decode cL_law 441 = .ok (.invokevirtual 59, 3) := by decide +kernel
theorem dL_law_444 : decode cL_law 444 = .ok (.if_icmp .eq 750, 3) := by decide +kernel
theorem dL_law_447 : decode cL_law 447 = .ok (.iconst 0, 1) := by decide +kernel
theorem dL_law_448 : decode cL_law 448 = .ok (.ireturn, 1) := by decide +kernel
theorem dL_law_449 : decode cL_law 449 = .ok (.aload_n 1, 1) := by decide +kernel
theorem dL_law_450 : decode cL_law 450 = .ok (.aload_n 0, 1) := by decide +kernel
theorem dL_law_451 : decode cL_law 451 = .ok (.iload_n 3, 1) := by decide +kernel
theorem dL_law_452 : decode cL_law 452 = .ok (.iconst 1, 1) := by decide +kernel
theorem dL_law_453 : decode cL_law 453 = .ok (.iadd, 1) := by decide +kernel
theorem dL_law_454 : decode cL_law 454 = .ok (.iaload, 1) := by decide +kernel
theorem dL_law_455 : decode cL_law 455 = .ok (.invokevirtual 60, 3) := by decide +kernel
theorem dL_law_458 : decode cL_law 458 = .ok (.aload_n 2, 1) := by decide +kernel
theorem dL_law_459 : decode cL_law 459 = .ok (.aload_n 0, 1) := by decide +kernel
theorem dL_law_460 : decode cL_law 460 = .ok (.iload_n 3, 1) := by decide +kernel
theorem dL_law_461 : decode cL_law 461 = .ok (.iconst 1, 1) := by decide +kernel
theorem dL_law_462 : decode cL_law 462 = .ok (.iadd, 1) := by decide +kernel
theorem dL_law_463 : decode cL_law 463 = .ok (.iaload, 1) := by decide +kernel
theorem dL_law_464 : decode cL_law 464 = .ok (.invokevirtual 63, 3) := by decide +kernel
theorem dL_law_467 : decode cL_law 467 = .ok (.if_icmp .eq 727, 3) := by decide +kernel
theorem dL_law_470 : decode cL_law 470 = .ok (.iconst 0, 1) := by decide +kernel
theorem dL_law_471 : decode cL_law 471 = .ok (.ireturn, 1) := by decide +kernel
theorem dL_law_472 : decode cL_law 472 = .ok (.aload_n 1, 1) := by decide +kernel
theorem dL_law_473 : decode cL_law 473 = .ok (.aload_n 0, 1) := by decide +kernel
theorem dL_law_474 : decode cL_law 474 = .ok (.iload_n 3, 1) := by decide +kernel
theorem dL_law_475 : decode cL_law 475 = .ok (.iconst 1, 1) := by decide +kernel
theorem dL_law_476 : decode cL_law 476 = .ok (.iadd, 1) := by decide +kernel
theorem dL_law_477 : decode cL_law 477 = .ok (.iaload, 1) := by decide +kernel
theorem dL_law_478 : decode cL_law 478 = .ok (.invokevirtual 64, 3) := by decide +kernel
theorem dL_law_481 : decode cL_law 481 = .ok (.aload_n 2, 1) := by decide +kernel
theorem dL_law_482 : decode cL_law 482 = .ok (.aload_n 0, 1) := by decide +kernel
theorem dL_law_483 : decode cL_law 483 = .ok (.iload_n 3, 1) := by decide +kernel
theorem dL_law_484 : decode cL_law 484 = .ok (.iconst 1, 1) := by decide +kernel
theorem dL_law_485 : decode cL_law 485 = .ok (.iadd, 1) := by decide +kernel
theorem dL_law_486 : decode cL_law 486 = .ok (.iaload, 1) := by decide +kernel
theorem dL_law_487 : decode cL_law 487 = .ok (.invokevirtual 67, 3) := by decide +kernel
theorem dL_law_490 : decode cL_law 490 = .ok (.if_icmp .eq 704, 3) := by decide +kernel
theorem dL_law_493 : decode cL_law 493 = .ok (.iconst 0, 1) := by decide +kernel
theorem dL_law_494 : decode cL_law 494 = .ok (.ireturn, 1) := by decide +kernel
theorem dL_law_495 : decode cL_law 495 = .ok (.aload_n 1, 1) := by decide +kernel
theorem dL_law_496 : decode cL_law 496 = .ok (.aload_n 0, 1) := by decide +kernel
theorem dL_law_497 : decode cL_law 497 = .ok (.iload_n 3, 1) := by decide +kernel
theorem dL_law_498 : decode cL_law 498 = .ok (.iconst 1, 1) := by decide +kernel
theorem dL_law_499 : decode cL_law 499 = .ok (.iadd, 1) := by decide +kernel
theorem dL_law_500 : decode cL_law 500 = .ok (.iaload, 1) := by decide +kernel
theorem dL_law_501 : decode cL_law 501 = .ok (.aload_n 0, 1) := by decide +kernel
theorem dL_law_502 : decode cL_law 502 = .ok (.iload_n 3, 1) := by decide +kernel
theorem dL_law_503 : decode cL_law 503 = .ok (.iconst 2, 1) := by decide +kernel
theorem dL_law_504 : decode cL_law 504 = .ok (.iadd, 1) := by decide +kernel
theorem dL_law_505 : decode cL_law 505 = .ok (.iaload, 1) := by decide +kernel
theorem dL_law_506 : decode cL_law 506 = .ok (.invokevirtual 68, 3) := by decide +kernel
theorem dL_law_509 : decode cL_law 509 = .ok (.aload_n 2, 1) := by decide +kernel
theorem dL_law_510 : decode cL_law 510 = .ok (.aload_n 0, 1) := by decide +kernel
theorem dL_law_511 : decode cL_law 511 = .ok (.iload_n 3, 1) := by decide +kernel
theorem dL_law_512 : decode cL_law 512 = .ok (.iconst 1, 1) := by decide +kernel
theorem dL_law_513 : decode cL_law 513 = .ok (.iadd, 1) := by decide +kernel
theorem dL_law_514 : decode cL_law 514 = .ok (.iaload, 1) := by decide +kernel
theorem dL_law_515 : decode cL_law 515 = .ok (.aload_n 0, 1) := by decide +kernel
theorem dL_law_516 : decode cL_law 516 = .ok (.iload_n 3, 1) := by decide +kernel
theorem dL_law_517 : decode cL_law 517 = .ok (.iconst 2, 1) := by decide +kernel
theorem dL_law_518 : decode cL_law 518 = .ok (.iadd, 1) := by decide +kernel
theorem dL_law_519 : decode cL_law 519 = .ok (.iaload, 1) := by decide +kernel
theorem dL_law_520 : decode cL_law 520 = .ok (.invokevirtual 71, 3) := by decide +kernel
theorem dL_law_523 : decode cL_law 523 = .ok (.if_icmp .eq 671, 3) := by decide +kernel
theorem dL_law_526 : decode cL_law 526 = .ok (.iconst 0, 1) := by decide +kernel
theorem dL_law_527 : decode cL_law 527 = .ok (.ireturn, 1) := by decide +kernel
theorem dL_law_528 : decode cL_law 528 = .ok (.aload_n 1, 1) := by decide +kernel
theorem dL_law_529 : decode cL_law 529 = .ok (.aload_n 0, 1) := by decide +kernel
theorem dL_law_530 : decode cL_law 530 = .ok (.iload_n 3, 1) := by decide +kernel
theorem dL_law_531 : decode cL_law 531 = .ok (.iconst 1, 1) := by decide +kernel
theorem dL_law_532 : decode cL_law 532 = .ok (.iadd, 1) := by decide +kernel
theorem dL_law_533 : decode cL_law 533 = .ok (.iaload, 1) := by decide +kernel
theorem dL_law_534 : decode cL_law 534 = .ok (.invokevirtual 72, 3) := by decide +kernel
theorem dL_law_537 : decode cL_law 537 = .ok (.aload_n 2, 1) := by decide +kernel
theorem dL_law_538 : decode cL_law 538 = .ok (.aload_n 0, 1) := by decide +kernel
theorem dL_law_539 : decode cL_law 539 = .ok (.iload_n 3, 1) := by decide +kernel
theorem dL_law_540 : decode cL_law 540 = .ok (.iconst 1, 1) := by decide +kernel
theorem dL_law_541 : decode cL_law 541 = .ok (.iadd, 1) := by decide +kernel
theorem dL_law_542 : decode cL_law 542 = .ok (.iaload, 1) := by decide +kernel
theorem dL_law_543 : decode cL_law 543 = .ok (.invokevirtual 75, 3) := by decide +kernel
theorem dL_law_546 : decode cL_law 546 = .ok (.if_icmp .eq 648, 3) := by decide +kernel
theorem dL_law_549 : decode cL_law 549 = .ok (.iconst 0, 1) := by decide +kernel
theorem dL_law_550 : decode cL_law 550 = .ok (.ireturn, 1) := by decide +kernel
theorem dL_law_551 : decode cL_law 551 = .ok (.aload_n 1, 1) := by decide +kernel
theorem dL_law_552 : decode cL_law 552 = .ok (.aload_n 0, 1) := by decide +kernel
theorem dL_law_553 : decode cL_law 553 = .ok (.iload_n 3, 1) := by decide +kernel
theorem dL_law_554 : decode cL_law 554 = .ok (.iconst 1, 1) := by decide +kernel
theorem dL_law_555 : decode cL_law 555 = .ok (.iadd, 1) := by decide +kernel
theorem dL_law_556 : decode cL_law 556 = .ok (.iaload, 1) := by decide +kernel
theorem dL_law_557 : decode cL_law 557 = .ok (.aload_n 0, 1) := by decide +kernel
theorem dL_law_558 : decode cL_law 558 = .ok (.iload_n 3, 1) := by decide +kernel
theorem dL_law_559 : decode cL_law 559 = .ok (.iconst 2, 1) := by decide +kernel
theorem dL_law_560 : decode cL_law 560 = .ok (.iadd, 1) := by decide +kernel
theorem dL_law_561 : decode cL_law 561 = .ok (.iaload, 1) := by decide +kernel
theorem dL_law_562 : decode cL_law 562 = .ok (.invokevirtual 76, 3) := by decide +kernel
theorem dL_law_565 : decode cL_law 565 = .ok (.aload_n 2, 1) := by decide +kernel
theorem dL_law_566 : decode cL_law 566 = .ok (.aload_n 0, 1) := by decide +kernel
theorem dL_law_567 : decode cL_law 567 = .ok (.iload_n 3, 1) := by decide +kernel
theorem dL_law_568 : decode cL_law 568 = .ok (.iconst 1, 1) := by decide +kernel
theorem dL_law_569 : decode cL_law 569 = .ok (.iadd, 1) := by decide +kernel
theorem dL_law_570 : decode cL_law 570 = .ok (.iaload, 1) := by decide +kernel
theorem dL_law_571 : decode cL_law 571 = .ok (.aload_n 0, 1) := by decide +kernel
theorem dL_law_572 : decode cL_law 572 = .ok (.iload_n 3, 1) := by decide +kernel
theorem dL_law_573 : decode cL_law 573 = .ok (.iconst 2, 1) := by decide +kernel
theorem dL_law_574 : decode cL_law 574 = .ok (.iadd, 1) := by decide +kernel
theorem dL_law_575 : decode cL_law 575 = .ok (.iaload, 1) := by decide +kernel
theorem dL_law_576 : decode cL_law 576 = .ok (.invokevirtual 79, 3) := by decide +kernel
theorem dL_law_579 : decode cL_law 579 = .ok (.if_icmp .eq 615, 3) := by decide +kernel
theorem dL_law_582 : decode cL_law 582 = .ok (.iconst 0, 1) := by decide +kernel
theorem dL_law_583 : decode cL_law 583 = .ok (.ireturn, 1) := by decide +kernel
theorem dL_law_584 : decode cL_law 584 = .ok (.aload_n 1, 1) := by decide +kernel
theorem dL_law_585 : decode cL_law 585 = .ok (.aload_n 0, 1) := by decide +kernel
theorem dL_law_586 : decode cL_law 586 = .ok (.iload_n 3, 1) := by decide +kernel
theorem dL_law_587 : decode cL_law 587 = .ok (.iconst 1, 1) := by decide +kernel
theorem dL_law_588 : decode cL_law 588 = .ok (.iadd, 1) := by decide +kernel
theorem dL_law_589 : decode cL_law 589 = .ok (.iaload, 1) := by decide +kernel
theorem dL_law_590 : decode cL_law 590 = .ok (.invokevirtual 80, 3) := by decide +kernel
theorem dL_law_593 : decode cL_law 593 = .ok (.aload_n 2, 1) := by decide +kernel
theorem dL_law_594 : decode cL_law 594 = .ok (.aload_n 0, 1) := by decide +kernel
theorem dL_law_595 : decode cL_law 595 = .ok (.iload_n 3, 1) := by decide +kernel
theorem dL_law_596 : decode cL_law 596 = .ok (.iconst 1, 1) := by decide +kernel
theorem dL_law_597 : decode cL_law 597 = .ok (.iadd, 1) := by decide +kernel
theorem dL_law_598 : decode cL_law 598 = .ok (.iaload, 1) := by decide +kernel
theorem dL_law_599 : decode cL_law 599 = .ok (.invokevirtual 83, 3) := by decide +kernel
theorem dL_law_602 : decode cL_law 602 = .ok (.if_icmp .eq 592, 3) := by decide +kernel
theorem dL_law_605 : decode cL_law 605 = .ok (.iconst 0, 1) := by decide +kernel
theorem dL_law_606 : decode cL_law 606 = .ok (.ireturn, 1) := by decide +kernel
theorem dL_law_607 : decode cL_law 607 = .ok (.aload_n 1, 1) := by decide +kernel
theorem dL_law_608 : decode cL_law 608 = .ok (.invokevirtual 84, 3) := by decide +kernel
theorem dL_law_611 : decode cL_law 611 = .ok (.aload_n 2, 1) := by decide +kernel
theorem dL_law_612 : decode cL_law 612 = .ok (.invokevirtual 87, 3) := by decide +kernel
theorem dL_law_615 : decode cL_law 615 = .ok (.if_icmp .eq 579, 3) := by decide +kernel
theorem dL_law_618 : decode cL_law 618 = .ok (.iconst 0, 1) := by decide +kernel
theorem dL_law_619 : decode cL_law 619 = .ok (.ireturn, 1) := by decide +kernel
theorem dL_law_620 : decode cL_law 620 = .ok (.aload_n 1, 1) := by decide +kernel
theorem dL_law_621 : decode cL_law 621 = .ok (.aload_n 0, 1) := by decide +kernel
theorem dL_law_622 : decode cL_law 622 = .ok (.iload_n 3, 1) := by decide +kernel
theorem dL_law_623 : decode cL_law 623 = .ok (.iconst 1, 1) := by decide +kernel
theorem dL_law_624 : decode cL_law 624 = .ok (.iadd, 1) := by decide +kernel
theorem dL_law_625 : decode cL_law 625 = .ok (.iaload, 1) := by decide +kernel
theorem dL_law_626 : decode cL_law 626 = .ok (.aload_n 0, 1) := by decide +kernel
theorem dL_law_627 : decode cL_law 627 = .ok (.iload_n 3, 1) := by decide +kernel
theorem dL_law_628 : decode cL_law 628 = .ok (.iconst 2, 1) := by decide +kernel
theorem dL_law_629 : decode cL_law 629 = .ok (.iadd, 1) := by decide +kernel
theorem dL_law_630 : decode cL_law 630 = .ok (.iaload, 1) := by decide +kernel
theorem dL_law_631 : decode cL_law 631 = .ok (.aload_n 0, 1) := by decide +kernel
theorem dL_law_632 : decode cL_law 632 = .ok (.iload_n 3, 1) := by decide +kernel
theorem dL_law_633 : decode cL_law 633 = .ok (.iconst 3, 1) := by decide +kernel
theorem dL_law_634 : decode cL_law 634 = .ok (.iadd, 1) := by decide +kernel
theorem dL_law_635 : decode cL_law 635 = .ok (.iaload, 1) := by decide +kernel
theorem dL_law_636 : decode cL_law 636 = .ok (.invokevirtual 88, 3) := by decide +kernel
theorem dL_law_639 : decode cL_law 639 = .ok (.aload_n 2, 1) := by decide +kernel
theorem dL_law_640 : decode cL_law 640 = .ok (.aload_n 0, 1) := by decide +kernel
theorem dL_law_641 : decode cL_law 641 = .ok (.iload_n 3, 1) := by decide +kernel
theorem dL_law_642 : decode cL_law 642 = .ok (.iconst 1, 1) := by decide +kernel
theorem dL_law_643 : decode cL_law 643 = .ok (.iadd, 1) := by decide +kernel
theorem dL_law_644 : decode cL_law 644 = .ok (.iaload, 1) := by decide +kernel
theorem dL_law_645 : decode cL_law 645 = .ok (.aload_n 0, 1) := by decide +kernel
theorem dL_law_646 : decode cL_law 646 = .ok (.iload_n 3, 1) := by decide +kernel
theorem dL_law_647 : decode cL_law 647 = .ok (.iconst 2, 1) := by decide +kernel
theorem dL_law_648 : decode cL_law 648 = .ok (.iadd, 1) := by decide +kernel
theorem dL_law_649 : decode cL_law 649 = .ok (.iaload, 1) := by decide +kernel
theorem dL_law_650 : decode cL_law 650 = .ok (.aload_n 0, 1) := by decide +kernel
theorem dL_law_651 : decode cL_law 651 = .ok (.iload_n 3, 1) := by decide +kernel
theorem dL_law_652 : decode cL_law 652 = .ok (.iconst 3, 1) := by decide +kernel
theorem dL_law_653 : decode cL_law 653 = .ok (.iadd, 1) := by decide +kernel
theorem dL_law_654 : decode cL_law 654 = .ok (.iaload, 1) := by decide +kernel
theorem dL_law_655 : decode cL_law 655 = .ok (.invokevirtual 92, 3) := by decide +kernel
theorem dL_law_658 : decode cL_law 658 = .ok (.if_icmp .eq 536, 3) := by decide +kernel
theorem dL_law_661 : decode cL_law 661 = .ok (.iconst 0, 1) := by decide +kernel
theorem dL_law_662 : decode cL_law 662 = .ok (.ireturn, 1) := by decide +kernel
theorem dL_law_663 : decode cL_law 663 = .ok (.aload_n 1, 1) := by decide +kernel
theorem dL_law_664 : decode cL_law 664 = .ok (.aload_n 0, 1) := by decide +kernel
theorem dL_law_665 : decode cL_law 665 = .ok (.iload_n 3, 1) := by decide +kernel
theorem dL_law_666 : decode cL_law 666 = .ok (.iconst 1, 1) := by decide +kernel
theorem dL_law_667 : decode cL_law 667 = .ok (.iadd, 1) := by decide +kernel
theorem dL_law_668 : decode cL_law 668 = .ok (.iaload, 1) := by decide +kernel
theorem dL_law_669 : decode cL_law 669 = .ok (.aload_n 0, 1) := by decide +kernel
theorem dL_law_670 : decode cL_law 670 = .ok (.iload_n 3, 1) := by decide +kernel
theorem dL_law_671 : decode cL_law 671 = .ok (.iconst 2, 1) := by decide +kernel
theorem dL_law_672 : decode cL_law 672 = .ok (.iadd, 1) := by decide +kernel
theorem dL_law_673 : decode cL_law 673 = .ok (.iaload, 1) := by decide +kernel
theorem dL_law_674 : decode cL_law 674 = .ok (.invokevirtual 93, 3) := by decide +kernel
theorem dL_law_677 : decode cL_law 677 = .ok (.aload_n 2, 1) := by decide +kernel
theorem dL_law_678 : decode cL_law 678 = .ok (.aload_n 0, 1) := by decide +kernel
theorem dL_law_679 : decode cL_law 679 = .ok (.iload_n 3, 1) := by decide +kernel
theorem dL_law_680 : decode cL_law 680 = .ok (.iconst 1, 1) := by decide +kernel
theorem dL_law_681 : decode cL_law 681 = .ok (.iadd, 1) := by decide +kernel
theorem dL_law_682 : decode cL_law 682 = .ok (.iaload, 1) := by decide +kernel
theorem dL_law_683 : decode cL_law 683 = .ok (.aload_n 0, 1) := by decide +kernel
theorem dL_law_684 : decode cL_law 684 = .ok (.iload_n 3, 1) := by decide +kernel
theorem dL_law_685 : decode cL_law 685 = .ok (.iconst 2, 1) := by decide +kernel
theorem dL_law_686 : decode cL_law 686 = .ok (.iadd, 1) := by decide +kernel
theorem dL_law_687 : decode cL_law 687 = .ok (.iaload, 1) := by decide +kernel
theorem dL_law_688 : decode cL_law 688 = .ok (.invokevirtual 96, 3) := by decide +kernel
theorem dL_law_691 : decode cL_law 691 = .ok (.if_icmp .eq 503, 3) := by decide +kernel
theorem dL_law_694 : decode cL_law 694 = .ok (.iconst 0, 1) := by decide +kernel
theorem dL_law_695 : decode cL_law 695 = .ok (.ireturn, 1) := by decide +kernel
theorem dL_law_696 : decode cL_law 696 = .ok (.aload_n 1, 1) := by decide +kernel
theorem dL_law_697 : decode cL_law 697 = .ok (.aload_n 0, 1) := by decide +kernel
theorem dL_law_698 : decode cL_law 698 = .ok (.iload_n 3, 1) := by decide +kernel
theorem dL_law_699 : decode cL_law 699 = .ok (.iconst 1, 1) := by decide +kernel
theorem dL_law_700 : decode cL_law 700 = .ok (.iadd, 1) := by decide +kernel
theorem dL_law_701 : decode cL_law 701 = .ok (.iaload, 1) := by decide +kernel
theorem dL_law_702 : decode cL_law 702 = .ok (.aload_n 0, 1) := by decide +kernel
theorem dL_law_703 : decode cL_law 703 = .ok (.iload_n 3, 1) := by decide +kernel
theorem dL_law_704 : decode cL_law 704 = .ok (.iconst 2, 1) := by decide +kernel
theorem dL_law_705 : decode cL_law 705 = .ok (.iadd, 1) := by decide +kernel
theorem dL_law_706 : decode cL_law 706 = .ok (.iaload, 1) := by decide +kernel
theorem dL_law_707 : decode cL_law 707 = .ok (.invokevirtual 97, 3) := by decide +kernel
theorem dL_law_710 : decode cL_law 710 = .ok (.aload_n 2, 1) := by decide +kernel
theorem dL_law_711 : decode cL_law 711 = .ok (.aload_n 0, 1) := by decide +kernel
theorem dL_law_712 : decode cL_law 712 = .ok (.iload_n 3, 1) := by decide +kernel
theorem dL_law_713 : decode cL_law 713 = .ok (.iconst 1, 1) := by decide +kernel
theorem dL_law_714 : decode cL_law 714 = .ok (.iadd, 1) := by decide +kernel
theorem dL_law_715 : decode cL_law 715 = .ok (.iaload, 1) := by decide +kernel
theorem dL_law_716 : decode cL_law 716 = .ok (.aload_n 0, 1) := by decide +kernel
theorem dL_law_717 : decode cL_law 717 = .ok (.iload_n 3, 1) := by decide +kernel
theorem dL_law_718 : decode cL_law 718 = .ok (.iconst 2, 1) := by decide +kernel
theorem dL_law_719 : decode cL_law 719 = .ok (.iadd, 1) := by decide +kernel
theorem dL_law_720 : decode cL_law 720 = .ok (.iaload, 1) := by decide +kernel
theorem dL_law_721 : decode cL_law 721 = .ok (.invokevirtual 100, 3) := by decide +kernel
theorem dL_law_724 : decode cL_law 724 = .ok (.if_icmp .eq 470, 3) := by decide +kernel
theorem dL_law_727 : decode cL_law 727 = .ok (.iconst 0, 1) := by decide +kernel
theorem dL_law_728 : decode cL_law 728 = .ok (.ireturn, 1) := by decide +kernel
theorem dL_law_729 : decode cL_law 729 = .ok (.aload_n 1, 1) := by decide +kernel
theorem dL_law_730 : decode cL_law 730 = .ok (.aload_n 0, 1) := by decide +kernel
theorem dL_law_731 : decode cL_law 731 = .ok (.iload_n 3, 1) := by decide +kernel
theorem dL_law_732 : decode cL_law 732 = .ok (.iconst 1, 1) := by decide +kernel
theorem dL_law_733 : decode cL_law 733 = .ok (.iadd, 1) := by decide +kernel
theorem dL_law_734 : decode cL_law 734 = .ok (.iaload, 1) := by decide +kernel
theorem dL_law_735 : decode cL_law 735 = .ok (.invokevirtual 101, 3) := by decide +kernel
theorem dL_law_738 : decode cL_law 738 = .ok (.aload_n 2, 1) := by decide +kernel
theorem dL_law_739 : decode cL_law 739 = .ok (.aload_n 0, 1) := by decide +kernel
theorem dL_law_740 : decode cL_law 740 = .ok (.iload_n 3, 1) := by decide +kernel
theorem dL_law_741 : decode cL_law 741 = .ok (.iconst 1, 1) := by decide +kernel
theorem dL_law_742 : decode cL_law 742 = .ok (.iadd, 1) := by decide +kernel
theorem dL_law_743 : decode cL_law 743 = .ok (.iaload, 1) := by decide +kernel
theorem dL_law_744 : decode cL_law 744 = .ok (.invokevirtual 104, 3) := by decide +kernel
theorem dL_law_747 : decode cL_law 747 = .ok (.if_icmp .eq 447, 3) := by decide +kernel
theorem dL_law_750 : decode cL_law 750 = .ok (.iconst 0, 1) := by decide +kernel
theorem dL_law_751 : decode cL_law 751 = .ok (.ireturn, 1) := by decide +kernel
theorem dL_law_752 : decode cL_law 752 = .ok (.aload_n 1, 1) := by decide +kernel
theorem dL_law_753 : decode cL_law 753 = .ok (.aload_n 0, 1) := by decide +kernel
theorem dL_law_754 : decode cL_law 754 = .ok (.iload_n 3, 1) := by decide +kernel
theorem dL_law_755 : decode cL_law 755 = .ok (.iconst 1, 1) := by decide +kernel
theorem dL_law_756 : decode cL_law 756 = .ok (.iadd, 1) := by decide +kernel
theorem dL_law_757 : decode cL_law 757 = .ok (.iaload, 1) := by decide +kernel
theorem dL_law_758 : decode cL_law 758 = .ok (.invokevirtual 105, 3) := by decide +kernel
theorem dL_law_761 : decode cL_law 761 = .ok (.aload_n 2, 1) := by decide +kernel
theorem dL_law_762 : decode cL_law 762 = .ok (.aload_n 0, 1) := by decide +kernel
theorem dL_law_763 : decode cL_law 763 = .ok (.iload_n 3, 1) := by decide +kernel
theorem dL_law_764 : decode cL_law 764 = .ok (.iconst 1, 1) := by decide +kernel
theorem dL_law_765 : decode cL_law 765 = .ok (.iadd, 1) := by decide +kernel
theorem dL_law_766 : decode cL_law 766 = .ok (.iaload, 1) := by decide +kernel
theorem dL_law_767 : decode cL_law 767 = .ok (.invokevirtual 108, 3) := by decide +kernel
theorem dL_law_770 : decode cL_law 770 = .ok (.if_icmp .eq 424, 3) := by decide +kernel
theorem dL_law_773 : decode cL_law 773 = .ok (.iconst 0, 1) := by decide +kernel
theorem dL_law_774 : decode cL_law 774 = .ok (.ireturn, 1) := by decide +kernel
theorem dL_law_775 : decode cL_law 775 = .ok (.aload_n 1, 1) := by decide +kernel
theorem dL_law_776 : decode cL_law 776 = .ok (.aload_n 0, 1) := by decide +kernel
theorem dL_law_777 : decode cL_law 777 = .ok (.iload_n 3, 1) := by decide +kernel
theorem dL_law_778 : decode cL_law 778 = .ok (.iconst 1, 1) := by decide +kernel
theorem dL_law_779 : decode cL_law 779 = .ok (.iadd, 1) := by decide +kernel
theorem dL_law_780 : decode cL_law 780 = .ok (.iaload, 1) := by decide +kernel
theorem dL_law_781 : decode cL_law 781 = .ok (.aload_n 0, 1) := by decide +kernel
theorem dL_law_782 : decode cL_law 782 = .ok (.iload_n 3, 1) := by decide +kernel
theorem dL_law_783 : decode cL_law 783 = .ok (.iconst 2, 1) := by decide +kernel
theorem dL_law_784 : decode cL_law 784 = .ok (.iadd, 1) := by decide +kernel
theorem dL_law_785 : decode cL_law 785 = .ok (.iaload, 1) := by decide +kernel
theorem dL_law_786 : decode cL_law 786 = .ok (.aload_n 0, 1) := by decide +kernel
theorem dL_law_787 : decode cL_law 787 = .ok (.iload_n 3, 1) := by decide +kernel
theorem dL_law_788 : decode cL_law 788 = .ok (.iconst 3, 1) := by decide +kernel
theorem dL_law_789 : decode cL_law 789 = .ok (.iadd, 1) := by decide +kernel
theorem dL_law_790 : decode cL_law 790 = .ok (.iaload, 1) := by decide +kernel
theorem dL_law_791 : decode cL_law 791 = .ok (.invokevirtual 109, 3) := by decide +kernel
theorem dL_law_794 : decode cL_law 794 = .ok (.aload_n 2, 1) := by decide +kernel
theorem dL_law_795 : decode cL_law 795 = .ok (.aload_n 0, 1) := by decide +kernel
theorem dL_law_796 : decode cL_law 796 = .ok (.iload_n 3, 1) := by decide +kernel
theorem dL_law_797 : decode cL_law 797 = .ok (.iconst 1, 1) := by decide +kernel
theorem dL_law_798 : decode cL_law 798 = .ok (.iadd, 1) := by decide +kernel
theorem dL_law_799 : decode cL_law 799 = .ok (.iaload, 1) := by decide +kernel
theorem dL_law_800 : decode cL_law 800 = .ok (.aload_n 0, 1) := by decide +kernel
theorem dL_law_801 : decode cL_law 801 = .ok (.iload_n 3, 1) := by decide +kernel
theorem dL_law_802 : decode cL_law 802 = .ok (.iconst 2, 1) := by decide +kernel
theorem dL_law_803 : decode cL_law 803 = .ok (.iadd, 1) := by decide +kernel
theorem dL_law_804 : decode cL_law 804 = .ok (.iaload, 1) := by decide +kernel
theorem dL_law_805 : decode cL_law 805 = .ok (.aload_n 0, 1) := by decide +kernel
theorem dL_law_806 : decode cL_law 806 = .ok (.iload_n 3, 1) := by decide +kernel
theorem dL_law_807 : decode cL_law 807 = .ok (.iconst 3, 1) := by decide +kernel
theorem dL_law_808 : decode cL_law 808 = .ok (.iadd, 1) := by decide +kernel
theorem dL_law_809 : decode cL_law 809 = .ok (.iaload, 1) := by decide +kernel
theorem dL_law_810 : decode cL_law 810 = .ok (.invokevirtual 112, 3) := by decide +kernel
theorem dL_law_813 : decode cL_law 813 = .ok (.if_icmp .eq 381, 3) := by decide +kernel
theorem dL_law_816 : decode cL_law 816 = .ok (.iconst 0, 1) := by decide +kernel
theorem dL_law_817 : decode cL_law 817 = .ok (.ireturn, 1) := by decide +kernel
theorem dL_law_818 : decode cL_law 818 = .ok (.aload_n 1, 1) := by decide +kernel
theorem dL_law_819 : decode cL_law 819 = .ok (.invokevirtual 113, 3) := by decide +kernel
theorem dL_law_822 : decode cL_law 822 = .ok (.aload_n 2, 1) := by decide +kernel
theorem dL_law_823 : decode cL_law 823 = .ok (.invokevirtual 116, 3) := by decide +kernel
theorem dL_law_826 : decode cL_law 826 = .ok (.if_icmp .eq 368, 3) := by decide +kernel
theorem dL_law_829 : decode cL_law 829 = .ok (.iconst 0, 1) := by decide +kernel
theorem dL_law_830 : decode cL_law 830 = .ok (.ireturn, 1) := by decide +kernel
theorem dL_law_831 : decode cL_law 831 = .ok (.aload_n 1, 1) := by decide +kernel
theorem dL_law_832 : decode cL_law 832 = .ok (.invokevirtual 117, 3) := by decide +kernel
theorem dL_law_835 : decode cL_law 835 = .ok (.aload_n 2, 1) := by decide +kernel
theorem dL_law_836 : decode cL_law 836 = .ok (.invokevirtual 120, 3) := by decide +kernel
theorem dL_law_839 : decode cL_law 839 = .ok (.if_icmp .eq 355, 3) := by decide +kernel
theorem dL_law_842 : decode cL_law 842 = .ok (.iconst 0, 1) := by decide +kernel
theorem dL_law_843 : decode cL_law 843 = .ok (.ireturn, 1) := by decide +kernel
theorem dL_law_844 : decode cL_law 844 = .ok (.aload_n 1, 1) := by decide +kernel
theorem dL_law_845 : decode cL_law 845 = .ok (.aload_n 0, 1) := by decide +kernel
theorem dL_law_846 : decode cL_law 846 = .ok (.iload_n 3, 1) := by decide +kernel
theorem dL_law_847 : decode cL_law 847 = .ok (.iconst 1, 1) := by decide +kernel
theorem dL_law_848 : decode cL_law 848 = .ok (.iadd, 1) := by decide +kernel
theorem dL_law_849 : decode cL_law 849 = .ok (.iaload, 1) := by decide +kernel
theorem dL_law_850 : decode cL_law 850 = .ok (.aload_n 0, 1) := by decide +kernel
theorem dL_law_851 : decode cL_law 851 = .ok (.iload_n 3, 1) := by decide +kernel
theorem dL_law_852 : decode cL_law 852 = .ok (.iconst 2, 1) := by decide +kernel
theorem dL_law_853 : decode cL_law 853 = .ok (.iadd, 1) := by decide +kernel
theorem dL_law_854 : decode cL_law 854 = .ok (.iaload, 1) := by decide +kernel
theorem dL_law_855 : decode cL_law 855 = .ok (.aload_n 0, 1) := by decide +kernel
theorem dL_law_856 : decode cL_law 856 = .ok (.iload_n 3, 1) := by decide +kernel
theorem dL_law_857 : decode cL_law 857 = .ok (.iconst 3, 1) := by decide +kernel
theorem dL_law_858 : decode cL_law 858 = .ok (.iadd, 1) := by decide +kernel
theorem dL_law_859 : decode cL_law 859 = .ok (.iaload, 1) := by decide +kernel
theorem dL_law_860 : decode cL_law 860 = .ok (.aload_n 0, 1) := by decide +kernel
theorem dL_law_861 : decode cL_law 861 = .ok (.iload_n 3, 1) := by decide +kernel
theorem dL_law_862 : decode cL_law 862 = .ok (.iconst 4, 1) := by decide +kernel
theorem dL_law_863 : decode cL_law 863 = .ok (.iadd, 1) := by decide +kernel
theorem dL_law_864 : decode cL_law 864 = .ok (.iaload, 1) := by decide +kernel
theorem dL_law_865 : decode cL_law 865 = .ok (.aload_n 0, 1) := by decide +kernel
theorem dL_law_866 : decode cL_law 866 = .ok (.iload_n 3, 1) := by decide +kernel
theorem dL_law_867 : decode cL_law 867 = .ok (.iconst 5, 1) := by decide +kernel
theorem dL_law_868 : decode cL_law 868 = .ok (.iadd, 1) := by decide +kernel
theorem dL_law_869 : decode cL_law 869 = .ok (.iaload, 1) := by decide +kernel
theorem dL_law_870 : decode cL_law 870 = .ok (.aload_n 0, 1) := by decide +kernel
theorem dL_law_871 : decode cL_law 871 = .ok (.iload_n 3, 1) := by decide +kernel
theorem dL_law_872 : decode cL_law 872 = .ok (.bipush 6, 2) := by decide +kernel
theorem dL_law_874 : decode cL_law 874 = .ok (.iadd, 1) := by decide +kernel
theorem dL_law_875 : decode cL_law 875 = .ok (.iaload, 1) := by decide +kernel
theorem dL_law_876 : decode cL_law 876 = .ok (.invokevirtual 121, 3) := by decide +kernel
theorem dL_law_879 : decode cL_law 879 = .ok (.aload_n 2, 1) := by decide +kernel
theorem dL_law_880 : decode cL_law 880 = .ok (.aload_n 0, 1) := by decide +kernel
theorem dL_law_881 : decode cL_law 881 = .ok (.iload_n 3, 1) := by decide +kernel
theorem dL_law_882 : decode cL_law 882 = .ok (.iconst 1, 1) := by decide +kernel
theorem dL_law_883 : decode cL_law 883 = .ok (.iadd, 1) := by decide +kernel
theorem dL_law_884 : decode cL_law 884 = .ok (.iaload, 1) := by decide +kernel
theorem dL_law_885 : decode cL_law 885 = .ok (.aload_n 0, 1) := by decide +kernel
theorem dL_law_886 : decode cL_law 886 = .ok (.iload_n 3, 1) := by decide +kernel
theorem dL_law_887 : decode cL_law 887 = .ok (.iconst 2, 1) := by decide +kernel
theorem dL_law_888 : decode cL_law 888 = .ok (.iadd, 1) := by decide +kernel
theorem dL_law_889 : decode cL_law 889 = .ok (.iaload, 1) := by decide +kernel
theorem dL_law_890 : decode cL_law 890 = .ok (.aload_n 0, 1) := by decide +kernel
theorem dL_law_891 : decode cL_law 891 = .ok (.iload_n 3, 1) := by decide +kernel
theorem dL_law_892 : decode cL_law 892 = .ok (.iconst 3, 1) := by decide +kernel
theorem dL_law_893 : decode cL_law 893 = .ok (.iadd, 1) := by decide +kernel
theorem dL_law_894 : decode cL_law 894 = .ok (.iaload, 1) := by decide +kernel
theorem dL_law_895 : decode cL_law 895 = .ok (.aload_n 0, 1) := by decide +kernel
theorem dL_law_896 : decode cL_law 896 = .ok (.iload_n 3, 1) := by decide +kernel
theorem dL_law_897 : decode cL_law 897 = .ok (.iconst 4, 1) := by decide +kernel
theorem dL_law_898 : decode cL_law 898 = .ok (.iadd, 1) := by decide +kernel
theorem dL_law_899 : decode cL_law 899 = .ok (.iaload, 1) := by decide +kernel
theorem dL_law_900 : decode cL_law 900 = .ok (.aload_n 0, 1) := by decide +kernel
theorem dL_law_901 : decode cL_law 901 = .ok (.iload_n 3, 1) := by decide +kernel
theorem dL_law_902 : decode cL_law 902 = .ok (.iconst 5, 1) := by decide +kernel
theorem dL_law_903 : decode cL_law 903 = .ok (.iadd, 1) := by decide +kernel
theorem dL_law_904 : decode cL_law 904 = .ok (.iaload, 1) := by decide +kernel
theorem dL_law_905 : decode cL_law 905 = .ok (.aload_n 0, 1) := by decide +kernel
theorem dL_law_906 : decode cL_law 906 = .ok (.iload_n 3, 1) := by decide +kernel
theorem dL_law_907 : decode cL_law 907 = .ok (.bipush 6, 2) := by decide +kernel
theorem dL_law_909 : decode cL_law 909 = .ok (.iadd, 1) := by decide +kernel
theorem dL_law_910 : decode cL_law 910 = .ok (.iaload, 1) := by decide +kernel
theorem dL_law_911 : decode cL_law 911 = .ok (.invokevirtual 125, 3) := by decide +kernel
theorem dL_law_914 : decode cL_law 914 = .ok (.if_icmp .eq 280, 3) := by decide +kernel
theorem dL_law_917 : decode cL_law 917 = .ok (.iconst 0, 1) := by decide +kernel
theorem dL_law_918 : decode cL_law 918 = .ok (.ireturn, 1) := by decide +kernel
theorem dL_law_919 : decode cL_law 919 = .ok (.aload_n 1, 1) := by decide +kernel
theorem dL_law_920 : decode cL_law 920 = .ok (.aload_n 0, 1) := by decide +kernel
theorem dL_law_921 : decode cL_law 921 = .ok (.iload_n 3, 1) := by decide +kernel
theorem dL_law_922 : decode cL_law 922 = .ok (.iconst 1, 1) := by decide +kernel
theorem dL_law_923 : decode cL_law 923 = .ok (.iadd, 1) := by decide +kernel
theorem dL_law_924 : decode cL_law 924 = .ok (.iaload, 1) := by decide +kernel
theorem dL_law_925 : decode cL_law 925 = .ok (.aload_n 0, 1) := by decide +kernel
theorem dL_law_926 : decode cL_law 926 = .ok (.iload_n 3, 1) := by decide +kernel
theorem dL_law_927 : decode cL_law 927 = .ok (.iconst 2, 1) := by decide +kernel
theorem dL_law_928 : decode cL_law 928 = .ok (.iadd, 1) := by decide +kernel
theorem dL_law_929 : decode cL_law 929 = .ok (.iaload, 1) := by decide +kernel
theorem dL_law_930 : decode cL_law 930 = .ok (.aload_n 0, 1) := by decide +kernel
theorem dL_law_931 : decode cL_law 931 = .ok (.iload_n 3, 1) := by decide +kernel
theorem dL_law_932 : decode cL_law 932 = .ok (.iconst 3, 1) := by decide +kernel
theorem dL_law_933 : decode cL_law 933 = .ok (.iadd, 1) := by decide +kernel
theorem dL_law_934 : decode cL_law 934 = .ok (.iaload, 1) := by decide +kernel
theorem dL_law_935 : decode cL_law 935 = .ok (.aload_n 0, 1) := by decide +kernel
theorem dL_law_936 : decode cL_law 936 = .ok (.iload_n 3, 1) := by decide +kernel
theorem dL_law_937 : decode cL_law 937 = .ok (.iconst 4, 1) := by decide +kernel
theorem dL_law_938 : decode cL_law 938 = .ok (.iadd, 1) := by decide +kernel
theorem dL_law_939 : decode cL_law 939 = .ok (.iaload, 1) := by decide +kernel
theorem dL_law_940 : decode cL_law 940 = .ok (.aload_n 0, 1) := by decide +kernel
theorem dL_law_941 : decode cL_law 941 = .ok (.iload_n 3, 1) := by decide +kernel
theorem dL_law_942 : decode cL_law 942 = .ok (.iconst 5, 1) := by decide +kernel
theorem dL_law_943 : decode cL_law 943 = .ok (.iadd, 1) := by decide +kernel
theorem dL_law_944 : decode cL_law 944 = .ok (.iaload, 1) := by decide +kernel
theorem dL_law_945 : decode cL_law 945 = .ok (.invokevirtual 126, 3) := by decide +kernel
theorem dL_law_948 : decode cL_law 948 = .ok (.aload_n 2, 1) := by decide +kernel
theorem dL_law_949 : decode cL_law 949 = .ok (.aload_n 0, 1) := by decide +kernel
theorem dL_law_950 : decode cL_law 950 = .ok (.iload_n 3, 1) := by decide +kernel
theorem dL_law_951 : decode cL_law 951 = .ok (.iconst 1, 1) := by decide +kernel
theorem dL_law_952 : decode cL_law 952 = .ok (.iadd, 1) := by decide +kernel
theorem dL_law_953 : decode cL_law 953 = .ok (.iaload, 1) := by decide +kernel
theorem dL_law_954 : decode cL_law 954 = .ok (.aload_n 0, 1) := by decide +kernel
theorem dL_law_955 : decode cL_law 955 = .ok (.iload_n 3, 1) := by decide +kernel
theorem dL_law_956 : decode cL_law 956 = .ok (.iconst 2, 1) := by decide +kernel
theorem dL_law_957 : decode cL_law 957 = .ok (.iadd, 1) := by decide +kernel
theorem dL_law_958 : decode cL_law 958 = .ok (.iaload, 1) := by decide +kernel
theorem dL_law_959 : decode cL_law 959 = .ok (.aload_n 0, 1) := by decide +kernel
theorem dL_law_960 : decode cL_law 960 = .ok (.iload_n 3, 1) := by decide +kernel
theorem dL_law_961 : decode cL_law 961 = .ok (.iconst 3, 1) := by decide +kernel
theorem dL_law_962 : decode cL_law 962 = .ok (.iadd, 1) := by decide +kernel
theorem dL_law_963 : decode cL_law 963 = .ok (.iaload, 1) := by decide +kernel
theorem dL_law_964 : decode cL_law 964 = .ok (.aload_n 0, 1) := by decide +kernel
theorem dL_law_965 : decode cL_law 965 = .ok (.iload_n 3, 1) := by decide +kernel
theorem dL_law_966 : decode cL_law 966 = .ok (.iconst 4, 1) := by decide +kernel
theorem dL_law_967 : decode cL_law 967 = .ok (.iadd, 1) := by decide +kernel
theorem dL_law_968 : decode cL_law 968 = .ok (.iaload, 1) := by decide +kernel
theorem dL_law_969 : decode cL_law 969 = .ok (.aload_n 0, 1) := by decide +kernel
theorem dL_law_970 : decode cL_law 970 = .ok (.iload_n 3, 1) := by decide +kernel
theorem dL_law_971 : decode cL_law 971 = .ok (.iconst 5, 1) := by decide +kernel
theorem dL_law_972 : decode cL_law 972 = .ok (.iadd, 1) := by decide +kernel
theorem dL_law_973 : decode cL_law 973 = .ok (.iaload, 1) := by decide +kernel
theorem dL_law_974 : decode cL_law 974 = .ok (.invokevirtual 130, 3) := by decide +kernel
theorem dL_law_977 : decode cL_law 977 = .ok (.if_icmp .eq 217, 3) := by decide +kernel
theorem dL_law_980 : decode cL_law 980 = .ok (.iconst 0, 1) := by decide +kernel
theorem dL_law_981 : decode cL_law 981 = .ok (.ireturn, 1) := by decide +kernel
theorem dL_law_982 : decode cL_law 982 = .ok (.aload_n 1, 1) := by decide +kernel
theorem dL_law_983 : decode cL_law 983 = .ok (.aload_n 0, 1) := by decide +kernel
theorem dL_law_984 : decode cL_law 984 = .ok (.iload_n 3, 1) := by decide +kernel
theorem dL_law_985 : decode cL_law 985 = .ok (.iconst 1, 1) := by decide +kernel
theorem dL_law_986 : decode cL_law 986 = .ok (.iadd, 1) := by decide +kernel
theorem dL_law_987 : decode cL_law 987 = .ok (.iaload, 1) := by decide +kernel
theorem dL_law_988 : decode cL_law 988 = .ok (.aload_n 0, 1) := by decide +kernel
theorem dL_law_989 : decode cL_law 989 = .ok (.iload_n 3, 1) := by decide +kernel
theorem dL_law_990 : decode cL_law 990 = .ok (.iconst 2, 1) := by decide +kernel
theorem dL_law_991 : decode cL_law 991 = .ok (.iadd, 1) := by decide +kernel
theorem dL_law_992 : decode cL_law 992 = .ok (.iaload, 1) := by decide +kernel
theorem dL_law_993 : decode cL_law 993 = .ok (.aload_n 0, 1) := by decide +kernel
theorem dL_law_994 : decode cL_law 994 = .ok (.iload_n 3, 1) := by decide +kernel
theorem dL_law_995 : decode cL_law 995 = .ok (.iconst 3, 1) := by decide +kernel
theorem dL_law_996 : decode cL_law 996 = .ok (.iadd, 1) := by decide +kernel
theorem dL_law_997 : decode cL_law 997 = .ok (.iaload, 1) := by decide +kernel
theorem dL_law_998 : decode cL_law 998 = .ok (.invokevirtual 131, 3) := by decide +kernel
theorem dL_law_1001 : decode cL_law 1001 = .ok (.aload_n 2, 1) := by decide +kernel
theorem dL_law_1002 : decode cL_law 1002 = .ok (.aload_n 0, 1) := by decide +kernel
theorem dL_law_1003 : decode cL_law 1003 = .ok (.iload_n 3, 1) := by decide +kernel
theorem dL_law_1004 : decode cL_law 1004 = .ok (.iconst 1, 1) := by decide +kernel
theorem dL_law_1005 : decode cL_law 1005 = .ok (.iadd, 1) := by decide +kernel
theorem dL_law_1006 : decode cL_law 1006 = .ok (.iaload, 1) := by decide +kernel
theorem dL_law_1007 : decode cL_law 1007 = .ok (.aload_n 0, 1) := by decide +kernel
theorem dL_law_1008 : decode cL_law 1008 = .ok (.iload_n 3, 1) := by decide +kernel
theorem dL_law_1009 : decode cL_law 1009 = .ok (.iconst 2, 1) := by decide +kernel
theorem dL_law_1010 : decode cL_law 1010 = .ok (.iadd, 1) := by decide +kernel
theorem dL_law_1011 : decode cL_law 1011 = .ok (.iaload, 1) := by decide +kernel
theorem dL_law_1012 : decode cL_law 1012 = .ok (.aload_n 0, 1) := by decide +kernel
theorem dL_law_1013 : decode cL_law 1013 = .ok (.iload_n 3, 1) := by decide +kernel
theorem dL_law_1014 : decode cL_law 1014 = .ok (.iconst 3, 1) := by decide +kernel
theorem dL_law_1015 : decode cL_law 1015 = .ok (.iadd, 1) := by decide +kernel
theorem dL_law_1016 : decode cL_law 1016 = .ok (.iaload, 1) := by decide +kernel
theorem dL_law_1017 : decode cL_law 1017 = .ok (.invokevirtual 134, 3) := by decide +kernel
theorem dL_law_1020 : decode cL_law 1020 = .ok (.if_icmp .eq 174, 3) := by decide +kernel
theorem dL_law_1023 : decode cL_law 1023 = .ok (.iconst 0, 1) := by decide +kernel
theorem dL_law_1024 : decode cL_law 1024 = .ok (.ireturn, 1) := by decide +kernel
theorem dL_law_1025 : decode cL_law 1025 = .ok (.aload_n 1, 1) := by decide +kernel
theorem dL_law_1026 : decode cL_law 1026 = .ok (.aload_n 0, 1) := by decide +kernel
theorem dL_law_1027 : decode cL_law 1027 = .ok (.iload_n 3, 1) := by decide +kernel
theorem dL_law_1028 : decode cL_law 1028 = .ok (.iconst 1, 1) := by decide +kernel
theorem dL_law_1029 : decode cL_law 1029 = .ok (.iadd, 1) := by decide +kernel
theorem dL_law_1030 : decode cL_law 1030 = .ok (.iaload, 1) := by decide +kernel
theorem dL_law_1031 : decode cL_law 1031 = .ok (.invokevirtual 135, 3) := by decide +kernel
theorem dL_law_1034 : decode cL_law 1034 = .ok (.aload_n 2, 1) := by decide +kernel
theorem dL_law_1035 : decode cL_law 1035 = .ok (.aload_n 0, 1) := by decide +kernel
theorem dL_law_1036 : decode cL_law 1036 = .ok (.iload_n 3, 1) := by decide +kernel
theorem dL_law_1037 : decode cL_law 1037 = .ok (.iconst 1, 1) := by decide +kernel
theorem dL_law_1038 : decode cL_law 1038 = .ok (.iadd, 1) := by decide +kernel
theorem dL_law_1039 : decode cL_law 1039 = .ok (.iaload, 1) := by decide +kernel
theorem dL_law_1040 : decode cL_law 1040 = .ok (.invokevirtual 138, 3) := by decide +kernel
theorem dL_law_1043 : decode cL_law 1043 = .ok (.if_icmp .eq 151, 3) := by decide +kernel
theorem dL_law_1046 : decode cL_law 1046 = .ok (.iconst 0, 1) := by decide +kernel
theorem dL_law_1047 : decode cL_law 1047 = .ok (.ireturn, 1) := by decide +kernel
theorem dL_law_1048 : decode cL_law 1048 = .ok (.aload_n 1, 1) := by decide +kernel
theorem dL_law_1049 : decode cL_law 1049 = .ok (.aload_n 0, 1) := by decide +kernel
theorem dL_law_1050 : decode cL_law 1050 = .ok (.iload_n 3, 1) := by decide +kernel
theorem dL_law_1051 : decode cL_law 1051 = .ok (.iconst 1, 1) := by decide +kernel
theorem dL_law_1052 : decode cL_law 1052 = .ok (.iadd, 1) := by decide +kernel
theorem dL_law_1053 : decode cL_law 1053 = .ok (.iaload, 1) := by decide +kernel
theorem dL_law_1054 : decode cL_law 1054 = .ok (.aload_n 0, 1) := by decide +kernel
theorem dL_law_1055 : decode cL_law 1055 = .ok (.iload_n 3, 1) := by decide +kernel
theorem dL_law_1056 : decode cL_law 1056 = .ok (.iconst 2, 1) := by decide +kernel
theorem dL_law_1057 : decode cL_law 1057 = .ok (.iadd, 1) := by decide +kernel
theorem dL_law_1058 : decode cL_law 1058 = .ok (.iaload, 1) := by decide +kernel
theorem dL_law_1059 : decode cL_law 1059 = .ok (.aload_n 0, 1) := by decide +kernel
theorem dL_law_1060 : decode cL_law 1060 = .ok (.iload_n 3, 1) := by decide +kernel
theorem dL_law_1061 : decode cL_law 1061 = .ok (.iconst 3, 1) := by decide +kernel
theorem dL_law_1062 : decode cL_law 1062 = .ok (.iadd, 1) := by decide +kernel
theorem dL_law_1063 : decode cL_law 1063 = .ok (.iaload, 1) := by decide +kernel
theorem dL_law_1064 : decode cL_law 1064 = .ok (.aload_n 0, 1) := by decide +kernel
theorem dL_law_1065 : decode cL_law 1065 = .ok (.iload_n 3, 1) := by decide +kernel
theorem dL_law_1066 : decode cL_law 1066 = .ok (.iconst 4, 1) := by decide +kernel
theorem dL_law_1067 : decode cL_law 1067 = .ok (.iadd, 1) := by decide +kernel
theorem dL_law_1068 : decode cL_law 1068 = .ok (.iaload, 1) := by decide +kernel
theorem dL_law_1069 : decode cL_law 1069 = .ok (.i2l, 1) := by decide +kernel
theorem dL_law_1070 : decode cL_law 1070 = .ok (.bipush 32, 2) := by decide +kernel
theorem dL_law_1072 : decode cL_law 1072 = .ok (.lshl, 1) := by decide +kernel
theorem dL_law_1073 : decode cL_law 1073 = .ok (.aload_n 0, 1) := by decide +kernel
theorem dL_law_1074 : decode cL_law 1074 = .ok (.iload_n 3, 1) := by decide +kernel
theorem dL_law_1075 : decode cL_law 1075 = .ok (.iconst 5, 1) := by decide +kernel
theorem dL_law_1076 : decode cL_law 1076 = .ok (.iadd, 1) := by decide +kernel
theorem dL_law_1077 : decode cL_law 1077 = .ok (.iaload, 1) := by decide +kernel
theorem dL_law_1078 : decode cL_law 1078 = .ok (.i2l, 1) := by decide +kernel
theorem dL_law_1079 : decode cL_law 1079 = .ok (.ldc2_w 139, 3) := by decide +kernel
theorem dL_law_1082 : decode cL_law 1082 = .ok (.land, 1) := by decide +kernel
theorem dL_law_1083 : decode cL_law 1083 = .ok (.lor, 1) := by decide +kernel
theorem dL_law_1084 : decode cL_law 1084 = .ok (.invokevirtual 141, 3) := by decide +kernel
theorem dL_law_1087 : decode cL_law 1087 = .ok (.aload_n 2, 1) := by decide +kernel
theorem dL_law_1088 : decode cL_law 1088 = .ok (.aload_n 0, 1) := by decide +kernel
theorem dL_law_1089 : decode cL_law 1089 = .ok (.iload_n 3, 1) := by decide +kernel
theorem dL_law_1090 : decode cL_law 1090 = .ok (.iconst 1, 1) := by decide +kernel
theorem dL_law_1091 : decode cL_law 1091 = .ok (.iadd, 1) := by decide +kernel
theorem dL_law_1092 : decode cL_law 1092 = .ok (.iaload, 1) := by decide +kernel
theorem dL_law_1093 : decode cL_law 1093 = .ok (.aload_n 0, 1) := by decide +kernel
theorem dL_law_1094 : decode cL_law 1094 = .ok (.iload_n 3, 1) := by decide +kernel
theorem dL_law_1095 : decode cL_law 1095 = .ok (.iconst 2, 1) := by decide +kernel
theorem dL_law_1096 : decode cL_law 1096 = .ok (.iadd, 1) := by decide +kernel
theorem dL_law_1097 : decode cL_law 1097 = .ok (.iaload, 1) := by decide +kernel
theorem dL_law_1098 : decode cL_law 1098 = .ok (.aload_n 0, 1) := by decide +kernel
theorem dL_law_1099 : decode cL_law 1099 = .ok (.iload_n 3, 1) := by decide +kernel
theorem dL_law_1100 : decode cL_law 1100 = .ok (.iconst 3, 1) := by decide +kernel
theorem dL_law_1101 : decode cL_law 1101 = .ok (.iadd, 1) := by decide +kernel
theorem dL_law_1102 : decode cL_law 1102 = .ok (.iaload, 1) := by decide +kernel
theorem dL_law_1103 : decode cL_law 1103 = .ok (.aload_n 0, 1) := by decide +kernel
theorem dL_law_1104 : decode cL_law 1104 = .ok (.iload_n 3, 1) := by decide +kernel
theorem dL_law_1105 : decode cL_law 1105 = .ok (.iconst 4, 1) := by decide +kernel
theorem dL_law_1106 : decode cL_law 1106 = .ok (.iadd, 1) := by decide +kernel
theorem dL_law_1107 : decode cL_law 1107 = .ok (.iaload, 1) := by decide +kernel
theorem dL_law_1108 : decode cL_law 1108 = .ok (.i2l, 1) := by decide +kernel
theorem dL_law_1109 : decode cL_law 1109 = .ok (.bipush 32, 2) := by decide +kernel
theorem dL_law_1111 : decode cL_law 1111 = .ok (.lshl, 1) := by decide +kernel
theorem dL_law_1112 : decode cL_law 1112 = .ok (.aload_n 0, 1) := by decide +kernel
theorem dL_law_1113 : decode cL_law 1113 = .ok (.iload_n 3, 1) := by decide +kernel
theorem dL_law_1114 : decode cL_law 1114 = .ok (.iconst 5, 1) := by decide +kernel
theorem dL_law_1115 : decode cL_law 1115 = .ok (.iadd, 1) := by decide +kernel
theorem dL_law_1116 : decode cL_law 1116 = .ok (.iaload, 1) := by decide +kernel
theorem dL_law_1117 : decode cL_law 1117 = .ok (.i2l, 1) := by decide +kernel
theorem dL_law_1118 : decode cL_law 1118 = .ok (.ldc2_w 139, 3) := by decide +kernel
theorem dL_law_1121 : decode cL_law 1121 = .ok (.land, 1) := by decide +kernel
theorem dL_law_1122 : decode cL_law 1122 = .ok (.lor, 1) := by decide +kernel
theorem dL_law_1123 : decode cL_law 1123 = .ok (.invokevirtual 145, 3) := by decide +kernel
theorem dL_law_1126 : decode cL_law 1126 = .ok (.if_icmp .eq 68, 3) := by decide +kernel
theorem dL_law_1129 : decode cL_law 1129 = .ok (.iconst 0, 1) := by decide +kernel
theorem dL_law_1130 : decode cL_law 1130 = .ok (.ireturn, 1) := by decide +kernel
theorem dL_law_1131 : decode cL_law 1131 = .ok (.aload_n 1, 1) := by decide +kernel
theorem dL_law_1132 : decode cL_law 1132 = .ok (.aload_n 0, 1) := by decide +kernel
theorem dL_law_1133 : decode cL_law 1133 = .ok (.iload_n 3, 1) := by decide +kernel
theorem dL_law_1134 : decode cL_law 1134 = .ok (.iconst 1, 1) := by decide +kernel
theorem dL_law_1135 : decode cL_law 1135 = .ok (.iadd, 1) := by decide +kernel
theorem dL_law_1136 : decode cL_law 1136 = .ok (.iaload, 1) := by decide +kernel
theorem dL_law_1137 : decode cL_law 1137 = .ok (.aload_n 0, 1) := by decide +kernel
theorem dL_law_1138 : decode cL_law 1138 = .ok (.iload_n 3, 1) := by decide +kernel
theorem dL_law_1139 : decode cL_law 1139 = .ok (.iconst 2, 1) := by decide +kernel
theorem dL_law_1140 : decode cL_law 1140 = .ok (.iadd, 1) := by decide +kernel
theorem dL_law_1141 : decode cL_law 1141 = .ok (.iaload, 1) := by decide +kernel
theorem dL_law_1142 : decode cL_law 1142 = .ok (.aload_n 0, 1) := by decide +kernel
theorem dL_law_1143 : decode cL_law 1143 = .ok (.iload_n 3, 1) := by decide +kernel
theorem dL_law_1144 : decode cL_law 1144 = .ok (.iconst 3, 1) := by decide +kernel
theorem dL_law_1145 : decode cL_law 1145 = .ok (.iadd, 1) := by decide +kernel
theorem dL_law_1146 : decode cL_law 1146 = .ok (.iaload, 1) := by decide +kernel
theorem dL_law_1147 : decode cL_law 1147 = .ok (.aload_n 0, 1) := by decide +kernel
theorem dL_law_1148 : decode cL_law 1148 = .ok (.iload_n 3, 1) := by decide +kernel
theorem dL_law_1149 : decode cL_law 1149 = .ok (.iconst 4, 1) := by decide +kernel
theorem dL_law_1150 : decode cL_law 1150 = .ok (.iadd, 1) := by decide +kernel
theorem dL_law_1151 : decode cL_law 1151 = .ok (.iaload, 1) := by decide +kernel
theorem dL_law_1152 : decode cL_law 1152 = .ok (.aload_n 0, 1) := by decide +kernel
theorem dL_law_1153 : decode cL_law 1153 = .ok (.iload_n 3, 1) := by decide +kernel
theorem dL_law_1154 : decode cL_law 1154 = .ok (.iconst 5, 1) := by decide +kernel
theorem dL_law_1155 : decode cL_law 1155 = .ok (.iadd, 1) := by decide +kernel
theorem dL_law_1156 : decode cL_law 1156 = .ok (.iaload, 1) := by decide +kernel
theorem dL_law_1157 : decode cL_law 1157 = .ok (.invokevirtual 146, 3) := by decide +kernel
theorem dL_law_1160 : decode cL_law 1160 = .ok (.aload_n 2, 1) := by decide +kernel
theorem dL_law_1161 : decode cL_law 1161 = .ok (.aload_n 0, 1) := by decide +kernel
theorem dL_law_1162 : decode cL_law 1162 = .ok (.iload_n 3, 1) := by decide +kernel
theorem dL_law_1163 : decode cL_law 1163 = .ok (.iconst 1, 1) := by decide +kernel
theorem dL_law_1164 : decode cL_law 1164 = .ok (.iadd, 1) := by decide +kernel
theorem dL_law_1165 : decode cL_law 1165 = .ok (.iaload, 1) := by decide +kernel
theorem dL_law_1166 : decode cL_law 1166 = .ok (.aload_n 0, 1) := by decide +kernel
theorem dL_law_1167 : decode cL_law 1167 = .ok (.iload_n 3, 1) := by decide +kernel
theorem dL_law_1168 : decode cL_law 1168 = .ok (.iconst 2, 1) := by decide +kernel
theorem dL_law_1169 : decode cL_law 1169 = .ok (.iadd, 1) := by decide +kernel
theorem dL_law_1170 : decode cL_law 1170 = .ok (.iaload, 1) := by decide +kernel
theorem dL_law_1171 : decode cL_law 1171 = .ok (.aload_n 0, 1) := by decide +kernel
theorem dL_law_1172 : decode cL_law 1172 = .ok (.iload_n 3, 1) := by decide +kernel
theorem dL_law_1173 : decode cL_law 1173 = .ok (.iconst 3, 1) := by decide +kernel
theorem dL_law_1174 : decode cL_law 1174 = .ok (.iadd, 1) := by decide +kernel
theorem dL_law_1175 : decode cL_law 1175 = .ok (.iaload, 1) := by decide +kernel
theorem dL_law_1176 : decode cL_law 1176 = .ok (.aload_n 0, 1) := by decide +kernel
theorem dL_law_1177 : decode cL_law 1177 = .ok (.iload_n 3, 1) := by decide +kernel
theorem dL_law_1178 : decode cL_law 1178 = .ok (.iconst 4, 1) := by decide +kernel
theorem dL_law_1179 : decode cL_law 1179 = .ok (.iadd, 1) := by decide +kernel
theorem dL_law_1180 : decode cL_law 1180 = .ok (.iaload, 1) := by decide +kernel
theorem dL_law_1181 : decode cL_law 1181 = .ok (.aload_n 0, 1) := by decide +kernel
theorem dL_law_1182 : decode cL_law 1182 = .ok (.iload_n 3, 1) := by decide +kernel
theorem dL_law_1183 : decode cL_law 1183 = .ok (.iconst 5, 1) := by decide +kernel
theorem dL_law_1184 : decode cL_law 1184 = .ok (.iadd, 1) := by decide +kernel
theorem dL_law_1185 : decode cL_law 1185 = .ok (.iaload, 1) := by decide +kernel
theorem dL_law_1186 : decode cL_law 1186 = .ok (.invokevirtual 149, 3) := by decide +kernel
theorem dL_law_1189 : decode cL_law 1189 = .ok (.if_icmp .eq 5, 3) := by decide +kernel
theorem dL_law_1192 : decode cL_law 1192 = .ok (.iconst 0, 1) := by decide +kernel
theorem dL_law_1193 : decode cL_law 1193 = .ok (.ireturn, 1) := by decide +kernel
theorem dL_law_1194 : decode cL_law 1194 = .ok (.iinc 3 7, 3) := by decide +kernel
theorem dL_law_1197 : decode cL_law 1197 = .ok (.goto (-1179), 3) := by decide +kernel
theorem dL_law_1200 : decode cL_law 1200 = .ok (.iconst 1, 1) := by decide +kernel
theorem dL_law_1201 : decode cL_law 1201 = .ok (.ireturn, 1) := by decide +kernel
end
section
-- MACHINE LAYER: values, memory, world of one object of fixed shape; continuations; what it is that a continuation is right at a pc
abbrev ZV : Type := Int32 ⊕ (Int64 ⊕ (Nat × Nat))
abbrev ZM : Type := (Nat → Nat → Int32) × (Nat → Nat → Int64)
abbrev ZR : Type := Option ZV × ZM
abbrev ZL : Type := List (Option ZV)
abbrev ZK (ρ : Type) : Type := ZL → List ZV → ZM → Option ρ
/-- program, launch, env, room, start state, method id, args, frames below, method, code -/
abbrev ZX : Type := Program × Launch × Env × Room × State × MethodId × Array Value × List Frame × Method × Code
/-- addresses of the cells, the tables' numbers, array classes, kinds of the cells, what may change -/
abbrev ZE : Type := (Nat → Nat) × va_G × (Nat → ClassId) × List Nat × (Nat → Prop)
/-- fields of a class in their order: none: a number; some (kind, how far behind the object's own cell) -/
def zk_fl (kd : Nat) : List (Option (Nat × Nat)) := match kd with
  | 0 => [some (4008, 1), none, none]
  | 1 => [some (3024, 1), none, none]
  | 2 => [some (1080, 1), none, none, none]
  | 3 => [some (1007, 1), some (1007, 2), some (1007, 3), some (1007, 4), none, none, none, none]
  | 4 => [some (3, 1), some (0, 6), some (3, 48), some (0, 53), some (2, 95), some (5004, 97), some (3, 98), none]
  | 5 => [some (1032, 1), some (1032, 2), some (1256, 3), none, some (1032, 4), some (1256, 5), none, none, some (1007, 6), some (2080, 7), none, none, none, none, some (1004, 8), some (1004, 9), some (3096, 10), some (3024, 11)]
  | _ => []
def zk_c (ad : Nat → Nat) : ZV → Value
  | .inl x => .int x
  | .inr (.inl y) => .long y
  | .inr (.inr q) => .ref (ad q.2)
def zk_f1 (ad : Nat → Nat) (μ : ZM) (k j : Nat) (o : Option (Nat × Nat)) : Value := match o with
  | none => .int (μ.1 k j)
  | some q => .ref (ad (k + q.2))
def zk_fs (ad : Nat → Nat) (μ : ZM) (k kd : Nat) : List Value := (zk_fl kd).mapIdx (fun j o => zk_f1 ad μ k j o)
def zk_E (E : ZE) (μ : ZM) (k kd : Nat) : va_E :=
  if kd < 1000 then .inr (kd, zk_fs E.1 μ k kd)
  else if kd < 2000 then .inl (E.2.2.1 1, kd - 1000, .inl (μ.1 k))
  else if kd < 3000 then .inl (E.2.2.1 2, kd - 2000, .inl (μ.1 k))
  else if kd < 4000 then .inl (E.2.2.1 3, kd - 3000, .inr (.inl (μ.2 k)))
  else if kd < 5000 then .inl (E.2.2.1 4, kd - 4000, .inr (.inr (.inr (.inr (fun i => some (E.1 (k + 1 + 5 * i)))))))
  else .inl (E.2.2.1 5, kd - 5000, .inr (.inr (.inr (.inr (fun i => some (E.1 (k + 6 + 2 * i)))))))
def zk_ws (E : ZE) (μ : ZM) : va_W := E.2.2.2.1.mapIdx (fun k kd => (E.1 k, zk_E E μ k kd))
def zk_ty (E : ZE) : List (ClassId × FieldType) := [(E.2.2.1 1, .int), (E.2.2.1 2, .byte), (E.2.2.1 3, .long), (E.2.2.1 4, .object RX3), (E.2.2.1 5, .object RX1)]
def zk_W (E : ZE) (μ : ZM) (H : Heap) : Prop := va_P E.2.1 vwCl (zk_ws E μ) H ∧ va_D E.2.2.2.2 (zk_ws E μ)
def zk_K (E : ZE) (U : State) : Prop := va_K E.2.1 vwCl (zk_ty E) U
def zk_w (E : ZE) (v : ZV) : Prop := match v with
  | .inr (.inr q) => E.2.2.2.1[q.2]? = some q.1
  | _ => True
/-- the shape is closed: what fields and rows of references name is there, of its kind -/
def zk_okB (shp : List Nat) : Bool := (List.range shp.length).all fun k => match shp[k]? with
  | none => true
  | some kd => ((zk_fl kd).all fun o => match o with
    | none => true
    | some q => shp[k + q.2]? == some q.1) && (kd != 4008 || (List.range 8).all fun i => shp[k + 1 + 5 * i]? == some 3) && (kd != 5004 || (List.range 4).all fun i => shp[k + 6 + 2 * i]? == some 1)
def zk_T : List Cond := lw_tbl.filter goodWord
theorem zk_mem (i : Nat) {w : Cond} (h : lw_tbl[i]? = some w) (hg : goodWord w = true) : w ∈ zk_T := List.mem_filter.mpr ⟨List.mem_of_getElem? h, hg⟩
def zk_Q (E : ZE) (r : ZR) : Array Value → State → Outcome → State → Prop := fun _ st oc t => oc = .returned (r.1.map (zk_c E.1)) ∧ (zk_W E r.2 t.heap ∧ zk_K E t) ∧ va_F E.2.2.2.2 st t
-- locals
def zk_nth : ZL → Nat → Option ZV
  | [], _ => none
  | a :: _, 0 => a
  | _ :: l, n + 1 => zk_nth l n
def zk_put : ZL → Nat → ZV → ZL
  | [], _, _ => []
  | _ :: l, 0, v => some v :: l
  | a :: l, n + 1, v => a :: zk_put l n v
def zk_lg : Option ZV → Bool
  | some (.inr (.inl _)) => true
  | _ => false
def zk_ok1 (L : ZL) : Nat → Bool
  | 0 => true
  | j + 1 => !zk_lg (zk_nth L j)
def zk_lv (ad : Nat → Nat) : ZL → Nat → List (Nat × Value)
  | [], _ => []
  | none :: l, i => zk_lv ad l (i + 1)
  | some v :: l, i => (i, zk_c ad v) :: zk_lv ad l (i + 1)
def zk_L (E : ZE) (ls : Array Slot) (nL : Nat) (L : ZL) : Prop := L.length = nL ∧ (∀ (i : Nat) (v : ZV), zk_nth L i = some v → zk_w E v) ∧ lv_has ls nL (zk_lv E.1 L 0)
theorem zk_lv_mem (ad : Nat → Nat) : ∀ (L : ZL) (i : Nat) (q : Nat × Value), q ∈ zk_lv ad L i ↔ ∃ (j : Nat) (v : ZV), zk_nth L j = some v ∧ q = (i + j, zk_c ad v)
  | [], i, q => by simp [zk_lv, zk_nth]
  | none :: l, i, q => by
    rw [show zk_lv ad (none :: l) i = zk_lv ad l (i + 1) from rfl, zk_lv_mem ad l (i + 1) q]
    constructor
    · rintro ⟨j, v, h1, h2⟩
      exact ⟨j + 1, v, h1, by rw [h2]; congr 1; omega⟩
    · rintro ⟨j, v, h1, h2⟩
      cases j with
      | zero => cases h1
      | succ j => exact ⟨j, v, h1, by rw [h2]; congr 1; omega⟩
  | some w :: l, i, q => by
    rw [show zk_lv ad (some w :: l) i = (i, zk_c ad w) :: zk_lv ad l (i + 1) from rfl, List.mem_cons, zk_lv_mem ad l (i + 1) q]
    constructor
    · rintro (h | ⟨j, v, h1, h2⟩)
      · exact ⟨0, w, rfl, h⟩
      · exact ⟨j + 1, v, h1, by rw [h2]; congr 1; omega⟩
    · rintro ⟨j, v, h1, h2⟩
      cases j with
      | zero => cases h1; exact Or.inl h2
      | succ j => exact Or.inr ⟨j, v, h1, by rw [h2]; congr 1; omega⟩
theorem zk_nth_put : ∀ (L : ZL) (i j : Nat) (v : ZV), i < L.length → zk_nth (zk_put L i v) j = if j = i then some v else zk_nth L j
  | [], i, j, v, h => absurd h (Nat.not_lt_zero _)
  | a :: l, 0, 0, v, _ => rfl
  | a :: l, 0, j + 1, v, _ => by simp [zk_put, zk_nth]
  | a :: l, i + 1, 0, v, _ => by simp [zk_put, zk_nth]
  | a :: l, i + 1, j + 1, v, h => by
    simp only [zk_put, zk_nth]
    rw [zk_nth_put l i j v (Nat.lt_of_succ_lt_succ h)]
    simp
theorem zk_put_len : ∀ (L : ZL) (i : Nat) (v : ZV), (zk_put L i v).length = L.length
  | [], _, _ => rfl
  | _ :: _, 0, _ => rfl
  | _ :: l, i + 1, v => by simp [zk_put, zk_put_len l i v]
theorem zk_L.at {E : ZE} {ls : Array Slot} {nL : Nat} {L : ZL} (h : zk_L E ls nL L) {i : Nat} {v : ZV} (hi : zk_nth L i = some v) : ls[i]? = some (.val (zk_c E.1 v)) :=
  h.2.2.2.2 (i, zk_c E.1 v) ((zk_lv_mem E.1 L 0 _).mpr ⟨i, v, hi, by simp⟩)
theorem zk_c_cat (ad : Nat → Nat) (v : ZV) : ((zk_c ad v).category == 2) = zk_lg (some v) := by
  rcases v with x | y | q <;> rfl
theorem zk_L.store {E : ZE} {nL : Nat} {L : ZL} {ls' : Array Slot} {i : Nat} {v : ZV} (hlen : L.length = nL) (hw : ∀ (j : Nat) (w : ZV), zk_nth L j = some w → zk_w E w) (hi : i < nL) (hv : zk_w E v) (ho : zk_ok1 L i = true)
    (h : lv_has ls' nL ((i, zk_c E.1 v) :: (zk_lv E.1 L 0).filter (fun q => !(q.1 == i) && !(q.1 + 1 == i && q.2.category == 2)))) : zk_L E ls' nL (zk_put L i v) := by
  refine ⟨(zk_put_len L i v).trans hlen, fun j w hj => ?_, h.1, h.2.1, fun q hq => ?_⟩
  · rw [zk_nth_put L i j v (by omega)] at hj
    by_cases e : j = i
    · rw [if_pos e] at hj; cases hj; exact hv
    · rw [if_neg e] at hj; exact hw j w hj
  · obtain ⟨j, w, h1, h2⟩ := (zk_lv_mem E.1 _ 0 q).mp hq
    rw [zk_nth_put L i j v (by omega)] at h1
    subst h2
    by_cases e : j = i
    · rw [if_pos e] at h1; cases h1; subst e
      exact h.2.2 (0 + j, zk_c E.1 v) (by rw [Nat.zero_add]; exact List.mem_cons_self)
    · rw [if_neg e] at h1
      refine h.2.2 _ (List.mem_cons_of_mem _ (List.mem_filter.mpr ⟨(zk_lv_mem E.1 L 0 _).mpr ⟨j, w, h1, rfl⟩, ?_⟩))
      have e1 : ((0 + j) == i) = false := by simp; omega
      simp only [e1, Bool.not_false, Bool.true_and, zk_c_cat]
      by_cases e2 : 0 + j + 1 = i
      · have : i = j + 1 := by omega
        subst this
        have : zk_lg (some w) = false := by
          have h3 : (!zk_lg (zk_nth L j)) = true := ho
          rw [h1] at h3
          simpa using h3
        simp [this]
      · have e3 : ((0 + j + 1) == i) = false := beq_eq_false_iff_ne.mpr e2
        simp only [e3, Bool.false_and, Bool.not_false]
/-- fewer locals known -/
def zk_le : ZL → ZL → Prop
  | [], [] => True
  | none :: a, _ :: b => zk_le a b
  | some v :: a, w :: b => w = some v ∧ zk_le a b
  | _, _ => False
theorem zk_le_len : ∀ (a b : ZL), zk_le a b → a.length = b.length
  | [], [], _ => rfl
  | [], _ :: _, h => h.elim
  | none :: a, [], h => h.elim
  | some _ :: a, [], h => h.elim
  | none :: a, _ :: b, h => by simp [zk_le_len a b h]
  | some _ :: a, _ :: b, h => by simp [zk_le_len a b h.2]
theorem zk_le_nth : ∀ (a b : ZL), zk_le a b → ∀ (i : Nat) (v : ZV), zk_nth a i = some v → zk_nth b i = some v
  | [], [], _, _, _, h => by cases h
  | [], _ :: _, h, _, _, _ => h.elim
  | none :: a, [], h, _, _, _ => h.elim
  | some _ :: a, [], h, _, _, _ => h.elim
  | none :: a, _ :: b, h, 0, _, h1 => by cases h1
  | none :: a, _ :: b, h, i + 1, v, h1 => zk_le_nth a b h i v h1
  | some _ :: a, _ :: b, h, 0, v, h1 => h.1.trans h1
  | some _ :: a, _ :: b, h, i + 1, v, h1 => zk_le_nth a b h.2 i v h1
theorem zk_L.less {E : ZE} {ls : Array Slot} {nL : Nat} {L L' : ZL} (h : zk_L E ls nL L) (hl : zk_le L' L) : zk_L E ls nL L' := by
  refine ⟨(zk_le_len _ _ hl).trans h.1, fun i v hi => h.2.1 i v (zk_le_nth _ _ hl i v hi), h.2.2.1, h.2.2.2.1, fun q hq => ?_⟩
  obtain ⟨j, w, h1, h2⟩ := (zk_lv_mem E.1 _ 0 q).mp hq
  exact h.2.2.2.2 q ((zk_lv_mem E.1 L 0 q).mpr ⟨j, w, zk_le_nth _ _ hl j w h1, h2⟩)
-- what is right at a pc
def zk_S (X : ZX) (E : ZE) (nL : Nat) {ρ : Type} (q : ρ → ZR) (pc : Nat) (κ : ZK ρ) : Prop :=
  ∀ (H : Heap) (locs : List Loc) (ls : Array Slot) (L : ZL) (st : List ZV) (μ : ZM) (r : ρ), κ L st μ = some r → zk_L E ls nL L → (∀ v ∈ st, zk_w E v) → zk_W E μ H → va_S E.2.2.2.2 X.2.2.2.2.1.heap H locs →
    W X.1 X.2.1 X.2.2.1 X.2.2.2.1 X.2.2.2.2.1 X.2.2.2.2.2.1 X.2.2.2.2.2.2.1 X.2.2.2.2.2.2.2.1 X.2.2.2.2.2.2.2.2.1 X.2.2.2.2.2.2.2.2.2 H locs 0 0 (MQ X.2.2.2.2.2.2.2.1 (zk_Q E (q r)) X.2.2.2.2.2.2.1 X.2.2.2.2.1 0 0 E.2.2.2.2) (F0 X.2.2.2.2.2.1 pc ls (st.map (zk_c E.1)))
/-- what stands fast while a method runs -/
def zk_X (X : ZX) (E : ZE) (own : String) (cc : ByteArray) (nL : Nat) (ret : Option FieldType) (rm : Room) : Prop :=
  X.1.tables.exec = Jvm.exec ∧ X.2.2.2.2.2.2.2.2.2.code = cc ∧ X.2.2.2.2.2.2.2.2.2.maxLocals = nL ∧ X.2.2.2.2.1.vm.findClass own = some X.2.2.2.2.2.1.cls ∧ (∀ w ∈ zk_T, w.before X.2.2.2.2.2.2.1 X.2.2.2.2.1 = true) ∧ zk_K E X.2.2.2.2.1 ∧ X.2.2.2.2.2.2.2.2.1.locks = false ∧ X.2.2.2.2.2.2.2.2.1.sig.returnType = ret ∧ zk_okB E.2.2.2.1 = true ∧ X.2.2.2.1 = rm
/-- a method's contract: G of the arguments and the memory is its answer and the memory behind it -/
def zk_C {σ : Type} (y : MethodName) (cc : ByteArray) (nL : Nat) (ret : Option FieldType) (rm : Room) (q : σ → ZR) (G : List ZV → ZM → Option σ) : Prop :=
  ∀ (l : Launch) (E : ZE) (as : List ZV) (μ : ZM) (r : σ), G as μ = some r → zk_okB E.2.2.2.1 = true → (∀ v ∈ as, zk_w E v) →
    Met l y (.code y cc nL ret :: zk_T) rm (va_Pc (as.map (zk_c E.1)) (fun U => zk_W E μ U.heap ∧ zk_K E U)) (zk_Q E (q r)) 0 0 E.2.2.2.2
end
section
-- memory
def zk_si (μ : ZM) (k j : Nat) (v : Int32) : ZM := (fun q => if q = k then upd (μ.1 k) j v else μ.1 q, μ.2)
def zk_sj (μ : ZM) (k j : Nat) (v : Int64) : ZM := (μ.1, fun q => if q = k then vp_updL (μ.2 k) j v else μ.2 q)
def zk_ci (μ : ZM) (k0 k1 sp dp n : Nat) : ZM := (fun q => if q = k1 then va_cpy (μ.1 k0) (μ.1 k1) sp dp n else μ.1 q, μ.2)
def zk_cj (μ : ZM) (k0 k1 sp dp n : Nat) : ZM := (μ.1, fun q => if q = k1 then va_cpy (μ.2 k0) (μ.2 k1) sp dp n else μ.2 q)
/-- an index outside -/
def zk_o (i : Int32) (n : Nat) : Bool := decide (i < 0 ∨ n ≤ i.toNatClampNeg)
theorem zk_o_in {i : Int32} {n : Nat} (h : ¬ zk_o i n = true) : vp_in i n := fun h1 => h (by simpa [zk_o] using h1)
theorem zk_at {E : ZE} (μ : ZM) {k kd : Nat} (h : E.2.2.2.1[k]? = some kd) : (zk_ws E μ)[k]? = some (E.1 k, zk_E E μ k kd) := by simp [zk_ws, List.getElem?_mapIdx, h]
theorem zk_E_same {E : ZE} {μ μ' : ZM} {k : Nat} (kd : Nat) (h : μ'.1 k = μ.1 k ∧ μ'.2 k = μ.2 k) : zk_E E μ' k kd = zk_E E μ k kd := by
  have e : zk_fs E.1 μ' k kd = zk_fs E.1 μ k kd := by
    unfold zk_fs
    congr 1
    funext j o
    cases o <;> simp [zk_f1, h.1]
  simp only [zk_E, h.1, h.2, e]
theorem zk_set {E : ZE} {μ μ' : ZM} {k kd : Nat} (h : E.2.2.2.1[k]? = some kd) (ho : ∀ j, j ≠ k → μ'.1 j = μ.1 j ∧ μ'.2 j = μ.2 j) : (zk_ws E μ).set k (E.1 k, zk_E E μ' k kd) = zk_ws E μ' := by
  apply List.ext_getElem?
  intro i
  by_cases e : i = k
  · subst e
    rw [zk_at μ' h, List.getElem?_set_self (List.getElem?_eq_some_iff.mp (zk_at μ h)).1]
  · rw [List.getElem?_set_ne (Ne.symm e)]
    cases hk : E.2.2.2.1[i]? with
    | none => simp [zk_ws, List.getElem?_mapIdx, hk]
    | some kd' => rw [zk_at μ hk, zk_at μ' hk, zk_E_same kd' (ho i e)]
theorem zk_fs_at {ad : Nat → Nat} {μ : ZM} {k kd j : Nat} {o : Option (Nat × Nat)} (h : (zk_fl kd)[j]? = some o) : (zk_fs ad μ k kd)[j]? = some (zk_f1 ad μ k j o) := by simp [zk_fs, List.getElem?_mapIdx, h]
theorem zk_fs_set {ad : Nat → Nat} {μ : ZM} {k kd j : Nat} {v : Int32} (h : (zk_fl kd)[j]? = some none) : (zk_fs ad μ k kd).set j (.int v) = zk_fs ad (zk_si μ k j v) k kd := by
  apply List.ext_getElem?
  intro i
  by_cases e : i = j
  · subst e
    rw [List.getElem?_set_self (List.getElem?_eq_some_iff.mp (zk_fs_at (ad := ad) (μ := μ) (k := k) h)).1, zk_fs_at h]
    simp [zk_f1, zk_si, upd]
  · rw [List.getElem?_set_ne (Ne.symm e)]
    cases hk : (zk_fl kd)[i]? with
    | none => simp [zk_fs, List.getElem?_mapIdx, hk]
    | some q =>
      rw [zk_fs_at hk, zk_fs_at hk]
      cases q <;> simp [zk_f1, zk_si, upd, e]
theorem zk_si_o {μ : ZM} {k j : Nat} {v : Int32} : ∀ i, i ≠ k → (zk_si μ k j v).1 i = μ.1 i ∧ (zk_si μ k j v).2 i = μ.2 i := fun i h => ⟨by simp [zk_si, h], rfl⟩
theorem zk_sj_o {μ : ZM} {k j : Nat} {v : Int64} : ∀ i, i ≠ k → (zk_sj μ k j v).1 i = μ.1 i ∧ (zk_sj μ k j v).2 i = μ.2 i := fun i h => ⟨rfl, by simp [zk_sj, h]⟩
theorem zk_ci_o {μ : ZM} {k0 k j a n : Nat} : ∀ i, i ≠ k → (zk_ci μ k0 k j a n).1 i = μ.1 i ∧ (zk_ci μ k0 k j a n).2 i = μ.2 i := fun i h => ⟨by simp [zk_ci, h], rfl⟩
theorem zk_cj_o {μ : ZM} {k0 k j a n : Nat} : ∀ i, i ≠ k → (zk_cj μ k0 k j a n).1 i = μ.1 i ∧ (zk_cj μ k0 k j a n).2 i = μ.2 i := fun i h => ⟨rfl, by simp [zk_cj, h]⟩
theorem zk_wcons {E : ZE} {v : ZV} {st : List ZV} (hv : zk_w E v) (h : ∀ w ∈ st, zk_w E w) : ∀ w ∈ v :: st, zk_w E w := fun w hw => (List.mem_cons.mp hw).elim (fun e => e ▸ hv) (h w)
theorem zk_wtl {E : ZE} {v : ZV} {st : List ZV} (h : ∀ w ∈ v :: st, zk_w E w) : ∀ w ∈ st, zk_w E w := fun w hw => h w (List.mem_cons_of_mem _ hw)
theorem zk_whd {E : ZE} {v : ZV} {st : List ZV} (h : ∀ w ∈ v :: st, zk_w E w) : zk_w E v := h v List.mem_cons_self

def zi_p {ρ : Type} (v : ZV) (κ : ZK ρ) : ZK ρ := fun L st μ => κ L (v :: st) μ
theorem zs_iconst {X : ZX} {E : ZE} {own : String} {cc : ByteArray} {nL : Nat} {ret : Option FieldType} {rm : Room} {ρ : Type} {q : ρ → ZR} {pc : Nat} {κ : ZK ρ} {n : Int} {v : Int32} (C : zk_X X E own cc nL ret rm) (hd : decode cc pc = .ok (.iconst n, 1)) (hv : Int32.ofInt n = v) (hk : zk_S X E nL q (pc + 1) κ) : zk_S X E nL q (pc) (zi_p (.inl v) κ) := by
  obtain ⟨p, l, e, R, s, m, args, below, meth, c⟩ := X
  obtain ⟨hx, hb, hml, hown, hts, hK, hlk, hrt, hok, hR⟩ := C
  intro H locs ls L st μ r h hL hst hW hS
  exact lv_iconst hx hb hd hv (hk H locs ls L (.inl v :: st) μ r h hL (zk_wcons trivial hst) hW hS)
theorem zs_bipush {X : ZX} {E : ZE} {own : String} {cc : ByteArray} {nL : Nat} {ret : Option FieldType} {rm : Room} {ρ : Type} {q : ρ → ZR} {pc : Nat} {κ : ZK ρ} {n : Int} {v : Int32} (C : zk_X X E own cc nL ret rm) (hd : decode cc pc = .ok (.bipush n, 2)) (hv : (Int8.ofInt n).toInt32 = v) (hk : zk_S X E nL q (pc + 2) κ) : zk_S X E nL q (pc) (zi_p (.inl v) κ) := by
  obtain ⟨p, l, e, R, s, m, args, below, meth, c⟩ := X
  obtain ⟨hx, hb, hml, hown, hts, hK, hlk, hrt, hok, hR⟩ := C
  intro H locs ls L st μ r h hL hst hW hS
  exact lv_bipush hx hb hd hv (hk H locs ls L (.inl v :: st) μ r h hL (zk_wcons trivial hst) hW hS)
theorem zs_sipush {X : ZX} {E : ZE} {own : String} {cc : ByteArray} {nL : Nat} {ret : Option FieldType} {rm : Room} {ρ : Type} {q : ρ → ZR} {pc : Nat} {κ : ZK ρ} {n : Int} {v : Int32} (C : zk_X X E own cc nL ret rm) (hd : decode cc pc = .ok (.sipush n, 3)) (hv : (Int16.ofInt n).toInt32 = v) (hk : zk_S X E nL q (pc + 3) κ) : zk_S X E nL q (pc) (zi_p (.inl v) κ) := by
  obtain ⟨p, l, e, R, s, m, args, below, meth, c⟩ := X
  obtain ⟨hx, hb, hml, hown, hts, hK, hlk, hrt, hok, hR⟩ := C
  intro H locs ls L st μ r h hL hst hW hS
  exact lv_sipush hx hb hd hv (hk H locs ls L (.inl v :: st) μ r h hL (zk_wcons trivial hst) hW hS)
theorem zs_lconst {X : ZX} {E : ZE} {own : String} {cc : ByteArray} {nL : Nat} {ret : Option FieldType} {rm : Room} {ρ : Type} {q : ρ → ZR} {pc : Nat} {κ : ZK ρ} {n : Fin 2} {v : Int64} (C : zk_X X E own cc nL ret rm) (hd : decode cc pc = .ok (.lconst n, 1)) (hv : Int64.ofNat (n : Nat) = v) (hk : zk_S X E nL q (pc + 1) κ) : zk_S X E nL q (pc) (zi_p (.inr (.inl v)) κ) := by
  obtain ⟨p, l, e, R, s, m, args, below, meth, c⟩ := X
  obtain ⟨hx, hb, hml, hown, hts, hK, hlk, hrt, hok, hR⟩ := C
  intro H locs ls L st μ r h hL hst hW hS
  exact lv_lconst hx hb hd hv (hk H locs ls L (.inr (.inl v) :: st) μ r h hL (zk_wcons trivial hst) hW hS)
theorem zs_ldc {X : ZX} {E : ZE} {own : String} {cc : ByteArray} {nL : Nat} {ret : Option FieldType} {rm : Room} {ρ : Type} {q : ρ → ZR} {pc : Nat} {κ : ZK ρ} {index : Nat} {v : Int32} (C : zk_X X E own cc nL ret rm) (hd : decode cc pc = .ok (.ldc index, 2)) (hw : Cond.constant own index v ∈ zk_T) (hk : zk_S X E nL q (pc + 2) κ) : zk_S X E nL q (pc) (zi_p (.inl v) κ) := by
  obtain ⟨p, l, e, R, s, m, args, below, meth, c⟩ := X
  obtain ⟨hx, hb, hml, hown, hts, hK, hlk, hrt, hok, hR⟩ := C
  intro H locs ls L st μ r h hL hst hW hS
  exact lv_ldc hx hb hown (hts _ hw) hd (hk H locs ls L (.inl v :: st) μ r h hL (zk_wcons trivial hst) hW hS)
theorem zs_ldc2 {X : ZX} {E : ZE} {own : String} {cc : ByteArray} {nL : Nat} {ret : Option FieldType} {rm : Room} {ρ : Type} {q : ρ → ZR} {pc : Nat} {κ : ZK ρ} {index : Nat} {v : Int64} (C : zk_X X E own cc nL ret rm) (hd : decode cc pc = .ok (.ldc2_w index, 3)) (hw : Cond.constantLong own index v ∈ zk_T) (hk : zk_S X E nL q (pc + 3) κ) : zk_S X E nL q (pc) (zi_p (.inr (.inl v)) κ) := by
  obtain ⟨p, l, e, R, s, m, args, below, meth, c⟩ := X
  obtain ⟨hx, hb, hml, hown, hts, hK, hlk, hrt, hok, hR⟩ := C
  intro H locs ls L st μ r h hL hst hW hS
  exact lv_ldc2 hx hb hown (hts _ hw) hd (hk H locs ls L (.inr (.inl v) :: st) μ r h hL (zk_wcons trivial hst) hW hS)
theorem zs_ldcw {X : ZX} {E : ZE} {own : String} {cc : ByteArray} {nL : Nat} {ret : Option FieldType} {rm : Room} {ρ : Type} {q : ρ → ZR} {pc : Nat} {κ : ZK ρ} {index : Nat} {v : Int32} (C : zk_X X E own cc nL ret rm) (hd : decode cc pc = .ok (.ldc_w index, 3)) (hw : Cond.constant own index v ∈ zk_T) (hk : zk_S X E nL q (pc + 3) κ) : zk_S X E nL q (pc) (zi_p (.inl v) κ) := by
  obtain ⟨p, l, e, R, s, m, args, below, meth, c⟩ := X
  obtain ⟨hx, hb, hml, hown, hts, hK, hlk, hrt, hok, hR⟩ := C
  intro H locs ls L st μ r h hL hst hW hS
  exact lv_ldcw hx hb hown (hts _ hw) hd (hk H locs ls L (.inl v :: st) μ r h hL (zk_wcons trivial hst) hW hS)
def zi_iload {ρ : Type} (i : Nat) (κ : ZK ρ) : ZK ρ := fun L st μ => match zk_nth L i with
  | some (.inl x) => κ L (.inl x :: st) μ
  | _ => none
theorem zs_iload_n {X : ZX} {E : ZE} {own : String} {cc : ByteArray} {nL : Nat} {ret : Option FieldType} {rm : Room} {ρ : Type} {q : ρ → ZR} {pc : Nat} {κ : ZK ρ} {k : Fin 4} {i : Nat} (C : zk_X X E own cc nL ret rm) (hd : decode cc pc = .ok (.iload_n k, 1)) (hi : (k : Nat) = i) (hk : zk_S X E nL q (pc + 1) κ) : zk_S X E nL q (pc) (zi_iload i κ) := by
  obtain ⟨p, l, e, R, s, m, args, below, meth, c⟩ := X
  obtain ⟨hx, hb, hml, hown, hts, hK, hlk, hrt, hok, hR⟩ := C
  intro H locs ls L st μ r h hL hst hW hS
  unfold zi_iload at h
  split at h
  · rename_i x hx1
    exact lv_iload_n hx hb hd hi (hL.at hx1) (hk H locs ls L (.inl x :: st) μ r h hL (zk_wcons (hL.2.1 i _ hx1) hst) hW hS)
  · cases h
theorem zs_iload {X : ZX} {E : ZE} {own : String} {cc : ByteArray} {nL : Nat} {ret : Option FieldType} {rm : Room} {ρ : Type} {q : ρ → ZR} {pc : Nat} {κ : ZK ρ} {i : Nat} (C : zk_X X E own cc nL ret rm) (hd : decode cc pc = .ok (.iload i, 2)) (hk : zk_S X E nL q (pc + 2) κ) : zk_S X E nL q (pc) (zi_iload i κ) := by
  obtain ⟨p, l, e, R, s, m, args, below, meth, c⟩ := X
  obtain ⟨hx, hb, hml, hown, hts, hK, hlk, hrt, hok, hR⟩ := C
  intro H locs ls L st μ r h hL hst hW hS
  unfold zi_iload at h
  split at h
  · rename_i x hx1
    exact lv_iload hx hb hd (hL.at hx1) (hk H locs ls L (.inl x :: st) μ r h hL (zk_wcons (hL.2.1 i _ hx1) hst) hW hS)
  · cases h
def zi_lload {ρ : Type} (i : Nat) (κ : ZK ρ) : ZK ρ := fun L st μ => match zk_nth L i with
  | some (.inr (.inl x)) => κ L (.inr (.inl x) :: st) μ
  | _ => none
theorem zs_lload_n {X : ZX} {E : ZE} {own : String} {cc : ByteArray} {nL : Nat} {ret : Option FieldType} {rm : Room} {ρ : Type} {q : ρ → ZR} {pc : Nat} {κ : ZK ρ} {k : Fin 4} {i : Nat} (C : zk_X X E own cc nL ret rm) (hd : decode cc pc = .ok (.lload_n k, 1)) (hi : (k : Nat) = i) (hk : zk_S X E nL q (pc + 1) κ) : zk_S X E nL q (pc) (zi_lload i κ) := by
  obtain ⟨p, l, e, R, s, m, args, below, meth, c⟩ := X
  obtain ⟨hx, hb, hml, hown, hts, hK, hlk, hrt, hok, hR⟩ := C
  intro H locs ls L st μ r h hL hst hW hS
  unfold zi_lload at h
  split at h
  · rename_i x hx1
    exact lv_lload_n hx hb hd hi (hL.at hx1) (hk H locs ls L (.inr (.inl x) :: st) μ r h hL (zk_wcons (hL.2.1 i _ hx1) hst) hW hS)
  · cases h
theorem zs_lload {X : ZX} {E : ZE} {own : String} {cc : ByteArray} {nL : Nat} {ret : Option FieldType} {rm : Room} {ρ : Type} {q : ρ → ZR} {pc : Nat} {κ : ZK ρ} {i : Nat} (C : zk_X X E own cc nL ret rm) (hd : decode cc pc = .ok (.lload i, 2)) (hk : zk_S X E nL q (pc + 2) κ) : zk_S X E nL q (pc) (zi_lload i κ) := by
  obtain ⟨p, l, e, R, s, m, args, below, meth, c⟩ := X
  obtain ⟨hx, hb, hml, hown, hts, hK, hlk, hrt, hok, hR⟩ := C
  intro H locs ls L st μ r h hL hst hW hS
  unfold zi_lload at h
  split at h
  · rename_i x hx1
    exact lv_lload hx hb hd (hL.at hx1) (hk H locs ls L (.inr (.inl x) :: st) μ r h hL (zk_wcons (hL.2.1 i _ hx1) hst) hW hS)
  · cases h
def zi_aload {ρ : Type} (i : Nat) (κ : ZK ρ) : ZK ρ := fun L st μ => match zk_nth L i with
  | some (.inr (.inr x)) => κ L (.inr (.inr x) :: st) μ
  | _ => none
theorem zs_aload_n {X : ZX} {E : ZE} {own : String} {cc : ByteArray} {nL : Nat} {ret : Option FieldType} {rm : Room} {ρ : Type} {q : ρ → ZR} {pc : Nat} {κ : ZK ρ} {k : Fin 4} {i : Nat} (C : zk_X X E own cc nL ret rm) (hd : decode cc pc = .ok (.aload_n k, 1)) (hi : (k : Nat) = i) (hk : zk_S X E nL q (pc + 1) κ) : zk_S X E nL q (pc) (zi_aload i κ) := by
  obtain ⟨p, l, e, R, s, m, args, below, meth, c⟩ := X
  obtain ⟨hx, hb, hml, hown, hts, hK, hlk, hrt, hok, hR⟩ := C
  intro H locs ls L st μ r h hL hst hW hS
  unfold zi_aload at h
  split at h
  · rename_i x hx1
    exact lv_aload_n hx hb hd hi (hL.at hx1) (hk H locs ls L (.inr (.inr x) :: st) μ r h hL (zk_wcons (hL.2.1 i _ hx1) hst) hW hS)
  · cases h
theorem zs_aload {X : ZX} {E : ZE} {own : String} {cc : ByteArray} {nL : Nat} {ret : Option FieldType} {rm : Room} {ρ : Type} {q : ρ → ZR} {pc : Nat} {κ : ZK ρ} {i : Nat} (C : zk_X X E own cc nL ret rm) (hd : decode cc pc = .ok (.aload i, 2)) (hk : zk_S X E nL q (pc + 2) κ) : zk_S X E nL q (pc) (zi_aload i κ) := by
  obtain ⟨p, l, e, R, s, m, args, below, meth, c⟩ := X
  obtain ⟨hx, hb, hml, hown, hts, hK, hlk, hrt, hok, hR⟩ := C
  intro H locs ls L st μ r h hL hst hW hS
  unfold zi_aload at h
  split at h
  · rename_i x hx1
    exact lv_aload hx hb hd (hL.at hx1) (hk H locs ls L (.inr (.inr x) :: st) μ r h hL (zk_wcons (hL.2.1 i _ hx1) hst) hW hS)
  · cases h
def zi_istore {ρ : Type} (i : Nat) (κ : ZK ρ) : ZK ρ := fun L st μ => match st with
  | .inl x :: st => if (zk_ok1 L i && decide (i < L.length)) = true then κ (zk_put L i (.inl x)) st μ else none
  | _ => none
theorem zs_istore_n {X : ZX} {E : ZE} {own : String} {cc : ByteArray} {nL : Nat} {ret : Option FieldType} {rm : Room} {ρ : Type} {q : ρ → ZR} {pc : Nat} {κ : ZK ρ} {k : Fin 4} {i : Nat} (C : zk_X X E own cc nL ret rm) (hd : decode cc pc = .ok (.istore_n k, 1)) (hi : (k : Nat) = i) (hk : zk_S X E nL q (pc + 1) κ) : zk_S X E nL q (pc) (zi_istore i κ) := by
  obtain ⟨p, l, e, R, s, m, args, below, meth, c⟩ := X
  obtain ⟨hx, hb, hml, hown, hts, hK, hlk, hrt, hok, hR⟩ := C
  intro H locs ls L st μ r h hL hst hW hS
  unfold zi_istore at h
  split at h
  · rename_i x st
    by_cases ho : (zk_ok1 L i && decide (i < L.length)) = true
    · rw [if_pos ho] at h
      simp only [Bool.and_eq_true, decide_eq_true_eq] at ho
      exact lv_istore_n hx hb hd hi hL.2.2 (by rw [← hL.1]; exact ho.2) rfl (fun ls' hl' => hk H locs ls' _ st μ r h (zk_L.store hL.1 hL.2.1 (by rw [← hL.1]; exact ho.2) (zk_whd hst) ho.1 hl') (zk_wtl hst) hW hS)
    · rw [if_neg ho] at h; cases h
  · cases h
theorem zs_istore {X : ZX} {E : ZE} {own : String} {cc : ByteArray} {nL : Nat} {ret : Option FieldType} {rm : Room} {ρ : Type} {q : ρ → ZR} {pc : Nat} {κ : ZK ρ} {i : Nat} (C : zk_X X E own cc nL ret rm) (hd : decode cc pc = .ok (.istore i, 2)) (hk : zk_S X E nL q (pc + 2) κ) : zk_S X E nL q (pc) (zi_istore i κ) := by
  obtain ⟨p, l, e, R, s, m, args, below, meth, c⟩ := X
  obtain ⟨hx, hb, hml, hown, hts, hK, hlk, hrt, hok, hR⟩ := C
  intro H locs ls L st μ r h hL hst hW hS
  unfold zi_istore at h
  split at h
  · rename_i x st
    by_cases ho : (zk_ok1 L i && decide (i < L.length)) = true
    · rw [if_pos ho] at h
      simp only [Bool.and_eq_true, decide_eq_true_eq] at ho
      exact lv_istore hx hb hd hL.2.2 (by rw [← hL.1]; exact ho.2) rfl (fun ls' hl' => hk H locs ls' _ st μ r h (zk_L.store hL.1 hL.2.1 (by rw [← hL.1]; exact ho.2) (zk_whd hst) ho.1 hl') (zk_wtl hst) hW hS)
    · rw [if_neg ho] at h; cases h
  · cases h
def zi_astore {ρ : Type} (i : Nat) (κ : ZK ρ) : ZK ρ := fun L st μ => match st with
  | .inr (.inr x) :: st => if (zk_ok1 L i && decide (i < L.length)) = true then κ (zk_put L i (.inr (.inr x))) st μ else none
  | _ => none
theorem zs_astore_n {X : ZX} {E : ZE} {own : String} {cc : ByteArray} {nL : Nat} {ret : Option FieldType} {rm : Room} {ρ : Type} {q : ρ → ZR} {pc : Nat} {κ : ZK ρ} {k : Fin 4} {i : Nat} (C : zk_X X E own cc nL ret rm) (hd : decode cc pc = .ok (.astore_n k, 1)) (hi : (k : Nat) = i) (hk : zk_S X E nL q (pc + 1) κ) : zk_S X E nL q (pc) (zi_astore i κ) := by
  obtain ⟨p, l, e, R, s, m, args, below, meth, c⟩ := X
  obtain ⟨hx, hb, hml, hown, hts, hK, hlk, hrt, hok, hR⟩ := C
  intro H locs ls L st μ r h hL hst hW hS
  unfold zi_astore at h
  split at h
  · rename_i x st
    by_cases ho : (zk_ok1 L i && decide (i < L.length)) = true
    · rw [if_pos ho] at h
      simp only [Bool.and_eq_true, decide_eq_true_eq] at ho
      exact lv_astore_n hx hb hd hi hL.2.2 (by rw [← hL.1]; exact ho.2) rfl (fun ls' hl' => hk H locs ls' _ st μ r h (zk_L.store hL.1 hL.2.1 (by rw [← hL.1]; exact ho.2) (zk_whd hst) ho.1 hl') (zk_wtl hst) hW hS)
    · rw [if_neg ho] at h; cases h
  · cases h
theorem zs_astore {X : ZX} {E : ZE} {own : String} {cc : ByteArray} {nL : Nat} {ret : Option FieldType} {rm : Room} {ρ : Type} {q : ρ → ZR} {pc : Nat} {κ : ZK ρ} {i : Nat} (C : zk_X X E own cc nL ret rm) (hd : decode cc pc = .ok (.astore i, 2)) (hk : zk_S X E nL q (pc + 2) κ) : zk_S X E nL q (pc) (zi_astore i κ) := by
  obtain ⟨p, l, e, R, s, m, args, below, meth, c⟩ := X
  obtain ⟨hx, hb, hml, hown, hts, hK, hlk, hrt, hok, hR⟩ := C
  intro H locs ls L st μ r h hL hst hW hS
  unfold zi_astore at h
  split at h
  · rename_i x st
    by_cases ho : (zk_ok1 L i && decide (i < L.length)) = true
    · rw [if_pos ho] at h
      simp only [Bool.and_eq_true, decide_eq_true_eq] at ho
      exact lv_astore hx hb hd hL.2.2 (by rw [← hL.1]; exact ho.2) rfl (fun ls' hl' => hk H locs ls' _ st μ r h (zk_L.store hL.1 hL.2.1 (by rw [← hL.1]; exact ho.2) (zk_whd hst) ho.1 hl') (zk_wtl hst) hW hS)
    · rw [if_neg ho] at h; cases h
  · cases h
def zi_iinc {ρ : Type} (i : Nat) (n : Int32) (κ : ZK ρ) : ZK ρ := fun L st μ => match zk_nth L i with
  | some (.inl x) => if (zk_ok1 L i && decide (i < L.length)) = true then κ (zk_put L i (.inl (x + n))) st μ else none
  | _ => none
theorem zs_iinc {X : ZX} {E : ZE} {own : String} {cc : ByteArray} {nL : Nat} {ret : Option FieldType} {rm : Room} {ρ : Type} {q : ρ → ZR} {pc : Nat} {κ : ZK ρ} {i : Nat} {n0 : Int} {n : Int32} (C : zk_X X E own cc nL ret rm) (hd : decode cc pc = .ok (.iinc i n0, 3)) (hn : Int32.ofInt n0 = n) (hk : zk_S X E nL q (pc + 3) κ) : zk_S X E nL q (pc) (zi_iinc i n κ) := by
  obtain ⟨p, l, e, R, s, m, args, below, meth, c⟩ := X
  obtain ⟨hx, hb, hml, hown, hts, hK, hlk, hrt, hok, hR⟩ := C
  intro H locs ls L st μ r h hL hst hW hS
  unfold zi_iinc at h
  split at h
  · rename_i x hx1
    by_cases ho : (zk_ok1 L i && decide (i < L.length)) = true
    · rw [if_pos ho] at h
      simp only [Bool.and_eq_true, decide_eq_true_eq] at ho
      obtain ⟨k, hkk⟩ := List.getElem?_of_mem ((zk_lv_mem E.1 L 0 (i, .int x)).mpr ⟨i, .inl x, hx1, by simp [zk_c]⟩)
      exact lv_iinc hx hb hd hL.2.2 hkk (by rw [hn]) (by rw [← hL.1]; exact ho.2) rfl (fun ls' hl' => hk H locs ls' _ st μ r h (zk_L.store (v := .inl (x + n)) hL.1 hL.2.1 (by rw [← hL.1]; exact ho.2) trivial ho.1 hl') hst hW hS)
    · rw [if_neg ho] at h; cases h
  · cases h
def zi_b {ρ : Type} (f : Int32 → Int32 → Int32) (κ : ZK ρ) : ZK ρ := fun L st μ => match st with
  | .inl y :: .inl x :: st => κ L (.inl (f x y) :: st) μ
  | _ => none
def zi_bz {ρ : Type} (f : Int32 → Int32 → Int32) (κ : ZK ρ) : ZK ρ := fun L st μ => match st with
  | .inl y :: .inl x :: st => if y = 0 then none else κ L (.inl (f x y) :: st) μ
  | _ => none
theorem zs_iadd {X : ZX} {E : ZE} {own : String} {cc : ByteArray} {nL : Nat} {ret : Option FieldType} {rm : Room} {ρ : Type} {q : ρ → ZR} {pc : Nat} {κ : ZK ρ} (C : zk_X X E own cc nL ret rm) (hd : decode cc pc = .ok (.iadd, 1)) (hk : zk_S X E nL q (pc + 1) κ) : zk_S X E nL q (pc) (zi_b (fun x y => x + y) κ) := by
  obtain ⟨p, l, e, R, s, m, args, below, meth, c⟩ := X
  obtain ⟨hx, hb, hml, hown, hts, hK, hlk, hrt, hok, hR⟩ := C
  intro H locs ls L st μ r h hL hst hW hS
  unfold zi_b at h
  split at h
  · rename_i y x st
    exact lv_iadd hx hb hd (hk H locs ls L (.inl (x + y) :: st) μ r h hL (zk_wcons trivial (zk_wtl (zk_wtl hst))) hW hS)
  · cases h
theorem zs_isub {X : ZX} {E : ZE} {own : String} {cc : ByteArray} {nL : Nat} {ret : Option FieldType} {rm : Room} {ρ : Type} {q : ρ → ZR} {pc : Nat} {κ : ZK ρ} (C : zk_X X E own cc nL ret rm) (hd : decode cc pc = .ok (.isub, 1)) (hk : zk_S X E nL q (pc + 1) κ) : zk_S X E nL q (pc) (zi_b (fun x y => x - y) κ) := by
  obtain ⟨p, l, e, R, s, m, args, below, meth, c⟩ := X
  obtain ⟨hx, hb, hml, hown, hts, hK, hlk, hrt, hok, hR⟩ := C
  intro H locs ls L st μ r h hL hst hW hS
  unfold zi_b at h
  split at h
  · rename_i y x st
    exact lv_isub hx hb hd (hk H locs ls L (.inl (x - y) :: st) μ r h hL (zk_wcons trivial (zk_wtl (zk_wtl hst))) hW hS)
  · cases h
theorem zs_imul {X : ZX} {E : ZE} {own : String} {cc : ByteArray} {nL : Nat} {ret : Option FieldType} {rm : Room} {ρ : Type} {q : ρ → ZR} {pc : Nat} {κ : ZK ρ} (C : zk_X X E own cc nL ret rm) (hd : decode cc pc = .ok (.imul, 1)) (hk : zk_S X E nL q (pc + 1) κ) : zk_S X E nL q (pc) (zi_b (fun x y => x * y) κ) := by
  obtain ⟨p, l, e, R, s, m, args, below, meth, c⟩ := X
  obtain ⟨hx, hb, hml, hown, hts, hK, hlk, hrt, hok, hR⟩ := C
  intro H locs ls L st μ r h hL hst hW hS
  unfold zi_b at h
  split at h
  · rename_i y x st
    exact lv_imul hx hb hd (hk H locs ls L (.inl (x * y) :: st) μ r h hL (zk_wcons trivial (zk_wtl (zk_wtl hst))) hW hS)
  · cases h
theorem zs_iand {X : ZX} {E : ZE} {own : String} {cc : ByteArray} {nL : Nat} {ret : Option FieldType} {rm : Room} {ρ : Type} {q : ρ → ZR} {pc : Nat} {κ : ZK ρ} (C : zk_X X E own cc nL ret rm) (hd : decode cc pc = .ok (.iand, 1)) (hk : zk_S X E nL q (pc + 1) κ) : zk_S X E nL q (pc) (zi_b (fun x y => x &&& y) κ) := by
  obtain ⟨p, l, e, R, s, m, args, below, meth, c⟩ := X
  obtain ⟨hx, hb, hml, hown, hts, hK, hlk, hrt, hok, hR⟩ := C
  intro H locs ls L st μ r h hL hst hW hS
  unfold zi_b at h
  split at h
  · rename_i y x st
    exact lv_iand hx hb hd (hk H locs ls L (.inl (x &&& y) :: st) μ r h hL (zk_wcons trivial (zk_wtl (zk_wtl hst))) hW hS)
  · cases h
theorem zs_ior {X : ZX} {E : ZE} {own : String} {cc : ByteArray} {nL : Nat} {ret : Option FieldType} {rm : Room} {ρ : Type} {q : ρ → ZR} {pc : Nat} {κ : ZK ρ} (C : zk_X X E own cc nL ret rm) (hd : decode cc pc = .ok (.ior, 1)) (hk : zk_S X E nL q (pc + 1) κ) : zk_S X E nL q (pc) (zi_b (fun x y => x ||| y) κ) := by
  obtain ⟨p, l, e, R, s, m, args, below, meth, c⟩ := X
  obtain ⟨hx, hb, hml, hown, hts, hK, hlk, hrt, hok, hR⟩ := C
  intro H locs ls L st μ r h hL hst hW hS
  unfold zi_b at h
  split at h
  · rename_i y x st
    exact lv_ior hx hb hd (hk H locs ls L (.inl (x ||| y) :: st) μ r h hL (zk_wcons trivial (zk_wtl (zk_wtl hst))) hW hS)
  · cases h
theorem zs_ixor {X : ZX} {E : ZE} {own : String} {cc : ByteArray} {nL : Nat} {ret : Option FieldType} {rm : Room} {ρ : Type} {q : ρ → ZR} {pc : Nat} {κ : ZK ρ} (C : zk_X X E own cc nL ret rm) (hd : decode cc pc = .ok (.ixor, 1)) (hk : zk_S X E nL q (pc + 1) κ) : zk_S X E nL q (pc) (zi_b (fun x y => x ^^^ y) κ) := by
  obtain ⟨p, l, e, R, s, m, args, below, meth, c⟩ := X
  obtain ⟨hx, hb, hml, hown, hts, hK, hlk, hrt, hok, hR⟩ := C
  intro H locs ls L st μ r h hL hst hW hS
  unfold zi_b at h
  split at h
  · rename_i y x st
    exact lv_ixor hx hb hd (hk H locs ls L (.inl (x ^^^ y) :: st) μ r h hL (zk_wcons trivial (zk_wtl (zk_wtl hst))) hW hS)
  · cases h
theorem zs_ishl {X : ZX} {E : ZE} {own : String} {cc : ByteArray} {nL : Nat} {ret : Option FieldType} {rm : Room} {ρ : Type} {q : ρ → ZR} {pc : Nat} {κ : ZK ρ} (C : zk_X X E own cc nL ret rm) (hd : decode cc pc = .ok (.ishl, 1)) (hk : zk_S X E nL q (pc + 1) κ) : zk_S X E nL q (pc) (zi_b (fun x y => x <<< (y &&& 31)) κ) := by
  obtain ⟨p, l, e, R, s, m, args, below, meth, c⟩ := X
  obtain ⟨hx, hb, hml, hown, hts, hK, hlk, hrt, hok, hR⟩ := C
  intro H locs ls L st μ r h hL hst hW hS
  unfold zi_b at h
  split at h
  · rename_i y x st
    exact lv_ishl hx hb hd (hk H locs ls L (.inl (x <<< (y &&& 31)) :: st) μ r h hL (zk_wcons trivial (zk_wtl (zk_wtl hst))) hW hS)
  · cases h
theorem zs_ishr {X : ZX} {E : ZE} {own : String} {cc : ByteArray} {nL : Nat} {ret : Option FieldType} {rm : Room} {ρ : Type} {q : ρ → ZR} {pc : Nat} {κ : ZK ρ} (C : zk_X X E own cc nL ret rm) (hd : decode cc pc = .ok (.ishr, 1)) (hk : zk_S X E nL q (pc + 1) κ) : zk_S X E nL q (pc) (zi_b (fun x y => x >>> (y &&& 31)) κ) := by
  obtain ⟨p, l, e, R, s, m, args, below, meth, c⟩ := X
  obtain ⟨hx, hb, hml, hown, hts, hK, hlk, hrt, hok, hR⟩ := C
  intro H locs ls L st μ r h hL hst hW hS
  unfold zi_b at h
  split at h
  · rename_i y x st
    exact lv_ishr hx hb hd (hk H locs ls L (.inl (x >>> (y &&& 31)) :: st) μ r h hL (zk_wcons trivial (zk_wtl (zk_wtl hst))) hW hS)
  · cases h
theorem zs_iushr {X : ZX} {E : ZE} {own : String} {cc : ByteArray} {nL : Nat} {ret : Option FieldType} {rm : Room} {ρ : Type} {q : ρ → ZR} {pc : Nat} {κ : ZK ρ} (C : zk_X X E own cc nL ret rm) (hd : decode cc pc = .ok (.iushr, 1)) (hk : zk_S X E nL q (pc + 1) κ) : zk_S X E nL q (pc) (zi_b (fun x y => (x.toUInt32 >>> (y.toUInt32 &&& Int32.toUInt32 31)).toInt32) κ) := by
  obtain ⟨p, l, e, R, s, m, args, below, meth, c⟩ := X
  obtain ⟨hx, hb, hml, hown, hts, hK, hlk, hrt, hok, hR⟩ := C
  intro H locs ls L st μ r h hL hst hW hS
  unfold zi_b at h
  split at h
  · rename_i y x st
    exact lv_iushr hx hb hd rfl (hk H locs ls L (.inl ((x.toUInt32 >>> (y.toUInt32 &&& Int32.toUInt32 31)).toInt32) :: st) μ r h hL (zk_wcons trivial (zk_wtl (zk_wtl hst))) hW hS)
  · cases h
theorem zs_idiv {X : ZX} {E : ZE} {own : String} {cc : ByteArray} {nL : Nat} {ret : Option FieldType} {rm : Room} {ρ : Type} {q : ρ → ZR} {pc : Nat} {κ : ZK ρ} (C : zk_X X E own cc nL ret rm) (hd : decode cc pc = .ok (.idiv, 1)) (hk : zk_S X E nL q (pc + 1) κ) : zk_S X E nL q (pc) (zi_bz (fun x y => x / y) κ) := by
  obtain ⟨p, l, e, R, s, m, args, below, meth, c⟩ := X
  obtain ⟨hx, hb, hml, hown, hts, hK, hlk, hrt, hok, hR⟩ := C
  intro H locs ls L st μ r h hL hst hW hS
  unfold zi_bz at h
  split at h
  · rename_i y x st
    by_cases hy : y = 0
    · rw [if_pos hy] at h; cases h
    · rw [if_neg hy] at h
      exact lv_idiv hx hb hd hy (hk H locs ls L (.inl (x / y) :: st) μ r h hL (zk_wcons trivial (zk_wtl (zk_wtl hst))) hW hS)
  · cases h
theorem zs_irem {X : ZX} {E : ZE} {own : String} {cc : ByteArray} {nL : Nat} {ret : Option FieldType} {rm : Room} {ρ : Type} {q : ρ → ZR} {pc : Nat} {κ : ZK ρ} (C : zk_X X E own cc nL ret rm) (hd : decode cc pc = .ok (.irem, 1)) (hk : zk_S X E nL q (pc + 1) κ) : zk_S X E nL q (pc) (zi_bz (fun x y => x - x / y * y) κ) := by
  obtain ⟨p, l, e, R, s, m, args, below, meth, c⟩ := X
  obtain ⟨hx, hb, hml, hown, hts, hK, hlk, hrt, hok, hR⟩ := C
  intro H locs ls L st μ r h hL hst hW hS
  unfold zi_bz at h
  split at h
  · rename_i y x st
    by_cases hy : y = 0
    · rw [if_pos hy] at h; cases h
    · rw [if_neg hy] at h
      exact lv_irem hx hb hd hy (hk H locs ls L (.inl (x - x / y * y) :: st) μ r h hL (zk_wcons trivial (zk_wtl (zk_wtl hst))) hW hS)
  · cases h
def zi_lb {ρ : Type} (f : Int64 → Int64 → Int64) (κ : ZK ρ) : ZK ρ := fun L st μ => match st with
  | .inr (.inl y) :: .inr (.inl x) :: st => κ L (.inr (.inl (f x y)) :: st) μ
  | _ => none
def zi_lbz {ρ : Type} (f : Int64 → Int64 → Int64) (κ : ZK ρ) : ZK ρ := fun L st μ => match st with
  | .inr (.inl y) :: .inr (.inl x) :: st => if y = 0 then none else κ L (.inr (.inl (f x y)) :: st) μ
  | _ => none
theorem zs_ladd {X : ZX} {E : ZE} {own : String} {cc : ByteArray} {nL : Nat} {ret : Option FieldType} {rm : Room} {ρ : Type} {q : ρ → ZR} {pc : Nat} {κ : ZK ρ} (C : zk_X X E own cc nL ret rm) (hd : decode cc pc = .ok (.ladd, 1)) (hk : zk_S X E nL q (pc + 1) κ) : zk_S X E nL q (pc) (zi_lb (fun x y => x + y) κ) := by
  obtain ⟨p, l, e, R, s, m, args, below, meth, c⟩ := X
  obtain ⟨hx, hb, hml, hown, hts, hK, hlk, hrt, hok, hR⟩ := C
  intro H locs ls L st μ r h hL hst hW hS
  unfold zi_lb at h
  split at h
  · rename_i y x st
    exact lv_ladd hx hb hd (hk H locs ls L (.inr (.inl (x + y)) :: st) μ r h hL (zk_wcons trivial (zk_wtl (zk_wtl hst))) hW hS)
  · cases h
theorem zs_lmul {X : ZX} {E : ZE} {own : String} {cc : ByteArray} {nL : Nat} {ret : Option FieldType} {rm : Room} {ρ : Type} {q : ρ → ZR} {pc : Nat} {κ : ZK ρ} (C : zk_X X E own cc nL ret rm) (hd : decode cc pc = .ok (.lmul, 1)) (hk : zk_S X E nL q (pc + 1) κ) : zk_S X E nL q (pc) (zi_lb (fun x y => x * y) κ) := by
  obtain ⟨p, l, e, R, s, m, args, below, meth, c⟩ := X
  obtain ⟨hx, hb, hml, hown, hts, hK, hlk, hrt, hok, hR⟩ := C
  intro H locs ls L st μ r h hL hst hW hS
  unfold zi_lb at h
  split at h
  · rename_i y x st
    exact lv_lmul hx hb hd (hk H locs ls L (.inr (.inl (x * y)) :: st) μ r h hL (zk_wcons trivial (zk_wtl (zk_wtl hst))) hW hS)
  · cases h
theorem zs_land {X : ZX} {E : ZE} {own : String} {cc : ByteArray} {nL : Nat} {ret : Option FieldType} {rm : Room} {ρ : Type} {q : ρ → ZR} {pc : Nat} {κ : ZK ρ} (C : zk_X X E own cc nL ret rm) (hd : decode cc pc = .ok (.land, 1)) (hk : zk_S X E nL q (pc + 1) κ) : zk_S X E nL q (pc) (zi_lb (fun x y => x &&& y) κ) := by
  obtain ⟨p, l, e, R, s, m, args, below, meth, c⟩ := X
  obtain ⟨hx, hb, hml, hown, hts, hK, hlk, hrt, hok, hR⟩ := C
  intro H locs ls L st μ r h hL hst hW hS
  unfold zi_lb at h
  split at h
  · rename_i y x st
    exact lv_land hx hb hd (hk H locs ls L (.inr (.inl (x &&& y)) :: st) μ r h hL (zk_wcons trivial (zk_wtl (zk_wtl hst))) hW hS)
  · cases h
theorem zs_lor {X : ZX} {E : ZE} {own : String} {cc : ByteArray} {nL : Nat} {ret : Option FieldType} {rm : Room} {ρ : Type} {q : ρ → ZR} {pc : Nat} {κ : ZK ρ} (C : zk_X X E own cc nL ret rm) (hd : decode cc pc = .ok (.lor, 1)) (hk : zk_S X E nL q (pc + 1) κ) : zk_S X E nL q (pc) (zi_lb (fun x y => x ||| y) κ) := by
  obtain ⟨p, l, e, R, s, m, args, below, meth, c⟩ := X
  obtain ⟨hx, hb, hml, hown, hts, hK, hlk, hrt, hok, hR⟩ := C
  intro H locs ls L st μ r h hL hst hW hS
  unfold zi_lb at h
  split at h
  · rename_i y x st
    exact lv_lor hx hb hd (hk H locs ls L (.inr (.inl (x ||| y)) :: st) μ r h hL (zk_wcons trivial (zk_wtl (zk_wtl hst))) hW hS)
  · cases h
theorem zs_lrem {X : ZX} {E : ZE} {own : String} {cc : ByteArray} {nL : Nat} {ret : Option FieldType} {rm : Room} {ρ : Type} {q : ρ → ZR} {pc : Nat} {κ : ZK ρ} (C : zk_X X E own cc nL ret rm) (hd : decode cc pc = .ok (.lrem, 1)) (hk : zk_S X E nL q (pc + 1) κ) : zk_S X E nL q (pc) (zi_lbz (fun x y => x - x / y * y) κ) := by
  obtain ⟨p, l, e, R, s, m, args, below, meth, c⟩ := X
  obtain ⟨hx, hb, hml, hown, hts, hK, hlk, hrt, hok, hR⟩ := C
  intro H locs ls L st μ r h hL hst hW hS
  unfold zi_lbz at h
  split at h
  · rename_i y x st
    by_cases hy : y = 0
    · rw [if_pos hy] at h; cases h
    · rw [if_neg hy] at h
      exact lv_lrem hx hb hd hy (hk H locs ls L (.inr (.inl (x - x / y * y)) :: st) μ r h hL (zk_wcons trivial (zk_wtl (zk_wtl hst))) hW hS)
  · cases h
def zi_lcmp {ρ : Type} (κ : ZK ρ) : ZK ρ := fun L st μ => match st with
  | .inr (.inl y) :: .inr (.inl x) :: st => κ L (.inl (lg_cmp x y) :: st) μ
  | _ => none
theorem zs_lcmp {X : ZX} {E : ZE} {own : String} {cc : ByteArray} {nL : Nat} {ret : Option FieldType} {rm : Room} {ρ : Type} {q : ρ → ZR} {pc : Nat} {κ : ZK ρ} (C : zk_X X E own cc nL ret rm) (hd : decode cc pc = .ok (.lcmp, 1)) (hk : zk_S X E nL q (pc + 1) κ) : zk_S X E nL q (pc) (zi_lcmp κ) := by
  obtain ⟨p, l, e, R, s, m, args, below, meth, c⟩ := X
  obtain ⟨hx, hb, hml, hown, hts, hK, hlk, hrt, hok, hR⟩ := C
  intro H locs ls L st μ r h hL hst hW hS
  unfold zi_lcmp at h
  split at h
  · rename_i y x st
    exact W.lcmp hx hb hd (hk H locs ls L (.inl (lg_cmp x y) :: st) μ r h hL (zk_wcons trivial (zk_wtl (zk_wtl hst))) hW hS)
  · cases h
def zi_u {ρ : Type} (f : Int32 → ZV) (κ : ZK ρ) : ZK ρ := fun L st μ => match st with
  | .inl x :: st => κ L (f x :: st) μ
  | _ => none
def zi_lu {ρ : Type} (f : Int64 → ZV) (κ : ZK ρ) : ZK ρ := fun L st μ => match st with
  | .inr (.inl x) :: st => κ L (f x :: st) μ
  | _ => none
theorem zs_i2l {X : ZX} {E : ZE} {own : String} {cc : ByteArray} {nL : Nat} {ret : Option FieldType} {rm : Room} {ρ : Type} {q : ρ → ZR} {pc : Nat} {κ : ZK ρ} (C : zk_X X E own cc nL ret rm) (hd : decode cc pc = .ok (.i2l, 1)) (hk : zk_S X E nL q (pc + 1) κ) : zk_S X E nL q (pc) (zi_u (fun x => .inr (.inl x.toInt64)) κ) := by
  obtain ⟨p, l, e, R, s, m, args, below, meth, c⟩ := X
  obtain ⟨hx, hb, hml, hown, hts, hK, hlk, hrt, hok, hR⟩ := C
  intro H locs ls L st μ r h hL hst hW hS
  unfold zi_u at h
  split at h
  · rename_i x st
    exact lv_i2l hx hb hd rfl (hk H locs ls L (.inr (.inl x.toInt64) :: st) μ r h hL (zk_wcons trivial (zk_wtl hst)) hW hS)
  · cases h
theorem zs_i2b {X : ZX} {E : ZE} {own : String} {cc : ByteArray} {nL : Nat} {ret : Option FieldType} {rm : Room} {ρ : Type} {q : ρ → ZR} {pc : Nat} {κ : ZK ρ} (C : zk_X X E own cc nL ret rm) (hd : decode cc pc = .ok (.i2b, 1)) (hk : zk_S X E nL q (pc + 1) κ) : zk_S X E nL q (pc) (zi_u (fun x => .inl x.toInt8.toInt32) κ) := by
  obtain ⟨p, l, e, R, s, m, args, below, meth, c⟩ := X
  obtain ⟨hx, hb, hml, hown, hts, hK, hlk, hrt, hok, hR⟩ := C
  intro H locs ls L st μ r h hL hst hW hS
  unfold zi_u at h
  split at h
  · rename_i x st
    exact lv_i2b hx hb hd rfl (hk H locs ls L (.inl x.toInt8.toInt32 :: st) μ r h hL (zk_wcons trivial (zk_wtl hst)) hW hS)
  · cases h
theorem zs_i2s {X : ZX} {E : ZE} {own : String} {cc : ByteArray} {nL : Nat} {ret : Option FieldType} {rm : Room} {ρ : Type} {q : ρ → ZR} {pc : Nat} {κ : ZK ρ} (C : zk_X X E own cc nL ret rm) (hd : decode cc pc = .ok (.i2s, 1)) (hk : zk_S X E nL q (pc + 1) κ) : zk_S X E nL q (pc) (zi_u (fun x => .inl x.toInt16.toInt32) κ) := by
  obtain ⟨p, l, e, R, s, m, args, below, meth, c⟩ := X
  obtain ⟨hx, hb, hml, hown, hts, hK, hlk, hrt, hok, hR⟩ := C
  intro H locs ls L st μ r h hL hst hW hS
  unfold zi_u at h
  split at h
  · rename_i x st
    exact lv_i2s hx hb hd rfl (hk H locs ls L (.inl x.toInt16.toInt32 :: st) μ r h hL (zk_wcons trivial (zk_wtl hst)) hW hS)
  · cases h
theorem zs_l2i {X : ZX} {E : ZE} {own : String} {cc : ByteArray} {nL : Nat} {ret : Option FieldType} {rm : Room} {ρ : Type} {q : ρ → ZR} {pc : Nat} {κ : ZK ρ} (C : zk_X X E own cc nL ret rm) (hd : decode cc pc = .ok (.l2i, 1)) (hk : zk_S X E nL q (pc + 1) κ) : zk_S X E nL q (pc) (zi_lu (fun x => .inl x.toInt32) κ) := by
  obtain ⟨p, l, e, R, s, m, args, below, meth, c⟩ := X
  obtain ⟨hx, hb, hml, hown, hts, hK, hlk, hrt, hok, hR⟩ := C
  intro H locs ls L st μ r h hL hst hW hS
  unfold zi_lu at h
  split at h
  · rename_i x st
    exact lv_l2i hx hb hd rfl (hk H locs ls L (.inl x.toInt32 :: st) μ r h hL (zk_wcons trivial (zk_wtl hst)) hW hS)
  · cases h
def zk_ct (v : ZV) : Nat := match v with
  | .inr (.inl _) => 2
  | _ => 1
theorem zk_ct_c (ad : Nat → Nat) (v : ZV) : (zk_c ad v).category = zk_ct v := by rcases v with x | y | q <;> rfl
def zi_dup {ρ : Type} (κ : ZK ρ) : ZK ρ := fun L st μ => match st with
  | v :: st => if zk_ct v = 1 then κ L (v :: v :: st) μ else none
  | _ => none
theorem zs_dup {X : ZX} {E : ZE} {own : String} {cc : ByteArray} {nL : Nat} {ret : Option FieldType} {rm : Room} {ρ : Type} {q : ρ → ZR} {pc : Nat} {κ : ZK ρ} (C : zk_X X E own cc nL ret rm) (hd : decode cc pc = .ok (.dup, 1)) (hk : zk_S X E nL q (pc + 1) κ) : zk_S X E nL q (pc) (zi_dup κ) := by
  obtain ⟨p, l, e, R, s, m, args, below, meth, c⟩ := X
  obtain ⟨hx, hb, hml, hown, hts, hK, hlk, hrt, hok, hR⟩ := C
  intro H locs ls L st μ r h hL hst hW hS
  unfold zi_dup at h
  split at h
  · rename_i v st
    by_cases hy : zk_ct v = 1
    · rw [if_pos hy] at h
      exact lv_dup hx hb hd ((zk_ct_c E.1 v).trans hy) (hk H locs ls L (v :: v :: st) μ r h hL (zk_wcons (zk_whd hst) hst) hW hS)
    · rw [if_neg hy] at h; cases h
  · cases h
def zi_pop {ρ : Type} (κ : ZK ρ) : ZK ρ := fun L st μ => match st with
  | v :: st => if zk_ct v = 1 then κ L st μ else none
  | _ => none
theorem zs_pop {X : ZX} {E : ZE} {own : String} {cc : ByteArray} {nL : Nat} {ret : Option FieldType} {rm : Room} {ρ : Type} {q : ρ → ZR} {pc : Nat} {κ : ZK ρ} (C : zk_X X E own cc nL ret rm) (hd : decode cc pc = .ok (.pop, 1)) (hk : zk_S X E nL q (pc + 1) κ) : zk_S X E nL q (pc) (zi_pop κ) := by
  obtain ⟨p, l, e, R, s, m, args, below, meth, c⟩ := X
  obtain ⟨hx, hb, hml, hown, hts, hK, hlk, hrt, hok, hR⟩ := C
  intro H locs ls L st μ r h hL hst hW hS
  unfold zi_pop at h
  split at h
  · rename_i v st
    by_cases hy : zk_ct v = 1
    · rw [if_pos hy] at h
      exact lv_pop hx hb hd ((zk_ct_c E.1 v).trans hy) (hk H locs ls L st μ r h hL (zk_wtl hst) hW hS)
    · rw [if_neg hy] at h; cases h
  · cases h
def zi_dup2 {ρ : Type} (κ : ZK ρ) : ZK ρ := fun L st μ => match st with
  | v :: w :: st => if zk_ct v = 1 ∧ zk_ct w = 1 then κ L (v :: w :: v :: w :: st) μ else none
  | _ => none
theorem zs_dup2 {X : ZX} {E : ZE} {own : String} {cc : ByteArray} {nL : Nat} {ret : Option FieldType} {rm : Room} {ρ : Type} {q : ρ → ZR} {pc : Nat} {κ : ZK ρ} (C : zk_X X E own cc nL ret rm) (hd : decode cc pc = .ok (.dup2, 1)) (hk : zk_S X E nL q (pc + 1) κ) : zk_S X E nL q (pc) (zi_dup2 κ) := by
  obtain ⟨p, l, e, R, s, m, args, below, meth, c⟩ := X
  obtain ⟨hx, hb, hml, hown, hts, hK, hlk, hrt, hok, hR⟩ := C
  intro H locs ls L st μ r h hL hst hW hS
  unfold zi_dup2 at h
  split at h
  · rename_i v w st
    by_cases hy : zk_ct v = 1 ∧ zk_ct w = 1
    · rw [if_pos hy] at h
      exact lv_dup2_11 hx hb hd ((zk_ct_c E.1 v).trans hy.1) ((zk_ct_c E.1 w).trans hy.2) (hk H locs ls L (v :: w :: v :: w :: st) μ r h hL (zk_wcons (zk_whd hst) (zk_wcons (zk_whd (zk_wtl hst)) hst)) hW hS)
    · rw [if_neg hy] at h; cases h
  · cases h
def zi_if {ρ : Type} (P : Int32 → Prop) [DecidablePred P] (κt κf : ZK ρ) : ZK ρ := fun L st μ => match st with
  | .inl x :: st => if P x then κt L st μ else κf L st μ
  | _ => none
def zi_ic {ρ : Type} (P : Int32 → Int32 → Prop) [∀ x y, Decidable (P x y)] (κt κf : ZK ρ) : ZK ρ := fun L st μ => match st with
  | .inl y :: .inl x :: st => if P x y then κt L st μ else κf L st μ
  | _ => none
theorem zs_if_eq {X : ZX} {E : ZE} {own : String} {cc : ByteArray} {nL : Nat} {ret : Option FieldType} {rm : Room} {ρ : Type} {q : ρ → ZR} {pc : Nat} {κt κf : ZK ρ} {off : Int} {tgt : Nat} (C : zk_X X E own cc nL ret rm) (hd : decode cc pc = .ok (.ifCond .eq off, 3)) (ht : (pc : Int) + off = (tgt : Int)) (hk1 : zk_S X E nL q (tgt) κt) (hk2 : zk_S X E nL q (pc + 3) κf) : zk_S X E nL q (pc) (zi_if (fun x => x = 0) κt κf) := by
  obtain ⟨p, l, e, R, s, m, args, below, meth, c⟩ := X
  obtain ⟨hx, hb, hml, hown, hts, hK, hlk, hrt, hok, hR⟩ := C
  intro H locs ls L st μ r h hL hst hW hS
  unfold zi_if at h
  split at h
  · rename_i x st
    exact lv_if_eq hx hb hd ht (fun hc => hk1 H locs ls L st μ r (by rw [if_pos hc] at h; exact h) hL (zk_wtl hst) hW hS) (fun hc => hk2 H locs ls L st μ r (by rw [if_neg (hc)] at h; exact h) hL (zk_wtl hst) hW hS)
  · cases h
theorem zs_if_ne {X : ZX} {E : ZE} {own : String} {cc : ByteArray} {nL : Nat} {ret : Option FieldType} {rm : Room} {ρ : Type} {q : ρ → ZR} {pc : Nat} {κt κf : ZK ρ} {off : Int} {tgt : Nat} (C : zk_X X E own cc nL ret rm) (hd : decode cc pc = .ok (.ifCond .ne off, 3)) (ht : (pc : Int) + off = (tgt : Int)) (hk1 : zk_S X E nL q (tgt) κt) (hk2 : zk_S X E nL q (pc + 3) κf) : zk_S X E nL q (pc) (zi_if (fun x => ¬ x = 0) κt κf) := by
  obtain ⟨p, l, e, R, s, m, args, below, meth, c⟩ := X
  obtain ⟨hx, hb, hml, hown, hts, hK, hlk, hrt, hok, hR⟩ := C
  intro H locs ls L st μ r h hL hst hW hS
  unfold zi_if at h
  split at h
  · rename_i x st
    exact lv_if_ne hx hb hd ht (fun hc => hk1 H locs ls L st μ r (by rw [if_pos hc] at h; exact h) hL (zk_wtl hst) hW hS) (fun hc => hk2 H locs ls L st μ r (by rw [if_neg (fun z => z hc)] at h; exact h) hL (zk_wtl hst) hW hS)
  · cases h
theorem zs_if_lt {X : ZX} {E : ZE} {own : String} {cc : ByteArray} {nL : Nat} {ret : Option FieldType} {rm : Room} {ρ : Type} {q : ρ → ZR} {pc : Nat} {κt κf : ZK ρ} {off : Int} {tgt : Nat} (C : zk_X X E own cc nL ret rm) (hd : decode cc pc = .ok (.ifCond .lt off, 3)) (ht : (pc : Int) + off = (tgt : Int)) (hk1 : zk_S X E nL q (tgt) κt) (hk2 : zk_S X E nL q (pc + 3) κf) : zk_S X E nL q (pc) (zi_if (fun x => x < 0) κt κf) := by
  obtain ⟨p, l, e, R, s, m, args, below, meth, c⟩ := X
  obtain ⟨hx, hb, hml, hown, hts, hK, hlk, hrt, hok, hR⟩ := C
  intro H locs ls L st μ r h hL hst hW hS
  unfold zi_if at h
  split at h
  · rename_i x st
    exact lv_if_lt hx hb hd ht (fun hc => hk1 H locs ls L st μ r (by rw [if_pos hc] at h; exact h) hL (zk_wtl hst) hW hS) (fun hc => hk2 H locs ls L st μ r (by rw [if_neg (hc)] at h; exact h) hL (zk_wtl hst) hW hS)
  · cases h
theorem zs_if_ge {X : ZX} {E : ZE} {own : String} {cc : ByteArray} {nL : Nat} {ret : Option FieldType} {rm : Room} {ρ : Type} {q : ρ → ZR} {pc : Nat} {κt κf : ZK ρ} {off : Int} {tgt : Nat} (C : zk_X X E own cc nL ret rm) (hd : decode cc pc = .ok (.ifCond .ge off, 3)) (ht : (pc : Int) + off = (tgt : Int)) (hk1 : zk_S X E nL q (tgt) κt) (hk2 : zk_S X E nL q (pc + 3) κf) : zk_S X E nL q (pc) (zi_if (fun x => 0 ≤ x) κt κf) := by
  obtain ⟨p, l, e, R, s, m, args, below, meth, c⟩ := X
  obtain ⟨hx, hb, hml, hown, hts, hK, hlk, hrt, hok, hR⟩ := C
  intro H locs ls L st μ r h hL hst hW hS
  unfold zi_if at h
  split at h
  · rename_i x st
    exact lv_if_ge hx hb hd ht (fun hc => hk1 H locs ls L st μ r (by rw [if_pos hc] at h; exact h) hL (zk_wtl hst) hW hS) (fun hc => hk2 H locs ls L st μ r (by rw [if_neg (hc)] at h; exact h) hL (zk_wtl hst) hW hS)
  · cases h
theorem zs_if_gt {X : ZX} {E : ZE} {own : String} {cc : ByteArray} {nL : Nat} {ret : Option FieldType} {rm : Room} {ρ : Type} {q : ρ → ZR} {pc : Nat} {κt κf : ZK ρ} {off : Int} {tgt : Nat} (C : zk_X X E own cc nL ret rm) (hd : decode cc pc = .ok (.ifCond .gt off, 3)) (ht : (pc : Int) + off = (tgt : Int)) (hk1 : zk_S X E nL q (tgt) κt) (hk2 : zk_S X E nL q (pc + 3) κf) : zk_S X E nL q (pc) (zi_if (fun x => 0 < x) κt κf) := by
  obtain ⟨p, l, e, R, s, m, args, below, meth, c⟩ := X
  obtain ⟨hx, hb, hml, hown, hts, hK, hlk, hrt, hok, hR⟩ := C
  intro H locs ls L st μ r h hL hst hW hS
  unfold zi_if at h
  split at h
  · rename_i x st
    exact lv_if_gt hx hb hd ht (fun hc => hk1 H locs ls L st μ r (by rw [if_pos hc] at h; exact h) hL (zk_wtl hst) hW hS) (fun hc => hk2 H locs ls L st μ r (by rw [if_neg (hc)] at h; exact h) hL (zk_wtl hst) hW hS)
  · cases h
theorem zs_if_le {X : ZX} {E : ZE} {own : String} {cc : ByteArray} {nL : Nat} {ret : Option FieldType} {rm : Room} {ρ : Type} {q : ρ → ZR} {pc : Nat} {κt κf : ZK ρ} {off : Int} {tgt : Nat} (C : zk_X X E own cc nL ret rm) (hd : decode cc pc = .ok (.ifCond .le off, 3)) (ht : (pc : Int) + off = (tgt : Int)) (hk1 : zk_S X E nL q (tgt) κt) (hk2 : zk_S X E nL q (pc + 3) κf) : zk_S X E nL q (pc) (zi_if (fun x => x ≤ 0) κt κf) := by
  obtain ⟨p, l, e, R, s, m, args, below, meth, c⟩ := X
  obtain ⟨hx, hb, hml, hown, hts, hK, hlk, hrt, hok, hR⟩ := C
  intro H locs ls L st μ r h hL hst hW hS
  unfold zi_if at h
  split at h
  · rename_i x st
    exact lv_if_le hx hb hd ht (fun hc => hk1 H locs ls L st μ r (by rw [if_pos hc] at h; exact h) hL (zk_wtl hst) hW hS) (fun hc => hk2 H locs ls L st μ r (by rw [if_neg (hc)] at h; exact h) hL (zk_wtl hst) hW hS)
  · cases h
theorem zs_icmp_eq {X : ZX} {E : ZE} {own : String} {cc : ByteArray} {nL : Nat} {ret : Option FieldType} {rm : Room} {ρ : Type} {q : ρ → ZR} {pc : Nat} {κt κf : ZK ρ} {off : Int} {tgt : Nat} (C : zk_X X E own cc nL ret rm) (hd : decode cc pc = .ok (.if_icmp .eq off, 3)) (ht : (pc : Int) + off = (tgt : Int)) (hk1 : zk_S X E nL q (tgt) κt) (hk2 : zk_S X E nL q (pc + 3) κf) : zk_S X E nL q (pc) (zi_ic (fun x y => x = y) κt κf) := by
  obtain ⟨p, l, e, R, s, m, args, below, meth, c⟩ := X
  obtain ⟨hx, hb, hml, hown, hts, hK, hlk, hrt, hok, hR⟩ := C
  intro H locs ls L st μ r h hL hst hW hS
  unfold zi_ic at h
  split at h
  · rename_i y x st
    exact lv_icmp_eq hx hb hd ht (fun hc => hk1 H locs ls L st μ r (by rw [if_pos hc] at h; exact h) hL (zk_wtl (zk_wtl hst)) hW hS) (fun hc => hk2 H locs ls L st μ r (by rw [if_neg (hc)] at h; exact h) hL (zk_wtl (zk_wtl hst)) hW hS)
  · cases h
theorem zs_icmp_ne {X : ZX} {E : ZE} {own : String} {cc : ByteArray} {nL : Nat} {ret : Option FieldType} {rm : Room} {ρ : Type} {q : ρ → ZR} {pc : Nat} {κt κf : ZK ρ} {off : Int} {tgt : Nat} (C : zk_X X E own cc nL ret rm) (hd : decode cc pc = .ok (.if_icmp .ne off, 3)) (ht : (pc : Int) + off = (tgt : Int)) (hk1 : zk_S X E nL q (tgt) κt) (hk2 : zk_S X E nL q (pc + 3) κf) : zk_S X E nL q (pc) (zi_ic (fun x y => ¬ x = y) κt κf) := by
  obtain ⟨p, l, e, R, s, m, args, below, meth, c⟩ := X
  obtain ⟨hx, hb, hml, hown, hts, hK, hlk, hrt, hok, hR⟩ := C
  intro H locs ls L st μ r h hL hst hW hS
  unfold zi_ic at h
  split at h
  · rename_i y x st
    exact lv_icmp_ne hx hb hd ht (fun hc => hk1 H locs ls L st μ r (by rw [if_pos hc] at h; exact h) hL (zk_wtl (zk_wtl hst)) hW hS) (fun hc => hk2 H locs ls L st μ r (by rw [if_neg (fun z => z hc)] at h; exact h) hL (zk_wtl (zk_wtl hst)) hW hS)
  · cases h
theorem zs_icmp_lt {X : ZX} {E : ZE} {own : String} {cc : ByteArray} {nL : Nat} {ret : Option FieldType} {rm : Room} {ρ : Type} {q : ρ → ZR} {pc : Nat} {κt κf : ZK ρ} {off : Int} {tgt : Nat} (C : zk_X X E own cc nL ret rm) (hd : decode cc pc = .ok (.if_icmp .lt off, 3)) (ht : (pc : Int) + off = (tgt : Int)) (hk1 : zk_S X E nL q (tgt) κt) (hk2 : zk_S X E nL q (pc + 3) κf) : zk_S X E nL q (pc) (zi_ic (fun x y => x < y) κt κf) := by
  obtain ⟨p, l, e, R, s, m, args, below, meth, c⟩ := X
  obtain ⟨hx, hb, hml, hown, hts, hK, hlk, hrt, hok, hR⟩ := C
  intro H locs ls L st μ r h hL hst hW hS
  unfold zi_ic at h
  split at h
  · rename_i y x st
    exact lv_icmp_lt hx hb hd ht (fun hc => hk1 H locs ls L st μ r (by rw [if_pos hc] at h; exact h) hL (zk_wtl (zk_wtl hst)) hW hS) (fun hc => hk2 H locs ls L st μ r (by rw [if_neg (hc)] at h; exact h) hL (zk_wtl (zk_wtl hst)) hW hS)
  · cases h
theorem zs_icmp_ge {X : ZX} {E : ZE} {own : String} {cc : ByteArray} {nL : Nat} {ret : Option FieldType} {rm : Room} {ρ : Type} {q : ρ → ZR} {pc : Nat} {κt κf : ZK ρ} {off : Int} {tgt : Nat} (C : zk_X X E own cc nL ret rm) (hd : decode cc pc = .ok (.if_icmp .ge off, 3)) (ht : (pc : Int) + off = (tgt : Int)) (hk1 : zk_S X E nL q (tgt) κt) (hk2 : zk_S X E nL q (pc + 3) κf) : zk_S X E nL q (pc) (zi_ic (fun x y => y ≤ x) κt κf) := by
  obtain ⟨p, l, e, R, s, m, args, below, meth, c⟩ := X
  obtain ⟨hx, hb, hml, hown, hts, hK, hlk, hrt, hok, hR⟩ := C
  intro H locs ls L st μ r h hL hst hW hS
  unfold zi_ic at h
  split at h
  · rename_i y x st
    exact lv_icmp_ge hx hb hd ht (fun hc => hk1 H locs ls L st μ r (by rw [if_pos hc] at h; exact h) hL (zk_wtl (zk_wtl hst)) hW hS) (fun hc => hk2 H locs ls L st μ r (by rw [if_neg (hc)] at h; exact h) hL (zk_wtl (zk_wtl hst)) hW hS)
  · cases h
theorem zs_icmp_gt {X : ZX} {E : ZE} {own : String} {cc : ByteArray} {nL : Nat} {ret : Option FieldType} {rm : Room} {ρ : Type} {q : ρ → ZR} {pc : Nat} {κt κf : ZK ρ} {off : Int} {tgt : Nat} (C : zk_X X E own cc nL ret rm) (hd : decode cc pc = .ok (.if_icmp .gt off, 3)) (ht : (pc : Int) + off = (tgt : Int)) (hk1 : zk_S X E nL q (tgt) κt) (hk2 : zk_S X E nL q (pc + 3) κf) : zk_S X E nL q (pc) (zi_ic (fun x y => y < x) κt κf) := by
  obtain ⟨p, l, e, R, s, m, args, below, meth, c⟩ := X
  obtain ⟨hx, hb, hml, hown, hts, hK, hlk, hrt, hok, hR⟩ := C
  intro H locs ls L st μ r h hL hst hW hS
  unfold zi_ic at h
  split at h
  · rename_i y x st
    exact lv_icmp_gt hx hb hd ht (fun hc => hk1 H locs ls L st μ r (by rw [if_pos hc] at h; exact h) hL (zk_wtl (zk_wtl hst)) hW hS) (fun hc => hk2 H locs ls L st μ r (by rw [if_neg (hc)] at h; exact h) hL (zk_wtl (zk_wtl hst)) hW hS)
  · cases h
theorem zs_icmp_le {X : ZX} {E : ZE} {own : String} {cc : ByteArray} {nL : Nat} {ret : Option FieldType} {rm : Room} {ρ : Type} {q : ρ → ZR} {pc : Nat} {κt κf : ZK ρ} {off : Int} {tgt : Nat} (C : zk_X X E own cc nL ret rm) (hd : decode cc pc = .ok (.if_icmp .le off, 3)) (ht : (pc : Int) + off = (tgt : Int)) (hk1 : zk_S X E nL q (tgt) κt) (hk2 : zk_S X E nL q (pc + 3) κf) : zk_S X E nL q (pc) (zi_ic (fun x y => x ≤ y) κt κf) := by
  obtain ⟨p, l, e, R, s, m, args, below, meth, c⟩ := X
  obtain ⟨hx, hb, hml, hown, hts, hK, hlk, hrt, hok, hR⟩ := C
  intro H locs ls L st μ r h hL hst hW hS
  unfold zi_ic at h
  split at h
  · rename_i y x st
    exact lv_icmp_le hx hb hd ht (fun hc => hk1 H locs ls L st μ r (by rw [if_pos hc] at h; exact h) hL (zk_wtl (zk_wtl hst)) hW hS) (fun hc => hk2 H locs ls L st μ r (by rw [if_neg (hc)] at h; exact h) hL (zk_wtl (zk_wtl hst)) hW hS)
  · cases h
theorem zs_goto {X : ZX} {E : ZE} {own : String} {cc : ByteArray} {nL : Nat} {ret : Option FieldType} {rm : Room} {ρ : Type} {q : ρ → ZR} {pc : Nat} {κ : ZK ρ} {off : Int} {tgt : Nat} (C : zk_X X E own cc nL ret rm) (hd : decode cc pc = .ok (.goto off, 3)) (ht : (pc : Int) + off = (tgt : Int)) (hk : zk_S X E nL q (tgt) κ) : zk_S X E nL q (pc) κ := by
  obtain ⟨p, l, e, R, s, m, args, below, meth, c⟩ := X
  obtain ⟨hx, hb, hml, hown, hts, hK, hlk, hrt, hok, hR⟩ := C
  intro H locs ls L st μ r h hL hst hW hS
  exact lv_goto hx hb hd ht (hk H locs ls L st μ r h hL hst hW hS)
def zq_I (r : Int32 × ZM) : ZR := (some (.inl r.1), r.2)
def zq_J (r : Int64 × ZM) : ZR := (some (.inr (.inl r.1)), r.2)
def zq_V (r : ZM) : ZR := (none, r)
def zi_iret : ZK (Int32 × ZM) := fun _ st μ => match st with
  | [.inl x] => some (x, μ)
  | _ => none
theorem zs_iret {X : ZX} {E : ZE} {own : String} {cc : ByteArray} {nL : Nat} {rm : Room} {pc : Nat} (C : zk_X X E own cc nL (some .int) rm) (hd : decode cc pc = .ok (.ireturn, 1)) : zk_S X E nL zq_I pc zi_iret := by
  obtain ⟨p, l, e, R, s, m, args, below, meth, c⟩ := X
  obtain ⟨hx, hb, hml, hown, hts, hK, hlk, hrt, hok, hR⟩ := C
  intro H locs ls L st μ r h hL hst hW hS
  unfold zi_iret at h
  split at h
  · rename_i x
    cases h
    exact W.iret (v := x) hx hb hrt (fun t ht hW1 => ⟨rfl, ⟨by rw [ht]; exact hW, va_K.moved hW1.alike hK⟩, hS.F ht⟩) hS.2.2 hd hlk
  · cases h
def zk_zr (x : Int32) (μ : ZM) : Option (Int32 × ZM) := if x = 0 ∨ x = 1 then some (x, μ) else none
def zi_zret : ZK (Int32 × ZM) := fun _ st μ => match st with
  | [.inl x] => zk_zr x μ
  | _ => none
theorem zs_zret {X : ZX} {E : ZE} {own : String} {cc : ByteArray} {nL : Nat} {rm : Room} {pc : Nat} (C : zk_X X E own cc nL (some .boolean) rm) (hd : decode cc pc = .ok (.ireturn, 1)) : zk_S X E nL zq_I pc zi_zret := by
  obtain ⟨p, l, e, R, s, m, args, below, meth, c⟩ := X
  obtain ⟨hx, hb, hml, hown, hts, hK, hlk, hrt, hok, hR⟩ := C
  intro H locs ls L st μ r h hL hst hW hS
  unfold zi_zret at h
  split at h
  · rename_i x
    unfold zk_zr at h
    by_cases hx1 : x = 0 ∨ x = 1
    · rw [if_pos hx1] at h
      cases h
      have hn : narrow .boolean (.int x) = .int x := by rcases hx1 with rfl | rfl <;> decide
      exact W.zret (v := x) hx hb hrt hn (fun t ht hW1 => ⟨rfl, ⟨by rw [ht]; exact hW, va_K.moved hW1.alike hK⟩, hS.F ht⟩) hS.2.2 hd hlk
    · rw [if_neg hx1] at h; cases h
  · cases h
def zi_lret : ZK (Int64 × ZM) := fun _ st μ => match st with
  | [.inr (.inl x)] => some (x, μ)
  | _ => none
theorem zs_lret {X : ZX} {E : ZE} {own : String} {cc : ByteArray} {nL : Nat} {rm : Room} {pc : Nat} (C : zk_X X E own cc nL (some .long) rm) (hd : decode cc pc = .ok (.lreturn, 1)) : zk_S X E nL zq_J pc zi_lret := by
  obtain ⟨p, l, e, R, s, m, args, below, meth, c⟩ := X
  obtain ⟨hx, hb, hml, hown, hts, hK, hlk, hrt, hok, hR⟩ := C
  intro H locs ls L st μ r h hL hst hW hS
  unfold zi_lret at h
  split at h
  · rename_i x
    cases h
    exact W.lret (v := x) hx hb hrt (fun t ht hW1 => ⟨rfl, ⟨by rw [ht]; exact hW, va_K.moved hW1.alike hK⟩, hS.F ht⟩) hS.2.2 hd hlk
  · cases h
def zi_vret : ZK ZM := fun _ st μ => match st with
  | [] => some μ
  | _ => none
theorem zs_vret {X : ZX} {E : ZE} {own : String} {cc : ByteArray} {nL : Nat} {rm : Room} {pc : Nat} (C : zk_X X E own cc nL none rm) (hd : decode cc pc = .ok (.return_, 1)) : zk_S X E nL zq_V pc zi_vret := by
  obtain ⟨p, l, e, R, s, m, args, below, meth, c⟩ := X
  obtain ⟨hx, hb, hml, hown, hts, hK, hlk, hrt, hok, hR⟩ := C
  intro H locs ls L st μ r h hL hst hW hS
  unfold zi_vret at h
  split at h
  · cases h
    exact W.vret hx hb hrt (fun t ht hW1 => ⟨rfl, ⟨by rw [ht]; exact hW, va_K.moved hW1.alike hK⟩, hS.F ht⟩) hS.2.2 hd hlk
  · cases h
def zk_msk : List Bool → ZL → ZL
  | [], _ => []
  | _ :: _, [] => []
  | b :: bs, a :: l => (if b = true then a else none) :: zk_msk bs l
theorem zk_msk_le : ∀ (bs : List Bool) (l : ZL), bs.length = l.length → zk_le (zk_msk bs l) l
  | [], [], _ => trivial
  | [], _ :: _, h => by cases h
  | _ :: _, [], h => by cases h
  | true :: bs, none :: l, h => zk_msk_le bs l (by simpa using h)
  | true :: bs, some v :: l, h => ⟨rfl, zk_msk_le bs l (by simpa using h)⟩
  | false :: bs, a :: l, h => zk_msk_le bs l (by simpa using h)
def zi_cut {ρ : Type} (bs : List Bool) (κ : ZK ρ) : ZK ρ := fun L st μ => κ (zk_msk bs L) st μ
theorem zs_cut {X : ZX} {E : ZE} {nL : Nat} {ρ : Type} {q : ρ → ZR} {pc : Nat} {κ : ZK ρ} (bs : List Bool) (hb : bs.length = nL) (hk : zk_S X E nL q pc κ) : zk_S X E nL q pc (zi_cut bs κ) := by
  intro H locs ls L st μ r h hL hst hW hS
  exact hk H locs ls _ st μ r h (hL.less (zk_msk_le bs L (hb.trans hL.1.symm))) hst hW hS
end
section
def zk_sz (st : List ZV) : Nat := (st.map zk_ct).sum
theorem zk_sz_c (ad : Nat → Nat) (st : List ZV) : ((st.map (zk_c ad)).map fun v => v.category).sum = zk_sz st := by
  unfold zk_sz
  rw [List.map_map]
  congr 1
  apply List.map_congr_left
  intro v _
  exact zk_ct_c ad v
/-- a field of a class: the tables' words of the class, its place, what it is -/
def zk_fd (ci j : Nat) (Cn : String) (T : u_T) (N : Nat) (ty : Nat → FieldType) (o : Option (Nat × Nat)) : Prop := ci < 1000 ∧ vwCl[ci]? = some (Cn, T, N) ∧ (∀ w ∈ u_ws Cn T N, w ∈ zk_T) ∧ j < N ∧ (zk_fl ci)[j]? = some o ∧ (∀ k, k < N → parseFieldDescriptor (T k).2.2.1 = some (ty k)) ∧ (∀ a, a < N → ∀ b, b < N → a ≠ b → (T a).2.1 ≠ (T b).2.1)
theorem zk_ok_fl {shp : List Nat} (h : zk_okB shp = true) {k kd j : Nat} {q : Nat × Nat} (hk : shp[k]? = some kd) (hj : (zk_fl kd)[j]? = some (some q)) : shp[k + q.2]? = some q.1 := by
  have h1 := List.all_eq_true.mp h k (List.mem_range.mpr (List.getElem?_eq_some_iff.mp hk).1)
  simp only [hk, Bool.and_eq_true] at h1
  have h2 := List.all_eq_true.mp h1.1.1 _ (List.mem_of_getElem? hj)
  simpa using h2
theorem zk_ok_t {shp : List Nat} (h : zk_okB shp = true) {k i : Nat} (hk : shp[k]? = some 4008) (hi : i < 8) : shp[k + 1 + 5 * i]? = some 3 := by
  have h1 := List.all_eq_true.mp h k (List.mem_range.mpr (List.getElem?_eq_some_iff.mp hk).1)
  simp only [hk, Bool.and_eq_true] at h1
  have h2 := h1.1.2
  simp only [bne_self_eq_false, Bool.false_or] at h2
  have h3 := List.all_eq_true.mp h2 i (List.mem_range.mpr hi)
  simpa using h3
theorem zk_ok_s {shp : List Nat} (h : zk_okB shp = true) {k i : Nat} (hk : shp[k]? = some 5004) (hi : i < 4) : shp[k + 6 + 2 * i]? = some 1 := by
  have h1 := List.all_eq_true.mp h k (List.mem_range.mpr (List.getElem?_eq_some_iff.mp hk).1)
  simp only [hk, Bool.and_eq_true] at h1
  have h2 := h1.2
  simp only [bne_self_eq_false, Bool.false_or] at h2
  have h3 := List.all_eq_true.mp h2 i (List.mem_range.mpr hi)
  simpa using h3
theorem zk_Eo {E : ZE} {μ : ZM} {k kd : Nat} (h : kd < 1000) : zk_E E μ k kd = .inr (kd, zk_fs E.1 μ k kd) := by simp [zk_E, h]
theorem zk_Ei {E : ZE} {μ : ZM} {k n : Nat} (h : n < 1000) : zk_E E μ k (1000 + n) = .inl (E.2.2.1 1, n, .inl (μ.1 k)) := by
  rw [zk_E, if_neg (by omega), if_pos (by omega), Nat.add_sub_cancel_left]
theorem zk_Eb {E : ZE} {μ : ZM} {k n : Nat} (h : n < 1000) : zk_E E μ k (2000 + n) = .inl (E.2.2.1 2, n, .inl (μ.1 k)) := by
  rw [zk_E, if_neg (by omega), if_neg (by omega), if_pos (by omega), Nat.add_sub_cancel_left]
theorem zk_El {E : ZE} {μ : ZM} {k n : Nat} (h : n < 1000) : zk_E E μ k (3000 + n) = .inl (E.2.2.1 3, n, .inr (.inl (μ.2 k))) := by
  rw [zk_E, if_neg (by omega), if_neg (by omega), if_neg (by omega), if_pos (by omega), Nat.add_sub_cancel_left]

def zi_gI {ρ : Type} (ci j : Nat) (κ : ZK ρ) : ZK ρ := fun L st μ => match st with
  | .inr (.inr w) :: st => if w.1 = ci then κ L (.inl (μ.1 w.2 j) :: st) μ else none
  | _ => none
def zi_gR {ρ : Type} (ci kd off : Nat) (κ : ZK ρ) : ZK ρ := fun L st μ => match st with
  | .inr (.inr w) :: st => if w.1 = ci then κ L (.inr (.inr (kd, w.2 + off)) :: st) μ else none
  | _ => none
theorem zs_gI {X : ZX} {E : ZE} {own : String} {cc : ByteArray} {nL : Nat} {ret : Option FieldType} {rm : Room} {ρ : Type} {q : ρ → ZR} {pc : Nat} {κ : ZK ρ} {ci j idx : Nat} {Cn : String} {T : u_T} {N : Nat} {ty : Nat → FieldType} (C : zk_X X E own cc nL ret rm) (hd : decode cc pc = .ok (.getfield idx, 3)) (F : zk_fd ci j Cn T N ty none) (hl : Cond.fieldLink own idx (T j).1 (T j).2.1 (T j).2.2.1 ∈ zk_T) (hk : zk_S X E nL q (pc + 3) κ) : zk_S X E nL q (pc) (zi_gI ci j κ) := by
  obtain ⟨p, l, e, R, s, m, args, below, meth, c⟩ := X
  obtain ⟨hx, hb, hml, hown, hts, hK, hlk, hrt, hok, hR⟩ := C
  intro H locs ls L st μ r h hL hst hW hS
  obtain ⟨f0, f1, f2, f3, f4, f5, f6⟩ := F
  unfold zi_gI at h
  split at h
  · rename_i w st
    obtain ⟨kd1, k⟩ := w
    by_cases hc : kd1 = ci
    · rw [if_pos hc] at h
      subst hc
      have hk1 : E.2.2.2.1[k]? = some kd1 := zk_whd hst
      have he := zk_at μ hk1
      rw [zk_Eo f0] at he
      exact va_get (D := E.2.1) (cl := vwCl) (a := E.1 k) (ws := zk_ws E μ) hx hb hts f2 hown hK hW.1 k he f1 j f3 (hts _ hl) (fun _ h9 => h9) (zk_fs_at f4) hd (hk H locs ls L (.inl (μ.1 k j) :: st) μ r h hL (zk_wcons (trivial) (zk_wtl hst)) hW hS)
    · rw [if_neg hc] at h; cases h
  · cases h
theorem zs_gR {X : ZX} {E : ZE} {own : String} {cc : ByteArray} {nL : Nat} {ret : Option FieldType} {rm : Room} {ρ : Type} {q : ρ → ZR} {pc : Nat} {κ : ZK ρ} {ci j idx kd off : Nat} {Cn : String} {T : u_T} {N : Nat} {ty : Nat → FieldType} (C : zk_X X E own cc nL ret rm) (hd : decode cc pc = .ok (.getfield idx, 3)) (F : zk_fd ci j Cn T N ty (some (kd, off))) (hl : Cond.fieldLink own idx (T j).1 (T j).2.1 (T j).2.2.1 ∈ zk_T) (hk : zk_S X E nL q (pc + 3) κ) : zk_S X E nL q (pc) (zi_gR ci kd off κ) := by
  obtain ⟨p, l, e, R, s, m, args, below, meth, c⟩ := X
  obtain ⟨hx, hb, hml, hown, hts, hK, hlk, hrt, hok, hR⟩ := C
  intro H locs ls L st μ r h hL hst hW hS
  obtain ⟨f0, f1, f2, f3, f4, f5, f6⟩ := F
  unfold zi_gR at h
  split at h
  · rename_i w st
    obtain ⟨kd1, k⟩ := w
    by_cases hc : kd1 = ci
    · rw [if_pos hc] at h
      subst hc
      have hk1 : E.2.2.2.1[k]? = some kd1 := zk_whd hst
      have he := zk_at μ hk1
      rw [zk_Eo f0] at he
      exact va_get (D := E.2.1) (cl := vwCl) (a := E.1 k) (ws := zk_ws E μ) hx hb hts f2 hown hK hW.1 k he f1 j f3 (hts _ hl) (fun _ h9 => h9) (zk_fs_at f4) hd (hk H locs ls L (.inr (.inr (kd, k + off)) :: st) μ r h hL (zk_wcons (zk_ok_fl hok hk1 f4) (zk_wtl hst)) hW hS)
    · rw [if_neg hc] at h; cases h
  · cases h
def zi_pI {ρ : Type} (ci j : Nat) (κ : ZK ρ) : ZK ρ := fun L st μ => match st with
  | .inl v :: .inr (.inr w) :: st => if w.1 = ci then κ L st (zk_si μ w.2 j v) else none
  | _ => none
def zi_pZ {ρ : Type} (ci j : Nat) (κ : ZK ρ) : ZK ρ := fun L st μ => match st with
  | .inl v :: .inr (.inr w) :: st => if w.1 = ci ∧ (v = 0 ∨ v = 1) then κ L st (zk_si μ w.2 j v) else none
  | _ => none
theorem zs_pI {X : ZX} {E : ZE} {own : String} {cc : ByteArray} {nL : Nat} {ret : Option FieldType} {rm : Room} {ρ : Type} {q : ρ → ZR} {pc : Nat} {κ : ZK ρ} {ci j idx : Nat} {Cn : String} {T : u_T} {N : Nat} {ty : Nat → FieldType} (C : zk_X X E own cc nL ret rm) (hd : decode cc pc = .ok (.putfield idx, 3)) (F : zk_fd ci j Cn T N ty none) (hl : Cond.fieldLink own idx (T j).1 (T j).2.1 (T j).2.2.1 ∈ zk_T) (hfi : (T j).2.2.2 = false) (hty : parseFieldDescriptor (T j).2.2.1 = some .int) (hk : zk_S X E nL q (pc + 3) κ) : zk_S X E nL q (pc) (zi_pI ci j κ) := by
  obtain ⟨p, l, e, R, s, m, args, below, meth, c⟩ := X
  obtain ⟨hx, hb, hml, hown, hts, hK, hlk, hrt, hok, hR⟩ := C
  intro H locs ls L st μ r h hL hst hW hS
  obtain ⟨f0, f1, f2, f3, f4, f5, f6⟩ := F
  unfold zi_pI at h
  split at h
  · rename_i v w st
    obtain ⟨kd1, k⟩ := w
    by_cases hc : kd1 = ci
    · rw [if_pos hc] at h
      obtain rfl : kd1 = ci := hc
      have hk1 : E.2.2.2.1[k]? = some kd1 := zk_whd (zk_wtl hst)
      have he := zk_at μ hk1
      rw [zk_Eo f0] at he
      refine va_put (D := E.2.1) (cl := vwCl) (a := E.1 k) (ws := zk_ws E μ) hx hb hts f2 ty f5 f6 hown hK hW.1 hW.2 hS k he f1 j f3 (hts _ hl) (fun _ h9 => h9) hfi (v := .int v) hty rfl rfl (by rw [zk_fs, List.length_mapIdx]; exact (List.getElem?_eq_some_iff.mp f4).1) hd (fun H1 locs1 hP1 hD1 hS1 => ?_)
      have e1 : (zk_ws E μ).set k (E.1 k, .inr (kd1, (zk_fs E.1 μ k kd1).set j (.int v))) = zk_ws E (zk_si μ k j v) := by
        rw [zk_fs_set f4, ← zk_Eo (E := E) f0]
        exact zk_set hk1 zk_si_o
      rw [e1] at hP1 hD1
      exact hk H1 locs1 ls L st _ r h hL (zk_wtl (zk_wtl hst)) ⟨hP1, hD1⟩ hS1
    · rw [if_neg hc] at h; cases h
  · cases h
theorem zs_pZ {X : ZX} {E : ZE} {own : String} {cc : ByteArray} {nL : Nat} {ret : Option FieldType} {rm : Room} {ρ : Type} {q : ρ → ZR} {pc : Nat} {κ : ZK ρ} {ci j idx : Nat} {Cn : String} {T : u_T} {N : Nat} {ty : Nat → FieldType} (C : zk_X X E own cc nL ret rm) (hd : decode cc pc = .ok (.putfield idx, 3)) (F : zk_fd ci j Cn T N ty none) (hl : Cond.fieldLink own idx (T j).1 (T j).2.1 (T j).2.2.1 ∈ zk_T) (hfi : (T j).2.2.2 = false) (hty : parseFieldDescriptor (T j).2.2.1 = some .boolean) (hk : zk_S X E nL q (pc + 3) κ) : zk_S X E nL q (pc) (zi_pZ ci j κ) := by
  obtain ⟨p, l, e, R, s, m, args, below, meth, c⟩ := X
  obtain ⟨hx, hb, hml, hown, hts, hK, hlk, hrt, hok, hR⟩ := C
  intro H locs ls L st μ r h hL hst hW hS
  obtain ⟨f0, f1, f2, f3, f4, f5, f6⟩ := F
  unfold zi_pZ at h
  split at h
  · rename_i v w st
    obtain ⟨kd1, k⟩ := w
    by_cases hc : kd1 = ci ∧ (v = 0 ∨ v = 1)
    · rw [if_pos hc] at h
      obtain rfl : kd1 = ci := hc.1
      have hk1 : E.2.2.2.1[k]? = some kd1 := zk_whd (zk_wtl hst)
      have he := zk_at μ hk1
      rw [zk_Eo f0] at he
      refine va_put (D := E.2.1) (cl := vwCl) (a := E.1 k) (ws := zk_ws E μ) hx hb hts f2 ty f5 f6 hown hK hW.1 hW.2 hS k he f1 j f3 (hts _ hl) (fun _ h9 => h9) hfi (v := .int v) hty (by rcases hc.2 with rfl | rfl <;> decide) (by rcases hc.2 with rfl | rfl <;> decide) (by rw [zk_fs, List.length_mapIdx]; exact (List.getElem?_eq_some_iff.mp f4).1) hd (fun H1 locs1 hP1 hD1 hS1 => ?_)
      have e1 : (zk_ws E μ).set k (E.1 k, .inr (kd1, (zk_fs E.1 μ k kd1).set j (.int v))) = zk_ws E (zk_si μ k j v) := by
        rw [zk_fs_set f4, ← zk_Eo (E := E) f0]
        exact zk_set hk1 zk_si_o
      rw [e1] at hP1 hD1
      exact hk H1 locs1 ls L st _ r h hL (zk_wtl (zk_wtl hst)) ⟨hP1, hD1⟩ hS1
    · rw [if_neg hc] at h; cases h
  · cases h
def zi_iald {ρ : Type} (n : Nat) (κ : ZK ρ) : ZK ρ := fun L st μ => match st with
  | .inl i :: .inr (.inr w) :: st => if w.1 = 1000 + n then (if zk_o i n = true then none else κ L (.inl (μ.1 w.2 i.toNatClampNeg) :: st) μ) else none
  | _ => none
theorem zs_iald {X : ZX} {E : ZE} {own : String} {cc : ByteArray} {nL : Nat} {ret : Option FieldType} {rm : Room} {ρ : Type} {q : ρ → ZR} {pc : Nat} {κ : ZK ρ} {n : Nat} (C : zk_X X E own cc nL ret rm) (hd : decode cc pc = .ok (.iaload, 1)) (hn : n < 1000) (hk : zk_S X E nL q (pc + 1) κ) : zk_S X E nL q (pc) (zi_iald n κ) := by
  obtain ⟨p, l, e, R, s, m, args, below, meth, c⟩ := X
  obtain ⟨hx, hb, hml, hown, hts, hK, hlk, hrt, hok, hR⟩ := C
  intro H locs ls L st μ r h hL hst hW hS
  unfold zi_iald at h
  split at h
  · rename_i i w st
    obtain ⟨kd1, k⟩ := w
    by_cases hc : kd1 = 1000 + n
    · rw [if_pos hc] at h
      by_cases hi : zk_o i n = true
      · rw [if_pos hi] at h; cases h
      · rw [if_neg hi] at h
        subst hc
        have hk1 : E.2.2.2.1[k]? = some (1000 + n) := zk_whd (zk_wtl hst)
        have he := zk_at μ hk1
        rw [zk_Ei hn] at he
        exact va_iald (D := E.2.1) (cl := vwCl) (a := E.1 k) (ws := zk_ws E μ) (tys := zk_ty E) hx hb hK hW.1 k 0 he rfl (zk_o_in hi) hd (hk H locs ls L (.inl (μ.1 k i.toNatClampNeg) :: st) μ r h hL (zk_wcons trivial (zk_wtl (zk_wtl hst))) hW hS)
    · rw [if_neg hc] at h; cases h
  · cases h
def zi_bald {ρ : Type} (n : Nat) (κ : ZK ρ) : ZK ρ := fun L st μ => match st with
  | .inl i :: .inr (.inr w) :: st => if w.1 = 2000 + n then (if zk_o i n = true then none else κ L (.inl (μ.1 w.2 i.toNatClampNeg) :: st) μ) else none
  | _ => none
theorem zs_bald {X : ZX} {E : ZE} {own : String} {cc : ByteArray} {nL : Nat} {ret : Option FieldType} {rm : Room} {ρ : Type} {q : ρ → ZR} {pc : Nat} {κ : ZK ρ} {n : Nat} (C : zk_X X E own cc nL ret rm) (hd : decode cc pc = .ok (.baload, 1)) (hn : n < 1000) (hk : zk_S X E nL q (pc + 1) κ) : zk_S X E nL q (pc) (zi_bald n κ) := by
  obtain ⟨p, l, e, R, s, m, args, below, meth, c⟩ := X
  obtain ⟨hx, hb, hml, hown, hts, hK, hlk, hrt, hok, hR⟩ := C
  intro H locs ls L st μ r h hL hst hW hS
  unfold zi_bald at h
  split at h
  · rename_i i w st
    obtain ⟨kd1, k⟩ := w
    by_cases hc : kd1 = 2000 + n
    · rw [if_pos hc] at h
      by_cases hi : zk_o i n = true
      · rw [if_pos hi] at h; cases h
      · rw [if_neg hi] at h
        subst hc
        have hk1 : E.2.2.2.1[k]? = some (2000 + n) := zk_whd (zk_wtl hst)
        have he := zk_at μ hk1
        rw [zk_Eb hn] at he
        exact va_bald (D := E.2.1) (cl := vwCl) (a := E.1 k) (ws := zk_ws E μ) (tys := zk_ty E) hx hb hK hW.1 k 1 he rfl (zk_o_in hi) hd (hk H locs ls L (.inl (μ.1 k i.toNatClampNeg) :: st) μ r h hL (zk_wcons trivial (zk_wtl (zk_wtl hst))) hW hS)
    · rw [if_neg hc] at h; cases h
  · cases h
def zi_lald {ρ : Type} (n : Nat) (κ : ZK ρ) : ZK ρ := fun L st μ => match st with
  | .inl i :: .inr (.inr w) :: st => if w.1 = 3000 + n then (if zk_o i n = true then none else κ L (.inr (.inl (μ.2 w.2 i.toNatClampNeg)) :: st) μ) else none
  | _ => none
theorem zs_lald {X : ZX} {E : ZE} {own : String} {cc : ByteArray} {nL : Nat} {ret : Option FieldType} {rm : Room} {ρ : Type} {q : ρ → ZR} {pc : Nat} {κ : ZK ρ} {n : Nat} (C : zk_X X E own cc nL ret rm) (hd : decode cc pc = .ok (.laload, 1)) (hn : n < 1000) (hk : zk_S X E nL q (pc + 1) κ) : zk_S X E nL q (pc) (zi_lald n κ) := by
  obtain ⟨p, l, e, R, s, m, args, below, meth, c⟩ := X
  obtain ⟨hx, hb, hml, hown, hts, hK, hlk, hrt, hok, hR⟩ := C
  intro H locs ls L st μ r h hL hst hW hS
  unfold zi_lald at h
  split at h
  · rename_i i w st
    obtain ⟨kd1, k⟩ := w
    by_cases hc : kd1 = 3000 + n
    · rw [if_pos hc] at h
      by_cases hi : zk_o i n = true
      · rw [if_pos hi] at h; cases h
      · rw [if_neg hi] at h
        subst hc
        have hk1 : E.2.2.2.1[k]? = some (3000 + n) := zk_whd (zk_wtl hst)
        have he := zk_at μ hk1
        rw [zk_El hn] at he
        exact va_lald (D := E.2.1) (cl := vwCl) (a := E.1 k) (ws := zk_ws E μ) (tys := zk_ty E) hx hb hK hW.1 k 2 he rfl (zk_o_in hi) hd (hk H locs ls L (.inr (.inl (μ.2 k i.toNatClampNeg)) :: st) μ r h hL (zk_wcons trivial (zk_wtl (zk_wtl hst))) hW hS)
    · rw [if_neg hc] at h; cases h
  · cases h
def zi_aldT {ρ : Type} (κ : ZK ρ) : ZK ρ := fun L st μ => match st with
  | .inl i :: .inr (.inr w) :: st => if w.1 = 4008 then (if zk_o i 8 = true then none else κ L (.inr (.inr (3, w.2 + 1 + 5 * i.toNatClampNeg)) :: st) μ) else none
  | _ => none
theorem zs_aldT {X : ZX} {E : ZE} {own : String} {cc : ByteArray} {nL : Nat} {ret : Option FieldType} {rm : Room} {ρ : Type} {q : ρ → ZR} {pc : Nat} {κ : ZK ρ} (C : zk_X X E own cc nL ret rm) (hd : decode cc pc = .ok (.aaload, 1)) (hk : zk_S X E nL q (pc + 1) κ) : zk_S X E nL q (pc) (zi_aldT κ) := by
  obtain ⟨p, l, e, R, s, m, args, below, meth, c⟩ := X
  obtain ⟨hx, hb, hml, hown, hts, hK, hlk, hrt, hok, hR⟩ := C
  intro H locs ls L st μ r h hL hst hW hS
  unfold zi_aldT at h
  split at h
  · rename_i i w st
    obtain ⟨kd1, k⟩ := w
    by_cases hc : kd1 = 4008
    · rw [if_pos hc] at h
      by_cases hi : zk_o i 8 = true
      · rw [if_pos hi] at h; cases h
      · rw [if_neg hi] at h
        subst hc
        have hk1 : E.2.2.2.1[k]? = some 4008 := zk_whd (zk_wtl hst)
        have he := zk_at μ hk1
        have hlt : i.toNatClampNeg < 8 := Nat.not_le.mp fun z => zk_o_in hi (Or.inr z)
        exact va_aldq (D := E.2.1) (cl := vwCl) (a := E.1 k) (ws := zk_ws E μ) (tys := zk_ty E) hx hb hK hW.1 k 3 he rfl (zk_o_in hi) hd (hk H locs ls L (.inr (.inr (3, k + 1 + 5 * i.toNatClampNeg)) :: st) μ r h hL (zk_wcons (zk_ok_t hok hk1 hlt) (zk_wtl (zk_wtl hst))) hW hS)
    · rw [if_neg hc] at h; cases h
  · cases h
def zi_aldS {ρ : Type} (κ : ZK ρ) : ZK ρ := fun L st μ => match st with
  | .inl i :: .inr (.inr w) :: st => if w.1 = 5004 then (if zk_o i 4 = true then none else κ L (.inr (.inr (1, w.2 + 6 + 2 * i.toNatClampNeg)) :: st) μ) else none
  | _ => none
theorem zs_aldS {X : ZX} {E : ZE} {own : String} {cc : ByteArray} {nL : Nat} {ret : Option FieldType} {rm : Room} {ρ : Type} {q : ρ → ZR} {pc : Nat} {κ : ZK ρ} (C : zk_X X E own cc nL ret rm) (hd : decode cc pc = .ok (.aaload, 1)) (hk : zk_S X E nL q (pc + 1) κ) : zk_S X E nL q (pc) (zi_aldS κ) := by
  obtain ⟨p, l, e, R, s, m, args, below, meth, c⟩ := X
  obtain ⟨hx, hb, hml, hown, hts, hK, hlk, hrt, hok, hR⟩ := C
  intro H locs ls L st μ r h hL hst hW hS
  unfold zi_aldS at h
  split at h
  · rename_i i w st
    obtain ⟨kd1, k⟩ := w
    by_cases hc : kd1 = 5004
    · rw [if_pos hc] at h
      by_cases hi : zk_o i 4 = true
      · rw [if_pos hi] at h; cases h
      · rw [if_neg hi] at h
        subst hc
        have hk1 : E.2.2.2.1[k]? = some 5004 := zk_whd (zk_wtl hst)
        have he := zk_at μ hk1
        have hlt : i.toNatClampNeg < 4 := Nat.not_le.mp fun z => zk_o_in hi (Or.inr z)
        exact va_aldq (D := E.2.1) (cl := vwCl) (a := E.1 k) (ws := zk_ws E μ) (tys := zk_ty E) hx hb hK hW.1 k 4 he rfl (zk_o_in hi) hd (hk H locs ls L (.inr (.inr (1, k + 6 + 2 * i.toNatClampNeg)) :: st) μ r h hL (zk_wcons (zk_ok_s hok hk1 hlt) (zk_wtl (zk_wtl hst))) hW hS)
    · rw [if_neg hc] at h; cases h
  · cases h
def zi_iast {ρ : Type} (n : Nat) (κ : ZK ρ) : ZK ρ := fun L st μ => match st with
  | .inl x :: .inl i :: .inr (.inr w) :: st => if w.1 = 1000 + n then (if zk_o i n = true then none else κ L st (zk_si μ w.2 i.toNatClampNeg x)) else none
  | _ => none
theorem zs_iast {X : ZX} {E : ZE} {own : String} {cc : ByteArray} {nL : Nat} {ret : Option FieldType} {rm : Room} {ρ : Type} {q : ρ → ZR} {pc : Nat} {κ : ZK ρ} {n : Nat} (C : zk_X X E own cc nL ret rm) (hd : decode cc pc = .ok (.iastore, 1)) (hn : n < 1000) (hk : zk_S X E nL q (pc + 1) κ) : zk_S X E nL q (pc) (zi_iast n κ) := by
  obtain ⟨p, l, e, R, s, m, args, below, meth, c⟩ := X
  obtain ⟨hx, hb, hml, hown, hts, hK, hlk, hrt, hok, hR⟩ := C
  intro H locs ls L st μ r h hL hst hW hS
  unfold zi_iast at h
  split at h
  · rename_i x i w st
    obtain ⟨kd1, k⟩ := w
    by_cases hc : kd1 = 1000 + n
    · rw [if_pos hc] at h
      by_cases hi : zk_o i n = true
      · rw [if_pos hi] at h; cases h
      · rw [if_neg hi] at h
        subst hc
        have hk1 : E.2.2.2.1[k]? = some (1000 + n) := zk_whd (zk_wtl (zk_wtl hst))
        have he := zk_at μ hk1
        rw [zk_Ei hn] at he
        refine va_iast (D := E.2.1) (cl := vwCl) (a := E.1 k) (ws := zk_ws E μ) (tys := zk_ty E) (x := x) hx hb hK hW.1 hW.2 hS k 0 he rfl (zk_o_in hi) hd (fun H1 locs1 hP1 hD1 hS1 => ?_)
        have e1 : (zk_ws E μ).set k (E.1 k, .inl (E.2.2.1 1, n, .inl (upd (μ.1 k) i.toNatClampNeg x))) = zk_ws E (zk_si μ k i.toNatClampNeg x) := by
          rw [← zk_set hk1 (zk_si_o (v := x)), zk_Ei hn]
          simp [zk_si, zk_sj]
        rw [e1] at hP1 hD1
        exact hk H1 locs1 ls L st _ r h hL (zk_wtl (zk_wtl (zk_wtl hst))) ⟨hP1, hD1⟩ hS1
    · rw [if_neg hc] at h; cases h
  · cases h
def zi_bast {ρ : Type} (n : Nat) (κ : ZK ρ) : ZK ρ := fun L st μ => match st with
  | .inl x :: .inl i :: .inr (.inr w) :: st => if w.1 = 2000 + n then (if zk_o i n = true then none else κ L st (zk_si μ w.2 i.toNatClampNeg (vp_nar .byte x))) else none
  | _ => none
theorem zs_bast {X : ZX} {E : ZE} {own : String} {cc : ByteArray} {nL : Nat} {ret : Option FieldType} {rm : Room} {ρ : Type} {q : ρ → ZR} {pc : Nat} {κ : ZK ρ} {n : Nat} (C : zk_X X E own cc nL ret rm) (hd : decode cc pc = .ok (.bastore, 1)) (hn : n < 1000) (hk : zk_S X E nL q (pc + 1) κ) : zk_S X E nL q (pc) (zi_bast n κ) := by
  obtain ⟨p, l, e, R, s, m, args, below, meth, c⟩ := X
  obtain ⟨hx, hb, hml, hown, hts, hK, hlk, hrt, hok, hR⟩ := C
  intro H locs ls L st μ r h hL hst hW hS
  unfold zi_bast at h
  split at h
  · rename_i x i w st
    obtain ⟨kd1, k⟩ := w
    by_cases hc : kd1 = 2000 + n
    · rw [if_pos hc] at h
      by_cases hi : zk_o i n = true
      · rw [if_pos hi] at h; cases h
      · rw [if_neg hi] at h
        subst hc
        have hk1 : E.2.2.2.1[k]? = some (2000 + n) := zk_whd (zk_wtl (zk_wtl hst))
        have he := zk_at μ hk1
        rw [zk_Eb hn] at he
        refine va_bast (D := E.2.1) (cl := vwCl) (a := E.1 k) (ws := zk_ws E μ) (tys := zk_ty E) (x := x) hx hb hK hW.1 hW.2 hS k 1 he rfl (zk_o_in hi) hd (fun H1 locs1 hP1 hD1 hS1 => ?_)
        have e1 : (zk_ws E μ).set k (E.1 k, .inl (E.2.2.1 2, n, .inl (upd (μ.1 k) i.toNatClampNeg (vp_nar .byte x)))) = zk_ws E (zk_si μ k i.toNatClampNeg (vp_nar .byte x)) := by
          rw [← zk_set hk1 (zk_si_o (v := vp_nar .byte x)), zk_Eb hn]
          simp [zk_si, zk_sj]
        rw [e1] at hP1 hD1
        exact hk H1 locs1 ls L st _ r h hL (zk_wtl (zk_wtl (zk_wtl hst))) ⟨hP1, hD1⟩ hS1
    · rw [if_neg hc] at h; cases h
  · cases h
def zi_last {ρ : Type} (n : Nat) (κ : ZK ρ) : ZK ρ := fun L st μ => match st with
  | .inr (.inl x) :: .inl i :: .inr (.inr w) :: st => if w.1 = 3000 + n then (if zk_o i n = true then none else κ L st (zk_sj μ w.2 i.toNatClampNeg x)) else none
  | _ => none
theorem zs_last {X : ZX} {E : ZE} {own : String} {cc : ByteArray} {nL : Nat} {ret : Option FieldType} {rm : Room} {ρ : Type} {q : ρ → ZR} {pc : Nat} {κ : ZK ρ} {n : Nat} (C : zk_X X E own cc nL ret rm) (hd : decode cc pc = .ok (.lastore, 1)) (hn : n < 1000) (hk : zk_S X E nL q (pc + 1) κ) : zk_S X E nL q (pc) (zi_last n κ) := by
  obtain ⟨p, l, e, R, s, m, args, below, meth, c⟩ := X
  obtain ⟨hx, hb, hml, hown, hts, hK, hlk, hrt, hok, hR⟩ := C
  intro H locs ls L st μ r h hL hst hW hS
  unfold zi_last at h
  split at h
  · rename_i x i w st
    obtain ⟨kd1, k⟩ := w
    by_cases hc : kd1 = 3000 + n
    · rw [if_pos hc] at h
      by_cases hi : zk_o i n = true
      · rw [if_pos hi] at h; cases h
      · rw [if_neg hi] at h
        subst hc
        have hk1 : E.2.2.2.1[k]? = some (3000 + n) := zk_whd (zk_wtl (zk_wtl hst))
        have he := zk_at μ hk1
        rw [zk_El hn] at he
        refine va_last (D := E.2.1) (cl := vwCl) (a := E.1 k) (ws := zk_ws E μ) (tys := zk_ty E) (x := x) hx hb hK hW.1 hW.2 hS k 2 he rfl (zk_o_in hi) hd (fun H1 locs1 hP1 hD1 hS1 => ?_)
        have e1 : (zk_ws E μ).set k (E.1 k, .inl (E.2.2.1 3, n, .inr (.inl (vp_updL (μ.2 k) i.toNatClampNeg x)))) = zk_ws E (zk_sj μ k i.toNatClampNeg x) := by
          rw [← zk_set hk1 (zk_sj_o (v := x)), zk_El hn]
          simp [zk_si, zk_sj]
        rw [e1] at hP1 hD1
        exact hk H1 locs1 ls L st _ r h hL (zk_wtl (zk_wtl (zk_wtl hst))) ⟨hP1, hD1⟩ hS1
    · rw [if_neg hc] at h; cases h
  · cases h
def zi_cpI {ρ : Type} (n0 n1 : Nat) (κ : ZK ρ) : ZK ρ := fun L st μ => match st with
  | .inl n :: .inl dp :: .inr (.inr w1) :: .inl sp :: .inr (.inr w0) :: st => if w0.1 = 1000 + n0 ∧ w1.1 = 1000 + n1 ∧ zk_sz st ≤ 8 then (if ¬ sp < 0 ∧ ¬ dp < 0 ∧ ¬ n < 0 ∧ sp.toNatClampNeg + n.toNatClampNeg ≤ n0 ∧ dp.toNatClampNeg + n.toNatClampNeg ≤ n1 then κ L st (zk_ci μ w0.2 w1.2 sp.toNatClampNeg dp.toNatClampNeg n.toNatClampNeg) else none) else none
  | _ => none
theorem zs_cpI {X : ZX} {E : ZE} {own : String} {cc : ByteArray} {nL : Nat} {ret : Option FieldType} {rm : Room} {ρ : Type} {q : ρ → ZR} {pc : Nat} {κ : ZK ρ} {idx n0 n1 : Nat} (C : zk_X X E own cc nL ret rm) (hd : decode cc pc = .ok (.invokestatic idx, 3)) (hn0 : n0 < 1000) (hn1 : n1 < 1000) (h1 : Cond.methodLink own idx arraycopyName ∈ zk_T) (h2 : Cond.native arraycopyName ∈ zk_T) (h3 : Cond.static arraycopyName ∈ zk_T) (h4 : Cond.initialized "java/lang/System" ∈ zk_T) (hr1 : 1 ≤ rm.frames) (hr2 : 8 + (nativeFrameWords "java/lang/System" "arraycopy" 5 + 11) ≤ rm.locals) (hk : zk_S X E nL q (pc + 3) κ) : zk_S X E nL q (pc) (zi_cpI n0 n1 κ) := by
  obtain ⟨p, l, e, R, s, m, args, below, meth, c⟩ := X
  obtain ⟨hx, hb, hml, hown, hts, hK, hlk, hrt, hok, hR⟩ := C
  intro H locs ls L st μ r h hL hst hW hS
  unfold zi_cpI at h
  split at h
  · rename_i n dp w1 sp w0 st
    obtain ⟨kd1, k1⟩ := w1
    obtain ⟨kd0, k0⟩ := w0
    by_cases hc : kd0 = 1000 + n0 ∧ kd1 = 1000 + n1 ∧ zk_sz st ≤ 8
    · rw [if_pos hc] at h
      by_cases hi : ¬ sp < 0 ∧ ¬ dp < 0 ∧ ¬ n < 0 ∧ sp.toNatClampNeg + n.toNatClampNeg ≤ n0 ∧ dp.toNatClampNeg + n.toNatClampNeg ≤ n1
      · rw [if_pos hi] at h
        obtain ⟨rfl, rfl, hsz⟩ := hc
        have hk1 : E.2.2.2.1[k1]? = some (1000 + n1) := zk_whd (zk_wtl (zk_wtl hst))
        have hk0 : E.2.2.2.1[k0]? = some (1000 + n0) := zk_whd (zk_wtl (zk_wtl (zk_wtl (zk_wtl hst))))
        have he1 := zk_at μ hk1
        have he0 := zk_at μ hk0
        rw [zk_Ei hn1] at he1
        rw [zk_Ei hn0] at he0
        refine va_copyi (D := E.2.1) (cl := vwCl) (a := E.1 k1) (a0 := E.1 k0) (ws := zk_ws E μ) (tys := zk_ty E) (ty := .int) hx hb (hml.trans hL.2.2.1.symm) hown (hts _ h1) (hts _ h2) (hts _ h3) (hts _ h4) hK hW.1 hW.2 hS k0 k1 0 0 he0 he1 rfl rfl rfl hi.1 hi.2.1 hi.2.2.1 hi.2.2.2.1 hi.2.2.2.2 (fun _ _ => rfl) (by rw [← hR] at hr1; exact hr1) (by rw [zk_sz_c]; rw [← hR] at hr2; exact Nat.le_trans (Nat.add_le_add_right hsz _) hr2) hd (fun H1 locs1 hP1 hD1 hS1 => ?_)
        have e1 : (zk_ws E μ).set k1 (E.1 k1, .inl (E.2.2.1 1, n1, .inl (va_cpy (μ.1 k0) (μ.1 k1) sp.toNatClampNeg dp.toNatClampNeg n.toNatClampNeg))) = zk_ws E (zk_ci μ k0 k1 sp.toNatClampNeg dp.toNatClampNeg n.toNatClampNeg) := by
          rw [← zk_set hk1 (zk_ci_o (k0 := k0) (j := sp.toNatClampNeg) (a := dp.toNatClampNeg) (n := n.toNatClampNeg)), zk_Ei hn1]
          simp [zk_ci, zk_cj]
        rw [e1] at hP1 hD1
        exact hk H1 locs1 ls L st _ r h hL (zk_wtl (zk_wtl (zk_wtl (zk_wtl (zk_wtl hst))))) ⟨hP1, hD1⟩ hS1
      · rw [if_neg hi] at h; cases h
    · rw [if_neg hc] at h; cases h
  · cases h
def zi_cpJ {ρ : Type} (n0 n1 : Nat) (κ : ZK ρ) : ZK ρ := fun L st μ => match st with
  | .inl n :: .inl dp :: .inr (.inr w1) :: .inl sp :: .inr (.inr w0) :: st => if w0.1 = 3000 + n0 ∧ w1.1 = 3000 + n1 ∧ zk_sz st ≤ 8 then (if ¬ sp < 0 ∧ ¬ dp < 0 ∧ ¬ n < 0 ∧ sp.toNatClampNeg + n.toNatClampNeg ≤ n0 ∧ dp.toNatClampNeg + n.toNatClampNeg ≤ n1 then κ L st (zk_cj μ w0.2 w1.2 sp.toNatClampNeg dp.toNatClampNeg n.toNatClampNeg) else none) else none
  | _ => none
theorem zs_cpJ {X : ZX} {E : ZE} {own : String} {cc : ByteArray} {nL : Nat} {ret : Option FieldType} {rm : Room} {ρ : Type} {q : ρ → ZR} {pc : Nat} {κ : ZK ρ} {idx n0 n1 : Nat} (C : zk_X X E own cc nL ret rm) (hd : decode cc pc = .ok (.invokestatic idx, 3)) (hn0 : n0 < 1000) (hn1 : n1 < 1000) (h1 : Cond.methodLink own idx arraycopyName ∈ zk_T) (h2 : Cond.native arraycopyName ∈ zk_T) (h3 : Cond.static arraycopyName ∈ zk_T) (h4 : Cond.initialized "java/lang/System" ∈ zk_T) (hr1 : 1 ≤ rm.frames) (hr2 : 8 + (nativeFrameWords "java/lang/System" "arraycopy" 5 + 11) ≤ rm.locals) (hk : zk_S X E nL q (pc + 3) κ) : zk_S X E nL q (pc) (zi_cpJ n0 n1 κ) := by
  obtain ⟨p, l, e, R, s, m, args, below, meth, c⟩ := X
  obtain ⟨hx, hb, hml, hown, hts, hK, hlk, hrt, hok, hR⟩ := C
  intro H locs ls L st μ r h hL hst hW hS
  unfold zi_cpJ at h
  split at h
  · rename_i n dp w1 sp w0 st
    obtain ⟨kd1, k1⟩ := w1
    obtain ⟨kd0, k0⟩ := w0
    by_cases hc : kd0 = 3000 + n0 ∧ kd1 = 3000 + n1 ∧ zk_sz st ≤ 8
    · rw [if_pos hc] at h
      by_cases hi : ¬ sp < 0 ∧ ¬ dp < 0 ∧ ¬ n < 0 ∧ sp.toNatClampNeg + n.toNatClampNeg ≤ n0 ∧ dp.toNatClampNeg + n.toNatClampNeg ≤ n1
      · rw [if_pos hi] at h
        obtain ⟨rfl, rfl, hsz⟩ := hc
        have hk1 : E.2.2.2.1[k1]? = some (3000 + n1) := zk_whd (zk_wtl (zk_wtl hst))
        have hk0 : E.2.2.2.1[k0]? = some (3000 + n0) := zk_whd (zk_wtl (zk_wtl (zk_wtl (zk_wtl hst))))
        have he1 := zk_at μ hk1
        have he0 := zk_at μ hk0
        rw [zk_El hn1] at he1
        rw [zk_El hn0] at he0
        refine va_copyl (D := E.2.1) (cl := vwCl) (a := E.1 k1) (a0 := E.1 k0) (ws := zk_ws E μ) (tys := zk_ty E) (ty := .long) hx hb (hml.trans hL.2.2.1.symm) hown (hts _ h1) (hts _ h2) (hts _ h3) (hts _ h4) hK hW.1 hW.2 hS k0 k1 2 2 he0 he1 rfl rfl rfl hi.1 hi.2.1 hi.2.2.1 hi.2.2.2.1 hi.2.2.2.2 (fun _ _ => rfl) (by rw [← hR] at hr1; exact hr1) (by rw [zk_sz_c]; rw [← hR] at hr2; exact Nat.le_trans (Nat.add_le_add_right hsz _) hr2) hd (fun H1 locs1 hP1 hD1 hS1 => ?_)
        have e1 : (zk_ws E μ).set k1 (E.1 k1, .inl (E.2.2.1 3, n1, .inr (.inl (va_cpy (μ.2 k0) (μ.2 k1) sp.toNatClampNeg dp.toNatClampNeg n.toNatClampNeg)))) = zk_ws E (zk_cj μ k0 k1 sp.toNatClampNeg dp.toNatClampNeg n.toNatClampNeg) := by
          rw [← zk_set hk1 (zk_cj_o (k0 := k0) (j := sp.toNatClampNeg) (a := dp.toNatClampNeg) (n := n.toNatClampNeg)), zk_El hn1]
          simp [zk_ci, zk_cj]
        rw [e1] at hP1 hD1
        exact hk H1 locs1 ls L st _ r h hL (zk_wtl (zk_wtl (zk_wtl (zk_wtl (zk_wtl hst))))) ⟨hP1, hD1⟩ hS1
      · rw [if_neg hi] at h; cases h
    · rw [if_neg hc] at h; cases h
  · cases h
def zi_mmin {ρ : Type} (κ : ZK ρ) : ZK ρ := fun L st μ => match st with
  | .inl y :: .inl x :: st => if zk_sz st ≤ 8 then κ L (.inl (if y < x then y else x) :: st) μ else none
  | _ => none
theorem zs_mmin {X : ZX} {E : ZE} {own : String} {cc : ByteArray} {nL : Nat} {ret : Option FieldType} {rm : Room} {ρ : Type} {q : ρ → ZR} {pc : Nat} {κ : ZK ρ} {idx : Nat} (C : zk_X X E own cc nL ret rm) (hd : decode cc pc = .ok (.invokestatic idx, 3)) (h1 : Cond.methodLink own idx Lib.Math.min.name ∈ zk_T) (h2 : Cond.static Lib.Math.min.name ∈ zk_T) (h3 : Cond.initialized "java/lang/Math" ∈ zk_T) (h4 : Cond.code Lib.Math.min.name Lib.Math.min.code 2 (some .int) ∈ zk_T) (hr1 : 1 ≤ rm.frames) (hr2 : 21 ≤ rm.locals) (hk : zk_S X E nL q (pc + 3) κ) : zk_S X E nL q (pc) (zi_mmin κ) := by
  obtain ⟨p, l, e, R, s, m, args, below, meth, c⟩ := X
  obtain ⟨hx, hb, hml, hown, hts, hK, hlk, hrt, hok, hR⟩ := C
  intro H locs ls L st μ r h hL hst hW hS
  unfold zi_mmin at h
  split at h
  · rename_i y x st
    by_cases hc : zk_sz st ≤ 8
    · rw [if_pos hc] at h
      exact va_mmin hx hb (hml.trans hL.2.2.1.symm) hown (hts _ h1) (hts _ h2) (hts _ h3) (hts _ h4) (by rw [← hR] at hr1; exact hr1) (by rw [zk_sz_c]; rw [← hR] at hr2; exact Nat.le_trans (Nat.add_le_add_right hc _) hr2) (Nat.zero_le _) (Nat.zero_le _) hd (hk H locs ls L (.inl (if y < x then y else x) :: st) μ r h hL (zk_wcons trivial (zk_wtl (zk_wtl hst))) hW hS)
    · rw [if_neg hc] at h; cases h
  · cases h
def zi_mmax {ρ : Type} (κ : ZK ρ) : ZK ρ := fun L st μ => match st with
  | .inl y :: .inl x :: st => if zk_sz st ≤ 8 then κ L (.inl (if x < y then y else x) :: st) μ else none
  | _ => none
theorem zs_mmax {X : ZX} {E : ZE} {own : String} {cc : ByteArray} {nL : Nat} {ret : Option FieldType} {rm : Room} {ρ : Type} {q : ρ → ZR} {pc : Nat} {κ : ZK ρ} {idx : Nat} (C : zk_X X E own cc nL ret rm) (hd : decode cc pc = .ok (.invokestatic idx, 3)) (h1 : Cond.methodLink own idx Lib.Math.max.name ∈ zk_T) (h2 : Cond.static Lib.Math.max.name ∈ zk_T) (h3 : Cond.initialized "java/lang/Math" ∈ zk_T) (h4 : Cond.code Lib.Math.max.name Lib.Math.max.code 2 (some .int) ∈ zk_T) (hr1 : 1 ≤ rm.frames) (hr2 : 21 ≤ rm.locals) (hk : zk_S X E nL q (pc + 3) κ) : zk_S X E nL q (pc) (zi_mmax κ) := by
  obtain ⟨p, l, e, R, s, m, args, below, meth, c⟩ := X
  obtain ⟨hx, hb, hml, hown, hts, hK, hlk, hrt, hok, hR⟩ := C
  intro H locs ls L st μ r h hL hst hW hS
  unfold zi_mmax at h
  split at h
  · rename_i y x st
    by_cases hc : zk_sz st ≤ 8
    · rw [if_pos hc] at h
      exact va_mmax hx hb (hml.trans hL.2.2.1.symm) hown (hts _ h1) (hts _ h2) (hts _ h3) (hts _ h4) (by rw [← hR] at hr1; exact hr1) (by rw [zk_sz_c]; rw [← hR] at hr2; exact Nat.le_trans (Nat.add_le_add_right hc _) hr2) (Nat.zero_le _) (Nat.zero_le _) hd (hk H locs ls L (.inl (if x < y then y else x) :: st) μ r h hL (zk_wcons trivial (zk_wtl (zk_wtl hst))) hW hS)
    · rw [if_neg hc] at h; cases h
  · cases h
/-- behind a call -/
theorem zk_run {p : Program} {l : Launch} {e : Env} {R : Room} {s : State} {m : MethodId} {args : Array Value} {below : List Frame} {meth : Method} {c : Code} {H : Heap} {locs : List Loc} {Q : State → Prop} {pc : Nat} {ls : Array Slot} {st0 rest : List Value} {E : ZE} {r : ZR} {a : Array Value} {H0 : Heap}
    (hr : va_Run p l e R s m args below meth c H locs 0 0 0 0 (F0 m pc ls st0) rest (zk_Q E r a) E.2.2.2.2) (hS : va_S E.2.2.2.2 H0 H locs)
    (kk : ∀ (H1 : Heap) (locs1 : List Loc), zk_W E r.2 H1 → va_S E.2.2.2.2 H0 H1 locs1 → W p l e R s m args below meth c H1 locs1 0 0 Q (F0 m (pc + 3) ls ((r.1.map (zk_c E.1)).toList ++ rest))) : W p l e R s m args below meth c H locs 0 0 Q (F0 m pc ls st0) := by
  intro T hT X
  obtain ⟨v, st₀, t, T', L, h0, X', hL, e1, e2, ⟨hv, ⟨hb, -⟩, hz, hk⟩, st⟩ := hr T hT X
  obtain rfl : v = r.1.map (zk_c E.1) := by injection hv
  rw [h0] at hz hk
  obtain ⟨t2, a1, b1⟩ := kk T'.heap (locs ++ L) (by rw [e1]; exact hb)
    ⟨Nat.le_trans hS.1 (by rw [e1]; exact hz), fun q h1 h2 => by rw [e1, hk q (Nat.lt_of_lt_of_le h1 hS.1) h2]; exact hS.2.1 q h1 h2, fun q hq => by
      rcases List.mem_append.mp hq with h | h
      · exact hS.2.2 q h
      · exact hL q h⟩ T' rfl X'
  exact ⟨t2, st t2 a1, b1⟩
theorem zk_blind {E : ZE} {μ : ZM} {av : List Value} : FrameBlind (va_Pc av (fun U => zk_W E μ U.heap ∧ zk_K E U)) := fun a U g mk h => ⟨h.1, h.2.1, va_K.moved (u := U) (U := U.calling g mk a) (Vm.Alike.refl U.vm) h.2.2⟩
theorem zk_good {y : MethodName} {cc : ByteArray} {n : Nat} {ret : Option FieldType} (h : Cond.code y cc n ret ∈ zk_T) : GoodIn zk_T (Cond.code y cc n ret :: zk_T) := fun w hw => by
  have : w ∈ zk_T := (List.mem_cons.mp hw).elim (fun e => e ▸ h) id
  exact ⟨this, good_of_word (List.mem_filter.mp this).2⟩
/-- a method that can be called: its contract, its words, its shape of a call -/
def zk_MS {σ : Type} (y : MethodName) (cc : ByteArray) (nL : Nat) (ret : Option FieldType) (rm : Room) (q : σ → ZR) (G : List ZV → ZM → Option σ) (n : Nat) : Prop :=
  zk_C y cc nL ret rm q G ∧ Cond.code y cc nL ret ∈ zk_T ∧ Cond.static y ∈ zk_T ∧ Cond.initialized y.cls ∈ zk_T ∧ rm.cells = 0 ∧ rm.slots = 0 ∧ (y.cls ≠ "java/lang/invoke/MethodHandle" ∧ y.cls ≠ "java/lang/invoke/VarHandle" ∧ (parseMethodDescriptor y.desc).map (fun d => d.parameters.length) = some n)
def zk_MV {σ : Type} (y : MethodName) (cc : ByteArray) (nL : Nat) (ret : Option FieldType) (rm : Room) (q : σ → ZR) (G : List ZV → ZM → Option σ) (n ci : Nat) : Prop :=
  zk_C y cc nL ret rm q G ∧ Cond.code y cc nL ret ∈ zk_T ∧ Cond.instanceMethod y ∈ zk_T ∧ Cond.selects y.cls y y ∈ zk_T ∧ Cond.initialized y.cls ∈ zk_T ∧ rm.cells = 0 ∧ rm.slots = 0 ∧ (y.cls ≠ "java/lang/invoke/MethodHandle" ∧ y.cls ≠ "java/lang/invoke/VarHandle" ∧ (parseMethodDescriptor y.desc).map (fun d => d.parameters.length) = some n) ∧ ci < 1000 ∧ (∃ (T : u_T) (N : Nat), vwCl[ci]? = some (y.cls, T, N)) ∧ (∀ as μ r, G as μ = some r → ∃ k As, as = .inr (.inr (ci, k)) :: As)
theorem zk_tk {st : List ZV} {n : Nat} {as : List ZV} (h : (st.take n).reverse = as) : st = as.reverse ++ st.drop n := by rw [← h, List.reverse_reverse, List.take_append_drop]

def zi_cI {ρ : Type} (n : Nat) (G : List ZV → ZM → Option (Int32 × ZM)) (κ : ZK ρ) : ZK ρ := fun L st μ => if (decide (n ≤ st.length) && decide (zk_sz (st.drop n) ≤ 8)) = true then (G (st.take n).reverse μ).bind (fun x => κ L (.inl x.1 :: st.drop n) x.2) else none
theorem zs_sI {X : ZX} {E : ZE} {own : String} {cc : ByteArray} {nL : Nat} {ret : Option FieldType} {rm : Room} {ρ : Type} {q : ρ → ZR} {pc : Nat} {κ : ZK ρ} {idx n nL1 : Nat} {y : MethodName} {cc1 : ByteArray} {ret1 : Option FieldType} {rm1 : Room} {G : List ZV → ZM → Option (Int32 × ZM)} (C : zk_X X E own cc nL ret rm) (hd : decode cc pc = .ok (.invokestatic idx, 3)) (M : zk_MS y cc1 nL1 ret1 rm1 zq_I G n) (h1 : Cond.methodLink own idx y ∈ zk_T) (hr : rm1.frames + 1 ≤ rm.frames ∧ 8 + (nL1 + 11) + rm1.locals ≤ rm.locals) (hk : zk_S X E nL q (pc + 3) κ) : zk_S X E nL q (pc) (zi_cI n G κ) := by
  obtain ⟨p, l, e, R, s, m, args, below, meth, c⟩ := X
  obtain ⟨hx, hb, hml, hown, hts, hK, hlk, hrt, hok, hR⟩ := C
  intro H locs ls L st μ r h hL hst hW hS
  obtain ⟨m1, m2, m3, m4, m5, m6, m7⟩ := M
  unfold zi_cI at h
  by_cases hc : (decide (n ≤ st.length) && decide (zk_sz (st.drop n) ≤ 8)) = true
  · rw [if_pos hc] at h
    simp only [Bool.and_eq_true, decide_eq_true_eq] at hc
    obtain ⟨x, hx1, hx2⟩ := Option.bind_eq_some_iff.mp h
    have hes := zk_tk (st := st) (n := n) rfl
    have hwa : ∀ v ∈ (st.take n).reverse, zk_w E v := fun v hv => hst v (List.mem_of_mem_take (List.mem_reverse.mp hv))
    have hMet := m1 l E _ μ x hx1 hok hwa
    have hstk : st.map (zk_c E.1) = ((st.take n).reverse.map (zk_c E.1)).reverse ++ (st.drop n).map (zk_c E.1) := by
      rw [← List.map_reverse, List.reverse_reverse, ← List.map_append, List.take_append_drop]
    refine zk_run (r := zq_I x) (rest := (st.drop n).map (zk_c E.1)) (va_runS (n := n) (As := (st.take n).reverse.map (zk_c E.1)) ⟨hx, hb, hml, hown, hts⟩ hMet ⟨callB_of n hts (zk_good m2) rfl m5 m6 (hts _ m4) (hts _ h1) m7 (by rw [← hR] at hr; exact hr), hts _ m3⟩ ⟨zk_blind, fun U hU hWm => ⟨rfl, by rw [hU]; exact hW, va_K.moved hWm.alike hK⟩⟩ rfl (by simp; omega) hL.2.2.1 hstk (lv_room (by rw [zk_sz_c]; exact hc.2)) hd ⟨Nat.zero_le _, Nat.zero_le _⟩) hS (fun H1 locs1 hW1 hS1 => ?_)
    exact hk H1 locs1 ls L _ _ r hx2 hL (zk_wcons trivial (fun v hv => hst v (List.mem_of_mem_drop hv))) hW1 hS1
  · rw [if_neg hc] at h; cases h
theorem zs_vI {X : ZX} {E : ZE} {own : String} {cc : ByteArray} {nL : Nat} {ret : Option FieldType} {rm : Room} {ρ : Type} {q : ρ → ZR} {pc : Nat} {κ : ZK ρ} {idx n nL1 ci : Nat} {y : MethodName} {cc1 : ByteArray} {ret1 : Option FieldType} {rm1 : Room} {G : List ZV → ZM → Option (Int32 × ZM)} (C : zk_X X E own cc nL ret rm) (hd : decode cc pc = .ok (.invokevirtual idx, 3)) (M : zk_MV y cc1 nL1 ret1 rm1 zq_I G n ci) (h1 : Cond.methodLink own idx y ∈ zk_T) (hr : rm1.frames + 1 ≤ rm.frames ∧ 8 + (nL1 + 11) + rm1.locals ≤ rm.locals) (hk : zk_S X E nL q (pc + 3) κ) : zk_S X E nL q (pc) (zi_cI (n + 1) G κ) := by
  obtain ⟨p, l, e, R, s, m, args, below, meth, c⟩ := X
  obtain ⟨hx, hb, hml, hown, hts, hK, hlk, hrt, hok, hR⟩ := C
  intro H locs ls L st μ r h hL hst hW hS
  obtain ⟨m1, m2, m3, m4, m5, m6, m7, m8, m9, ⟨T, N, m10⟩, m11⟩ := M
  unfold zi_cI at h
  by_cases hc : (decide (n + 1 ≤ st.length) && decide (zk_sz (st.drop (n + 1)) ≤ 8)) = true
  · rw [if_pos hc] at h
    simp only [Bool.and_eq_true, decide_eq_true_eq] at hc
    obtain ⟨x, hx1, hx2⟩ := Option.bind_eq_some_iff.mp h
    have hes := zk_tk (st := st) (n := n + 1) rfl
    have hwa : ∀ v ∈ (st.take (n + 1)).reverse, zk_w E v := fun v hv => hst v (List.mem_of_mem_take (List.mem_reverse.mp hv))
    have hMet := m1 l E _ μ x hx1 hok hwa
    obtain ⟨k, As, hAs⟩ := m11 _ _ _ hx1
    rw [hAs] at hMet hwa hes
    have hlA : As.length = n := by
      have e0 := congrArg List.length hAs
      simp at e0
      omega
    have hk1 : E.2.2.2.1[k]? = some ci := zk_whd hwa
    have he := zk_at μ hk1
    rw [zk_Eo m9] at he
    have hstk : st.map (zk_c E.1) = (As.map (zk_c E.1)).reverse ++ .ref (E.1 k) :: (st.drop (n + 1)).map (zk_c E.1) := by
      conv => lhs; rw [hes]
      simp [zk_c]
    refine zk_run (r := zq_I x) (rest := (st.drop (n + 1)).map (zk_c E.1)) (va_runV (n := n) (C := y.cls) (b := E.1 k) (As := As.map (zk_c E.1)) ⟨hx, hb, hml, hown, hts⟩ hMet ⟨callB_of n hts (zk_good m2) rfl m6 m7 (hts _ m5) (hts _ h1) m8 (by rw [← hR] at hr; exact hr), hts _ m3, hts _ m4⟩ ⟨zk_blind, va_recv hK hW.1 m10 he, fun U hU hWm => ⟨rfl, by rw [hU]; exact hW, va_K.moved hWm.alike hK⟩⟩ rfl (by simp [hlA]) hL.2.2.1 hstk (lv_room (by rw [zk_sz_c]; exact hc.2)) hd ⟨Nat.zero_le _, Nat.zero_le _⟩) hS (fun H1 locs1 hW1 hS1 => ?_)
    exact hk H1 locs1 ls L _ _ r hx2 hL (zk_wcons trivial (fun v hv => hst v (List.mem_of_mem_drop hv))) hW1 hS1
  · rw [if_neg hc] at h; cases h
def zi_cJ {ρ : Type} (n : Nat) (G : List ZV → ZM → Option (Int64 × ZM)) (κ : ZK ρ) : ZK ρ := fun L st μ => if (decide (n ≤ st.length) && decide (zk_sz (st.drop n) ≤ 8)) = true then (G (st.take n).reverse μ).bind (fun x => κ L (.inr (.inl x.1) :: st.drop n) x.2) else none
theorem zs_sJ {X : ZX} {E : ZE} {own : String} {cc : ByteArray} {nL : Nat} {ret : Option FieldType} {rm : Room} {ρ : Type} {q : ρ → ZR} {pc : Nat} {κ : ZK ρ} {idx n nL1 : Nat} {y : MethodName} {cc1 : ByteArray} {ret1 : Option FieldType} {rm1 : Room} {G : List ZV → ZM → Option (Int64 × ZM)} (C : zk_X X E own cc nL ret rm) (hd : decode cc pc = .ok (.invokestatic idx, 3)) (M : zk_MS y cc1 nL1 ret1 rm1 zq_J G n) (h1 : Cond.methodLink own idx y ∈ zk_T) (hr : rm1.frames + 1 ≤ rm.frames ∧ 8 + (nL1 + 11) + rm1.locals ≤ rm.locals) (hk : zk_S X E nL q (pc + 3) κ) : zk_S X E nL q (pc) (zi_cJ n G κ) := by
  obtain ⟨p, l, e, R, s, m, args, below, meth, c⟩ := X
  obtain ⟨hx, hb, hml, hown, hts, hK, hlk, hrt, hok, hR⟩ := C
  intro H locs ls L st μ r h hL hst hW hS
  obtain ⟨m1, m2, m3, m4, m5, m6, m7⟩ := M
  unfold zi_cJ at h
  by_cases hc : (decide (n ≤ st.length) && decide (zk_sz (st.drop n) ≤ 8)) = true
  · rw [if_pos hc] at h
    simp only [Bool.and_eq_true, decide_eq_true_eq] at hc
    obtain ⟨x, hx1, hx2⟩ := Option.bind_eq_some_iff.mp h
    have hes := zk_tk (st := st) (n := n) rfl
    have hwa : ∀ v ∈ (st.take n).reverse, zk_w E v := fun v hv => hst v (List.mem_of_mem_take (List.mem_reverse.mp hv))
    have hMet := m1 l E _ μ x hx1 hok hwa
    have hstk : st.map (zk_c E.1) = ((st.take n).reverse.map (zk_c E.1)).reverse ++ (st.drop n).map (zk_c E.1) := by
      rw [← List.map_reverse, List.reverse_reverse, ← List.map_append, List.take_append_drop]
    refine zk_run (r := zq_J x) (rest := (st.drop n).map (zk_c E.1)) (va_runS (n := n) (As := (st.take n).reverse.map (zk_c E.1)) ⟨hx, hb, hml, hown, hts⟩ hMet ⟨callB_of n hts (zk_good m2) rfl m5 m6 (hts _ m4) (hts _ h1) m7 (by rw [← hR] at hr; exact hr), hts _ m3⟩ ⟨zk_blind, fun U hU hWm => ⟨rfl, by rw [hU]; exact hW, va_K.moved hWm.alike hK⟩⟩ rfl (by simp; omega) hL.2.2.1 hstk (lv_room (by rw [zk_sz_c]; exact hc.2)) hd ⟨Nat.zero_le _, Nat.zero_le _⟩) hS (fun H1 locs1 hW1 hS1 => ?_)
    exact hk H1 locs1 ls L _ _ r hx2 hL (zk_wcons trivial (fun v hv => hst v (List.mem_of_mem_drop hv))) hW1 hS1
  · rw [if_neg hc] at h; cases h
theorem zs_vJ {X : ZX} {E : ZE} {own : String} {cc : ByteArray} {nL : Nat} {ret : Option FieldType} {rm : Room} {ρ : Type} {q : ρ → ZR} {pc : Nat} {κ : ZK ρ} {idx n nL1 ci : Nat} {y : MethodName} {cc1 : ByteArray} {ret1 : Option FieldType} {rm1 : Room} {G : List ZV → ZM → Option (Int64 × ZM)} (C : zk_X X E own cc nL ret rm) (hd : decode cc pc = .ok (.invokevirtual idx, 3)) (M : zk_MV y cc1 nL1 ret1 rm1 zq_J G n ci) (h1 : Cond.methodLink own idx y ∈ zk_T) (hr : rm1.frames + 1 ≤ rm.frames ∧ 8 + (nL1 + 11) + rm1.locals ≤ rm.locals) (hk : zk_S X E nL q (pc + 3) κ) : zk_S X E nL q (pc) (zi_cJ (n + 1) G κ) := by
  obtain ⟨p, l, e, R, s, m, args, below, meth, c⟩ := X
  obtain ⟨hx, hb, hml, hown, hts, hK, hlk, hrt, hok, hR⟩ := C
  intro H locs ls L st μ r h hL hst hW hS
  obtain ⟨m1, m2, m3, m4, m5, m6, m7, m8, m9, ⟨T, N, m10⟩, m11⟩ := M
  unfold zi_cJ at h
  by_cases hc : (decide (n + 1 ≤ st.length) && decide (zk_sz (st.drop (n + 1)) ≤ 8)) = true
  · rw [if_pos hc] at h
    simp only [Bool.and_eq_true, decide_eq_true_eq] at hc
    obtain ⟨x, hx1, hx2⟩ := Option.bind_eq_some_iff.mp h
    have hes := zk_tk (st := st) (n := n + 1) rfl
    have hwa : ∀ v ∈ (st.take (n + 1)).reverse, zk_w E v := fun v hv => hst v (List.mem_of_mem_take (List.mem_reverse.mp hv))
    have hMet := m1 l E _ μ x hx1 hok hwa
    obtain ⟨k, As, hAs⟩ := m11 _ _ _ hx1
    rw [hAs] at hMet hwa hes
    have hlA : As.length = n := by
      have e0 := congrArg List.length hAs
      simp at e0
      omega
    have hk1 : E.2.2.2.1[k]? = some ci := zk_whd hwa
    have he := zk_at μ hk1
    rw [zk_Eo m9] at he
    have hstk : st.map (zk_c E.1) = (As.map (zk_c E.1)).reverse ++ .ref (E.1 k) :: (st.drop (n + 1)).map (zk_c E.1) := by
      conv => lhs; rw [hes]
      simp [zk_c]
    refine zk_run (r := zq_J x) (rest := (st.drop (n + 1)).map (zk_c E.1)) (va_runV (n := n) (C := y.cls) (b := E.1 k) (As := As.map (zk_c E.1)) ⟨hx, hb, hml, hown, hts⟩ hMet ⟨callB_of n hts (zk_good m2) rfl m6 m7 (hts _ m5) (hts _ h1) m8 (by rw [← hR] at hr; exact hr), hts _ m3, hts _ m4⟩ ⟨zk_blind, va_recv hK hW.1 m10 he, fun U hU hWm => ⟨rfl, by rw [hU]; exact hW, va_K.moved hWm.alike hK⟩⟩ rfl (by simp [hlA]) hL.2.2.1 hstk (lv_room (by rw [zk_sz_c]; exact hc.2)) hd ⟨Nat.zero_le _, Nat.zero_le _⟩) hS (fun H1 locs1 hW1 hS1 => ?_)
    exact hk H1 locs1 ls L _ _ r hx2 hL (zk_wcons trivial (fun v hv => hst v (List.mem_of_mem_drop hv))) hW1 hS1
  · rw [if_neg hc] at h; cases h
def zi_cV {ρ : Type} (n : Nat) (G : List ZV → ZM → Option (ZM)) (κ : ZK ρ) : ZK ρ := fun L st μ => if (decide (n ≤ st.length) && decide (zk_sz (st.drop n) ≤ 8)) = true then (G (st.take n).reverse μ).bind (fun x => κ L (st.drop n) x) else none
theorem zs_sV {X : ZX} {E : ZE} {own : String} {cc : ByteArray} {nL : Nat} {ret : Option FieldType} {rm : Room} {ρ : Type} {q : ρ → ZR} {pc : Nat} {κ : ZK ρ} {idx n nL1 : Nat} {y : MethodName} {cc1 : ByteArray} {ret1 : Option FieldType} {rm1 : Room} {G : List ZV → ZM → Option (ZM)} (C : zk_X X E own cc nL ret rm) (hd : decode cc pc = .ok (.invokestatic idx, 3)) (M : zk_MS y cc1 nL1 ret1 rm1 zq_V G n) (h1 : Cond.methodLink own idx y ∈ zk_T) (hr : rm1.frames + 1 ≤ rm.frames ∧ 8 + (nL1 + 11) + rm1.locals ≤ rm.locals) (hk : zk_S X E nL q (pc + 3) κ) : zk_S X E nL q (pc) (zi_cV n G κ) := by
  obtain ⟨p, l, e, R, s, m, args, below, meth, c⟩ := X
  obtain ⟨hx, hb, hml, hown, hts, hK, hlk, hrt, hok, hR⟩ := C
  intro H locs ls L st μ r h hL hst hW hS
  obtain ⟨m1, m2, m3, m4, m5, m6, m7⟩ := M
  unfold zi_cV at h
  by_cases hc : (decide (n ≤ st.length) && decide (zk_sz (st.drop n) ≤ 8)) = true
  · rw [if_pos hc] at h
    simp only [Bool.and_eq_true, decide_eq_true_eq] at hc
    obtain ⟨x, hx1, hx2⟩ := Option.bind_eq_some_iff.mp h
    have hes := zk_tk (st := st) (n := n) rfl
    have hwa : ∀ v ∈ (st.take n).reverse, zk_w E v := fun v hv => hst v (List.mem_of_mem_take (List.mem_reverse.mp hv))
    have hMet := m1 l E _ μ x hx1 hok hwa
    have hstk : st.map (zk_c E.1) = ((st.take n).reverse.map (zk_c E.1)).reverse ++ (st.drop n).map (zk_c E.1) := by
      rw [← List.map_reverse, List.reverse_reverse, ← List.map_append, List.take_append_drop]
    refine zk_run (r := zq_V x) (rest := (st.drop n).map (zk_c E.1)) (va_runS (n := n) (As := (st.take n).reverse.map (zk_c E.1)) ⟨hx, hb, hml, hown, hts⟩ hMet ⟨callB_of n hts (zk_good m2) rfl m5 m6 (hts _ m4) (hts _ h1) m7 (by rw [← hR] at hr; exact hr), hts _ m3⟩ ⟨zk_blind, fun U hU hWm => ⟨rfl, by rw [hU]; exact hW, va_K.moved hWm.alike hK⟩⟩ rfl (by simp; omega) hL.2.2.1 hstk (lv_room (by rw [zk_sz_c]; exact hc.2)) hd ⟨Nat.zero_le _, Nat.zero_le _⟩) hS (fun H1 locs1 hW1 hS1 => ?_)
    exact hk H1 locs1 ls L _ _ r hx2 hL (fun v hv => hst v (List.mem_of_mem_drop hv)) hW1 hS1
  · rw [if_neg hc] at h; cases h
theorem zs_vV {X : ZX} {E : ZE} {own : String} {cc : ByteArray} {nL : Nat} {ret : Option FieldType} {rm : Room} {ρ : Type} {q : ρ → ZR} {pc : Nat} {κ : ZK ρ} {idx n nL1 ci : Nat} {y : MethodName} {cc1 : ByteArray} {ret1 : Option FieldType} {rm1 : Room} {G : List ZV → ZM → Option (ZM)} (C : zk_X X E own cc nL ret rm) (hd : decode cc pc = .ok (.invokevirtual idx, 3)) (M : zk_MV y cc1 nL1 ret1 rm1 zq_V G n ci) (h1 : Cond.methodLink own idx y ∈ zk_T) (hr : rm1.frames + 1 ≤ rm.frames ∧ 8 + (nL1 + 11) + rm1.locals ≤ rm.locals) (hk : zk_S X E nL q (pc + 3) κ) : zk_S X E nL q (pc) (zi_cV (n + 1) G κ) := by
  obtain ⟨p, l, e, R, s, m, args, below, meth, c⟩ := X
  obtain ⟨hx, hb, hml, hown, hts, hK, hlk, hrt, hok, hR⟩ := C
  intro H locs ls L st μ r h hL hst hW hS
  obtain ⟨m1, m2, m3, m4, m5, m6, m7, m8, m9, ⟨T, N, m10⟩, m11⟩ := M
  unfold zi_cV at h
  by_cases hc : (decide (n + 1 ≤ st.length) && decide (zk_sz (st.drop (n + 1)) ≤ 8)) = true
  · rw [if_pos hc] at h
    simp only [Bool.and_eq_true, decide_eq_true_eq] at hc
    obtain ⟨x, hx1, hx2⟩ := Option.bind_eq_some_iff.mp h
    have hes := zk_tk (st := st) (n := n + 1) rfl
    have hwa : ∀ v ∈ (st.take (n + 1)).reverse, zk_w E v := fun v hv => hst v (List.mem_of_mem_take (List.mem_reverse.mp hv))
    have hMet := m1 l E _ μ x hx1 hok hwa
    obtain ⟨k, As, hAs⟩ := m11 _ _ _ hx1
    rw [hAs] at hMet hwa hes
    have hlA : As.length = n := by
      have e0 := congrArg List.length hAs
      simp at e0
      omega
    have hk1 : E.2.2.2.1[k]? = some ci := zk_whd hwa
    have he := zk_at μ hk1
    rw [zk_Eo m9] at he
    have hstk : st.map (zk_c E.1) = (As.map (zk_c E.1)).reverse ++ .ref (E.1 k) :: (st.drop (n + 1)).map (zk_c E.1) := by
      conv => lhs; rw [hes]
      simp [zk_c]
    refine zk_run (r := zq_V x) (rest := (st.drop (n + 1)).map (zk_c E.1)) (va_runV (n := n) (C := y.cls) (b := E.1 k) (As := As.map (zk_c E.1)) ⟨hx, hb, hml, hown, hts⟩ hMet ⟨callB_of n hts (zk_good m2) rfl m6 m7 (hts _ m5) (hts _ h1) m8 (by rw [← hR] at hr; exact hr), hts _ m3, hts _ m4⟩ ⟨zk_blind, va_recv hK hW.1 m10 he, fun U hU hWm => ⟨rfl, by rw [hU]; exact hW, va_K.moved hWm.alike hK⟩⟩ rfl (by simp [hlA]) hL.2.2.1 hstk (lv_room (by rw [zk_sz_c]; exact hc.2)) hd ⟨Nat.zero_le _, Nat.zero_le _⟩) hS (fun H1 locs1 hW1 hS1 => ?_)
    exact hk H1 locs1 ls L _ _ r hx2 hL (fun v hv => hst v (List.mem_of_mem_drop hv)) hW1 hS1
  · rw [if_neg hc] at h; cases h
def zk_pk {ρ : Type} (x : Int32) (d : ZK ρ) : List (Int32 × ZK ρ) → ZK ρ
  | [] => d
  | c :: cs => fun L st μ => if x = c.1 then c.2 L st μ else zk_pk x d cs L st μ
def zi_sw {ρ : Type} (cs : List (Int32 × ZK ρ)) (d : ZK ρ) : ZK ρ := fun L st μ => match st with
  | .inl x :: st => zk_pk x d cs L st μ
  | _ => none
theorem zk_pk_or {ρ : Type} (x : Int32) (d : ZK ρ) : ∀ (cs : List (Int32 × ZK ρ)) (L : ZL) (st : List ZV) (μ : ZM), (∃ c ∈ cs, x = c.1 ∧ zk_pk x d cs L st μ = c.2 L st μ) ∨ ((∀ c ∈ cs, x ≠ c.1) ∧ zk_pk x d cs L st μ = d L st μ)
  | [], L, st, μ => Or.inr ⟨fun _ h => absurd h List.not_mem_nil, rfl⟩
  | c :: cs, L, st, μ => by
    by_cases h : x = c.1
    · exact Or.inl ⟨c, List.mem_cons_self, h, by show (if x = c.1 then c.2 L st μ else zk_pk x d cs L st μ) = _; rw [if_pos h]⟩
    · rcases zk_pk_or x d cs L st μ with ⟨c', h1, h2, h3⟩ | ⟨h1, h2⟩
      · exact Or.inl ⟨c', List.mem_cons_of_mem _ h1, h2, by show (if x = c.1 then c.2 L st μ else zk_pk x d cs L st μ) = _; rw [if_neg h, h3]⟩
      · exact Or.inr ⟨fun c' hc => (List.mem_cons.mp hc).elim (fun z => z ▸ h) (h1 c'), by show (if x = c.1 then c.2 L st μ else zk_pk x d cs L st μ) = _; rw [if_neg h, h2]⟩

theorem zs_tab {X : ZX} {E : ZE} {own : String} {cc : ByteArray} {nL : Nat} {ret : Option FieldType} {rm : Room} {ρ : Type} {q : ρ → ZR} {pc : Nat} {κd : ZK ρ} {cs : List (Int32 × ZK ρ)} {tg : Int32 → Nat} {dflt lo hi : Int} {offs : Array Int} {len tgt : Nat} (C : zk_X X E own cc nL ret rm) (hd : decode cc pc = .ok (.tableswitch dflt lo hi offs, len)) (hs : (hi + 1 - lo).toNat = offs.size) (ht : (pc : Int) + dflt = (tgt : Int))
    (hc1 : ∀ x ∈ cs.map (fun c => c.1), lo ≤ x.toInt ∧ x.toInt ≤ hi ∧ offs[(x.toInt - lo).toNat]? = some ((tg x : Int) - pc)) (hc2 : ∀ j, j < offs.size → (lo + (j : Int)) ∈ (cs.map (fun c => c.1)).map (fun x => x.toInt) ∨ offs[j]? = some dflt)
    (hk1 : ∀ c ∈ cs, zk_S X E nL q (tg c.1) c.2) (hk2 : zk_S X E nL q tgt κd) : zk_S X E nL q pc (zi_sw cs κd) := by
  obtain ⟨p, l, e, R, s, m, args, below, meth, c⟩ := X
  obtain ⟨hx, hb, hml, hown, hts, hK, hlk, hrt, hok, hR⟩ := C
  intro H locs ls L st μ r h hL hst hW hS
  unfold zi_sw at h
  split at h
  · rename_i x st
    rcases zk_pk_or x κd cs L st μ with ⟨c1, h1, h2, h3⟩ | ⟨h1, h2⟩
    · rw [h3] at h
      obtain ⟨g1, g2, g3⟩ := hc1 c1.1 (List.mem_map.mpr ⟨c1, h1, rfl⟩)
      subst h2
      exact lv_tableIn hx hb hd (by omega) (by omega) g3 (by omega) (hk1 c1 h1 H locs ls L st μ r h hL (zk_wtl hst) hW hS)
    · rw [h2] at h
      have hno : ∀ y ∈ (cs.map (fun c => c.1)).map (fun x => x.toInt), x.toInt ≠ y := by
        intro y hy
        obtain ⟨z, hz, rfl⟩ := List.mem_map.mp hy
        obtain ⟨c1, hc, rfl⟩ := List.mem_map.mp hz
        exact fun e => h1 c1 hc (Int32.toInt_inj.mp e)
      have kk := hk2 H locs ls L st μ r h hL (zk_wtl hst) hW hS
      by_cases hr : x.toInt < lo ∨ hi < x.toInt
      · exact lv_tableOut hx hb hd hr ht kk
      · have hj : (x.toInt - lo).toNat < offs.size := by omega
        rcases hc2 _ hj with g | g
        · exact absurd (show x.toInt = lo + ((x.toInt - lo).toNat : Int) by omega) (hno _ g)
        · exact lv_tableIn hx hb hd (by omega) (by omega) g ht kk
  · cases h
theorem zs_look {X : ZX} {E : ZE} {own : String} {cc : ByteArray} {nL : Nat} {ret : Option FieldType} {rm : Room} {ρ : Type} {q : ρ → ZR} {pc : Nat} {κd : ZK ρ} {cs : List (Int32 × ZK ρ)} {tg : Int32 → Nat} {dflt : Int} {ps : Array (Int × Int)} {len tgt : Nat} (C : zk_X X E own cc nL ret rm) (hd : decode cc pc = .ok (.lookupswitch dflt ps, len)) (hp : (ps.toList.zip (ps.toList.drop 1)).all (fun (a, next) => a.1 < next.1) = true) (ht : (pc : Int) + dflt = (tgt : Int))
    (hc1 : ∀ x ∈ cs.map (fun c => c.1), Op.lookupswitch.offset ps.toList dflt x.toInt = (tg x : Int) - pc) (hc2 : ∀ z : Int, z ∉ (cs.map (fun c => c.1)).map (fun x => x.toInt) → Op.lookupswitch.offset ps.toList dflt z = dflt)
    (hk1 : ∀ c ∈ cs, zk_S X E nL q (tg c.1) c.2) (hk2 : zk_S X E nL q tgt κd) : zk_S X E nL q pc (zi_sw cs κd) := by
  obtain ⟨p, l, e, R, s, m, args, below, meth, c⟩ := X
  obtain ⟨hx, hb, hml, hown, hts, hK, hlk, hrt, hok, hR⟩ := C
  intro H locs ls L st μ r h hL hst hW hS
  unfold zi_sw at h
  split at h
  · rename_i x st
    rcases zk_pk_or x κd cs L st μ with ⟨c1, h1, h2, h3⟩ | ⟨h1, h2⟩
    · rw [h3] at h
      have g3 := hc1 c1.1 (List.mem_map.mpr ⟨c1, h1, rfl⟩)
      subst h2
      exact lv_lookup hx hb hd hp g3 (by omega) (hk1 c1 h1 H locs ls L st μ r h hL (zk_wtl hst) hW hS)
    · rw [h2] at h
      have hno : x.toInt ∉ (cs.map (fun c => c.1)).map (fun x => x.toInt) := by
        intro hy
        obtain ⟨z, hz, e⟩ := List.mem_map.mp hy
        obtain ⟨c1, hc, rfl⟩ := List.mem_map.mp hz
        exact h1 c1 hc (Int32.toInt_inj.mp e.symm)
      exact lv_lookup hx hb hd hp (hc2 _ hno) ht (hk2 H locs ls L st μ r h hL (zk_wtl hst) hW hS)
  · cases h
/-- the locals at a method's entry -/
def zk_en : List ZV → ZL
  | [] => []
  | .inr (.inl y) :: l => some (.inr (.inl y)) :: none :: zk_en l
  | v :: l => some v :: zk_en l
def zk_pad (n : Nat) (l : ZL) : ZL := l ++ List.replicate (n - l.length) none
theorem zk_nth_app : ∀ (l : ZL) (n i : Nat) (v : ZV), zk_nth (l ++ List.replicate n none) i = some v → zk_nth l i = some v
  | [], n, i, v, h => by
    induction n generalizing i with
    | zero => cases h
    | succ n ih =>
      cases i with
      | zero => cases h
      | succ i => exact ih i h
  | a :: l, n, 0, v, h => h
  | a :: l, n, i + 1, v, h => zk_nth_app l n i v h
theorem zk_en_nth (ad : Nat → Nat) : ∀ (as : List ZV) (b i : Nat) (v : ZV), zk_nth (zk_en as) i = some v → v ∈ as ∧ (b + i, zk_c ad v) ∈ lv_args b (as.map (zk_c ad))
  | [], b, i, v, h => by cases h
  | .inl x :: l, b, 0, v, h => by cases h; exact ⟨List.mem_cons_self, List.mem_cons_self⟩
  | .inr (.inr x) :: l, b, 0, v, h => by cases h; exact ⟨List.mem_cons_self, List.mem_cons_self⟩
  | .inr (.inl x) :: l, b, 0, v, h => by cases h; exact ⟨List.mem_cons_self, List.mem_cons_self⟩
  | .inl x :: l, b, i + 1, v, h => by
    obtain ⟨h1, h2⟩ := zk_en_nth ad l (b + 1) i v h
    exact ⟨List.mem_cons_of_mem _ h1, List.mem_cons_of_mem _ (by rw [show b + (i + 1) = b + 1 + i by omega]; exact h2)⟩
  | .inr (.inr x) :: l, b, i + 1, v, h => by
    obtain ⟨h1, h2⟩ := zk_en_nth ad l (b + 1) i v h
    exact ⟨List.mem_cons_of_mem _ h1, List.mem_cons_of_mem _ (by rw [show b + (i + 1) = b + 1 + i by omega]; exact h2)⟩
  | .inr (.inl x) :: l, b, 1, v, h => by cases h
  | .inr (.inl x) :: l, b, i + 2, v, h => by
    obtain ⟨h1, h2⟩ := zk_en_nth ad l (b + 2) i v h
    exact ⟨List.mem_cons_of_mem _ h1, List.mem_cons_of_mem _ (by rw [show b + (i + 2) = b + 2 + i by omega]; exact h2)⟩
theorem zk_en_len (ad : Nat → Nat) : ∀ as : List ZV, (lg_sl (as.map (zk_c ad))).length = (zk_en as).length
  | [] => rfl
  | .inl x :: l => by
    have := zk_en_len ad l
    simp only [lg_sl, List.map_cons, List.flatMap_cons, zk_en, List.length_cons, List.length_append] at *
    rw [this]; simp [zk_c, Value.category]; omega
  | .inr (.inr x) :: l => by
    have := zk_en_len ad l
    simp only [lg_sl, List.map_cons, List.flatMap_cons, zk_en, List.length_cons, List.length_append] at *
    rw [this]; simp [zk_c, Value.category]; omega
  | .inr (.inl x) :: l => by
    have := zk_en_len ad l
    simp only [lg_sl, List.map_cons, List.flatMap_cons, zk_en, List.length_cons, List.length_append] at *
    rw [this]; simp [zk_c, Value.category]; omega
/-- a contract out of a body -/
theorem zk_met {σ : Type} {y : MethodName} {cc : ByteArray} {nL : Nat} {ret : Option FieldType} {rm : Room} {q : σ → ZR} {G : List ZV → ZM → Option σ} (κ : ZK σ) (hy : plainName y.cls = true) (hG : ∀ as μ r, G as μ = some r → (zk_en as).length ≤ nL ∧ κ (zk_pad nL (zk_en as)) [] μ = some r)
    (body : ∀ X E, zk_X X E y.cls cc nL ret rm → zk_S X E nL q 0 κ) : zk_C y cc nL ret rm q G := by
  intro l E as μ r h hok hwa
  obtain ⟨hlen, hκ⟩ := hG as μ r h
  refine Met.ofW (cc := cc) (maxL := nL) (ret := ret) hy rfl ?_
  intro p e s m args below meth c s₁ B hml hv
  obtain ⟨rfl, hW, hK⟩ := hv
  have hts := atoms_spec (ws := .code y cc nL ret :: zk_T) B.pre
  have hown : s.vm.findClass y.cls = some m.cls := findClass_of_methodNamed B.named
  have hl := lv_entry (as.map (zk_c E.1)) (n := nL) (by rw [zk_en_len]; exact hlen)
  rw [lg_entry_eq]
  generalize (lg_sl (as.map (zk_c E.1)) ++ List.replicate (nL - (lg_sl (as.map (zk_c E.1))).length) Slot.unset).toArray = ls at hl ⊢
  have hL : zk_L E ls nL (zk_pad nL (zk_en as)) := by
    refine ⟨by simp [zk_pad]; omega, fun i v hi => hwa v (zk_en_nth E.1 as 0 i v (zk_nth_app _ _ i v hi)).1, hl.1, hl.2.1, fun z hz => ?_⟩
    obtain ⟨j, w, h1, h2⟩ := (zk_lv_mem E.1 _ 0 z).mp hz
    rw [h2]
    exact hl.2.2 _ (zk_en_nth E.1 as 0 j w (zk_nth_app _ _ j w h1)).2
  exact body (p, l, e, rm, s, m, _, below, meth, c) E ⟨B.exec, B.bytes, hml, hown, fun w hw => hts w (List.mem_cons_of_mem _ hw), hK, B.notSynchronized, B.returns, hok, rfl⟩ s.heap [] ls _ [] μ r hκ hL (fun _ h => absurd h List.not_mem_nil) hW va_S.rf
end
section
theorem zk_mems (ws : List Cond) (ps : List Nat) (hp : ws = ps.filterMap (fun i => lw_tbl[i]?)) (hg : ws.all goodWord = true) : ∀ w ∈ ws, w ∈ zk_T := by
  intro w hw
  have h1 := List.all_eq_true.mp hg w hw
  rw [hp] at hw
  obtain ⟨i, -, hi⟩ := List.mem_filterMap.mp hw
  exact zk_mem i hi h1
theorem zl_0 : ∀ w ∈ u_ws RX0 TX0 3, w ∈ zk_T := zk_mems _ [96, 98, 100] (by decide +kernel) (by decide +kernel)
theorem zf_0_0 : zk_fd 0 0 RX0 TX0 3 tyX0 (some (4008, 1)) := ⟨by decide, rfl, zl_0, by decide, rfl, tyX0_ok, nmX0⟩
theorem zf_0_1 : zk_fd 0 1 RX0 TX0 3 tyX0 none := ⟨by decide, rfl, zl_0, by decide, rfl, tyX0_ok, nmX0⟩
theorem zf_0_2 : zk_fd 0 2 RX0 TX0 3 tyX0 none := ⟨by decide, rfl, zl_0, by decide, rfl, tyX0_ok, nmX0⟩
theorem zl_1 : ∀ w ∈ u_ws RX1 TX1 3, w ∈ zk_T := zk_mems _ [137, 139, 141] (by decide +kernel) (by decide +kernel)
theorem zf_1_0 : zk_fd 1 0 RX1 TX1 3 tyX1 (some (3024, 1)) := ⟨by decide, rfl, zl_1, by decide, rfl, tyX1_ok, nmX1⟩
theorem zf_1_1 : zk_fd 1 1 RX1 TX1 3 tyX1 none := ⟨by decide, rfl, zl_1, by decide, rfl, tyX1_ok, nmX1⟩
theorem zf_1_2 : zk_fd 1 2 RX1 TX1 3 tyX1 none := ⟨by decide, rfl, zl_1, by decide, rfl, tyX1_ok, nmX1⟩
theorem zl_2 : ∀ w ∈ u_ws RX2 TX2 4, w ∈ zk_T := zk_mems _ [115, 117, 119, 121] (by decide +kernel) (by decide +kernel)
theorem zf_2_0 : zk_fd 2 0 RX2 TX2 4 tyX2 (some (1080, 1)) := ⟨by decide, rfl, zl_2, by decide, rfl, tyX2_ok, nmX2⟩
theorem zf_2_1 : zk_fd 2 1 RX2 TX2 4 tyX2 none := ⟨by decide, rfl, zl_2, by decide, rfl, tyX2_ok, nmX2⟩
theorem zf_2_2 : zk_fd 2 2 RX2 TX2 4 tyX2 none := ⟨by decide, rfl, zl_2, by decide, rfl, tyX2_ok, nmX2⟩
theorem zf_2_3 : zk_fd 2 3 RX2 TX2 4 tyX2 none := ⟨by decide, rfl, zl_2, by decide, rfl, tyX2_ok, nmX2⟩
theorem zl_3 : ∀ w ∈ u_ws RX3 TX3 8, w ∈ zk_T := zk_mems _ [65, 67, 69, 71, 73, 75, 77, 79] (by decide +kernel) (by decide +kernel)
theorem zf_3_0 : zk_fd 3 0 RX3 TX3 8 tyX3 (some (1007, 1)) := ⟨by decide, rfl, zl_3, by decide, rfl, tyX3_ok, nmX3⟩
theorem zf_3_1 : zk_fd 3 1 RX3 TX3 8 tyX3 (some (1007, 2)) := ⟨by decide, rfl, zl_3, by decide, rfl, tyX3_ok, nmX3⟩
theorem zf_3_2 : zk_fd 3 2 RX3 TX3 8 tyX3 (some (1007, 3)) := ⟨by decide, rfl, zl_3, by decide, rfl, tyX3_ok, nmX3⟩
theorem zf_3_3 : zk_fd 3 3 RX3 TX3 8 tyX3 (some (1007, 4)) := ⟨by decide, rfl, zl_3, by decide, rfl, tyX3_ok, nmX3⟩
theorem zf_3_4 : zk_fd 3 4 RX3 TX3 8 tyX3 none := ⟨by decide, rfl, zl_3, by decide, rfl, tyX3_ok, nmX3⟩
theorem zf_3_5 : zk_fd 3 5 RX3 TX3 8 tyX3 none := ⟨by decide, rfl, zl_3, by decide, rfl, tyX3_ok, nmX3⟩
theorem zf_3_6 : zk_fd 3 6 RX3 TX3 8 tyX3 none := ⟨by decide, rfl, zl_3, by decide, rfl, tyX3_ok, nmX3⟩
theorem zf_3_7 : zk_fd 3 7 RX3 TX3 8 tyX3 none := ⟨by decide, rfl, zl_3, by decide, rfl, tyX3_ok, nmX3⟩
theorem zl_4 : ∀ w ∈ u_ws RX4 TX4 8, w ∈ zk_T := zk_mems _ [153, 155, 157, 159, 161, 163, 165, 167] (by decide +kernel) (by decide +kernel)
theorem zf_4_0 : zk_fd 4 0 RX4 TX4 8 tyX4 (some (3, 1)) := ⟨by decide, rfl, zl_4, by decide, rfl, tyX4_ok, nmX4⟩
theorem zf_4_1 : zk_fd 4 1 RX4 TX4 8 tyX4 (some (0, 6)) := ⟨by decide, rfl, zl_4, by decide, rfl, tyX4_ok, nmX4⟩
theorem zf_4_2 : zk_fd 4 2 RX4 TX4 8 tyX4 (some (3, 48)) := ⟨by decide, rfl, zl_4, by decide, rfl, tyX4_ok, nmX4⟩
theorem zf_4_3 : zk_fd 4 3 RX4 TX4 8 tyX4 (some (0, 53)) := ⟨by decide, rfl, zl_4, by decide, rfl, tyX4_ok, nmX4⟩
theorem zf_4_4 : zk_fd 4 4 RX4 TX4 8 tyX4 (some (2, 95)) := ⟨by decide, rfl, zl_4, by decide, rfl, tyX4_ok, nmX4⟩
theorem zf_4_5 : zk_fd 4 5 RX4 TX4 8 tyX4 (some (5004, 97)) := ⟨by decide, rfl, zl_4, by decide, rfl, tyX4_ok, nmX4⟩
theorem zf_4_6 : zk_fd 4 6 RX4 TX4 8 tyX4 (some (3, 98)) := ⟨by decide, rfl, zl_4, by decide, rfl, tyX4_ok, nmX4⟩
theorem zf_4_7 : zk_fd 4 7 RX4 TX4 8 tyX4 none := ⟨by decide, rfl, zl_4, by decide, rfl, tyX4_ok, nmX4⟩
theorem zl_5 : ∀ w ∈ u_ws RX5 TX5 18, w ∈ zk_T := zk_mems _ [561, 563, 565, 567, 569, 571, 573, 575, 577, 579, 581, 583, 585, 587, 589, 591, 593, 595] (by decide +kernel) (by decide +kernel)
theorem zf_5_0 : zk_fd 5 0 RX5 TX5 18 tyX5 (some (1032, 1)) := ⟨by decide, rfl, zl_5, by decide, rfl, tyX5_ok, nmX5⟩
theorem zf_5_1 : zk_fd 5 1 RX5 TX5 18 tyX5 (some (1032, 2)) := ⟨by decide, rfl, zl_5, by decide, rfl, tyX5_ok, nmX5⟩
theorem zf_5_2 : zk_fd 5 2 RX5 TX5 18 tyX5 (some (1256, 3)) := ⟨by decide, rfl, zl_5, by decide, rfl, tyX5_ok, nmX5⟩
theorem zf_5_3 : zk_fd 5 3 RX5 TX5 18 tyX5 none := ⟨by decide, rfl, zl_5, by decide, rfl, tyX5_ok, nmX5⟩
theorem zf_5_4 : zk_fd 5 4 RX5 TX5 18 tyX5 (some (1032, 4)) := ⟨by decide, rfl, zl_5, by decide, rfl, tyX5_ok, nmX5⟩
theorem zf_5_5 : zk_fd 5 5 RX5 TX5 18 tyX5 (some (1256, 5)) := ⟨by decide, rfl, zl_5, by decide, rfl, tyX5_ok, nmX5⟩
theorem zf_5_6 : zk_fd 5 6 RX5 TX5 18 tyX5 none := ⟨by decide, rfl, zl_5, by decide, rfl, tyX5_ok, nmX5⟩
theorem zf_5_7 : zk_fd 5 7 RX5 TX5 18 tyX5 none := ⟨by decide, rfl, zl_5, by decide, rfl, tyX5_ok, nmX5⟩
theorem zf_5_8 : zk_fd 5 8 RX5 TX5 18 tyX5 (some (1007, 6)) := ⟨by decide, rfl, zl_5, by decide, rfl, tyX5_ok, nmX5⟩
theorem zf_5_9 : zk_fd 5 9 RX5 TX5 18 tyX5 (some (2080, 7)) := ⟨by decide, rfl, zl_5, by decide, rfl, tyX5_ok, nmX5⟩
theorem zf_5_10 : zk_fd 5 10 RX5 TX5 18 tyX5 none := ⟨by decide, rfl, zl_5, by decide, rfl, tyX5_ok, nmX5⟩
theorem zf_5_11 : zk_fd 5 11 RX5 TX5 18 tyX5 none := ⟨by decide, rfl, zl_5, by decide, rfl, tyX5_ok, nmX5⟩
theorem zf_5_12 : zk_fd 5 12 RX5 TX5 18 tyX5 none := ⟨by decide, rfl, zl_5, by decide, rfl, tyX5_ok, nmX5⟩
theorem zf_5_13 : zk_fd 5 13 RX5 TX5 18 tyX5 none := ⟨by decide, rfl, zl_5, by decide, rfl, tyX5_ok, nmX5⟩
theorem zf_5_14 : zk_fd 5 14 RX5 TX5 18 tyX5 (some (1004, 8)) := ⟨by decide, rfl, zl_5, by decide, rfl, tyX5_ok, nmX5⟩
theorem zf_5_15 : zk_fd 5 15 RX5 TX5 18 tyX5 (some (1004, 9)) := ⟨by decide, rfl, zl_5, by decide, rfl, tyX5_ok, nmX5⟩
theorem zf_5_16 : zk_fd 5 16 RX5 TX5 18 tyX5 (some (3096, 10)) := ⟨by decide, rfl, zl_5, by decide, rfl, tyX5_ok, nmX5⟩
theorem zf_5_17 : zk_fd 5 17 RX5 TX5 18 tyX5 (some (3024, 11)) := ⟨by decide, rfl, zl_5, by decide, rfl, tyX5_ok, nmX5⟩
theorem zw_0 : Cond.selects RX4 yX4_isCouple yX4_isCouple ∈ zk_T := zk_mem 0 (by decide +kernel) (by decide +kernel)
theorem zw_1 : Cond.selects RX4 yX4_firstYearOfKeys yX4_firstYearOfKeys ∈ zk_T := zk_mem 1 (by decide +kernel) (by decide +kernel)
theorem zw_2 : Cond.selects RX4 yX4_yearsOfKeys yX4_yearsOfKeys ∈ zk_T := zk_mem 2 (by decide +kernel) (by decide +kernel)
theorem zw_3 : Cond.selects RX4 yX4_fewestRivals yX4_fewestRivals ∈ zk_T := zk_mem 3 (by decide +kernel) (by decide +kernel)
theorem zw_4 : Cond.selects RX4 yX4_keepsWithout yX4_keepsWithout ∈ zk_T := zk_mem 4 (by decide +kernel) (by decide +kernel)
theorem zw_5 : Cond.selects RX4 yX4_togetherIfNursed yX4_togetherIfNursed ∈ zk_T := zk_mem 5 (by decide +kernel) (by decide +kernel)
theorem zw_6 : Cond.selects RX4 yX4_keepsIfWedAnew yX4_keepsIfWedAnew ∈ zk_T := zk_mem 6 (by decide +kernel) (by decide +kernel)
theorem zw_7 : Cond.selects RX4 yX4_kindsHeard yX4_kindsHeard ∈ zk_T := zk_mem 7 (by decide +kernel) (by decide +kernel)
theorem zw_8 : Cond.selects RX4 yX4_trialTells yX4_trialTells ∈ zk_T := zk_mem 8 (by decide +kernel) (by decide +kernel)
theorem zw_9 : Cond.selects RX4 yX4_tempersHeard yX4_tempersHeard ∈ zk_T := zk_mem 9 (by decide +kernel) (by decide +kernel)
theorem zw_10 : Cond.selects RX4 yX4_howManyWedHeard yX4_howManyWedHeard ∈ zk_T := zk_mem 10 (by decide +kernel) (by decide +kernel)
theorem zw_11 : Cond.selects RX4 yX4_wedTells yX4_wedTells ∈ zk_T := zk_mem 11 (by decide +kernel) (by decide +kernel)
theorem zw_12 : Cond.selects RX4 yX4_leastWedHeard yX4_leastWedHeard ∈ zk_T := zk_mem 12 (by decide +kernel) (by decide +kernel)
theorem zw_13 : Cond.selects RX5 yX5_isCouple yX5_isCouple ∈ zk_T := zk_mem 13 (by decide +kernel) (by decide +kernel)
theorem zw_14 : Cond.selects RX5 yX5_readCouple yX5_readCouple ∈ zk_T := zk_mem 14 (by decide +kernel) (by decide +kernel)
theorem zw_15 : Cond.selects RX5 yX5_here yX5_here ∈ zk_T := zk_mem 15 (by decide +kernel) (by decide +kernel)
theorem zw_16 : Cond.selects RX5 yX5_wrongAt yX5_wrongAt ∈ zk_T := zk_mem 16 (by decide +kernel) (by decide +kernel)
theorem zw_17 : Cond.selects RX5 yX5_number yX5_number ∈ zk_T := zk_mem 17 (by decide +kernel) (by decide +kernel)
theorem zw_18 : Cond.selects RX5 yX5_takes yX5_takes ∈ zk_T := zk_mem 18 (by decide +kernel) (by decide +kernel)
theorem zw_19 : Cond.selects RX5 yX5_know yX5_know ∈ zk_T := zk_mem 19 (by decide +kernel) (by decide +kernel)
theorem zw_20 : Cond.selects RX5 yX5_passOn yX5_passOn ∈ zk_T := zk_mem 20 (by decide +kernel) (by decide +kernel)
theorem zw_21 : Cond.selects RX5 yX5_take yX5_take ∈ zk_T := zk_mem 21 (by decide +kernel) (by decide +kernel)
theorem zw_22 : Cond.selects RX5 yX5_goOn yX5_goOn ∈ zk_T := zk_mem 22 (by decide +kernel) (by decide +kernel)
theorem zw_23 : Cond.selects RX5 yX5_findOf yX5_findOf ∈ zk_T := zk_mem 23 (by decide +kernel) (by decide +kernel)
theorem zw_24 : Cond.selects RX5 yX5_isHeard yX5_isHeard ∈ zk_T := zk_mem 24 (by decide +kernel) (by decide +kernel)
theorem zw_25 : Cond.initialized RL ∈ zk_T := zk_mem 25 (by decide +kernel) (by decide +kernel)
theorem zw_26 : Cond.initialized RX4 ∈ zk_T := zk_mem 26 (by decide +kernel) (by decide +kernel)
theorem zw_27 : Cond.initialized RX3 ∈ zk_T := zk_mem 27 (by decide +kernel) (by decide +kernel)
theorem zw_28 : Cond.initialized RX0 ∈ zk_T := zk_mem 28 (by decide +kernel) (by decide +kernel)
theorem zw_29 : Cond.initialized RX2 ∈ zk_T := zk_mem 29 (by decide +kernel) (by decide +kernel)
theorem zw_30 : Cond.initialized RX1 ∈ zk_T := zk_mem 30 (by decide +kernel) (by decide +kernel)
theorem zw_31 : Cond.initialized RX5 ∈ zk_T := zk_mem 31 (by decide +kernel) (by decide +kernel)
theorem zw_32 : Cond.initialized "java/lang/System" ∈ zk_T := zk_mem 32 (by decide +kernel) (by decide +kernel)
theorem zw_33 : Cond.initialized "java/lang/Math" ∈ zk_T := zk_mem 33 (by decide +kernel) (by decide +kernel)
theorem zw_34 : Cond.initialized "java/lang/Integer" ∈ zk_T := zk_mem 34 (by decide +kernel) (by decide +kernel)
theorem zw_49 : Cond.fieldLink RX3 9 "LongestWed$Town" "kind" "[I" ∈ zk_T := zk_mem 49 (by decide +kernel) (by decide +kernel)
theorem zw_50 : Cond.fieldLink RX4 69 "LongestWed$Town" "kind" "[I" ∈ zk_T := zk_mem 50 (by decide +kernel) (by decide +kernel)
theorem zw_51 : Cond.fieldLink RX3 15 "LongestWed$Town" "since" "[I" ∈ zk_T := zk_mem 51 (by decide +kernel) (by decide +kernel)
theorem zw_52 : Cond.fieldLink RX4 73 "LongestWed$Town" "since" "[I" ∈ zk_T := zk_mem 52 (by decide +kernel) (by decide +kernel)
theorem zw_53 : Cond.fieldLink RX3 18 "LongestWed$Town" "old" "[I" ∈ zk_T := zk_mem 53 (by decide +kernel) (by decide +kernel)
theorem zw_54 : Cond.fieldLink RX4 76 "LongestWed$Town" "old" "[I" ∈ zk_T := zk_mem 54 (by decide +kernel) (by decide +kernel)
theorem zw_55 : Cond.fieldLink RX3 21 "LongestWed$Town" "temper" "[I" ∈ zk_T := zk_mem 55 (by decide +kernel) (by decide +kernel)
theorem zw_56 : Cond.fieldLink RX4 79 "LongestWed$Town" "temper" "[I" ∈ zk_T := zk_mem 56 (by decide +kernel) (by decide +kernel)
theorem zw_57 : Cond.fieldLink RX3 24 "LongestWed$Town" "size" "I" ∈ zk_T := zk_mem 57 (by decide +kernel) (by decide +kernel)
theorem zw_58 : Cond.fieldLink RX4 54 "LongestWed$Town" "size" "I" ∈ zk_T := zk_mem 58 (by decide +kernel) (by decide +kernel)
theorem zw_59 : Cond.fieldLink RX3 28 "LongestWed$Town" "together" "I" ∈ zk_T := zk_mem 59 (by decide +kernel) (by decide +kernel)
theorem zw_60 : Cond.fieldLink RX4 120 "LongestWed$Town" "together" "I" ∈ zk_T := zk_mem 60 (by decide +kernel) (by decide +kernel)
theorem zw_61 : Cond.fieldLink RX3 31 "LongestWed$Town" "year" "I" ∈ zk_T := zk_mem 61 (by decide +kernel) (by decide +kernel)
theorem zw_62 : Cond.fieldLink RX4 110 "LongestWed$Town" "year" "I" ∈ zk_T := zk_mem 62 (by decide +kernel) (by decide +kernel)
theorem zw_63 : Cond.fieldLink RX3 34 "LongestWed$Town" "draw" "I" ∈ zk_T := zk_mem 63 (by decide +kernel) (by decide +kernel)
theorem zw_64 : Cond.fieldLink RX4 103 "LongestWed$Town" "draw" "I" ∈ zk_T := zk_mem 64 (by decide +kernel) (by decide +kernel)
theorem zw_92 : Cond.fieldLink RX0 11 "LongestWed$Past" "known" "[LLongestWed$Town;" ∈ zk_T := zk_mem 92 (by decide +kernel) (by decide +kernel)
theorem zw_93 : Cond.fieldLink RX0 17 "LongestWed$Past" "next" "I" ∈ zk_T := zk_mem 93 (by decide +kernel) (by decide +kernel)
theorem zw_94 : Cond.fieldLink RX0 21 "LongestWed$Past" "size" "I" ∈ zk_T := zk_mem 94 (by decide +kernel) (by decide +kernel)
theorem zw_95 : Cond.fieldLink RX4 126 "LongestWed$Past" "size" "I" ∈ zk_T := zk_mem 95 (by decide +kernel) (by decide +kernel)
theorem zw_109 : Cond.fieldLink RX2 9 "LongestWed$Tape" "letters" "[I" ∈ zk_T := zk_mem 109 (by decide +kernel) (by decide +kernel)
theorem zw_110 : Cond.fieldLink RX2 15 "LongestWed$Tape" "size" "I" ∈ zk_T := zk_mem 110 (by decide +kernel) (by decide +kernel)
theorem zw_111 : Cond.fieldLink RX4 89 "LongestWed$Tape" "size" "I" ∈ zk_T := zk_mem 111 (by decide +kernel) (by decide +kernel)
theorem zw_112 : Cond.fieldLink RX2 19 "LongestWed$Tape" "place" "I" ∈ zk_T := zk_mem 112 (by decide +kernel) (by decide +kernel)
theorem zw_113 : Cond.fieldLink RX2 22 "LongestWed$Tape" "fault" "I" ∈ zk_T := zk_mem 113 (by decide +kernel) (by decide +kernel)
theorem zw_114 : Cond.fieldLink RX4 100 "LongestWed$Tape" "fault" "I" ∈ zk_T := zk_mem 114 (by decide +kernel) (by decide +kernel)
theorem zw_131 : Cond.fieldLink RX1 9 "LongestWed$Sheet" "items" "[J" ∈ zk_T := zk_mem 131 (by decide +kernel) (by decide +kernel)
theorem zw_132 : Cond.fieldLink RX4 224 "LongestWed$Sheet" "items" "[J" ∈ zk_T := zk_mem 132 (by decide +kernel) (by decide +kernel)
theorem zw_133 : Cond.fieldLink RX1 15 "LongestWed$Sheet" "lane" "I" ∈ zk_T := zk_mem 133 (by decide +kernel) (by decide +kernel)
theorem zw_134 : Cond.fieldLink RX4 217 "LongestWed$Sheet" "lane" "I" ∈ zk_T := zk_mem 134 (by decide +kernel) (by decide +kernel)
theorem zw_135 : Cond.fieldLink RX1 19 "LongestWed$Sheet" "size" "I" ∈ zk_T := zk_mem 135 (by decide +kernel) (by decide +kernel)
theorem zw_136 : Cond.fieldLink RX4 220 "LongestWed$Sheet" "size" "I" ∈ zk_T := zk_mem 136 (by decide +kernel) (by decide +kernel)
theorem zw_145 : Cond.fieldLink RX4 10 "LongestWed" "now" "LLongestWed$Town;" ∈ zk_T := zk_mem 145 (by decide +kernel) (by decide +kernel)
theorem zw_146 : Cond.fieldLink RX4 19 "LongestWed" "past" "LLongestWed$Past;" ∈ zk_T := zk_mem 146 (by decide +kernel) (by decide +kernel)
theorem zw_147 : Cond.fieldLink RX4 23 "LongestWed" "keptTown" "LLongestWed$Town;" ∈ zk_T := zk_mem 147 (by decide +kernel) (by decide +kernel)
theorem zw_148 : Cond.fieldLink RX4 26 "LongestWed" "keptPast" "LLongestWed$Past;" ∈ zk_T := zk_mem 148 (by decide +kernel) (by decide +kernel)
theorem zw_149 : Cond.fieldLink RX4 32 "LongestWed" "tape" "LLongestWed$Tape;" ∈ zk_T := zk_mem 149 (by decide +kernel) (by decide +kernel)
theorem zw_150 : Cond.fieldLink RX4 38 "LongestWed" "sheets" "[LLongestWed$Sheet;" ∈ zk_T := zk_mem 150 (by decide +kernel) (by decide +kernel)
theorem zw_151 : Cond.fieldLink RX4 42 "LongestWed" "trial" "LLongestWed$Town;" ∈ zk_T := zk_mem 151 (by decide +kernel) (by decide +kernel)
theorem zw_152 : Cond.fieldLink RX4 45 "LongestWed" "kept" "Z" ∈ zk_T := zk_mem 152 (by decide +kernel) (by decide +kernel)
theorem zw_170 : Cond.methodLink RL 13 yX4_couple ∈ zk_T := zk_mem 170 (by decide +kernel) (by decide +kernel)
theorem zw_171 : Cond.instanceMethod yX4_couple ∈ zk_T := zk_mem 171 (by decide +kernel) (by decide +kernel)
theorem zw_172 : Cond.selects RX4 yX4_couple yX4_couple ∈ zk_T := zk_mem 172 (by decide +kernel) (by decide +kernel)
theorem zw_173 : Cond.code yX4_couple cX4_couple 3 (some .int) ∈ zk_T := zk_mem 173 (by decide +kernel) (by decide +kernel)
theorem zw_174 : Cond.methodLink RX4 50 yX4_within ∈ zk_T := zk_mem 174 (by decide +kernel) (by decide +kernel)
theorem zw_175 : Cond.static yX4_within ∈ zk_T := zk_mem 175 (by decide +kernel) (by decide +kernel)
theorem zw_176 : Cond.code yX4_within cX4_within 3 (some .boolean) ∈ zk_T := zk_mem 176 (by decide +kernel) (by decide +kernel)
theorem zw_177 : Cond.methodLink RX4 58 yX0_forget ∈ zk_T := zk_mem 177 (by decide +kernel) (by decide +kernel)
theorem zw_178 : Cond.instanceMethod yX0_forget ∈ zk_T := zk_mem 178 (by decide +kernel) (by decide +kernel)
theorem zw_179 : Cond.selects RX0 yX0_forget yX0_forget ∈ zk_T := zk_mem 179 (by decide +kernel) (by decide +kernel)
theorem zw_180 : Cond.code yX0_forget cX0_forget 1 none ∈ zk_T := zk_mem 180 (by decide +kernel) (by decide +kernel)
theorem zw_181 : Cond.methodLink RX4 61 yX3_settle ∈ zk_T := zk_mem 181 (by decide +kernel) (by decide +kernel)
theorem zw_182 : Cond.instanceMethod yX3_settle ∈ zk_T := zk_mem 182 (by decide +kernel) (by decide +kernel)
theorem zw_183 : Cond.selects RX3 yX3_settle yX3_settle ∈ zk_T := zk_mem 183 (by decide +kernel) (by decide +kernel)
theorem zw_184 : Cond.code yX3_settle cX3_settle 7 (some .int) ∈ zk_T := zk_mem 184 (by decide +kernel) (by decide +kernel)
theorem zw_185 : Cond.methodLink RL 18 yX4_of ∈ zk_T := zk_mem 185 (by decide +kernel) (by decide +kernel)
theorem zw_186 : Cond.instanceMethod yX4_of ∈ zk_T := zk_mem 186 (by decide +kernel) (by decide +kernel)
theorem zw_187 : Cond.selects RX4 yX4_of yX4_of ∈ zk_T := zk_mem 187 (by decide +kernel) (by decide +kernel)
theorem zw_188 : Cond.code yX4_of cX4_of 3 (some .int) ∈ zk_T := zk_mem 188 (by decide +kernel) (by decide +kernel)
theorem zw_189 : Cond.methodLink RX4 65 yX4_isCouple ∈ zk_T := zk_mem 189 (by decide +kernel) (by decide +kernel)
theorem zw_191 : Cond.instanceMethod yX4_isCouple ∈ zk_T := zk_mem 191 (by decide +kernel) (by decide +kernel)
theorem zw_192 : Cond.code yX4_isCouple cX4_isCouple 2 (some .boolean) ∈ zk_T := zk_mem 192 (by decide +kernel) (by decide +kernel)
theorem zw_193 : Cond.methodLink RX4 82 yX3_isTogether ∈ zk_T := zk_mem 193 (by decide +kernel) (by decide +kernel)
theorem zw_194 : Cond.instanceMethod yX3_isTogether ∈ zk_T := zk_mem 194 (by decide +kernel) (by decide +kernel)
theorem zw_195 : Cond.selects RX3 yX3_isTogether yX3_isTogether ∈ zk_T := zk_mem 195 (by decide +kernel) (by decide +kernel)
theorem zw_196 : Cond.code yX3_isTogether cX3_isTogether 2 (some .boolean) ∈ zk_T := zk_mem 196 (by decide +kernel) (by decide +kernel)
theorem zw_197 : Cond.methodLink RX4 85 yX3_worseThisYear ∈ zk_T := zk_mem 197 (by decide +kernel) (by decide +kernel)
theorem zw_198 : Cond.instanceMethod yX3_worseThisYear ∈ zk_T := zk_mem 198 (by decide +kernel) (by decide +kernel)
theorem zw_199 : Cond.selects RX3 yX3_worseThisYear yX3_worseThisYear ∈ zk_T := zk_mem 199 (by decide +kernel) (by decide +kernel)
theorem zw_200 : Cond.code yX3_worseThisYear cX3_worseThisYear 3 (some .int) ∈ zk_T := zk_mem 200 (by decide +kernel) (by decide +kernel)
theorem zw_201 : Cond.methodLink RX3 51 yX3_keeper ∈ zk_T := zk_mem 201 (by decide +kernel) (by decide +kernel)
theorem zw_202 : Cond.instanceMethod yX3_keeper ∈ zk_T := zk_mem 202 (by decide +kernel) (by decide +kernel)
theorem zw_203 : Cond.selects RX3 yX3_keeper yX3_keeper ∈ zk_T := zk_mem 203 (by decide +kernel) (by decide +kernel)
theorem zw_204 : Cond.code yX3_keeper cX3_keeper 1 (some .int) ∈ zk_T := zk_mem 204 (by decide +kernel) (by decide +kernel)
theorem zw_205 : Cond.methodLink RX3 43 yX3_longestOf ∈ zk_T := zk_mem 205 (by decide +kernel) (by decide +kernel)
theorem zw_206 : Cond.instanceMethod yX3_longestOf ∈ zk_T := zk_mem 206 (by decide +kernel) (by decide +kernel)
theorem zw_207 : Cond.selects RX3 yX3_longestOf yX3_longestOf ∈ zk_T := zk_mem 207 (by decide +kernel) (by decide +kernel)
theorem zw_208 : Cond.code yX3_longestOf cX3_longestOf 4 (some .int) ∈ zk_T := zk_mem 208 (by decide +kernel) (by decide +kernel)
theorem zw_209 : Cond.methodLink RX3 47 yX3_isTogether ∈ zk_T := zk_mem 209 (by decide +kernel) (by decide +kernel)
theorem zw_210 : Cond.methodLink RX3 55 yX3_secondTo ∈ zk_T := zk_mem 210 (by decide +kernel) (by decide +kernel)
theorem zw_211 : Cond.instanceMethod yX3_secondTo ∈ zk_T := zk_mem 211 (by decide +kernel) (by decide +kernel)
theorem zw_212 : Cond.selects RX3 yX3_secondTo yX3_secondTo ∈ zk_T := zk_mem 212 (by decide +kernel) (by decide +kernel)
theorem zw_213 : Cond.code yX3_secondTo cX3_secondTo 2 (some .int) ∈ zk_T := zk_mem 213 (by decide +kernel) (by decide +kernel)
theorem zw_214 : Cond.methodLink RX3 58 yX3_worse ∈ zk_T := zk_mem 214 (by decide +kernel) (by decide +kernel)
theorem zw_215 : Cond.instanceMethod yX3_worse ∈ zk_T := zk_mem 215 (by decide +kernel) (by decide +kernel)
theorem zw_216 : Cond.selects RX3 yX3_worse yX3_worse ∈ zk_T := zk_mem 216 (by decide +kernel) (by decide +kernel)
theorem zw_217 : Cond.code yX3_worse cX3_worse 8 (some .int) ∈ zk_T := zk_mem 217 (by decide +kernel) (by decide +kernel)
theorem zw_218 : Cond.methodLink RL 22 yX4_type ∈ zk_T := zk_mem 218 (by decide +kernel) (by decide +kernel)
theorem zw_219 : Cond.instanceMethod yX4_type ∈ zk_T := zk_mem 219 (by decide +kernel) (by decide +kernel)
theorem zw_220 : Cond.selects RX4 yX4_type yX4_type ∈ zk_T := zk_mem 220 (by decide +kernel) (by decide +kernel)
theorem zw_221 : Cond.code yX4_type cX4_type 2 (some .int) ∈ zk_T := zk_mem 221 (by decide +kernel) (by decide +kernel)
theorem zw_222 : Cond.methodLink RX4 90 yX2_write ∈ zk_T := zk_mem 222 (by decide +kernel) (by decide +kernel)
theorem zw_223 : Cond.instanceMethod yX2_write ∈ zk_T := zk_mem 223 (by decide +kernel) (by decide +kernel)
theorem zw_224 : Cond.selects RX2 yX2_write yX2_write ∈ zk_T := zk_mem 224 (by decide +kernel) (by decide +kernel)
theorem zw_225 : Cond.code yX2_write cX2_write 2 (some .int) ∈ zk_T := zk_mem 225 (by decide +kernel) (by decide +kernel)
theorem zw_226 : Cond.methodLink RL 27 yX4_town ∈ zk_T := zk_mem 226 (by decide +kernel) (by decide +kernel)
theorem zw_227 : Cond.instanceMethod yX4_town ∈ zk_T := zk_mem 227 (by decide +kernel) (by decide +kernel)
theorem zw_228 : Cond.selects RX4 yX4_town yX4_town ∈ zk_T := zk_mem 228 (by decide +kernel) (by decide +kernel)
theorem zw_229 : Cond.code yX4_town cX4_town 2 (some .int) ∈ zk_T := zk_mem 229 (by decide +kernel) (by decide +kernel)
theorem zw_230 : Cond.methodLink RX4 93 yX3_empty ∈ zk_T := zk_mem 230 (by decide +kernel) (by decide +kernel)
theorem zw_231 : Cond.instanceMethod yX3_empty ∈ zk_T := zk_mem 231 (by decide +kernel) (by decide +kernel)
theorem zw_232 : Cond.selects RX3 yX3_empty yX3_empty ∈ zk_T := zk_mem 232 (by decide +kernel) (by decide +kernel)
theorem zw_233 : Cond.code yX3_empty cX3_empty 1 none ∈ zk_T := zk_mem 233 (by decide +kernel) (by decide +kernel)
theorem zw_234 : Cond.methodLink RX4 96 yX2_readTown ∈ zk_T := zk_mem 234 (by decide +kernel) (by decide +kernel)
theorem zw_235 : Cond.instanceMethod yX2_readTown ∈ zk_T := zk_mem 235 (by decide +kernel) (by decide +kernel)
theorem zw_236 : Cond.selects RX2 yX2_readTown yX2_readTown ∈ zk_T := zk_mem 236 (by decide +kernel) (by decide +kernel)
theorem zw_237 : Cond.code yX2_readTown cX2_readTown 3 (some .boolean) ∈ zk_T := zk_mem 237 (by decide +kernel) (by decide +kernel)
theorem zw_238 : Cond.methodLink RX2 25 yX2_readCouple ∈ zk_T := zk_mem 238 (by decide +kernel) (by decide +kernel)
theorem zw_239 : Cond.instanceMethod yX2_readCouple ∈ zk_T := zk_mem 239 (by decide +kernel) (by decide +kernel)
theorem zw_240 : Cond.selects RX2 yX2_readCouple yX2_readCouple ∈ zk_T := zk_mem 240 (by decide +kernel) (by decide +kernel)
theorem zw_241 : Cond.code yX2_readCouple cX2_readCouple 6 (some .boolean) ∈ zk_T := zk_mem 241 (by decide +kernel) (by decide +kernel)
theorem zw_242 : Cond.methodLink RX2 37 yX2_skipBlanks ∈ zk_T := zk_mem 242 (by decide +kernel) (by decide +kernel)
theorem zw_243 : Cond.instanceMethod yX2_skipBlanks ∈ zk_T := zk_mem 243 (by decide +kernel) (by decide +kernel)
theorem zw_244 : Cond.selects RX2 yX2_skipBlanks yX2_skipBlanks ∈ zk_T := zk_mem 244 (by decide +kernel) (by decide +kernel)
theorem zw_245 : Cond.code yX2_skipBlanks cX2_skipBlanks 1 none ∈ zk_T := zk_mem 245 (by decide +kernel) (by decide +kernel)
theorem zw_246 : Cond.methodLink RX2 40 yX2_letterAt ∈ zk_T := zk_mem 246 (by decide +kernel) (by decide +kernel)
theorem zw_247 : Cond.instanceMethod yX2_letterAt ∈ zk_T := zk_mem 247 (by decide +kernel) (by decide +kernel)
theorem zw_248 : Cond.selects RX2 yX2_letterAt yX2_letterAt ∈ zk_T := zk_mem 248 (by decide +kernel) (by decide +kernel)
theorem zw_249 : Cond.code yX2_letterAt cX2_letterAt 2 (some .int) ∈ zk_T := zk_mem 249 (by decide +kernel) (by decide +kernel)
theorem zw_250 : Cond.methodLink RX2 44 yX2_kindOf ∈ zk_T := zk_mem 250 (by decide +kernel) (by decide +kernel)
theorem zw_251 : Cond.static yX2_kindOf ∈ zk_T := zk_mem 251 (by decide +kernel) (by decide +kernel)
theorem zw_252 : Cond.code yX2_kindOf cX2_kindOf 1 (some .int) ∈ zk_T := zk_mem 252 (by decide +kernel) (by decide +kernel)
theorem zw_253 : Cond.methodLink RX2 47 yX2_readNumber ∈ zk_T := zk_mem 253 (by decide +kernel) (by decide +kernel)
theorem zw_254 : Cond.instanceMethod yX2_readNumber ∈ zk_T := zk_mem 254 (by decide +kernel) (by decide +kernel)
theorem zw_255 : Cond.selects RX2 yX2_readNumber yX2_readNumber ∈ zk_T := zk_mem 255 (by decide +kernel) (by decide +kernel)
theorem zw_256 : Cond.code yX2_readNumber cX2_readNumber 5 (some .int) ∈ zk_T := zk_mem 256 (by decide +kernel) (by decide +kernel)
theorem zw_257 : Cond.methodLink RX2 57 yX2_isDigit ∈ zk_T := zk_mem 257 (by decide +kernel) (by decide +kernel)
theorem zw_258 : Cond.static yX2_isDigit ∈ zk_T := zk_mem 258 (by decide +kernel) (by decide +kernel)
theorem zw_259 : Cond.code yX2_isDigit cX2_isDigit 1 (some .boolean) ∈ zk_T := zk_mem 259 (by decide +kernel) (by decide +kernel)
theorem zw_260 : Cond.methodLink RX2 29 yX2_takes ∈ zk_T := zk_mem 260 (by decide +kernel) (by decide +kernel)
theorem zw_261 : Cond.instanceMethod yX2_takes ∈ zk_T := zk_mem 261 (by decide +kernel) (by decide +kernel)
theorem zw_262 : Cond.selects RX2 yX2_takes yX2_takes ∈ zk_T := zk_mem 262 (by decide +kernel) (by decide +kernel)
theorem zw_263 : Cond.code yX2_takes cX2_takes 2 (some .boolean) ∈ zk_T := zk_mem 263 (by decide +kernel) (by decide +kernel)
theorem zw_264 : Cond.methodLink RX2 51 yX3_settle ∈ zk_T := zk_mem 264 (by decide +kernel) (by decide +kernel)
theorem zw_265 : Cond.methodLink RX2 33 yX2_isAtEnd ∈ zk_T := zk_mem 265 (by decide +kernel) (by decide +kernel)
theorem zw_266 : Cond.instanceMethod yX2_isAtEnd ∈ zk_T := zk_mem 266 (by decide +kernel) (by decide +kernel)
theorem zw_267 : Cond.selects RX2 yX2_isAtEnd yX2_isAtEnd ∈ zk_T := zk_mem 267 (by decide +kernel) (by decide +kernel)
theorem zw_268 : Cond.code yX2_isAtEnd cX2_isAtEnd 1 (some .boolean) ∈ zk_T := zk_mem 268 (by decide +kernel) (by decide +kernel)
theorem zw_269 : Cond.methodLink RX4 106 yX3_become ∈ zk_T := zk_mem 269 (by decide +kernel) (by decide +kernel)
theorem zw_270 : Cond.instanceMethod yX3_become ∈ zk_T := zk_mem 270 (by decide +kernel) (by decide +kernel)
theorem zw_271 : Cond.selects RX3 yX3_become yX3_become ∈ zk_T := zk_mem 271 (by decide +kernel) (by decide +kernel)
theorem zw_272 : Cond.code yX3_become cX3_become 2 none ∈ zk_T := zk_mem 272 (by decide +kernel) (by decide +kernel)
theorem zw_273 : Cond.methodLink RX3 37 arraycopyName ∈ zk_T := zk_mem 273 (by decide +kernel) (by decide +kernel)
theorem zw_274 : Cond.static arraycopyName ∈ zk_T := zk_mem 274 (by decide +kernel) (by decide +kernel)
theorem zw_275 : Cond.native arraycopyName ∈ zk_T := zk_mem 275 (by decide +kernel) (by decide +kernel)
theorem zw_276 : Cond.methodLink RL 32 yX4_count ∈ zk_T := zk_mem 276 (by decide +kernel) (by decide +kernel)
theorem zw_277 : Cond.instanceMethod yX4_count ∈ zk_T := zk_mem 277 (by decide +kernel) (by decide +kernel)
theorem zw_278 : Cond.selects RX4 yX4_count yX4_count ∈ zk_T := zk_mem 278 (by decide +kernel) (by decide +kernel)
theorem zw_279 : Cond.code yX4_count cX4_count 2 (some .int) ∈ zk_T := zk_mem 279 (by decide +kernel) (by decide +kernel)
theorem zw_280 : Cond.methodLink RX4 113 yX3_keeper ∈ zk_T := zk_mem 280 (by decide +kernel) (by decide +kernel)
theorem zw_281 : Cond.methodLink RX4 117 yX3_secondTo ∈ zk_T := zk_mem 281 (by decide +kernel) (by decide +kernel)
theorem zw_282 : Cond.methodLink RX4 123 yX3_allTempers ∈ zk_T := zk_mem 282 (by decide +kernel) (by decide +kernel)
theorem zw_283 : Cond.instanceMethod yX3_allTempers ∈ zk_T := zk_mem 283 (by decide +kernel) (by decide +kernel)
theorem zw_284 : Cond.selects RX3 yX3_allTempers yX3_allTempers ∈ zk_T := zk_mem 284 (by decide +kernel) (by decide +kernel)
theorem zw_285 : Cond.code yX3_allTempers cX3_allTempers 3 (some .int) ∈ zk_T := zk_mem 285 (by decide +kernel) (by decide +kernel)
theorem zw_286 : Cond.methodLink RL 36 yX4_years ∈ zk_T := zk_mem 286 (by decide +kernel) (by decide +kernel)
theorem zw_287 : Cond.instanceMethod yX4_years ∈ zk_T := zk_mem 287 (by decide +kernel) (by decide +kernel)
theorem zw_288 : Cond.selects RX4 yX4_years yX4_years ∈ zk_T := zk_mem 288 (by decide +kernel) (by decide +kernel)
theorem zw_289 : Cond.code yX4_years cX4_years 3 (some .int) ∈ zk_T := zk_mem 289 (by decide +kernel) (by decide +kernel)
theorem zw_290 : Cond.methodLink RX4 127 yX0_note ∈ zk_T := zk_mem 290 (by decide +kernel) (by decide +kernel)
theorem zw_291 : Cond.instanceMethod yX0_note ∈ zk_T := zk_mem 291 (by decide +kernel) (by decide +kernel)
theorem zw_292 : Cond.selects RX0 yX0_note yX0_note ∈ zk_T := zk_mem 292 (by decide +kernel) (by decide +kernel)
theorem zw_293 : Cond.code yX0_note cX0_note 2 none ∈ zk_T := zk_mem 293 (by decide +kernel) (by decide +kernel)
theorem zw_294 : Cond.methodLink RX0 25 yX3_become ∈ zk_T := zk_mem 294 (by decide +kernel) (by decide +kernel)
theorem zw_295 : Cond.methodLink RX0 29 Lib.Math.min.name ∈ zk_T := zk_mem 295 (by decide +kernel) (by decide +kernel)
theorem zw_296 : Cond.static Lib.Math.min.name ∈ zk_T := zk_mem 296 (by decide +kernel) (by decide +kernel)
theorem zw_297 : Cond.code Lib.Math.min.name Lib.Math.min.code 2 (some .int) ∈ zk_T := zk_mem 297 (by decide +kernel) (by decide +kernel)
theorem zw_298 : Cond.methodLink RX4 130 yX3_passYear ∈ zk_T := zk_mem 298 (by decide +kernel) (by decide +kernel)
theorem zw_299 : Cond.instanceMethod yX3_passYear ∈ zk_T := zk_mem 299 (by decide +kernel) (by decide +kernel)
theorem zw_300 : Cond.selects RX3 yX3_passYear yX3_passYear ∈ zk_T := zk_mem 300 (by decide +kernel) (by decide +kernel)
theorem zw_301 : Cond.code yX3_passYear cX3_passYear 5 none ∈ zk_T := zk_mem 301 (by decide +kernel) (by decide +kernel)
theorem zw_302 : Cond.methodLink RX3 65 Lib.Math.min.name ∈ zk_T := zk_mem 302 (by decide +kernel) (by decide +kernel)
theorem zw_303 : Cond.methodLink RX3 71 yX3_worsen ∈ zk_T := zk_mem 303 (by decide +kernel) (by decide +kernel)
theorem zw_304 : Cond.instanceMethod yX3_worsen ∈ zk_T := zk_mem 304 (by decide +kernel) (by decide +kernel)
theorem zw_305 : Cond.selects RX3 yX3_worsen yX3_worsen ∈ zk_T := zk_mem 305 (by decide +kernel) (by decide +kernel)
theorem zw_306 : Cond.code yX3_worsen cX3_worsen 3 none ∈ zk_T := zk_mem 306 (by decide +kernel) (by decide +kernel)
theorem zw_307 : Cond.methodLink RX3 75 Lib.Math.max.name ∈ zk_T := zk_mem 307 (by decide +kernel) (by decide +kernel)
theorem zw_308 : Cond.static Lib.Math.max.name ∈ zk_T := zk_mem 308 (by decide +kernel) (by decide +kernel)
theorem zw_309 : Cond.code Lib.Math.max.name Lib.Math.max.code 2 (some .int) ∈ zk_T := zk_mem 309 (by decide +kernel) (by decide +kernel)
theorem zw_310 : Cond.methodLink RL 40 yX4_nurse ∈ zk_T := zk_mem 310 (by decide +kernel) (by decide +kernel)
theorem zw_311 : Cond.instanceMethod yX4_nurse ∈ zk_T := zk_mem 311 (by decide +kernel) (by decide +kernel)
theorem zw_312 : Cond.selects RX4 yX4_nurse yX4_nurse ∈ zk_T := zk_mem 312 (by decide +kernel) (by decide +kernel)
theorem zw_313 : Cond.code yX4_nurse cX4_nurse 3 (some .int) ∈ zk_T := zk_mem 313 (by decide +kernel) (by decide +kernel)
theorem zw_314 : Cond.methodLink RX4 133 yX3_better ∈ zk_T := zk_mem 314 (by decide +kernel) (by decide +kernel)
theorem zw_315 : Cond.instanceMethod yX3_better ∈ zk_T := zk_mem 315 (by decide +kernel) (by decide +kernel)
theorem zw_316 : Cond.selects RX3 yX3_better yX3_better ∈ zk_T := zk_mem 316 (by decide +kernel) (by decide +kernel)
theorem zw_317 : Cond.code yX3_better cX3_better 3 none ∈ zk_T := zk_mem 317 (by decide +kernel) (by decide +kernel)
theorem zw_318 : Cond.methodLink RL 44 yX4_stir ∈ zk_T := zk_mem 318 (by decide +kernel) (by decide +kernel)
theorem zw_319 : Cond.instanceMethod yX4_stir ∈ zk_T := zk_mem 319 (by decide +kernel) (by decide +kernel)
theorem zw_320 : Cond.selects RX4 yX4_stir yX4_stir ∈ zk_T := zk_mem 320 (by decide +kernel) (by decide +kernel)
theorem zw_321 : Cond.code yX4_stir cX4_stir 3 (some .int) ∈ zk_T := zk_mem 321 (by decide +kernel) (by decide +kernel)
theorem zw_322 : Cond.methodLink RX4 137 yX3_worsen ∈ zk_T := zk_mem 322 (by decide +kernel) (by decide +kernel)
theorem zw_323 : Cond.methodLink RL 48 yX4_wed ∈ zk_T := zk_mem 323 (by decide +kernel) (by decide +kernel)
theorem zw_324 : Cond.instanceMethod yX4_wed ∈ zk_T := zk_mem 324 (by decide +kernel) (by decide +kernel)
theorem zw_325 : Cond.selects RX4 yX4_wed yX4_wed ∈ zk_T := zk_mem 325 (by decide +kernel) (by decide +kernel)
theorem zw_326 : Cond.code yX4_wed cX4_wed 2 (some .int) ∈ zk_T := zk_mem 326 (by decide +kernel) (by decide +kernel)
theorem zw_327 : Cond.methodLink RX4 140 yX3_wedAnew ∈ zk_T := zk_mem 327 (by decide +kernel) (by decide +kernel)
theorem zw_328 : Cond.instanceMethod yX3_wedAnew ∈ zk_T := zk_mem 328 (by decide +kernel) (by decide +kernel)
theorem zw_329 : Cond.selects RX3 yX3_wedAnew yX3_wedAnew ∈ zk_T := zk_mem 329 (by decide +kernel) (by decide +kernel)
theorem zw_330 : Cond.code yX3_wedAnew cX3_wedAnew 2 none ∈ zk_T := zk_mem 330 (by decide +kernel) (by decide +kernel)
theorem zw_331 : Cond.methodLink RL 52 yX4_drift ∈ zk_T := zk_mem 331 (by decide +kernel) (by decide +kernel)
theorem zw_332 : Cond.instanceMethod yX4_drift ∈ zk_T := zk_mem 332 (by decide +kernel) (by decide +kernel)
theorem zw_333 : Cond.selects RX4 yX4_drift yX4_drift ∈ zk_T := zk_mem 333 (by decide +kernel) (by decide +kernel)
theorem zw_334 : Cond.code yX4_drift cX4_drift 3 (some .int) ∈ zk_T := zk_mem 334 (by decide +kernel) (by decide +kernel)
theorem zw_335 : Cond.methodLink RX4 144 yX3_drawNext ∈ zk_T := zk_mem 335 (by decide +kernel) (by decide +kernel)
theorem zw_336 : Cond.instanceMethod yX3_drawNext ∈ zk_T := zk_mem 336 (by decide +kernel) (by decide +kernel)
theorem zw_337 : Cond.selects RX3 yX3_drawNext yX3_drawNext ∈ zk_T := zk_mem 337 (by decide +kernel) (by decide +kernel)
theorem zw_338 : Cond.code yX3_drawNext cX3_drawNext 3 none ∈ zk_T := zk_mem 338 (by decide +kernel) (by decide +kernel)
theorem zw_339 : Cond.constant RX3 78 (1103515245) ∈ zk_T := zk_mem 339 (by decide +kernel) (by decide +kernel)
theorem zw_340 : Cond.constant RX3 79 (2147483647) ∈ zk_T := zk_mem 340 (by decide +kernel) (by decide +kernel)
theorem zw_341 : Cond.constant RX3 80 (65536) ∈ zk_T := zk_mem 341 (by decide +kernel) (by decide +kernel)
theorem zw_342 : Cond.methodLink RX3 81 yX3_wedAnew ∈ zk_T := zk_mem 342 (by decide +kernel) (by decide +kernel)
theorem zw_343 : Cond.methodLink RL 56 yX4_undo ∈ zk_T := zk_mem 343 (by decide +kernel) (by decide +kernel)
theorem zw_344 : Cond.instanceMethod yX4_undo ∈ zk_T := zk_mem 344 (by decide +kernel) (by decide +kernel)
theorem zw_345 : Cond.selects RX4 yX4_undo yX4_undo ∈ zk_T := zk_mem 345 (by decide +kernel) (by decide +kernel)
theorem zw_346 : Cond.code yX4_undo cX4_undo 1 (some .int) ∈ zk_T := zk_mem 346 (by decide +kernel) (by decide +kernel)
theorem zw_347 : Cond.methodLink RX4 147 yX0_giveBack ∈ zk_T := zk_mem 347 (by decide +kernel) (by decide +kernel)
theorem zw_348 : Cond.instanceMethod yX0_giveBack ∈ zk_T := zk_mem 348 (by decide +kernel) (by decide +kernel)
theorem zw_349 : Cond.selects RX0 yX0_giveBack yX0_giveBack ∈ zk_T := zk_mem 349 (by decide +kernel) (by decide +kernel)
theorem zw_350 : Cond.code yX0_giveBack cX0_giveBack 2 none ∈ zk_T := zk_mem 350 (by decide +kernel) (by decide +kernel)
theorem zw_351 : Cond.methodLink RL 60 yX4_seed ∈ zk_T := zk_mem 351 (by decide +kernel) (by decide +kernel)
theorem zw_352 : Cond.instanceMethod yX4_seed ∈ zk_T := zk_mem 352 (by decide +kernel) (by decide +kernel)
theorem zw_353 : Cond.selects RX4 yX4_seed yX4_seed ∈ zk_T := zk_mem 353 (by decide +kernel) (by decide +kernel)
theorem zw_354 : Cond.code yX4_seed cX4_seed 3 (some .int) ∈ zk_T := zk_mem 354 (by decide +kernel) (by decide +kernel)
theorem zw_355 : Cond.methodLink RL 64 yX4_keys ∈ zk_T := zk_mem 355 (by decide +kernel) (by decide +kernel)
theorem zw_356 : Cond.instanceMethod yX4_keys ∈ zk_T := zk_mem 356 (by decide +kernel) (by decide +kernel)
theorem zw_357 : Cond.selects RX4 yX4_keys yX4_keys ∈ zk_T := zk_mem 357 (by decide +kernel) (by decide +kernel)
theorem zw_358 : Cond.code yX4_keys cX4_keys 2 (some .int) ∈ zk_T := zk_mem 358 (by decide +kernel) (by decide +kernel)
theorem zw_359 : Cond.methodLink RX4 150 yX3_passYears ∈ zk_T := zk_mem 359 (by decide +kernel) (by decide +kernel)
theorem zw_360 : Cond.instanceMethod yX3_passYears ∈ zk_T := zk_mem 360 (by decide +kernel) (by decide +kernel)
theorem zw_361 : Cond.selects RX3 yX3_passYears yX3_passYears ∈ zk_T := zk_mem 361 (by decide +kernel) (by decide +kernel)
theorem zw_362 : Cond.code yX3_passYears cX3_passYears 3 none ∈ zk_T := zk_mem 362 (by decide +kernel) (by decide +kernel)
theorem zw_363 : Cond.methodLink RX3 62 yX3_passYear ∈ zk_T := zk_mem 363 (by decide +kernel) (by decide +kernel)
theorem zw_364 : Cond.methodLink RL 68 yX4_ahead ∈ zk_T := zk_mem 364 (by decide +kernel) (by decide +kernel)
theorem zw_365 : Cond.instanceMethod yX4_ahead ∈ zk_T := zk_mem 365 (by decide +kernel) (by decide +kernel)
theorem zw_366 : Cond.selects RX4 yX4_ahead yX4_ahead ∈ zk_T := zk_mem 366 (by decide +kernel) (by decide +kernel)
theorem zw_367 : Cond.code yX4_ahead cX4_ahead 3 (some .int) ∈ zk_T := zk_mem 367 (by decide +kernel) (by decide +kernel)
theorem zw_368 : Cond.methodLink RL 72 yX4_then ∈ zk_T := zk_mem 368 (by decide +kernel) (by decide +kernel)
theorem zw_369 : Cond.instanceMethod yX4_then ∈ zk_T := zk_mem 369 (by decide +kernel) (by decide +kernel)
theorem zw_370 : Cond.selects RX4 yX4_then yX4_then ∈ zk_T := zk_mem 370 (by decide +kernel) (by decide +kernel)
theorem zw_371 : Cond.code yX4_then cX4_then 2 (some .int) ∈ zk_T := zk_mem 371 (by decide +kernel) (by decide +kernel)
theorem zw_372 : Cond.methodLink RL 76 yX4_rises ∈ zk_T := zk_mem 372 (by decide +kernel) (by decide +kernel)
theorem zw_373 : Cond.instanceMethod yX4_rises ∈ zk_T := zk_mem 373 (by decide +kernel) (by decide +kernel)
theorem zw_374 : Cond.selects RX4 yX4_rises yX4_rises ∈ zk_T := zk_mem 374 (by decide +kernel) (by decide +kernel)
theorem zw_375 : Cond.code yX4_rises cX4_rises 3 (some .int) ∈ zk_T := zk_mem 375 (by decide +kernel) (by decide +kernel)
theorem zw_376 : Cond.methodLink RX4 153 yX4_firstYearOfKeys ∈ zk_T := zk_mem 376 (by decide +kernel) (by decide +kernel)
theorem zw_378 : Cond.instanceMethod yX4_firstYearOfKeys ∈ zk_T := zk_mem 378 (by decide +kernel) (by decide +kernel)
theorem zw_379 : Cond.code yX4_firstYearOfKeys cX4_firstYearOfKeys 3 (some .int) ∈ zk_T := zk_mem 379 (by decide +kernel) (by decide +kernel)
theorem zw_380 : Cond.methodLink RX4 156 yX4_yearsOfKeys ∈ zk_T := zk_mem 380 (by decide +kernel) (by decide +kernel)
theorem zw_382 : Cond.instanceMethod yX4_yearsOfKeys ∈ zk_T := zk_mem 382 (by decide +kernel) (by decide +kernel)
theorem zw_383 : Cond.code yX4_yearsOfKeys cX4_yearsOfKeys 4 (some .int) ∈ zk_T := zk_mem 383 (by decide +kernel) (by decide +kernel)
theorem zw_384 : Cond.methodLink RL 80 yX4_parts ∈ zk_T := zk_mem 384 (by decide +kernel) (by decide +kernel)
theorem zw_385 : Cond.instanceMethod yX4_parts ∈ zk_T := zk_mem 385 (by decide +kernel) (by decide +kernel)
theorem zw_386 : Cond.selects RX4 yX4_parts yX4_parts ∈ zk_T := zk_mem 386 (by decide +kernel) (by decide +kernel)
theorem zw_387 : Cond.code yX4_parts cX4_parts 3 (some .int) ∈ zk_T := zk_mem 387 (by decide +kernel) (by decide +kernel)
theorem zw_388 : Cond.methodLink RL 84 yX4_ever ∈ zk_T := zk_mem 388 (by decide +kernel) (by decide +kernel)
theorem zw_389 : Cond.instanceMethod yX4_ever ∈ zk_T := zk_mem 389 (by decide +kernel) (by decide +kernel)
theorem zw_390 : Cond.selects RX4 yX4_ever yX4_ever ∈ zk_T := zk_mem 390 (by decide +kernel) (by decide +kernel)
theorem zw_391 : Cond.code yX4_ever cX4_ever 4 (some .int) ∈ zk_T := zk_mem 391 (by decide +kernel) (by decide +kernel)
theorem zw_392 : Cond.methodLink RL 88 yX4_rivals ∈ zk_T := zk_mem 392 (by decide +kernel) (by decide +kernel)
theorem zw_393 : Cond.instanceMethod yX4_rivals ∈ zk_T := zk_mem 393 (by decide +kernel) (by decide +kernel)
theorem zw_394 : Cond.selects RX4 yX4_rivals yX4_rivals ∈ zk_T := zk_mem 394 (by decide +kernel) (by decide +kernel)
theorem zw_395 : Cond.code yX4_rivals cX4_rivals 5 (some .int) ∈ zk_T := zk_mem 395 (by decide +kernel) (by decide +kernel)
theorem zw_396 : Cond.methodLink RX4 159 yX4_fewestRivals ∈ zk_T := zk_mem 396 (by decide +kernel) (by decide +kernel)
theorem zw_398 : Cond.instanceMethod yX4_fewestRivals ∈ zk_T := zk_mem 398 (by decide +kernel) (by decide +kernel)
theorem zw_399 : Cond.code yX4_fewestRivals cX4_fewestRivals 8 (some .int) ∈ zk_T := zk_mem 399 (by decide +kernel) (by decide +kernel)
theorem zw_400 : Cond.methodLink RX4 163 yJ6_bitCount_0f7a4 ∈ zk_T := zk_mem 400 (by decide +kernel) (by decide +kernel)
theorem zw_401 : Cond.static yJ6_bitCount_0f7a4 ∈ zk_T := zk_mem 401 (by decide +kernel) (by decide +kernel)
theorem zw_402 : Cond.code yJ6_bitCount_0f7a4 cJ6_bitCount_0f7a4 1 (some .int) ∈ zk_T := zk_mem 402 (by decide +kernel) (by decide +kernel)
theorem zw_403 : Cond.constant RJ6 265 (1431655765) ∈ zk_T := zk_mem 403 (by decide +kernel) (by decide +kernel)
theorem zw_404 : Cond.constant RJ6 266 (858993459) ∈ zk_T := zk_mem 404 (by decide +kernel) (by decide +kernel)
theorem zw_405 : Cond.constant RJ6 267 (252645135) ∈ zk_T := zk_mem 405 (by decide +kernel) (by decide +kernel)
theorem zw_406 : Cond.methodLink RX4 234 yX4_keepsWithout ∈ zk_T := zk_mem 406 (by decide +kernel) (by decide +kernel)
theorem zw_408 : Cond.instanceMethod yX4_keepsWithout ∈ zk_T := zk_mem 408 (by decide +kernel) (by decide +kernel)
theorem zw_409 : Cond.code yX4_keepsWithout cX4_keepsWithout 5 (some .boolean) ∈ zk_T := zk_mem 409 (by decide +kernel) (by decide +kernel)
theorem zw_410 : Cond.methodLink RL 93 yX4_needs ∈ zk_T := zk_mem 410 (by decide +kernel) (by decide +kernel)
theorem zw_411 : Cond.instanceMethod yX4_needs ∈ zk_T := zk_mem 411 (by decide +kernel) (by decide +kernel)
theorem zw_412 : Cond.selects RX4 yX4_needs yX4_needs ∈ zk_T := zk_mem 412 (by decide +kernel) (by decide +kernel)
theorem zw_413 : Cond.code yX4_needs cX4_needs 4 (some .int) ∈ zk_T := zk_mem 413 (by decide +kernel) (by decide +kernel)
theorem zw_414 : Cond.methodLink RL 97 yX4_soothe ∈ zk_T := zk_mem 414 (by decide +kernel) (by decide +kernel)
theorem zw_415 : Cond.instanceMethod yX4_soothe ∈ zk_T := zk_mem 415 (by decide +kernel) (by decide +kernel)
theorem zw_416 : Cond.selects RX4 yX4_soothe yX4_soothe ∈ zk_T := zk_mem 416 (by decide +kernel) (by decide +kernel)
theorem zw_417 : Cond.code yX4_soothe cX4_soothe 7 (some .int) ∈ zk_T := zk_mem 417 (by decide +kernel) (by decide +kernel)
theorem zw_418 : Cond.methodLink RX4 168 yX4_togetherIfNursed ∈ zk_T := zk_mem 418 (by decide +kernel) (by decide +kernel)
theorem zw_420 : Cond.instanceMethod yX4_togetherIfNursed ∈ zk_T := zk_mem 420 (by decide +kernel) (by decide +kernel)
theorem zw_421 : Cond.code yX4_togetherIfNursed cX4_togetherIfNursed 3 (some .int) ∈ zk_T := zk_mem 421 (by decide +kernel) (by decide +kernel)
theorem zw_422 : Cond.methodLink RL 101 yX4_start ∈ zk_T := zk_mem 422 (by decide +kernel) (by decide +kernel)
theorem zw_423 : Cond.instanceMethod yX4_start ∈ zk_T := zk_mem 423 (by decide +kernel) (by decide +kernel)
theorem zw_424 : Cond.selects RX4 yX4_start yX4_start ∈ zk_T := zk_mem 424 (by decide +kernel) (by decide +kernel)
theorem zw_425 : Cond.code yX4_start cX4_start 3 (some .int) ∈ zk_T := zk_mem 425 (by decide +kernel) (by decide +kernel)
theorem zw_426 : Cond.methodLink RX4 171 yX4_keepsIfWedAnew ∈ zk_T := zk_mem 426 (by decide +kernel) (by decide +kernel)
theorem zw_428 : Cond.instanceMethod yX4_keepsIfWedAnew ∈ zk_T := zk_mem 428 (by decide +kernel) (by decide +kernel)
theorem zw_429 : Cond.code yX4_keepsIfWedAnew cX4_keepsIfWedAnew 3 (some .boolean) ∈ zk_T := zk_mem 429 (by decide +kernel) (by decide +kernel)
theorem zw_430 : Cond.methodLink RL 105 yX4_sum ∈ zk_T := zk_mem 430 (by decide +kernel) (by decide +kernel)
theorem zw_431 : Cond.instanceMethod yX4_sum ∈ zk_T := zk_mem 431 (by decide +kernel) (by decide +kernel)
theorem zw_432 : Cond.selects RX4 yX4_sum yX4_sum ∈ zk_T := zk_mem 432 (by decide +kernel) (by decide +kernel)
theorem zw_433 : Cond.code yX4_sum cX4_sum 5 (some .int) ∈ zk_T := zk_mem 433 (by decide +kernel) (by decide +kernel)
theorem zw_434 : Cond.methodLink RL 109 yX4_rows ∈ zk_T := zk_mem 434 (by decide +kernel) (by decide +kernel)
theorem zw_435 : Cond.instanceMethod yX4_rows ∈ zk_T := zk_mem 435 (by decide +kernel) (by decide +kernel)
theorem zw_436 : Cond.selects RX4 yX4_rows yX4_rows ∈ zk_T := zk_mem 436 (by decide +kernel) (by decide +kernel)
theorem zw_437 : Cond.code yX4_rows cX4_rows 8 (some .int) ∈ zk_T := zk_mem 437 (by decide +kernel) (by decide +kernel)
theorem zw_438 : Cond.methodLink RX4 175 yX3_tenthsToStay ∈ zk_T := zk_mem 438 (by decide +kernel) (by decide +kernel)
theorem zw_439 : Cond.instanceMethod yX3_tenthsToStay ∈ zk_T := zk_mem 439 (by decide +kernel) (by decide +kernel)
theorem zw_440 : Cond.selects RX3 yX3_tenthsToStay yX3_tenthsToStay ∈ zk_T := zk_mem 440 (by decide +kernel) (by decide +kernel)
theorem zw_441 : Cond.code yX3_tenthsToStay cX3_tenthsToStay 3 (some .int) ∈ zk_T := zk_mem 441 (by decide +kernel) (by decide +kernel)
theorem zw_442 : Cond.methodLink RX4 178 yX3_isBefore ∈ zk_T := zk_mem 442 (by decide +kernel) (by decide +kernel)
theorem zw_443 : Cond.instanceMethod yX3_isBefore ∈ zk_T := zk_mem 443 (by decide +kernel) (by decide +kernel)
theorem zw_444 : Cond.selects RX3 yX3_isBefore yX3_isBefore ∈ zk_T := zk_mem 444 (by decide +kernel) (by decide +kernel)
theorem zw_445 : Cond.code yX3_isBefore cX3_isBefore 3 (some .boolean) ∈ zk_T := zk_mem 445 (by decide +kernel) (by decide +kernel)
theorem zw_446 : Cond.methodLink RX4 181 yX4_commonDivisor ∈ zk_T := zk_mem 446 (by decide +kernel) (by decide +kernel)
theorem zw_447 : Cond.static yX4_commonDivisor ∈ zk_T := zk_mem 447 (by decide +kernel) (by decide +kernel)
theorem zw_448 : Cond.code yX4_commonDivisor cX4_commonDivisor 6 (some .int) ∈ zk_T := zk_mem 448 (by decide +kernel) (by decide +kernel)
theorem zw_449 : Cond.methodLink RL 113 yX4_image ∈ zk_T := zk_mem 449 (by decide +kernel) (by decide +kernel)
theorem zw_450 : Cond.instanceMethod yX4_image ∈ zk_T := zk_mem 450 (by decide +kernel) (by decide +kernel)
theorem zw_451 : Cond.selects RX4 yX4_image yX4_image ∈ zk_T := zk_mem 451 (by decide +kernel) (by decide +kernel)
theorem zw_452 : Cond.code yX4_image cX4_image 1 (some .int) ∈ zk_T := zk_mem 452 (by decide +kernel) (by decide +kernel)
theorem zw_453 : Cond.methodLink RX4 184 yX0_become ∈ zk_T := zk_mem 453 (by decide +kernel) (by decide +kernel)
theorem zw_454 : Cond.instanceMethod yX0_become ∈ zk_T := zk_mem 454 (by decide +kernel) (by decide +kernel)
theorem zw_455 : Cond.selects RX0 yX0_become yX0_become ∈ zk_T := zk_mem 455 (by decide +kernel) (by decide +kernel)
theorem zw_456 : Cond.code yX0_become cX0_become 3 none ∈ zk_T := zk_mem 456 (by decide +kernel) (by decide +kernel)
theorem zw_457 : Cond.methodLink RL 117 yX4_restore ∈ zk_T := zk_mem 457 (by decide +kernel) (by decide +kernel)
theorem zw_458 : Cond.instanceMethod yX4_restore ∈ zk_T := zk_mem 458 (by decide +kernel) (by decide +kernel)
theorem zw_459 : Cond.selects RX4 yX4_restore yX4_restore ∈ zk_T := zk_mem 459 (by decide +kernel) (by decide +kernel)
theorem zw_460 : Cond.code yX4_restore cX4_restore 1 (some .int) ∈ zk_T := zk_mem 460 (by decide +kernel) (by decide +kernel)
theorem zw_461 : Cond.methodLink RL 121 yX4_heard ∈ zk_T := zk_mem 461 (by decide +kernel) (by decide +kernel)
theorem zw_462 : Cond.instanceMethod yX4_heard ∈ zk_T := zk_mem 462 (by decide +kernel) (by decide +kernel)
theorem zw_463 : Cond.selects RX4 yX4_heard yX4_heard ∈ zk_T := zk_mem 463 (by decide +kernel) (by decide +kernel)
theorem zw_464 : Cond.code yX4_heard cX4_heard 9 (some .int) ∈ zk_T := zk_mem 464 (by decide +kernel) (by decide +kernel)
theorem zw_465 : Cond.methodLink RX4 187 yX4_isSheet ∈ zk_T := zk_mem 465 (by decide +kernel) (by decide +kernel)
theorem zw_466 : Cond.static yX4_isSheet ∈ zk_T := zk_mem 466 (by decide +kernel) (by decide +kernel)
theorem zw_467 : Cond.code yX4_isSheet cX4_isSheet 1 (some .boolean) ∈ zk_T := zk_mem 467 (by decide +kernel) (by decide +kernel)
theorem zw_468 : Cond.methodLink RX4 190 yX4_isLane ∈ zk_T := zk_mem 468 (by decide +kernel) (by decide +kernel)
theorem zw_469 : Cond.static yX4_isLane ∈ zk_T := zk_mem 469 (by decide +kernel) (by decide +kernel)
theorem zw_470 : Cond.code yX4_isLane cX4_isLane 1 (some .boolean) ∈ zk_T := zk_mem 470 (by decide +kernel) (by decide +kernel)
theorem zw_471 : Cond.methodLink RX4 193 yX1_faultOf ∈ zk_T := zk_mem 471 (by decide +kernel) (by decide +kernel)
theorem zw_472 : Cond.instanceMethod yX1_faultOf ∈ zk_T := zk_mem 472 (by decide +kernel) (by decide +kernel)
theorem zw_473 : Cond.selects RX1 yX1_faultOf yX1_faultOf ∈ zk_T := zk_mem 473 (by decide +kernel) (by decide +kernel)
theorem zw_474 : Cond.code yX1_faultOf cX1_faultOf 4 (some .int) ∈ zk_T := zk_mem 474 (by decide +kernel) (by decide +kernel)
theorem zw_475 : Cond.methodLink RX1 22 yX1_reaches ∈ zk_T := zk_mem 475 (by decide +kernel) (by decide +kernel)
theorem zw_476 : Cond.instanceMethod yX1_reaches ∈ zk_T := zk_mem 476 (by decide +kernel) (by decide +kernel)
theorem zw_477 : Cond.selects RX1 yX1_reaches yX1_reaches ∈ zk_T := zk_mem 477 (by decide +kernel) (by decide +kernel)
theorem zw_478 : Cond.code yX1_reaches cX1_reaches 3 (some .boolean) ∈ zk_T := zk_mem 478 (by decide +kernel) (by decide +kernel)
theorem zw_479 : Cond.methodLink RX4 197 yX4_kindsHeard ∈ zk_T := zk_mem 479 (by decide +kernel) (by decide +kernel)
theorem zw_481 : Cond.instanceMethod yX4_kindsHeard ∈ zk_T := zk_mem 481 (by decide +kernel) (by decide +kernel)
theorem zw_482 : Cond.code yX4_kindsHeard cX4_kindsHeard 7 (some .int) ∈ zk_T := zk_mem 482 (by decide +kernel) (by decide +kernel)
theorem zw_483 : Cond.methodLink RX4 237 yX4_trialTells ∈ zk_T := zk_mem 483 (by decide +kernel) (by decide +kernel)
theorem zw_485 : Cond.instanceMethod yX4_trialTells ∈ zk_T := zk_mem 485 (by decide +kernel) (by decide +kernel)
theorem zw_486 : Cond.code yX4_trialTells cX4_trialTells 6 (some .boolean) ∈ zk_T := zk_mem 486 (by decide +kernel) (by decide +kernel)
theorem zw_487 : Cond.methodLink RX4 201 yX4_tempersHeard ∈ zk_T := zk_mem 487 (by decide +kernel) (by decide +kernel)
theorem zw_489 : Cond.instanceMethod yX4_tempersHeard ∈ zk_T := zk_mem 489 (by decide +kernel) (by decide +kernel)
theorem zw_490 : Cond.code yX4_tempersHeard cX4_tempersHeard 7 (some .int) ∈ zk_T := zk_mem 490 (by decide +kernel) (by decide +kernel)
theorem zw_491 : Cond.methodLink RX4 204 yX4_howManyWedHeard ∈ zk_T := zk_mem 491 (by decide +kernel) (by decide +kernel)
theorem zw_493 : Cond.instanceMethod yX4_howManyWedHeard ∈ zk_T := zk_mem 493 (by decide +kernel) (by decide +kernel)
theorem zw_494 : Cond.code yX4_howManyWedHeard cX4_howManyWedHeard 7 (some .int) ∈ zk_T := zk_mem 494 (by decide +kernel) (by decide +kernel)
theorem zw_495 : Cond.methodLink RX4 241 yX4_wedTells ∈ zk_T := zk_mem 495 (by decide +kernel) (by decide +kernel)
theorem zw_497 : Cond.instanceMethod yX4_wedTells ∈ zk_T := zk_mem 497 (by decide +kernel) (by decide +kernel)
theorem zw_498 : Cond.code yX4_wedTells cX4_wedTells 6 (some .boolean) ∈ zk_T := zk_mem 498 (by decide +kernel) (by decide +kernel)
theorem zw_499 : Cond.methodLink RX4 207 yX4_leastWedHeard ∈ zk_T := zk_mem 499 (by decide +kernel) (by decide +kernel)
theorem zw_501 : Cond.instanceMethod yX4_leastWedHeard ∈ zk_T := zk_mem 501 (by decide +kernel) (by decide +kernel)
theorem zw_502 : Cond.code yX4_leastWedHeard cX4_leastWedHeard 6 (some .int) ∈ zk_T := zk_mem 502 (by decide +kernel) (by decide +kernel)
theorem zw_503 : Cond.methodLink RL 126 yX4_film ∈ zk_T := zk_mem 503 (by decide +kernel) (by decide +kernel)
theorem zw_504 : Cond.instanceMethod yX4_film ∈ zk_T := zk_mem 504 (by decide +kernel) (by decide +kernel)
theorem zw_505 : Cond.selects RX4 yX4_film yX4_film ∈ zk_T := zk_mem 505 (by decide +kernel) (by decide +kernel)
theorem zw_506 : Cond.code yX4_film cX4_film 9 (some .int) ∈ zk_T := zk_mem 506 (by decide +kernel) (by decide +kernel)
theorem zw_507 : Cond.methodLink RX4 210 yX1_put ∈ zk_T := zk_mem 507 (by decide +kernel) (by decide +kernel)
theorem zw_508 : Cond.instanceMethod yX1_put ∈ zk_T := zk_mem 508 (by decide +kernel) (by decide +kernel)
theorem zw_509 : Cond.selects RX1 yX1_put yX1_put ∈ zk_T := zk_mem 509 (by decide +kernel) (by decide +kernel)
theorem zw_510 : Cond.code yX1_put cX1_put 4 none ∈ zk_T := zk_mem 510 (by decide +kernel) (by decide +kernel)
theorem zw_511 : Cond.methodLink RX1 26 yX1_lowestBits ∈ zk_T := zk_mem 511 (by decide +kernel) (by decide +kernel)
theorem zw_512 : Cond.instanceMethod yX1_lowestBits ∈ zk_T := zk_mem 512 (by decide +kernel) (by decide +kernel)
theorem zw_513 : Cond.selects RX1 yX1_lowestBits yX1_lowestBits ∈ zk_T := zk_mem 513 (by decide +kernel) (by decide +kernel)
theorem zw_514 : Cond.code yX1_lowestBits cX1_lowestBits 3 (some .long) ∈ zk_T := zk_mem 514 (by decide +kernel) (by decide +kernel)
theorem zw_515 : Cond.methodLink RL 131 yX4_sheet ∈ zk_T := zk_mem 515 (by decide +kernel) (by decide +kernel)
theorem zw_516 : Cond.instanceMethod yX4_sheet ∈ zk_T := zk_mem 516 (by decide +kernel) (by decide +kernel)
theorem zw_517 : Cond.selects RX4 yX4_sheet yX4_sheet ∈ zk_T := zk_mem 517 (by decide +kernel) (by decide +kernel)
theorem zw_518 : Cond.code yX4_sheet cX4_sheet 4 (some .int) ∈ zk_T := zk_mem 518 (by decide +kernel) (by decide +kernel)
theorem zw_519 : Cond.methodLink RX4 214 yX1_renew ∈ zk_T := zk_mem 519 (by decide +kernel) (by decide +kernel)
theorem zw_520 : Cond.instanceMethod yX1_renew ∈ zk_T := zk_mem 520 (by decide +kernel) (by decide +kernel)
theorem zw_521 : Cond.selects RX1 yX1_renew yX1_renew ∈ zk_T := zk_mem 521 (by decide +kernel) (by decide +kernel)
theorem zw_522 : Cond.code yX1_renew cX1_renew 4 none ∈ zk_T := zk_mem 522 (by decide +kernel) (by decide +kernel)
theorem zw_523 : Cond.methodLink RL 135 yX4_drop ∈ zk_T := zk_mem 523 (by decide +kernel) (by decide +kernel)
theorem zw_524 : Cond.instanceMethod yX4_drop ∈ zk_T := zk_mem 524 (by decide +kernel) (by decide +kernel)
theorem zw_525 : Cond.selects RX4 yX4_drop yX4_drop ∈ zk_T := zk_mem 525 (by decide +kernel) (by decide +kernel)
theorem zw_526 : Cond.code yX4_drop cX4_drop 3 (some .int) ∈ zk_T := zk_mem 526 (by decide +kernel) (by decide +kernel)
theorem zw_527 : Cond.methodLink RL 141 yX4_item ∈ zk_T := zk_mem 527 (by decide +kernel) (by decide +kernel)
theorem zw_528 : Cond.instanceMethod yX4_item ∈ zk_T := zk_mem 528 (by decide +kernel) (by decide +kernel)
theorem zw_529 : Cond.selects RX4 yX4_item yX4_item ∈ zk_T := zk_mem 529 (by decide +kernel) (by decide +kernel)
theorem zw_530 : Cond.code yX4_item cX4_item 8 (some .int) ∈ zk_T := zk_mem 530 (by decide +kernel) (by decide +kernel)
theorem zw_531 : Cond.methodLink RL 146 yX4_copy ∈ zk_T := zk_mem 531 (by decide +kernel) (by decide +kernel)
theorem zw_532 : Cond.instanceMethod yX4_copy ∈ zk_T := zk_mem 532 (by decide +kernel) (by decide +kernel)
theorem zw_533 : Cond.selects RX4 yX4_copy yX4_copy ∈ zk_T := zk_mem 533 (by decide +kernel) (by decide +kernel)
theorem zw_534 : Cond.code yX4_copy cX4_copy 8 (some .int) ∈ zk_T := zk_mem 534 (by decide +kernel) (by decide +kernel)
theorem zw_535 : Cond.methodLink RX4 221 yX1_reaches ∈ zk_T := zk_mem 535 (by decide +kernel) (by decide +kernel)
theorem zw_536 : Cond.methodLink RX4 228 arraycopyName ∈ zk_T := zk_mem 536 (by decide +kernel) (by decide +kernel)
theorem zw_543 : Cond.fieldLink RX5 7 "LongestWedModel" "now" "[I" ∈ zk_T := zk_mem 543 (by decide +kernel) (by decide +kernel)
theorem zw_544 : Cond.fieldLink RX5 13 "LongestWedModel" "tried" "[I" ∈ zk_T := zk_mem 544 (by decide +kernel) (by decide +kernel)
theorem zw_545 : Cond.fieldLink RX5 16 "LongestWedModel" "before" "[I" ∈ zk_T := zk_mem 545 (by decide +kernel) (by decide +kernel)
theorem zw_546 : Cond.fieldLink RX5 75 "LongestWedModel" "known" "I" ∈ zk_T := zk_mem 546 (by decide +kernel) (by decide +kernel)
theorem zw_547 : Cond.fieldLink RX5 19 "LongestWedModel" "kept" "[I" ∈ zk_T := zk_mem 547 (by decide +kernel) (by decide +kernel)
theorem zw_548 : Cond.fieldLink RX5 22 "LongestWedModel" "keptBefore" "[I" ∈ zk_T := zk_mem 548 (by decide +kernel) (by decide +kernel)
theorem zw_549 : Cond.fieldLink RX5 152 "LongestWedModel" "keptKnown" "I" ∈ zk_T := zk_mem 549 (by decide +kernel) (by decide +kernel)
theorem zw_550 : Cond.fieldLink RX5 155 "LongestWedModel" "isKept" "Z" ∈ zk_T := zk_mem 550 (by decide +kernel) (by decide +kernel)
theorem zw_551 : Cond.fieldLink RX5 25 "LongestWedModel" "next" "[I" ∈ zk_T := zk_mem 551 (by decide +kernel) (by decide +kernel)
theorem zw_552 : Cond.fieldLink RX5 28 "LongestWedModel" "tape" "[B" ∈ zk_T := zk_mem 552 (by decide +kernel) (by decide +kernel)
theorem zw_553 : Cond.fieldLink RX5 83 "LongestWedModel" "typed" "I" ∈ zk_T := zk_mem 553 (by decide +kernel) (by decide +kernel)
theorem zw_554 : Cond.fieldLink RX5 86 "LongestWedModel" "at" "I" ∈ zk_T := zk_mem 554 (by decide +kernel) (by decide +kernel)
theorem zw_555 : Cond.fieldLink RX5 89 "LongestWedModel" "isWrong" "Z" ∈ zk_T := zk_mem 555 (by decide +kernel) (by decide +kernel)
theorem zw_556 : Cond.fieldLink RX5 93 "LongestWedModel" "place" "I" ∈ zk_T := zk_mem 556 (by decide +kernel) (by decide +kernel)
theorem zw_557 : Cond.fieldLink RX5 32 "LongestWedModel" "laneOf" "[I" ∈ zk_T := zk_mem 557 (by decide +kernel) (by decide +kernel)
theorem zw_558 : Cond.fieldLink RX5 35 "LongestWedModel" "wide" "[I" ∈ zk_T := zk_mem 558 (by decide +kernel) (by decide +kernel)
theorem zw_559 : Cond.fieldLink RX5 38 "LongestWedModel" "items" "[J" ∈ zk_T := zk_mem 559 (by decide +kernel) (by decide +kernel)
theorem zw_560 : Cond.fieldLink RX5 42 "LongestWedModel" "moved" "[J" ∈ zk_T := zk_mem 560 (by decide +kernel) (by decide +kernel)
theorem zw_599 : Cond.methodLink RL 17 yX5_couple ∈ zk_T := zk_mem 599 (by decide +kernel) (by decide +kernel)
theorem zw_600 : Cond.instanceMethod yX5_couple ∈ zk_T := zk_mem 600 (by decide +kernel) (by decide +kernel)
theorem zw_601 : Cond.selects RX5 yX5_couple yX5_couple ∈ zk_T := zk_mem 601 (by decide +kernel) (by decide +kernel)
theorem zw_602 : Cond.code yX5_couple cX5_couple 3 (some .int) ∈ zk_T := zk_mem 602 (by decide +kernel) (by decide +kernel)
theorem zw_603 : Cond.methodLink RX5 45 yX5_in ∈ zk_T := zk_mem 603 (by decide +kernel) (by decide +kernel)
theorem zw_604 : Cond.static yX5_in ∈ zk_T := zk_mem 604 (by decide +kernel) (by decide +kernel)
theorem zw_605 : Cond.code yX5_in cX5_in 3 (some .boolean) ∈ zk_T := zk_mem 605 (by decide +kernel) (by decide +kernel)
theorem zw_606 : Cond.methodLink RX5 71 yX5_join ∈ zk_T := zk_mem 606 (by decide +kernel) (by decide +kernel)
theorem zw_607 : Cond.static yX5_join ∈ zk_T := zk_mem 607 (by decide +kernel) (by decide +kernel)
theorem zw_608 : Cond.code yX5_join cX5_join 7 none ∈ zk_T := zk_mem 608 (by decide +kernel) (by decide +kernel)
theorem zw_609 : Cond.methodLink RL 21 yX5_of ∈ zk_T := zk_mem 609 (by decide +kernel) (by decide +kernel)
theorem zw_610 : Cond.instanceMethod yX5_of ∈ zk_T := zk_mem 610 (by decide +kernel) (by decide +kernel)
theorem zw_611 : Cond.selects RX5 yX5_of yX5_of ∈ zk_T := zk_mem 611 (by decide +kernel) (by decide +kernel)
theorem zw_612 : Cond.code yX5_of cX5_of 3 (some .int) ∈ zk_T := zk_mem 612 (by decide +kernel) (by decide +kernel)
theorem zw_613 : Cond.methodLink RX5 79 yX5_isCouple ∈ zk_T := zk_mem 613 (by decide +kernel) (by decide +kernel)
theorem zw_615 : Cond.instanceMethod yX5_isCouple ∈ zk_T := zk_mem 615 (by decide +kernel) (by decide +kernel)
theorem zw_616 : Cond.code yX5_isCouple cX5_isCouple 2 (some .boolean) ∈ zk_T := zk_mem 616 (by decide +kernel) (by decide +kernel)
theorem zw_617 : Cond.methodLink RX5 53 yX5_isParted ∈ zk_T := zk_mem 617 (by decide +kernel) (by decide +kernel)
theorem zw_618 : Cond.static yX5_isParted ∈ zk_T := zk_mem 618 (by decide +kernel) (by decide +kernel)
theorem zw_619 : Cond.code yX5_isParted cX5_isParted 2 (some .boolean) ∈ zk_T := zk_mem 619 (by decide +kernel) (by decide +kernel)
theorem zw_620 : Cond.methodLink RX5 49 yX5_has ∈ zk_T := zk_mem 620 (by decide +kernel) (by decide +kernel)
theorem zw_621 : Cond.static yX5_has ∈ zk_T := zk_mem 621 (by decide +kernel) (by decide +kernel)
theorem zw_622 : Cond.code yX5_has cX5_has 2 (some .boolean) ∈ zk_T := zk_mem 622 (by decide +kernel) (by decide +kernel)
theorem zw_623 : Cond.methodLink RX5 68 yX5_worseBy ∈ zk_T := zk_mem 623 (by decide +kernel) (by decide +kernel)
theorem zw_624 : Cond.static yX5_worseBy ∈ zk_T := zk_mem 624 (by decide +kernel) (by decide +kernel)
theorem zw_625 : Cond.code yX5_worseBy cX5_worseBy 6 (some .int) ∈ zk_T := zk_mem 625 (by decide +kernel) (by decide +kernel)
theorem zw_626 : Cond.methodLink RX5 61 yX5_keysOf ∈ zk_T := zk_mem 626 (by decide +kernel) (by decide +kernel)
theorem zw_627 : Cond.static yX5_keysOf ∈ zk_T := zk_mem 627 (by decide +kernel) (by decide +kernel)
theorem zw_628 : Cond.code yX5_keysOf cX5_keysOf 1 (some .int) ∈ zk_T := zk_mem 628 (by decide +kernel) (by decide +kernel)
theorem zw_629 : Cond.methodLink RX5 57 yX5_longest ∈ zk_T := zk_mem 629 (by decide +kernel) (by decide +kernel)
theorem zw_630 : Cond.static yX5_longest ∈ zk_T := zk_mem 630 (by decide +kernel) (by decide +kernel)
theorem zw_631 : Cond.code yX5_longest cX5_longest 5 (some .int) ∈ zk_T := zk_mem 631 (by decide +kernel) (by decide +kernel)
theorem zw_632 : Cond.methodLink RX5 65 yX5_secondOf ∈ zk_T := zk_mem 632 (by decide +kernel) (by decide +kernel)
theorem zw_633 : Cond.static yX5_secondOf ∈ zk_T := zk_mem 633 (by decide +kernel) (by decide +kernel)
theorem zw_634 : Cond.code yX5_secondOf cX5_secondOf 2 (some .int) ∈ zk_T := zk_mem 634 (by decide +kernel) (by decide +kernel)
theorem zw_635 : Cond.methodLink RL 26 yX5_type ∈ zk_T := zk_mem 635 (by decide +kernel) (by decide +kernel)
theorem zw_636 : Cond.instanceMethod yX5_type ∈ zk_T := zk_mem 636 (by decide +kernel) (by decide +kernel)
theorem zw_637 : Cond.selects RX5 yX5_type yX5_type ∈ zk_T := zk_mem 637 (by decide +kernel) (by decide +kernel)
theorem zw_638 : Cond.code yX5_type cX5_type 2 (some .int) ∈ zk_T := zk_mem 638 (by decide +kernel) (by decide +kernel)
theorem zw_639 : Cond.methodLink RL 31 yX5_town ∈ zk_T := zk_mem 639 (by decide +kernel) (by decide +kernel)
theorem zw_640 : Cond.instanceMethod yX5_town ∈ zk_T := zk_mem 640 (by decide +kernel) (by decide +kernel)
theorem zw_641 : Cond.selects RX5 yX5_town yX5_town ∈ zk_T := zk_mem 641 (by decide +kernel) (by decide +kernel)
theorem zw_642 : Cond.code yX5_town cX5_town 2 (some .int) ∈ zk_T := zk_mem 642 (by decide +kernel) (by decide +kernel)
theorem zw_643 : Cond.methodLink RX5 111 yX5_readCouple ∈ zk_T := zk_mem 643 (by decide +kernel) (by decide +kernel)
theorem zw_645 : Cond.instanceMethod yX5_readCouple ∈ zk_T := zk_mem 645 (by decide +kernel) (by decide +kernel)
theorem zw_646 : Cond.code yX5_readCouple cX5_readCouple 7 none ∈ zk_T := zk_mem 646 (by decide +kernel) (by decide +kernel)
theorem zw_647 : Cond.methodLink RX5 96 yX5_here ∈ zk_T := zk_mem 647 (by decide +kernel) (by decide +kernel)
theorem zw_649 : Cond.instanceMethod yX5_here ∈ zk_T := zk_mem 649 (by decide +kernel) (by decide +kernel)
theorem zw_650 : Cond.code yX5_here cX5_here 1 (some .int) ∈ zk_T := zk_mem 650 (by decide +kernel) (by decide +kernel)
theorem zw_651 : Cond.methodLink RX5 100 yX5_wrongAt ∈ zk_T := zk_mem 651 (by decide +kernel) (by decide +kernel)
theorem zw_653 : Cond.instanceMethod yX5_wrongAt ∈ zk_T := zk_mem 653 (by decide +kernel) (by decide +kernel)
theorem zw_654 : Cond.code yX5_wrongAt cX5_wrongAt 2 none ∈ zk_T := zk_mem 654 (by decide +kernel) (by decide +kernel)
theorem zw_655 : Cond.methodLink RX5 104 yX5_number ∈ zk_T := zk_mem 655 (by decide +kernel) (by decide +kernel)
theorem zw_657 : Cond.instanceMethod yX5_number ∈ zk_T := zk_mem 657 (by decide +kernel) (by decide +kernel)
theorem zw_658 : Cond.code yX5_number cX5_number 7 (some .int) ∈ zk_T := zk_mem 658 (by decide +kernel) (by decide +kernel)
theorem zw_659 : Cond.methodLink RX5 108 yX5_takes ∈ zk_T := zk_mem 659 (by decide +kernel) (by decide +kernel)
theorem zw_661 : Cond.instanceMethod yX5_takes ∈ zk_T := zk_mem 661 (by decide +kernel) (by decide +kernel)
theorem zw_662 : Cond.code yX5_takes cX5_takes 3 (some .boolean) ∈ zk_T := zk_mem 662 (by decide +kernel) (by decide +kernel)
theorem zw_663 : Cond.methodLink RL 35 yX5_count ∈ zk_T := zk_mem 663 (by decide +kernel) (by decide +kernel)
theorem zw_664 : Cond.instanceMethod yX5_count ∈ zk_T := zk_mem 664 (by decide +kernel) (by decide +kernel)
theorem zw_665 : Cond.selects RX5 yX5_count yX5_count ∈ zk_T := zk_mem 665 (by decide +kernel) (by decide +kernel)
theorem zw_666 : Cond.code yX5_count cX5_count 4 (some .int) ∈ zk_T := zk_mem 666 (by decide +kernel) (by decide +kernel)
theorem zw_667 : Cond.methodLink RX5 114 yX5_togetherOf ∈ zk_T := zk_mem 667 (by decide +kernel) (by decide +kernel)
theorem zw_668 : Cond.static yX5_togetherOf ∈ zk_T := zk_mem 668 (by decide +kernel) (by decide +kernel)
theorem zw_669 : Cond.code yX5_togetherOf cX5_togetherOf 1 (some .int) ∈ zk_T := zk_mem 669 (by decide +kernel) (by decide +kernel)
theorem zw_670 : Cond.methodLink RL 39 yX5_years ∈ zk_T := zk_mem 670 (by decide +kernel) (by decide +kernel)
theorem zw_671 : Cond.instanceMethod yX5_years ∈ zk_T := zk_mem 671 (by decide +kernel) (by decide +kernel)
theorem zw_672 : Cond.selects RX5 yX5_years yX5_years ∈ zk_T := zk_mem 672 (by decide +kernel) (by decide +kernel)
theorem zw_673 : Cond.code yX5_years cX5_years 3 (some .int) ∈ zk_T := zk_mem 673 (by decide +kernel) (by decide +kernel)
theorem zw_674 : Cond.methodLink RX5 117 yX5_know ∈ zk_T := zk_mem 674 (by decide +kernel) (by decide +kernel)
theorem zw_676 : Cond.instanceMethod yX5_know ∈ zk_T := zk_mem 676 (by decide +kernel) (by decide +kernel)
theorem zw_677 : Cond.code yX5_know cX5_know 2 none ∈ zk_T := zk_mem 677 (by decide +kernel) (by decide +kernel)
theorem zw_678 : Cond.methodLink RX5 120 yX5_passOn ∈ zk_T := zk_mem 678 (by decide +kernel) (by decide +kernel)
theorem zw_680 : Cond.instanceMethod yX5_passOn ∈ zk_T := zk_mem 680 (by decide +kernel) (by decide +kernel)
theorem zw_681 : Cond.code yX5_passOn cX5_passOn 4 none ∈ zk_T := zk_mem 681 (by decide +kernel) (by decide +kernel)
theorem zw_682 : Cond.methodLink RL 43 yX5_nurse ∈ zk_T := zk_mem 682 (by decide +kernel) (by decide +kernel)
theorem zw_683 : Cond.instanceMethod yX5_nurse ∈ zk_T := zk_mem 683 (by decide +kernel) (by decide +kernel)
theorem zw_684 : Cond.selects RX5 yX5_nurse yX5_nurse ∈ zk_T := zk_mem 684 (by decide +kernel) (by decide +kernel)
theorem zw_685 : Cond.code yX5_nurse cX5_nurse 3 (some .int) ∈ zk_T := zk_mem 685 (by decide +kernel) (by decide +kernel)
theorem zw_686 : Cond.methodLink RX5 124 yX5_nurseOn ∈ zk_T := zk_mem 686 (by decide +kernel) (by decide +kernel)
theorem zw_687 : Cond.static yX5_nurseOn ∈ zk_T := zk_mem 687 (by decide +kernel) (by decide +kernel)
theorem zw_688 : Cond.code yX5_nurseOn cX5_nurseOn 3 none ∈ zk_T := zk_mem 688 (by decide +kernel) (by decide +kernel)
theorem zw_689 : Cond.methodLink RL 47 yX5_stir ∈ zk_T := zk_mem 689 (by decide +kernel) (by decide +kernel)
theorem zw_690 : Cond.instanceMethod yX5_stir ∈ zk_T := zk_mem 690 (by decide +kernel) (by decide +kernel)
theorem zw_691 : Cond.selects RX5 yX5_stir yX5_stir ∈ zk_T := zk_mem 691 (by decide +kernel) (by decide +kernel)
theorem zw_692 : Cond.code yX5_stir cX5_stir 3 (some .int) ∈ zk_T := zk_mem 692 (by decide +kernel) (by decide +kernel)
theorem zw_693 : Cond.methodLink RX5 128 yX5_stirOn ∈ zk_T := zk_mem 693 (by decide +kernel) (by decide +kernel)
theorem zw_694 : Cond.static yX5_stirOn ∈ zk_T := zk_mem 694 (by decide +kernel) (by decide +kernel)
theorem zw_695 : Cond.code yX5_stirOn cX5_stirOn 3 none ∈ zk_T := zk_mem 695 (by decide +kernel) (by decide +kernel)
theorem zw_696 : Cond.methodLink RL 51 yX5_wed ∈ zk_T := zk_mem 696 (by decide +kernel) (by decide +kernel)
theorem zw_697 : Cond.instanceMethod yX5_wed ∈ zk_T := zk_mem 697 (by decide +kernel) (by decide +kernel)
theorem zw_698 : Cond.selects RX5 yX5_wed yX5_wed ∈ zk_T := zk_mem 698 (by decide +kernel) (by decide +kernel)
theorem zw_699 : Cond.code yX5_wed cX5_wed 2 (some .int) ∈ zk_T := zk_mem 699 (by decide +kernel) (by decide +kernel)
theorem zw_700 : Cond.methodLink RX5 131 yX5_wedOn ∈ zk_T := zk_mem 700 (by decide +kernel) (by decide +kernel)
theorem zw_701 : Cond.static yX5_wedOn ∈ zk_T := zk_mem 701 (by decide +kernel) (by decide +kernel)
theorem zw_702 : Cond.code yX5_wedOn cX5_wedOn 2 none ∈ zk_T := zk_mem 702 (by decide +kernel) (by decide +kernel)
theorem zw_703 : Cond.methodLink RL 55 yX5_drift ∈ zk_T := zk_mem 703 (by decide +kernel) (by decide +kernel)
theorem zw_704 : Cond.instanceMethod yX5_drift ∈ zk_T := zk_mem 704 (by decide +kernel) (by decide +kernel)
theorem zw_705 : Cond.selects RX5 yX5_drift yX5_drift ∈ zk_T := zk_mem 705 (by decide +kernel) (by decide +kernel)
theorem zw_706 : Cond.code yX5_drift cX5_drift 5 (some .int) ∈ zk_T := zk_mem 706 (by decide +kernel) (by decide +kernel)
theorem zw_707 : Cond.constantLong RX5 135 (1103515245) ∈ zk_T := zk_mem 707 (by decide +kernel) (by decide +kernel)
theorem zw_708 : Cond.constantLong RX5 137 (12345) ∈ zk_T := zk_mem 708 (by decide +kernel) (by decide +kernel)
theorem zw_709 : Cond.constantLong RX5 139 (2147483648) ∈ zk_T := zk_mem 709 (by decide +kernel) (by decide +kernel)
theorem zw_710 : Cond.constant RX5 141 (65536) ∈ zk_T := zk_mem 710 (by decide +kernel) (by decide +kernel)
theorem zw_711 : Cond.methodLink RL 59 yX5_undo ∈ zk_T := zk_mem 711 (by decide +kernel) (by decide +kernel)
theorem zw_712 : Cond.instanceMethod yX5_undo ∈ zk_T := zk_mem 712 (by decide +kernel) (by decide +kernel)
theorem zw_713 : Cond.selects RX5 yX5_undo yX5_undo ∈ zk_T := zk_mem 713 (by decide +kernel) (by decide +kernel)
theorem zw_714 : Cond.code yX5_undo cX5_undo 2 (some .int) ∈ zk_T := zk_mem 714 (by decide +kernel) (by decide +kernel)
theorem zw_715 : Cond.methodLink RL 63 yX5_seed ∈ zk_T := zk_mem 715 (by decide +kernel) (by decide +kernel)
theorem zw_716 : Cond.instanceMethod yX5_seed ∈ zk_T := zk_mem 716 (by decide +kernel) (by decide +kernel)
theorem zw_717 : Cond.selects RX5 yX5_seed yX5_seed ∈ zk_T := zk_mem 717 (by decide +kernel) (by decide +kernel)
theorem zw_718 : Cond.code yX5_seed cX5_seed 3 (some .int) ∈ zk_T := zk_mem 718 (by decide +kernel) (by decide +kernel)
theorem zw_719 : Cond.methodLink RL 67 yX5_keys ∈ zk_T := zk_mem 719 (by decide +kernel) (by decide +kernel)
theorem zw_720 : Cond.instanceMethod yX5_keys ∈ zk_T := zk_mem 720 (by decide +kernel) (by decide +kernel)
theorem zw_721 : Cond.selects RX5 yX5_keys yX5_keys ∈ zk_T := zk_mem 721 (by decide +kernel) (by decide +kernel)
theorem zw_722 : Cond.code yX5_keys cX5_keys 2 (some .int) ∈ zk_T := zk_mem 722 (by decide +kernel) (by decide +kernel)
theorem zw_723 : Cond.methodLink RX5 142 yX5_take ∈ zk_T := zk_mem 723 (by decide +kernel) (by decide +kernel)
theorem zw_725 : Cond.instanceMethod yX5_take ∈ zk_T := zk_mem 725 (by decide +kernel) (by decide +kernel)
theorem zw_726 : Cond.code yX5_take cX5_take 2 none ∈ zk_T := zk_mem 726 (by decide +kernel) (by decide +kernel)
theorem zw_727 : Cond.methodLink RX5 145 yX5_goOn ∈ zk_T := zk_mem 727 (by decide +kernel) (by decide +kernel)
theorem zw_729 : Cond.instanceMethod yX5_goOn ∈ zk_T := zk_mem 729 (by decide +kernel) (by decide +kernel)
theorem zw_730 : Cond.code yX5_goOn cX5_goOn 3 none ∈ zk_T := zk_mem 730 (by decide +kernel) (by decide +kernel)
theorem zw_731 : Cond.methodLink RL 71 yX5_ahead ∈ zk_T := zk_mem 731 (by decide +kernel) (by decide +kernel)
theorem zw_732 : Cond.instanceMethod yX5_ahead ∈ zk_T := zk_mem 732 (by decide +kernel) (by decide +kernel)
theorem zw_733 : Cond.selects RX5 yX5_ahead yX5_ahead ∈ zk_T := zk_mem 733 (by decide +kernel) (by decide +kernel)
theorem zw_734 : Cond.code yX5_ahead cX5_ahead 3 (some .int) ∈ zk_T := zk_mem 734 (by decide +kernel) (by decide +kernel)
theorem zw_735 : Cond.methodLink RL 75 yX5_then ∈ zk_T := zk_mem 735 (by decide +kernel) (by decide +kernel)
theorem zw_736 : Cond.instanceMethod yX5_then ∈ zk_T := zk_mem 736 (by decide +kernel) (by decide +kernel)
theorem zw_737 : Cond.selects RX5 yX5_then yX5_then ∈ zk_T := zk_mem 737 (by decide +kernel) (by decide +kernel)
theorem zw_738 : Cond.code yX5_then cX5_then 2 (some .int) ∈ zk_T := zk_mem 738 (by decide +kernel) (by decide +kernel)
theorem zw_739 : Cond.methodLink RL 79 yX5_rises ∈ zk_T := zk_mem 739 (by decide +kernel) (by decide +kernel)
theorem zw_740 : Cond.instanceMethod yX5_rises ∈ zk_T := zk_mem 740 (by decide +kernel) (by decide +kernel)
theorem zw_741 : Cond.selects RX5 yX5_rises yX5_rises ∈ zk_T := zk_mem 741 (by decide +kernel) (by decide +kernel)
theorem zw_742 : Cond.code yX5_rises cX5_rises 7 (some .int) ∈ zk_T := zk_mem 742 (by decide +kernel) (by decide +kernel)
theorem zw_743 : Cond.methodLink RL 83 yX5_parts ∈ zk_T := zk_mem 743 (by decide +kernel) (by decide +kernel)
theorem zw_744 : Cond.instanceMethod yX5_parts ∈ zk_T := zk_mem 744 (by decide +kernel) (by decide +kernel)
theorem zw_745 : Cond.selects RX5 yX5_parts yX5_parts ∈ zk_T := zk_mem 745 (by decide +kernel) (by decide +kernel)
theorem zw_746 : Cond.code yX5_parts cX5_parts 3 (some .int) ∈ zk_T := zk_mem 746 (by decide +kernel) (by decide +kernel)
theorem zw_747 : Cond.methodLink RL 87 yX5_ever ∈ zk_T := zk_mem 747 (by decide +kernel) (by decide +kernel)
theorem zw_748 : Cond.instanceMethod yX5_ever ∈ zk_T := zk_mem 748 (by decide +kernel) (by decide +kernel)
theorem zw_749 : Cond.selects RX5 yX5_ever yX5_ever ∈ zk_T := zk_mem 749 (by decide +kernel) (by decide +kernel)
theorem zw_750 : Cond.code yX5_ever cX5_ever 4 (some .int) ∈ zk_T := zk_mem 750 (by decide +kernel) (by decide +kernel)
theorem zw_751 : Cond.methodLink RL 92 yX5_rivals ∈ zk_T := zk_mem 751 (by decide +kernel) (by decide +kernel)
theorem zw_752 : Cond.instanceMethod yX5_rivals ∈ zk_T := zk_mem 752 (by decide +kernel) (by decide +kernel)
theorem zw_753 : Cond.selects RX5 yX5_rivals yX5_rivals ∈ zk_T := zk_mem 753 (by decide +kernel) (by decide +kernel)
theorem zw_754 : Cond.code yX5_rivals cX5_rivals 7 (some .int) ∈ zk_T := zk_mem 754 (by decide +kernel) (by decide +kernel)
theorem zw_755 : Cond.methodLink RX5 148 yX5_bitsOf ∈ zk_T := zk_mem 755 (by decide +kernel) (by decide +kernel)
theorem zw_756 : Cond.static yX5_bitsOf ∈ zk_T := zk_mem 756 (by decide +kernel) (by decide +kernel)
theorem zw_757 : Cond.code yX5_bitsOf cX5_bitsOf 3 (some .int) ∈ zk_T := zk_mem 757 (by decide +kernel) (by decide +kernel)
theorem zw_758 : Cond.methodLink RL 96 yX5_needs ∈ zk_T := zk_mem 758 (by decide +kernel) (by decide +kernel)
theorem zw_759 : Cond.instanceMethod yX5_needs ∈ zk_T := zk_mem 759 (by decide +kernel) (by decide +kernel)
theorem zw_760 : Cond.selects RX5 yX5_needs yX5_needs ∈ zk_T := zk_mem 760 (by decide +kernel) (by decide +kernel)
theorem zw_761 : Cond.code yX5_needs cX5_needs 4 (some .int) ∈ zk_T := zk_mem 761 (by decide +kernel) (by decide +kernel)
theorem zw_762 : Cond.methodLink RL 100 yX5_soothe ∈ zk_T := zk_mem 762 (by decide +kernel) (by decide +kernel)
theorem zw_763 : Cond.instanceMethod yX5_soothe ∈ zk_T := zk_mem 763 (by decide +kernel) (by decide +kernel)
theorem zw_764 : Cond.selects RX5 yX5_soothe yX5_soothe ∈ zk_T := zk_mem 764 (by decide +kernel) (by decide +kernel)
theorem zw_765 : Cond.code yX5_soothe cX5_soothe 7 (some .int) ∈ zk_T := zk_mem 765 (by decide +kernel) (by decide +kernel)
theorem zw_766 : Cond.methodLink RL 104 yX5_start ∈ zk_T := zk_mem 766 (by decide +kernel) (by decide +kernel)
theorem zw_767 : Cond.instanceMethod yX5_start ∈ zk_T := zk_mem 767 (by decide +kernel) (by decide +kernel)
theorem zw_768 : Cond.selects RX5 yX5_start yX5_start ∈ zk_T := zk_mem 768 (by decide +kernel) (by decide +kernel)
theorem zw_769 : Cond.code yX5_start cX5_start 3 (some .int) ∈ zk_T := zk_mem 769 (by decide +kernel) (by decide +kernel)
theorem zw_770 : Cond.methodLink RL 108 yX5_sum ∈ zk_T := zk_mem 770 (by decide +kernel) (by decide +kernel)
theorem zw_771 : Cond.instanceMethod yX5_sum ∈ zk_T := zk_mem 771 (by decide +kernel) (by decide +kernel)
theorem zw_772 : Cond.selects RX5 yX5_sum yX5_sum ∈ zk_T := zk_mem 772 (by decide +kernel) (by decide +kernel)
theorem zw_773 : Cond.code yX5_sum cX5_sum 5 (some .int) ∈ zk_T := zk_mem 773 (by decide +kernel) (by decide +kernel)
theorem zw_774 : Cond.methodLink RL 112 yX5_rows ∈ zk_T := zk_mem 774 (by decide +kernel) (by decide +kernel)
theorem zw_775 : Cond.instanceMethod yX5_rows ∈ zk_T := zk_mem 775 (by decide +kernel) (by decide +kernel)
theorem zw_776 : Cond.selects RX5 yX5_rows yX5_rows ∈ zk_T := zk_mem 776 (by decide +kernel) (by decide +kernel)
theorem zw_777 : Cond.code yX5_rows cX5_rows 10 (some .int) ∈ zk_T := zk_mem 777 (by decide +kernel) (by decide +kernel)
theorem zw_778 : Cond.methodLink RL 116 yX5_image ∈ zk_T := zk_mem 778 (by decide +kernel) (by decide +kernel)
theorem zw_779 : Cond.instanceMethod yX5_image ∈ zk_T := zk_mem 779 (by decide +kernel) (by decide +kernel)
theorem zw_780 : Cond.selects RX5 yX5_image yX5_image ∈ zk_T := zk_mem 780 (by decide +kernel) (by decide +kernel)
theorem zw_781 : Cond.code yX5_image cX5_image 2 (some .int) ∈ zk_T := zk_mem 781 (by decide +kernel) (by decide +kernel)
theorem zw_782 : Cond.methodLink RL 120 yX5_restore ∈ zk_T := zk_mem 782 (by decide +kernel) (by decide +kernel)
theorem zw_783 : Cond.instanceMethod yX5_restore ∈ zk_T := zk_mem 783 (by decide +kernel) (by decide +kernel)
theorem zw_784 : Cond.selects RX5 yX5_restore yX5_restore ∈ zk_T := zk_mem 784 (by decide +kernel) (by decide +kernel)
theorem zw_785 : Cond.code yX5_restore cX5_restore 2 (some .int) ∈ zk_T := zk_mem 785 (by decide +kernel) (by decide +kernel)
theorem zw_786 : Cond.methodLink RL 125 yX5_heard ∈ zk_T := zk_mem 786 (by decide +kernel) (by decide +kernel)
theorem zw_787 : Cond.instanceMethod yX5_heard ∈ zk_T := zk_mem 787 (by decide +kernel) (by decide +kernel)
theorem zw_788 : Cond.selects RX5 yX5_heard yX5_heard ∈ zk_T := zk_mem 788 (by decide +kernel) (by decide +kernel)
theorem zw_789 : Cond.code yX5_heard cX5_heard 13 (some .int) ∈ zk_T := zk_mem 789 (by decide +kernel) (by decide +kernel)
theorem zw_790 : Cond.methodLink RX5 158 yX5_isSheet ∈ zk_T := zk_mem 790 (by decide +kernel) (by decide +kernel)
theorem zw_791 : Cond.static yX5_isSheet ∈ zk_T := zk_mem 791 (by decide +kernel) (by decide +kernel)
theorem zw_792 : Cond.code yX5_isSheet cX5_isSheet 1 (some .boolean) ∈ zk_T := zk_mem 792 (by decide +kernel) (by decide +kernel)
theorem zw_793 : Cond.methodLink RX5 161 yX5_findOf ∈ zk_T := zk_mem 793 (by decide +kernel) (by decide +kernel)
theorem zw_795 : Cond.instanceMethod yX5_findOf ∈ zk_T := zk_mem 795 (by decide +kernel) (by decide +kernel)
theorem zw_796 : Cond.code yX5_findOf cX5_findOf 5 (some .int) ∈ zk_T := zk_mem 796 (by decide +kernel) (by decide +kernel)
theorem zw_797 : Cond.methodLink RX5 165 yX5_isHeard ∈ zk_T := zk_mem 797 (by decide +kernel) (by decide +kernel)
theorem zw_799 : Cond.instanceMethod yX5_isHeard ∈ zk_T := zk_mem 799 (by decide +kernel) (by decide +kernel)
theorem zw_800 : Cond.code yX5_isHeard cX5_isHeard 7 (some .boolean) ∈ zk_T := zk_mem 800 (by decide +kernel) (by decide +kernel)
theorem zw_801 : Cond.methodLink RL 130 yX5_film ∈ zk_T := zk_mem 801 (by decide +kernel) (by decide +kernel)
theorem zw_802 : Cond.instanceMethod yX5_film ∈ zk_T := zk_mem 802 (by decide +kernel) (by decide +kernel)
theorem zw_803 : Cond.selects RX5 yX5_film yX5_film ∈ zk_T := zk_mem 803 (by decide +kernel) (by decide +kernel)
theorem zw_804 : Cond.code yX5_film cX5_film 8 (some .int) ∈ zk_T := zk_mem 804 (by decide +kernel) (by decide +kernel)
theorem zw_805 : Cond.methodLink RL 134 yX5_sheet ∈ zk_T := zk_mem 805 (by decide +kernel) (by decide +kernel)
theorem zw_806 : Cond.instanceMethod yX5_sheet ∈ zk_T := zk_mem 806 (by decide +kernel) (by decide +kernel)
theorem zw_807 : Cond.selects RX5 yX5_sheet yX5_sheet ∈ zk_T := zk_mem 807 (by decide +kernel) (by decide +kernel)
theorem zw_808 : Cond.code yX5_sheet cX5_sheet 5 (some .int) ∈ zk_T := zk_mem 808 (by decide +kernel) (by decide +kernel)
theorem zw_809 : Cond.methodLink RL 138 yX5_drop ∈ zk_T := zk_mem 809 (by decide +kernel) (by decide +kernel)
theorem zw_810 : Cond.instanceMethod yX5_drop ∈ zk_T := zk_mem 810 (by decide +kernel) (by decide +kernel)
theorem zw_811 : Cond.selects RX5 yX5_drop yX5_drop ∈ zk_T := zk_mem 811 (by decide +kernel) (by decide +kernel)
theorem zw_812 : Cond.code yX5_drop cX5_drop 2 (some .int) ∈ zk_T := zk_mem 812 (by decide +kernel) (by decide +kernel)
theorem zw_813 : Cond.methodLink RL 145 yX5_item ∈ zk_T := zk_mem 813 (by decide +kernel) (by decide +kernel)
theorem zw_814 : Cond.instanceMethod yX5_item ∈ zk_T := zk_mem 814 (by decide +kernel) (by decide +kernel)
theorem zw_815 : Cond.selects RX5 yX5_item yX5_item ∈ zk_T := zk_mem 815 (by decide +kernel) (by decide +kernel)
theorem zw_816 : Cond.code yX5_item cX5_item 7 (some .int) ∈ zk_T := zk_mem 816 (by decide +kernel) (by decide +kernel)
theorem zw_817 : Cond.methodLink RX5 169 yX5_lowest ∈ zk_T := zk_mem 817 (by decide +kernel) (by decide +kernel)
theorem zw_818 : Cond.static yX5_lowest ∈ zk_T := zk_mem 818 (by decide +kernel) (by decide +kernel)
theorem zw_819 : Cond.code yX5_lowest cX5_lowest 3 (some .long) ∈ zk_T := zk_mem 819 (by decide +kernel) (by decide +kernel)
theorem zw_820 : Cond.methodLink RL 149 yX5_copy ∈ zk_T := zk_mem 820 (by decide +kernel) (by decide +kernel)
theorem zw_821 : Cond.instanceMethod yX5_copy ∈ zk_T := zk_mem 821 (by decide +kernel) (by decide +kernel)
theorem zw_822 : Cond.selects RX5 yX5_copy yX5_copy ∈ zk_T := zk_mem 822 (by decide +kernel) (by decide +kernel)
theorem zw_823 : Cond.code yX5_copy cX5_copy 7 (some .int) ∈ zk_T := zk_mem 823 (by decide +kernel) (by decide +kernel)
theorem zw_824 : Cond.constantLong RL 139 (4294967295) ∈ zk_T := zk_mem 824 (by decide +kernel) (by decide +kernel)
end
section
-- java/lang/Integer.bitCount(I)I
def f_J6_bitCount_0f7a4 (N : Nat) (x0 : Int32) (μ : ZM) : Option (Int32 × ZM) :=
  some (((((((((x0 - ((UInt32.toInt32 (Int32.toUInt32 x0 >>> (Int32.toUInt32 1 &&& Int32.toUInt32 31))) &&& 1431655765)) &&& 858993459) + ((UInt32.toInt32 (Int32.toUInt32 (x0 - ((UInt32.toInt32 (Int32.toUInt32 x0 >>> (Int32.toUInt32 1 &&& Int32.toUInt32 31))) &&& 1431655765)) >>> (Int32.toUInt32 2 &&& Int32.toUInt32 31))) &&& 858993459)) + (UInt32.toInt32 (Int32.toUInt32 (((x0 - ((UInt32.toInt32 (Int32.toUInt32 x0 >>> (Int32.toUInt32 1 &&& Int32.toUInt32 31))) &&& 1431655765)) &&& 858993459) + ((UInt32.toInt32 (Int32.toUInt32 (x0 - ((UInt32.toInt32 (Int32.toUInt32 x0 >>> (Int32.toUInt32 1 &&& Int32.toUInt32 31))) &&& 1431655765)) >>> (Int32.toUInt32 2 &&& Int32.toUInt32 31))) &&& 858993459)) >>> (Int32.toUInt32 4 &&& Int32.toUInt32 31)))) &&& 252645135) + (UInt32.toInt32 (Int32.toUInt32 (((((x0 - ((UInt32.toInt32 (Int32.toUInt32 x0 >>> (Int32.toUInt32 1 &&& Int32.toUInt32 31))) &&& 1431655765)) &&& 858993459) + ((UInt32.toInt32 (Int32.toUInt32 (x0 - ((UInt32.toInt32 (Int32.toUInt32 x0 >>> (Int32.toUInt32 1 &&& Int32.toUInt32 31))) &&& 1431655765)) >>> (Int32.toUInt32 2 &&& Int32.toUInt32 31))) &&& 858993459)) + (UInt32.toInt32 (Int32.toUInt32 (((x0 - ((UInt32.toInt32 (Int32.toUInt32 x0 >>> (Int32.toUInt32 1 &&& Int32.toUInt32 31))) &&& 1431655765)) &&& 858993459) + ((UInt32.toInt32 (Int32.toUInt32 (x0 - ((UInt32.toInt32 (Int32.toUInt32 x0 >>> (Int32.toUInt32 1 &&& Int32.toUInt32 31))) &&& 1431655765)) >>> (Int32.toUInt32 2 &&& Int32.toUInt32 31))) &&& 858993459)) >>> (Int32.toUInt32 4 &&& Int32.toUInt32 31)))) &&& 252645135) >>> (Int32.toUInt32 8 &&& Int32.toUInt32 31)))) + (UInt32.toInt32 (Int32.toUInt32 ((((((x0 - ((UInt32.toInt32 (Int32.toUInt32 x0 >>> (Int32.toUInt32 1 &&& Int32.toUInt32 31))) &&& 1431655765)) &&& 858993459) + ((UInt32.toInt32 (Int32.toUInt32 (x0 - ((UInt32.toInt32 (Int32.toUInt32 x0 >>> (Int32.toUInt32 1 &&& Int32.toUInt32 31))) &&& 1431655765)) >>> (Int32.toUInt32 2 &&& Int32.toUInt32 31))) &&& 858993459)) + (UInt32.toInt32 (Int32.toUInt32 (((x0 - ((UInt32.toInt32 (Int32.toUInt32 x0 >>> (Int32.toUInt32 1 &&& Int32.toUInt32 31))) &&& 1431655765)) &&& 858993459) + ((UInt32.toInt32 (Int32.toUInt32 (x0 - ((UInt32.toInt32 (Int32.toUInt32 x0 >>> (Int32.toUInt32 1 &&& Int32.toUInt32 31))) &&& 1431655765)) >>> (Int32.toUInt32 2 &&& Int32.toUInt32 31))) &&& 858993459)) >>> (Int32.toUInt32 4 &&& Int32.toUInt32 31)))) &&& 252645135) + (UInt32.toInt32 (Int32.toUInt32 (((((x0 - ((UInt32.toInt32 (Int32.toUInt32 x0 >>> (Int32.toUInt32 1 &&& Int32.toUInt32 31))) &&& 1431655765)) &&& 858993459) + ((UInt32.toInt32 (Int32.toUInt32 (x0 - ((UInt32.toInt32 (Int32.toUInt32 x0 >>> (Int32.toUInt32 1 &&& Int32.toUInt32 31))) &&& 1431655765)) >>> (Int32.toUInt32 2 &&& Int32.toUInt32 31))) &&& 858993459)) + (UInt32.toInt32 (Int32.toUInt32 (((x0 - ((UInt32.toInt32 (Int32.toUInt32 x0 >>> (Int32.toUInt32 1 &&& Int32.toUInt32 31))) &&& 1431655765)) &&& 858993459) + ((UInt32.toInt32 (Int32.toUInt32 (x0 - ((UInt32.toInt32 (Int32.toUInt32 x0 >>> (Int32.toUInt32 1 &&& Int32.toUInt32 31))) &&& 1431655765)) >>> (Int32.toUInt32 2 &&& Int32.toUInt32 31))) &&& 858993459)) >>> (Int32.toUInt32 4 &&& Int32.toUInt32 31)))) &&& 252645135) >>> (Int32.toUInt32 8 &&& Int32.toUInt32 31)))) >>> (Int32.toUInt32 16 &&& Int32.toUInt32 31)))) &&& 63), μ)
def g_J6_bitCount_0f7a4 (N : Nat) (as : List ZV) (μ : ZM) : Option (Int32 × ZM) := match as with
  | [.inl x0] => f_J6_bitCount_0f7a4 N x0 μ
  | _ => none
theorem g_J6_bitCount_0f7a4_i {N : Nat} {as : List ZV} {μ : ZM} {r : Int32 × ZM} (h : g_J6_bitCount_0f7a4 N as μ = some r) : ∃ (x0 : Int32), as = [.inl x0] ∧ f_J6_bitCount_0f7a4 N x0 μ = some r := by
  unfold g_J6_bitCount_0f7a4 at h
  split at h
  · exact ⟨_, rfl, h⟩
  · cases h
set_option maxRecDepth 100000 in
theorem c_J6_bitCount_0f7a4 (N : Nat) : zk_C yJ6_bitCount_0f7a4 cJ6_bitCount_0f7a4 1 (some .int) ({ frames := 0, cells := 0, slots := 0, locals := 0 } : Room) zq_I (g_J6_bitCount_0f7a4 N) := by
  refine zk_met ?κ (by decide +kernel) ?hG ?body
  case body =>
    intro X E C
    have C : zk_X X E RJ6 cJ6_bitCount_0f7a4 1 (some .int) ({ frames := 0, cells := 0, slots := 0, locals := 0 } : Room) := C
    have h52 := zs_iret C dJ6_bitCount_0f7a4_52
    have h51 := zs_iand C dJ6_bitCount_0f7a4_51 h52
    have h49 := zs_bipush (v := 63) C dJ6_bitCount_0f7a4_49 (by decide) h51
    have h48 := zs_iload_n (i := 0) C dJ6_bitCount_0f7a4_48 rfl h49
    have h47 := zs_istore_n (i := 0) C dJ6_bitCount_0f7a4_47 rfl h48
    have h46 := zs_iadd C dJ6_bitCount_0f7a4_46 h47
    have h45 := zs_iushr C dJ6_bitCount_0f7a4_45 h46
    have h43 := zs_bipush (v := 16) C dJ6_bitCount_0f7a4_43 (by decide) h45
    have h42 := zs_iload_n (i := 0) C dJ6_bitCount_0f7a4_42 rfl h43
    have h41 := zs_iload_n (i := 0) C dJ6_bitCount_0f7a4_41 rfl h42
    have h40 := zs_istore_n (i := 0) C dJ6_bitCount_0f7a4_40 rfl h41
    have h39 := zs_iadd C dJ6_bitCount_0f7a4_39 h40
    have h38 := zs_iushr C dJ6_bitCount_0f7a4_38 h39
    have h36 := zs_bipush (v := 8) C dJ6_bitCount_0f7a4_36 (by decide) h38
    have h35 := zs_iload_n (i := 0) C dJ6_bitCount_0f7a4_35 rfl h36
    have h34 := zs_iload_n (i := 0) C dJ6_bitCount_0f7a4_34 rfl h35
    have h33 := zs_istore_n (i := 0) C dJ6_bitCount_0f7a4_33 rfl h34
    have h32 := zs_iand C dJ6_bitCount_0f7a4_32 h33
    have h29 := zs_ldcw (v := 252645135) C dJ6_bitCount_0f7a4_29 zw_405 h32
    have h28 := zs_iadd C dJ6_bitCount_0f7a4_28 h29
    have h27 := zs_iushr C dJ6_bitCount_0f7a4_27 h28
    have h26 := zs_iconst (v := 4) C dJ6_bitCount_0f7a4_26 (by decide) h27
    have h25 := zs_iload_n (i := 0) C dJ6_bitCount_0f7a4_25 rfl h26
    have h24 := zs_iload_n (i := 0) C dJ6_bitCount_0f7a4_24 rfl h25
    have h23 := zs_istore_n (i := 0) C dJ6_bitCount_0f7a4_23 rfl h24
    have h22 := zs_iadd C dJ6_bitCount_0f7a4_22 h23
    have h21 := zs_iand C dJ6_bitCount_0f7a4_21 h22
    have h18 := zs_ldcw (v := 858993459) C dJ6_bitCount_0f7a4_18 zw_404 h21
    have h17 := zs_iushr C dJ6_bitCount_0f7a4_17 h18
    have h16 := zs_iconst (v := 2) C dJ6_bitCount_0f7a4_16 (by decide) h17
    have h15 := zs_iload_n (i := 0) C dJ6_bitCount_0f7a4_15 rfl h16
    have h14 := zs_iand C dJ6_bitCount_0f7a4_14 h15
    have h11 := zs_ldcw (v := 858993459) C dJ6_bitCount_0f7a4_11 zw_404 h14
    have h10 := zs_iload_n (i := 0) C dJ6_bitCount_0f7a4_10 rfl h11
    have h9 := zs_istore_n (i := 0) C dJ6_bitCount_0f7a4_9 rfl h10
    have h8 := zs_isub C dJ6_bitCount_0f7a4_8 h9
    have h7 := zs_iand C dJ6_bitCount_0f7a4_7 h8
    have h4 := zs_ldcw (v := 1431655765) C dJ6_bitCount_0f7a4_4 zw_403 h7
    have h3 := zs_iushr C dJ6_bitCount_0f7a4_3 h4
    have h2 := zs_iconst (v := 1) C dJ6_bitCount_0f7a4_2 (by decide) h3
    have h1 := zs_iload_n (i := 0) C dJ6_bitCount_0f7a4_1 rfl h2
    have h0 := zs_iload_n (i := 0) C dJ6_bitCount_0f7a4_0 rfl h1
    exact h0
  case hG =>
    intro as μ r h
    obtain ⟨x0, rfl, h⟩ := g_J6_bitCount_0f7a4_i h
    exact ⟨Nat.le_of_ble_eq_true rfl, h⟩
theorem m_J6_bitCount_0f7a4 (N : Nat) : zk_MS yJ6_bitCount_0f7a4 cJ6_bitCount_0f7a4 1 (some .int) ({ frames := 0, cells := 0, slots := 0, locals := 0 } : Room) zq_I (g_J6_bitCount_0f7a4 N) 1 := ⟨c_J6_bitCount_0f7a4 N, zw_402, zw_401, zw_34, rfl, rfl, by decide +kernel⟩
end
section
-- LongestWed$Town.settle(IIIIZ)I
def f_X3_settle (N : Nat) (x0 : Nat) (x1 : Int32) (x2 : Int32) (x3 : Int32) (x4 : Int32) (x5 : Int32) (μ : ZM) : Option (Int32 × ZM) :=
  if (μ.1 x0 4) < (7 : Int32) then
    if zk_o (μ.1 x0 4) 7 = true then none else
    let μ1 := zk_si μ (x0 + 1) (Int32.toNatClampNeg (μ.1 x0 4)) x1
    if zk_o (μ.1 x0 4) 7 = true then none else
    let μ2 := zk_si μ1 (x0 + 2) (Int32.toNatClampNeg (μ.1 x0 4)) x2
    if zk_o (μ.1 x0 4) 7 = true then none else
    let μ3 := zk_si μ2 (x0 + 3) (Int32.toNatClampNeg (μ.1 x0 4)) x3
    if zk_o (μ.1 x0 4) 7 = true then none else
    let μ4 := zk_si μ3 (x0 + 4) (Int32.toNatClampNeg (μ.1 x0 4)) x4
    let j67 : ZM → Option (Int32 × ZM) := fun μ5 =>
      let μ6 := zk_si μ5 x0 4 ((μ.1 x0 4) + 1)
      some ((μ.1 x0 4), μ6)
    if x5 = 0 then
      j67 μ4
    else
      let μ7 := zk_si μ4 x0 5 ((μ4.1 x0 5) ||| (1 <<< ((μ.1 x0 4) &&& 31)))
      j67 μ7
  else
    some ((-3), μ)
def g_X3_settle (N : Nat) (as : List ZV) (μ : ZM) : Option (Int32 × ZM) := match as with
  | [.inr (.inr (3, x0)), .inl x1, .inl x2, .inl x3, .inl x4, .inl x5] => f_X3_settle N x0 x1 x2 x3 x4 x5 μ
  | _ => none
theorem g_X3_settle_i {N : Nat} {as : List ZV} {μ : ZM} {r : Int32 × ZM} (h : g_X3_settle N as μ = some r) : ∃ (x0 : Nat) (x1 : Int32) (x2 : Int32) (x3 : Int32) (x4 : Int32) (x5 : Int32), as = [.inr (.inr (3, x0)), .inl x1, .inl x2, .inl x3, .inl x4, .inl x5] ∧ f_X3_settle N x0 x1 x2 x3 x4 x5 μ = some r := by
  unfold g_X3_settle at h
  split at h
  · exact ⟨_, _, _, _, _, _, rfl, h⟩
  · cases h
set_option maxRecDepth 100000 in
theorem c_X3_settle (N : Nat) : zk_C yX3_settle cX3_settle 7 (some .int) ({ frames := 0, cells := 0, slots := 0, locals := 0 } : Room) zq_I (g_X3_settle N) := by
  refine zk_met ?κ (by decide +kernel) ?hG ?body
  case body =>
    intro X E C
    have C : zk_X X E RX3 cX3_settle 7 (some .int) ({ frames := 0, cells := 0, slots := 0, locals := 0 } : Room) := C
    have h77 := zs_iret C dX3_settle_77
    have h75 := zs_iload (i := 6) C dX3_settle_75 h77
    have h72 := zs_pI C dX3_settle_72 zf_3_4 zw_57 rfl (by decide +kernel) h75
    have h71 := zs_iadd C dX3_settle_71 h72
    have h70 := zs_iconst (v := 1) C dX3_settle_70 (by decide) h71
    have h68 := zs_iload (i := 6) C dX3_settle_68 h70
    have h67 := zs_aload_n (i := 0) C dX3_settle_67 rfl h68
    have h64 := zs_pI C dX3_settle_64 zf_3_5 zw_59 rfl (by decide +kernel) h67
    have h63 := zs_ior C dX3_settle_63 h64
    have h62 := zs_ishl C dX3_settle_62 h63
    have h60 := zs_iload (i := 6) C dX3_settle_60 h62
    have h59 := zs_iconst (v := 1) C dX3_settle_59 (by decide) h60
    have h56 := zs_gI C dX3_settle_56 zf_3_5 zw_59 h59
    have h55 := zs_dup C dX3_settle_55 h56
    have h54 := zs_aload_n (i := 0) C dX3_settle_54 rfl h55
    have h51 := zs_if_eq (tgt := 67) C dX3_settle_51 (by decide) h67 h54
    have h49 := zs_iload (i := 5) C dX3_settle_49 h51
    have h48 := zs_iast (n := 7) C dX3_settle_48 (by decide) h49
    have h46 := zs_iload (i := 4) C dX3_settle_46 h48
    have h44 := zs_iload (i := 6) C dX3_settle_44 h46
    have h41 := zs_gR C dX3_settle_41 zf_3_3 zw_55 h44
    have h40 := zs_aload_n (i := 0) C dX3_settle_40 rfl h41
    have h39 := zs_iast (n := 7) C dX3_settle_39 (by decide) h40
    have h38 := zs_iload_n (i := 3) C dX3_settle_38 rfl h39
    have h36 := zs_iload (i := 6) C dX3_settle_36 h38
    have h33 := zs_gR C dX3_settle_33 zf_3_2 zw_53 h36
    have h32 := zs_aload_n (i := 0) C dX3_settle_32 rfl h33
    have h31 := zs_iast (n := 7) C dX3_settle_31 (by decide) h32
    have h30 := zs_iload_n (i := 2) C dX3_settle_30 rfl h31
    have h28 := zs_iload (i := 6) C dX3_settle_28 h30
    have h25 := zs_gR C dX3_settle_25 zf_3_1 zw_51 h28
    have h24 := zs_aload_n (i := 0) C dX3_settle_24 rfl h25
    have h23 := zs_iast (n := 7) C dX3_settle_23 (by decide) h24
    have h22 := zs_iload_n (i := 1) C dX3_settle_22 rfl h23
    have h20 := zs_iload (i := 6) C dX3_settle_20 h22
    have h17 := zs_gR C dX3_settle_17 zf_3_0 zw_49 h20
    have h16 := zs_aload_n (i := 0) C dX3_settle_16 rfl h17
    have h15 := zs_iret C dX3_settle_15
    have h13 := zs_bipush (v := (-3)) C dX3_settle_13 (by decide) h15
    have h10 := zs_icmp_lt (tgt := 16) C dX3_settle_10 (by decide) h16 h13
    have h8 := zs_bipush (v := 7) C dX3_settle_8 (by decide) h10
    have h6 := zs_iload (i := 6) C dX3_settle_6 h8
    have h4 := zs_istore (i := 6) C dX3_settle_4 h6
    have h1 := zs_gI C dX3_settle_1 zf_3_4 zw_57 h4
    have h0 := zs_aload_n (i := 0) C dX3_settle_0 rfl h1
    exact h0
  case hG =>
    intro as μ r h
    obtain ⟨x0, x1, x2, x3, x4, x5, rfl, h⟩ := g_X3_settle_i h
    exact ⟨Nat.le_of_ble_eq_true rfl, h⟩
theorem m_X3_settle (N : Nat) : zk_MV yX3_settle cX3_settle 7 (some .int) ({ frames := 0, cells := 0, slots := 0, locals := 0 } : Room) zq_I (g_X3_settle N) 5 3 := ⟨c_X3_settle N, zw_184, zw_182, zw_183, zw_27, rfl, rfl, by decide +kernel, by decide, ⟨TX3, 8, rfl⟩, fun as μ r h => by obtain ⟨x0, x1, x2, x3, x4, x5, rfl, -⟩ := g_X3_settle_i h; exact ⟨_, _, rfl⟩⟩
-- LongestWed$Town.isTogether(I)Z
def f_X3_isTogether (N : Nat) (x0 : Nat) (x1 : Int32) (μ : ZM) : Option (Int32 × ZM) :=
  if ((μ.1 x0 5) &&& (1 <<< (x1 &&& 31))) = 0 then
    zk_zr 0 μ
  else
    zk_zr 1 μ
def g_X3_isTogether (N : Nat) (as : List ZV) (μ : ZM) : Option (Int32 × ZM) := match as with
  | [.inr (.inr (3, x0)), .inl x1] => f_X3_isTogether N x0 x1 μ
  | _ => none
theorem g_X3_isTogether_i {N : Nat} {as : List ZV} {μ : ZM} {r : Int32 × ZM} (h : g_X3_isTogether N as μ = some r) : ∃ (x0 : Nat) (x1 : Int32), as = [.inr (.inr (3, x0)), .inl x1] ∧ f_X3_isTogether N x0 x1 μ = some r := by
  unfold g_X3_isTogether at h
  split at h
  · exact ⟨_, _, rfl, h⟩
  · cases h
set_option maxRecDepth 100000 in
theorem c_X3_isTogether (N : Nat) : zk_C yX3_isTogether cX3_isTogether 2 (some .boolean) ({ frames := 0, cells := 0, slots := 0, locals := 0 } : Room) zq_I (g_X3_isTogether N) := by
  refine zk_met ?κ (by decide +kernel) ?hG ?body
  case body =>
    intro X E C
    have C : zk_X X E RX3 cX3_isTogether 2 (some .boolean) ({ frames := 0, cells := 0, slots := 0, locals := 0 } : Room) := C
    have h16 := zs_zret C dX3_isTogether_16
    have h15 := zs_iconst (v := 0) C dX3_isTogether_15 (by decide) h16
    have h12 := zs_goto (tgt := 16) C dX3_isTogether_12 (by decide) h16
    have h11 := zs_iconst (v := 1) C dX3_isTogether_11 (by decide) h12
    have h8 := zs_if_eq (tgt := 15) C dX3_isTogether_8 (by decide) h15 h11
    have h7 := zs_iand C dX3_isTogether_7 h8
    have h6 := zs_ishl C dX3_isTogether_6 h7
    have h5 := zs_iload_n (i := 1) C dX3_isTogether_5 rfl h6
    have h4 := zs_iconst (v := 1) C dX3_isTogether_4 (by decide) h5
    have h1 := zs_gI C dX3_isTogether_1 zf_3_5 zw_59 h4
    have h0 := zs_aload_n (i := 0) C dX3_isTogether_0 rfl h1
    exact h0
  case hG =>
    intro as μ r h
    obtain ⟨x0, x1, rfl, h⟩ := g_X3_isTogether_i h
    exact ⟨Nat.le_of_ble_eq_true rfl, h⟩
theorem m_X3_isTogether (N : Nat) : zk_MV yX3_isTogether cX3_isTogether 2 (some .boolean) ({ frames := 0, cells := 0, slots := 0, locals := 0 } : Room) zq_I (g_X3_isTogether N) 1 3 := ⟨c_X3_isTogether N, zw_196, zw_194, zw_195, zw_27, rfl, rfl, by decide +kernel, by decide, ⟨TX3, 8, rfl⟩, fun as μ r h => by obtain ⟨x0, x1, rfl, -⟩ := g_X3_isTogether_i h; exact ⟨_, _, rfl⟩⟩
-- LongestWed$Town.longestOf(I)I
def f_X3_longestOf_L5 (N : Nat) : Nat → Nat → Int32 → Int32 → Int32 → ZM → Option (Int32 × ZM)
  | 0, _, _, _, _, _ => none
  | n + 1, x0, x1, x2, x3, μ =>
    if (μ.1 x0 4) ≤ x3 then
      some (x2, μ)
    else
      if (x1 &&& (1 <<< (x3 &&& 31))) = 0 then
        f_X3_longestOf_L5 N n x0 x1 x2 (x3 + 1) μ
      else
        let j40 : Unit → Option (Int32 × ZM) := fun u1 =>
          f_X3_longestOf_L5 N n x0 x1 x3 (x3 + 1) μ
        if x2 < 0 then
          j40 ()
        else
          if zk_o x3 7 = true then none else
          if zk_o x2 7 = true then none else
          if (μ.1 (x0 + 2) (Int32.toNatClampNeg x3)) ≤ (μ.1 (x0 + 2) (Int32.toNatClampNeg x2)) then
            f_X3_longestOf_L5 N n x0 x1 x2 (x3 + 1) μ
          else
            j40 ()
def k_X3_longestOf_L5 (N n : Nat) : ZK (Int32 × ZM) := fun L st μ => match L, st with
  | [some (.inr (.inr (3, x0))), some (.inl x1), some (.inl x2), some (.inl x3)], [] => f_X3_longestOf_L5 N n x0 x1 x2 x3 μ
  | _, _ => none
theorem k_X3_longestOf_L5_i {N : Nat} {n : Nat} {L : ZL} {st : List ZV} {μ : ZM} {r : Int32 × ZM} (h : k_X3_longestOf_L5 N n L st μ = some r) : ∃ (x0 : Nat) (x1 : Int32) (x2 : Int32) (x3 : Int32), L = [some (.inr (.inr (3, x0))), some (.inl x1), some (.inl x2), some (.inl x3)] ∧ st = [] ∧ f_X3_longestOf_L5 N n x0 x1 x2 x3 μ = some r := by
  unfold k_X3_longestOf_L5 at h
  split at h
  · exact ⟨_, _, _, _, rfl, rfl, h⟩
  · cases h
set_option maxRecDepth 100000 in
theorem s_X3_longestOf_L5 (N : Nat) {X : ZX} {E : ZE} (C : zk_X X E RX3 cX3_longestOf 4 (some .int) ({ frames := 0, cells := 0, slots := 0, locals := 0 } : Room)) : ∀ n, zk_S X E 4 zq_I 5 (k_X3_longestOf_L5 N n) := by
  intro n
  induction n with
  | zero =>
    intro H locs ls L st μ r h hL hst hW hS
    obtain ⟨x0, x1, x2, x3, rfl, rfl, h⟩ := k_X3_longestOf_L5_i h
    exact nomatch (show none = some r from h)
  | succ n ih =>
    have h49 := zs_iret C dX3_longestOf_49
    have h48 := zs_iload_n (i := 2) C dX3_longestOf_48 rfl h49
    have h45 := zs_goto (tgt := 5) C dX3_longestOf_45 (by decide) ih
    have h42 := zs_iinc (n := 1) C dX3_longestOf_42 (by decide) h45
    have h41 := zs_istore_n (i := 2) C dX3_longestOf_41 rfl h42
    have h40 := zs_iload_n (i := 3) C dX3_longestOf_40 rfl h41
    have h37 := zs_icmp_le (tgt := 42) C dX3_longestOf_37 (by decide) h42 h40
    have h36 := zs_iald (n := 7) C dX3_longestOf_36 (by decide) h37
    have h35 := zs_iload_n (i := 2) C dX3_longestOf_35 rfl h36
    have h32 := zs_gR C dX3_longestOf_32 zf_3_1 zw_51 h35
    have h31 := zs_aload_n (i := 0) C dX3_longestOf_31 rfl h32
    have h30 := zs_iald (n := 7) C dX3_longestOf_30 (by decide) h31
    have h29 := zs_iload_n (i := 3) C dX3_longestOf_29 rfl h30
    have h26 := zs_gR C dX3_longestOf_26 zf_3_1 zw_51 h29
    have h25 := zs_aload_n (i := 0) C dX3_longestOf_25 rfl h26
    have h22 := zs_if_lt (tgt := 40) C dX3_longestOf_22 (by decide) h40 h25
    have h21 := zs_iload_n (i := 2) C dX3_longestOf_21 rfl h22
    have h18 := zs_if_eq (tgt := 42) C dX3_longestOf_18 (by decide) h42 h21
    have h17 := zs_iand C dX3_longestOf_17 h18
    have h16 := zs_ishl C dX3_longestOf_16 h17
    have h15 := zs_iload_n (i := 3) C dX3_longestOf_15 rfl h16
    have h14 := zs_iconst (v := 1) C dX3_longestOf_14 (by decide) h15
    have h13 := zs_iload_n (i := 1) C dX3_longestOf_13 rfl h14
    have h10 := zs_icmp_ge (tgt := 48) C dX3_longestOf_10 (by decide) h48 h13
    have h7 := zs_gI C dX3_longestOf_7 zf_3_4 zw_57 h10
    have h6 := zs_aload_n (i := 0) C dX3_longestOf_6 rfl h7
    have h5 := zs_iload_n (i := 3) C dX3_longestOf_5 rfl h6
    intro H locs ls L st μ r h hL hst hW hS
    obtain ⟨x0, x1, x2, x3, rfl, rfl, h⟩ := k_X3_longestOf_L5_i h
    exact h5 H locs ls [some (.inr (.inr (3, x0))), some (.inl x1), some (.inl x2), some (.inl x3)] [] μ r h (hL.less ⟨rfl, rfl, rfl, rfl, trivial⟩) hst hW hS
def f_X3_longestOf (N : Nat) (x0 : Nat) (x1 : Int32) (μ : ZM) : Option (Int32 × ZM) :=
  f_X3_longestOf_L5 N N x0 x1 (-4) 0 μ
def g_X3_longestOf (N : Nat) (as : List ZV) (μ : ZM) : Option (Int32 × ZM) := match as with
  | [.inr (.inr (3, x0)), .inl x1] => f_X3_longestOf N x0 x1 μ
  | _ => none
theorem g_X3_longestOf_i {N : Nat} {as : List ZV} {μ : ZM} {r : Int32 × ZM} (h : g_X3_longestOf N as μ = some r) : ∃ (x0 : Nat) (x1 : Int32), as = [.inr (.inr (3, x0)), .inl x1] ∧ f_X3_longestOf N x0 x1 μ = some r := by
  unfold g_X3_longestOf at h
  split at h
  · exact ⟨_, _, rfl, h⟩
  · cases h
set_option maxRecDepth 100000 in
theorem c_X3_longestOf (N : Nat) : zk_C yX3_longestOf cX3_longestOf 4 (some .int) ({ frames := 0, cells := 0, slots := 0, locals := 0 } : Room) zq_I (g_X3_longestOf N) := by
  refine zk_met ?κ (by decide +kernel) ?hG ?body
  case body =>
    intro X E C
    have C : zk_X X E RX3 cX3_longestOf 4 (some .int) ({ frames := 0, cells := 0, slots := 0, locals := 0 } : Room) := C
    have e5 := s_X3_longestOf_L5 N C N
    have h4 := zs_istore_n (i := 3) C dX3_longestOf_4 rfl e5
    have h3 := zs_iconst (v := 0) C dX3_longestOf_3 (by decide) h4
    have h2 := zs_istore_n (i := 2) C dX3_longestOf_2 rfl h3
    have h0 := zs_bipush (v := (-4)) C dX3_longestOf_0 (by decide) h2
    exact h0
  case hG =>
    intro as μ r h
    obtain ⟨x0, x1, rfl, h⟩ := g_X3_longestOf_i h
    exact ⟨Nat.le_of_ble_eq_true rfl, h⟩
theorem m_X3_longestOf (N : Nat) : zk_MV yX3_longestOf cX3_longestOf 4 (some .int) ({ frames := 0, cells := 0, slots := 0, locals := 0 } : Room) zq_I (g_X3_longestOf N) 1 3 := ⟨c_X3_longestOf N, zw_208, zw_206, zw_207, zw_27, rfl, rfl, by decide +kernel, by decide, ⟨TX3, 8, rfl⟩, fun as μ r h => by obtain ⟨x0, x1, rfl, -⟩ := g_X3_longestOf_i h; exact ⟨_, _, rfl⟩⟩
-- LongestWed$Town.keeper()I
def f_X3_keeper (N : Nat) (x0 : Nat) (μ : ZM) : Option (Int32 × ZM) :=
  (f_X3_longestOf N x0 (μ.1 x0 5) μ).bind fun r1 =>
  some (r1.1, r1.2)
def g_X3_keeper (N : Nat) (as : List ZV) (μ : ZM) : Option (Int32 × ZM) := match as with
  | [.inr (.inr (3, x0))] => f_X3_keeper N x0 μ
  | _ => none
theorem g_X3_keeper_i {N : Nat} {as : List ZV} {μ : ZM} {r : Int32 × ZM} (h : g_X3_keeper N as μ = some r) : ∃ (x0 : Nat), as = [.inr (.inr (3, x0))] ∧ f_X3_keeper N x0 μ = some r := by
  unfold g_X3_keeper at h
  split at h
  · exact ⟨_, rfl, h⟩
  · cases h
set_option maxRecDepth 100000 in
theorem c_X3_keeper (N : Nat) : zk_C yX3_keeper cX3_keeper 1 (some .int) ({ frames := 1, cells := 0, slots := 0, locals := 23 } : Room) zq_I (g_X3_keeper N) := by
  refine zk_met ?κ (by decide +kernel) ?hG ?body
  case body =>
    intro X E C
    have C : zk_X X E RX3 cX3_keeper 1 (some .int) ({ frames := 1, cells := 0, slots := 0, locals := 23 } : Room) := C
    have h8 := zs_iret C dX3_keeper_8
    have h5 := zs_vI C dX3_keeper_5 (m_X3_longestOf N) zw_205 ⟨Nat.le_of_ble_eq_true rfl, Nat.le_of_ble_eq_true rfl⟩ h8
    have h2 := zs_gI C dX3_keeper_2 zf_3_5 zw_59 h5
    have h1 := zs_aload_n (i := 0) C dX3_keeper_1 rfl h2
    have h0 := zs_aload_n (i := 0) C dX3_keeper_0 rfl h1
    exact h0
  case hG =>
    intro as μ r h
    obtain ⟨x0, rfl, h⟩ := g_X3_keeper_i h
    exact ⟨Nat.le_of_ble_eq_true rfl, h⟩
theorem m_X3_keeper (N : Nat) : zk_MV yX3_keeper cX3_keeper 1 (some .int) ({ frames := 1, cells := 0, slots := 0, locals := 23 } : Room) zq_I (g_X3_keeper N) 0 3 := ⟨c_X3_keeper N, zw_204, zw_202, zw_203, zw_27, rfl, rfl, by decide +kernel, by decide, ⟨TX3, 8, rfl⟩, fun as μ r h => by obtain ⟨x0, rfl, -⟩ := g_X3_keeper_i h; exact ⟨_, _, rfl⟩⟩
-- LongestWed$Town.secondTo(I)I
def f_X3_secondTo (N : Nat) (x0 : Nat) (x1 : Int32) (μ : ZM) : Option (Int32 × ZM) :=
  if 0 ≤ x1 then
    (f_X3_longestOf N x0 ((μ.1 x0 5) &&& ((1 <<< (x1 &&& 31)) ^^^ (-1))) μ).bind fun r1 =>
    some (r1.1, r1.2)
  else
    some ((-4), μ)
def g_X3_secondTo (N : Nat) (as : List ZV) (μ : ZM) : Option (Int32 × ZM) := match as with
  | [.inr (.inr (3, x0)), .inl x1] => f_X3_secondTo N x0 x1 μ
  | _ => none
theorem g_X3_secondTo_i {N : Nat} {as : List ZV} {μ : ZM} {r : Int32 × ZM} (h : g_X3_secondTo N as μ = some r) : ∃ (x0 : Nat) (x1 : Int32), as = [.inr (.inr (3, x0)), .inl x1] ∧ f_X3_secondTo N x0 x1 μ = some r := by
  unfold g_X3_secondTo at h
  split at h
  · exact ⟨_, _, rfl, h⟩
  · cases h
set_option maxRecDepth 100000 in
theorem c_X3_secondTo (N : Nat) : zk_C yX3_secondTo cX3_secondTo 2 (some .int) ({ frames := 1, cells := 0, slots := 0, locals := 23 } : Room) zq_I (g_X3_secondTo N) := by
  refine zk_met ?κ (by decide +kernel) ?hG ?body
  case body =>
    intro X E C
    have C : zk_X X E RX3 cX3_secondTo 2 (some .int) ({ frames := 1, cells := 0, slots := 0, locals := 23 } : Room) := C
    have h23 := zs_iret C dX3_secondTo_23
    have h20 := zs_vI C dX3_secondTo_20 (m_X3_longestOf N) zw_205 ⟨Nat.le_of_ble_eq_true rfl, Nat.le_of_ble_eq_true rfl⟩ h23
    have h19 := zs_iand C dX3_secondTo_19 h20
    have h18 := zs_ixor C dX3_secondTo_18 h19
    have h17 := zs_iconst (v := (-1)) C dX3_secondTo_17 (by decide) h18
    have h16 := zs_ishl C dX3_secondTo_16 h17
    have h15 := zs_iload_n (i := 1) C dX3_secondTo_15 rfl h16
    have h14 := zs_iconst (v := 1) C dX3_secondTo_14 (by decide) h15
    have h11 := zs_gI C dX3_secondTo_11 zf_3_5 zw_59 h14
    have h10 := zs_aload_n (i := 0) C dX3_secondTo_10 rfl h11
    have h9 := zs_aload_n (i := 0) C dX3_secondTo_9 rfl h10
    have h6 := zs_goto (tgt := 23) C dX3_secondTo_6 (by decide) h23
    have h4 := zs_bipush (v := (-4)) C dX3_secondTo_4 (by decide) h6
    have h1 := zs_if_ge (tgt := 9) C dX3_secondTo_1 (by decide) h9 h4
    have h0 := zs_iload_n (i := 1) C dX3_secondTo_0 rfl h1
    exact h0
  case hG =>
    intro as μ r h
    obtain ⟨x0, x1, rfl, h⟩ := g_X3_secondTo_i h
    exact ⟨Nat.le_of_ble_eq_true rfl, h⟩
theorem m_X3_secondTo (N : Nat) : zk_MV yX3_secondTo cX3_secondTo 2 (some .int) ({ frames := 1, cells := 0, slots := 0, locals := 23 } : Room) zq_I (g_X3_secondTo N) 1 3 := ⟨c_X3_secondTo N, zw_213, zw_211, zw_212, zw_27, rfl, rfl, by decide +kernel, by decide, ⟨TX3, 8, rfl⟩, fun as μ r h => by obtain ⟨x0, x1, rfl, -⟩ := g_X3_secondTo_i h; exact ⟨_, _, rfl⟩⟩
-- LongestWed$Town.worse(III)I
def f_X3_worse (N : Nat) (x0 : Nat) (x1 : Int32) (x2 : Int32) (x3 : Int32) (μ : ZM) : Option (Int32 × ZM) :=
  let j10 : Int32 → Option (Int32 × ZM) := fun b1 =>
    let j22 : Int32 → Option (Int32 × ZM) := fun b2 =>
      let j38 : Int32 → Option (Int32 × ZM) := fun b3 =>
        let j54 : Int32 → Option (Int32 × ZM) := fun b4 =>
          if zk_o x1 7 = true then none else
          if (μ.1 (x0 + 1) (Int32.toNatClampNeg x1)) = 1 then
            some (b3, μ)
          else
          if (μ.1 (x0 + 1) (Int32.toNatClampNeg x1)) = 2 then
            some (b4, μ)
          else
          if (μ.1 (x0 + 1) (Int32.toNatClampNeg x1)) = 3 then
            if 2 = 0 then none else
            if ¬ ((μ.1 x0 6) - (μ.1 x0 6) / 2 * 2) = 0 then
              some (0, μ)
            else
              some (b3, μ)
          else
          if (μ.1 (x0 + 1) (Int32.toNatClampNeg x1)) = 4 then
            if zk_o x1 7 = true then none else
            if (μ.1 (x0 + 4) (Int32.toNatClampNeg x1)) < (10 : Int32) then
              some (b4, μ)
            else
              some ((b4 + 3), μ)
          else
            some (b2, μ)
        if ¬ x1 = x3 then
          j54 b2
        else
          j54 (b2 - 2)
      if b1 = 0 then
        j38 b2
      else
        j38 (b2 + 2)
    if b1 = 0 then
      j22 (-1)
    else
      j22 1
  if ¬ x1 = x2 then
    j10 0
  else
    j10 1
def g_X3_worse (N : Nat) (as : List ZV) (μ : ZM) : Option (Int32 × ZM) := match as with
  | [.inr (.inr (3, x0)), .inl x1, .inl x2, .inl x3] => f_X3_worse N x0 x1 x2 x3 μ
  | _ => none
theorem g_X3_worse_i {N : Nat} {as : List ZV} {μ : ZM} {r : Int32 × ZM} (h : g_X3_worse N as μ = some r) : ∃ (x0 : Nat) (x1 : Int32) (x2 : Int32) (x3 : Int32), as = [.inr (.inr (3, x0)), .inl x1, .inl x2, .inl x3] ∧ f_X3_worse N x0 x1 x2 x3 μ = some r := by
  unfold g_X3_worse at h
  split at h
  · exact ⟨_, _, _, _, rfl, h⟩
  · cases h
set_option maxRecDepth 100000 in
theorem c_X3_worse (N : Nat) : zk_C yX3_worse cX3_worse 8 (some .int) ({ frames := 0, cells := 0, slots := 0, locals := 0 } : Room) zq_I (g_X3_worse N) := by
  refine zk_met ?κ (by decide +kernel) ?hG ?body
  case body =>
    intro X E C
    have C : zk_X X E RX3 cX3_worse 8 (some .int) ({ frames := 0, cells := 0, slots := 0, locals := 0 } : Room) := C
    have h137 := zs_iret C dX3_worse_137
    have h135 := zs_iload (i := 5) C dX3_worse_135 h137
    have h134 := zs_iret C dX3_worse_134
    have h132 := zs_iload (i := 7) C dX3_worse_132 h134
    have h129 := zs_goto (tgt := 134) C dX3_worse_129 (by decide) h134
    have h128 := zs_iadd C dX3_worse_128 h129
    have h127 := zs_iconst (v := 3) C dX3_worse_127 (by decide) h128
    have h125 := zs_iload (i := 7) C dX3_worse_125 h127
    have h122 := zs_icmp_lt (tgt := 132) C dX3_worse_122 (by decide) h132 h125
    have h120 := zs_bipush (v := 10) C dX3_worse_120 (by decide) h122
    have h119 := zs_iald (n := 7) C dX3_worse_119 (by decide) h120
    have h118 := zs_iload_n (i := 1) C dX3_worse_118 rfl h119
    have h115 := zs_gR C dX3_worse_115 zf_3_3 zw_55 h118
    have h114 := zs_aload_n (i := 0) C dX3_worse_114 rfl h115
    have h113 := zs_iret C dX3_worse_113
    have h112 := zs_iconst (v := 0) C dX3_worse_112 (by decide) h113
    have h109 := zs_goto (tgt := 113) C dX3_worse_109 (by decide) h113
    have h107 := zs_iload (i := 6) C dX3_worse_107 h109
    have h104 := zs_if_ne (tgt := 112) C dX3_worse_104 (by decide) h112 h107
    have h103 := zs_irem C dX3_worse_103 h104
    have h102 := zs_iconst (v := 2) C dX3_worse_102 (by decide) h103
    have h99 := zs_gI C dX3_worse_99 zf_3_6 zw_61 h102
    have h98 := zs_aload_n (i := 0) C dX3_worse_98 rfl h99
    have h97 := zs_iret C dX3_worse_97
    have h95 := zs_iload (i := 7) C dX3_worse_95 h97
    have h94 := zs_iret C dX3_worse_94
    have h92 := zs_iload (i := 6) C dX3_worse_92 h94
    have h62 := zs_tab (q := zq_I) (cs := [(1, _), (2, _), (3, _), (4, _)]) (tg := (fun x => if x = 1 then 92 else if x = 2 then 95 else if x = 3 then 98 else if x = 4 then 114 else 0)) (tgt := 135) C dX3_worse_62 (by decide) (by decide) (by decide +kernel) (by decide +kernel) (List.forall_mem_cons.mpr ⟨h92, (List.forall_mem_cons.mpr ⟨h95, (List.forall_mem_cons.mpr ⟨h98, (List.forall_mem_cons.mpr ⟨h114, (fun _ h => absurd h List.not_mem_nil)⟩)⟩)⟩)⟩) h135
    have h61 := zs_iald (n := 7) C dX3_worse_61 (by decide) h62
    have h60 := zs_iload_n (i := 1) C dX3_worse_60 rfl h61
    have h57 := zs_gR C dX3_worse_57 zf_3_0 zw_49 h60
    have h56 := zs_aload_n (i := 0) C dX3_worse_56 rfl h57
    have h54 := zs_istore (i := 7) C dX3_worse_54 h56
    have h52 := zs_iload (i := 5) C dX3_worse_52 h54
    have h49 := zs_goto (tgt := 54) C dX3_worse_49 (by decide) h54
    have h48 := zs_isub C dX3_worse_48 h49
    have h47 := zs_iconst (v := 2) C dX3_worse_47 (by decide) h48
    have h45 := zs_iload (i := 5) C dX3_worse_45 h47
    have h42 := zs_icmp_ne (tgt := 52) C dX3_worse_42 (by decide) h52 h45
    have h41 := zs_iload_n (i := 3) C dX3_worse_41 rfl h42
    have h40 := zs_iload_n (i := 1) C dX3_worse_40 rfl h41
    have h38 := zs_istore (i := 6) C dX3_worse_38 h40
    have h36 := zs_iload (i := 5) C dX3_worse_36 h38
    have h33 := zs_goto (tgt := 38) C dX3_worse_33 (by decide) h38
    have h32 := zs_iadd C dX3_worse_32 h33
    have h31 := zs_iconst (v := 2) C dX3_worse_31 (by decide) h32
    have h29 := zs_iload (i := 5) C dX3_worse_29 h31
    have h26 := zs_if_eq (tgt := 36) C dX3_worse_26 (by decide) h36 h29
    have h24 := zs_iload (i := 4) C dX3_worse_24 h26
    have h22 := zs_istore (i := 5) C dX3_worse_22 h24
    have h21 := zs_iconst (v := (-1)) C dX3_worse_21 (by decide) h22
    have h18 := zs_goto (tgt := 22) C dX3_worse_18 (by decide) h22
    have h17 := zs_iconst (v := 1) C dX3_worse_17 (by decide) h18
    have h14 := zs_if_eq (tgt := 21) C dX3_worse_14 (by decide) h21 h17
    have h12 := zs_iload (i := 4) C dX3_worse_12 h14
    have h10 := zs_istore (i := 4) C dX3_worse_10 h12
    have h9 := zs_iconst (v := 0) C dX3_worse_9 (by decide) h10
    have h6 := zs_goto (tgt := 10) C dX3_worse_6 (by decide) h10
    have h5 := zs_iconst (v := 1) C dX3_worse_5 (by decide) h6
    have h2 := zs_icmp_ne (tgt := 9) C dX3_worse_2 (by decide) h9 h5
    have h1 := zs_iload_n (i := 2) C dX3_worse_1 rfl h2
    have h0 := zs_iload_n (i := 1) C dX3_worse_0 rfl h1
    exact h0
  case hG =>
    intro as μ r h
    obtain ⟨x0, x1, x2, x3, rfl, h⟩ := g_X3_worse_i h
    exact ⟨Nat.le_of_ble_eq_true rfl, h⟩
theorem m_X3_worse (N : Nat) : zk_MV yX3_worse cX3_worse 8 (some .int) ({ frames := 0, cells := 0, slots := 0, locals := 0 } : Room) zq_I (g_X3_worse N) 3 3 := ⟨c_X3_worse N, zw_217, zw_215, zw_216, zw_27, rfl, rfl, by decide +kernel, by decide, ⟨TX3, 8, rfl⟩, fun as μ r h => by obtain ⟨x0, x1, x2, x3, rfl, -⟩ := g_X3_worse_i h; exact ⟨_, _, rfl⟩⟩
-- LongestWed$Town.worseThisYear(I)I
def f_X3_worseThisYear (N : Nat) (x0 : Nat) (x1 : Int32) (μ : ZM) : Option (Int32 × ZM) :=
  (f_X3_keeper N x0 μ).bind fun r1 =>
  (f_X3_isTogether N x0 x1 r1.2).bind fun r2 =>
  if r2.1 = 0 then
    some (0, r2.2)
  else
    (f_X3_secondTo N x0 r1.1 r2.2).bind fun r3 =>
    (f_X3_worse N x0 x1 r1.1 r3.1 r3.2).bind fun r4 =>
    some (r4.1, r4.2)
def g_X3_worseThisYear (N : Nat) (as : List ZV) (μ : ZM) : Option (Int32 × ZM) := match as with
  | [.inr (.inr (3, x0)), .inl x1] => f_X3_worseThisYear N x0 x1 μ
  | _ => none
theorem g_X3_worseThisYear_i {N : Nat} {as : List ZV} {μ : ZM} {r : Int32 × ZM} (h : g_X3_worseThisYear N as μ = some r) : ∃ (x0 : Nat) (x1 : Int32), as = [.inr (.inr (3, x0)), .inl x1] ∧ f_X3_worseThisYear N x0 x1 μ = some r := by
  unfold g_X3_worseThisYear at h
  split at h
  · exact ⟨_, _, rfl, h⟩
  · cases h
set_option maxRecDepth 100000 in
theorem c_X3_worseThisYear (N : Nat) : zk_C yX3_worseThisYear cX3_worseThisYear 3 (some .int) ({ frames := 2, cells := 0, slots := 0, locals := 44 } : Room) zq_I (g_X3_worseThisYear N) := by
  refine zk_met ?κ (by decide +kernel) ?hG ?body
  case body =>
    intro X E C
    have C : zk_X X E RX3 cX3_worseThisYear 3 (some .int) ({ frames := 2, cells := 0, slots := 0, locals := 44 } : Room) := C
    have h28 := zs_iret C dX3_worseThisYear_28
    have h27 := zs_iconst (v := 0) C dX3_worseThisYear_27 (by decide) h28
    have h24 := zs_goto (tgt := 28) C dX3_worseThisYear_24 (by decide) h28
    have h21 := zs_vI C dX3_worseThisYear_21 (m_X3_worse N) zw_214 ⟨Nat.le_of_ble_eq_true rfl, Nat.le_of_ble_eq_true rfl⟩ h24
    have h18 := zs_vI C dX3_worseThisYear_18 (m_X3_secondTo N) zw_210 ⟨Nat.le_of_ble_eq_true rfl, Nat.le_of_ble_eq_true rfl⟩ h21
    have h17 := zs_iload_n (i := 2) C dX3_worseThisYear_17 rfl h18
    have h16 := zs_aload_n (i := 0) C dX3_worseThisYear_16 rfl h17
    have h15 := zs_iload_n (i := 2) C dX3_worseThisYear_15 rfl h16
    have h14 := zs_iload_n (i := 1) C dX3_worseThisYear_14 rfl h15
    have h13 := zs_aload_n (i := 0) C dX3_worseThisYear_13 rfl h14
    have h10 := zs_if_eq (tgt := 27) C dX3_worseThisYear_10 (by decide) h27 h13
    have h7 := zs_vI C dX3_worseThisYear_7 (m_X3_isTogether N) zw_209 ⟨Nat.le_of_ble_eq_true rfl, Nat.le_of_ble_eq_true rfl⟩ h10
    have h6 := zs_iload_n (i := 1) C dX3_worseThisYear_6 rfl h7
    have h5 := zs_aload_n (i := 0) C dX3_worseThisYear_5 rfl h6
    have h4 := zs_istore_n (i := 2) C dX3_worseThisYear_4 rfl h5
    have h1 := zs_vI C dX3_worseThisYear_1 (m_X3_keeper N) zw_201 ⟨Nat.le_of_ble_eq_true rfl, Nat.le_of_ble_eq_true rfl⟩ h4
    have h0 := zs_aload_n (i := 0) C dX3_worseThisYear_0 rfl h1
    exact h0
  case hG =>
    intro as μ r h
    obtain ⟨x0, x1, rfl, h⟩ := g_X3_worseThisYear_i h
    exact ⟨Nat.le_of_ble_eq_true rfl, h⟩
theorem m_X3_worseThisYear (N : Nat) : zk_MV yX3_worseThisYear cX3_worseThisYear 3 (some .int) ({ frames := 2, cells := 0, slots := 0, locals := 44 } : Room) zq_I (g_X3_worseThisYear N) 1 3 := ⟨c_X3_worseThisYear N, zw_200, zw_198, zw_199, zw_27, rfl, rfl, by decide +kernel, by decide, ⟨TX3, 8, rfl⟩, fun as μ r h => by obtain ⟨x0, x1, rfl, -⟩ := g_X3_worseThisYear_i h; exact ⟨_, _, rfl⟩⟩
-- LongestWed$Town.empty()V
def f_X3_empty (N : Nat) (x0 : Nat) (μ : ZM) : Option (ZM) :=
  let μ1 := zk_si μ x0 4 0
  let μ2 := zk_si μ1 x0 5 0
  let μ3 := zk_si μ2 x0 6 0
  some μ3
def g_X3_empty (N : Nat) (as : List ZV) (μ : ZM) : Option (ZM) := match as with
  | [.inr (.inr (3, x0))] => f_X3_empty N x0 μ
  | _ => none
theorem g_X3_empty_i {N : Nat} {as : List ZV} {μ : ZM} {r : ZM} (h : g_X3_empty N as μ = some r) : ∃ (x0 : Nat), as = [.inr (.inr (3, x0))] ∧ f_X3_empty N x0 μ = some r := by
  unfold g_X3_empty at h
  split at h
  · exact ⟨_, rfl, h⟩
  · cases h
set_option maxRecDepth 100000 in
theorem c_X3_empty (N : Nat) : zk_C yX3_empty cX3_empty 1 none ({ frames := 0, cells := 0, slots := 0, locals := 0 } : Room) zq_V (g_X3_empty N) := by
  refine zk_met ?κ (by decide +kernel) ?hG ?body
  case body =>
    intro X E C
    have C : zk_X X E RX3 cX3_empty 1 none ({ frames := 0, cells := 0, slots := 0, locals := 0 } : Room) := C
    have h15 := zs_vret C dX3_empty_15
    have h12 := zs_pI C dX3_empty_12 zf_3_6 zw_61 rfl (by decide +kernel) h15
    have h11 := zs_iconst (v := 0) C dX3_empty_11 (by decide) h12
    have h10 := zs_aload_n (i := 0) C dX3_empty_10 rfl h11
    have h7 := zs_pI C dX3_empty_7 zf_3_5 zw_59 rfl (by decide +kernel) h10
    have h6 := zs_iconst (v := 0) C dX3_empty_6 (by decide) h7
    have h5 := zs_aload_n (i := 0) C dX3_empty_5 rfl h6
    have h2 := zs_pI C dX3_empty_2 zf_3_4 zw_57 rfl (by decide +kernel) h5
    have h1 := zs_iconst (v := 0) C dX3_empty_1 (by decide) h2
    have h0 := zs_aload_n (i := 0) C dX3_empty_0 rfl h1
    exact h0
  case hG =>
    intro as μ r h
    obtain ⟨x0, rfl, h⟩ := g_X3_empty_i h
    exact ⟨Nat.le_of_ble_eq_true rfl, h⟩
theorem m_X3_empty (N : Nat) : zk_MV yX3_empty cX3_empty 1 none ({ frames := 0, cells := 0, slots := 0, locals := 0 } : Room) zq_V (g_X3_empty N) 0 3 := ⟨c_X3_empty N, zw_233, zw_231, zw_232, zw_27, rfl, rfl, by decide +kernel, by decide, ⟨TX3, 8, rfl⟩, fun as μ r h => by obtain ⟨x0, rfl, -⟩ := g_X3_empty_i h; exact ⟨_, _, rfl⟩⟩
-- LongestWed$Town.become(LLongestWed$Town;)V
def f_X3_become (N : Nat) (x0 : Nat) (x1 : Nat) (μ : ZM) : Option (ZM) :=
  if ¬ (0 : Int32) < 0 ∧ ¬ (0 : Int32) < 0 ∧ ¬ (7 : Int32) < 0 ∧ Int32.toNatClampNeg 0 + Int32.toNatClampNeg 7 ≤ 7 ∧ Int32.toNatClampNeg 0 + Int32.toNatClampNeg 7 ≤ 7 then
  let μ1 := zk_ci μ (x1 + 1) (x0 + 1) (Int32.toNatClampNeg 0) (Int32.toNatClampNeg 0) (Int32.toNatClampNeg 7)
  if ¬ (0 : Int32) < 0 ∧ ¬ (0 : Int32) < 0 ∧ ¬ (7 : Int32) < 0 ∧ Int32.toNatClampNeg 0 + Int32.toNatClampNeg 7 ≤ 7 ∧ Int32.toNatClampNeg 0 + Int32.toNatClampNeg 7 ≤ 7 then
  let μ2 := zk_ci μ1 (x1 + 2) (x0 + 2) (Int32.toNatClampNeg 0) (Int32.toNatClampNeg 0) (Int32.toNatClampNeg 7)
  if ¬ (0 : Int32) < 0 ∧ ¬ (0 : Int32) < 0 ∧ ¬ (7 : Int32) < 0 ∧ Int32.toNatClampNeg 0 + Int32.toNatClampNeg 7 ≤ 7 ∧ Int32.toNatClampNeg 0 + Int32.toNatClampNeg 7 ≤ 7 then
  let μ3 := zk_ci μ2 (x1 + 3) (x0 + 3) (Int32.toNatClampNeg 0) (Int32.toNatClampNeg 0) (Int32.toNatClampNeg 7)
  if ¬ (0 : Int32) < 0 ∧ ¬ (0 : Int32) < 0 ∧ ¬ (7 : Int32) < 0 ∧ Int32.toNatClampNeg 0 + Int32.toNatClampNeg 7 ≤ 7 ∧ Int32.toNatClampNeg 0 + Int32.toNatClampNeg 7 ≤ 7 then
  let μ4 := zk_ci μ3 (x1 + 4) (x0 + 4) (Int32.toNatClampNeg 0) (Int32.toNatClampNeg 0) (Int32.toNatClampNeg 7)
  let μ5 := zk_si μ4 x0 4 (μ4.1 x1 4)
  let μ6 := zk_si μ5 x0 5 (μ5.1 x1 5)
  let μ7 := zk_si μ6 x0 6 (μ6.1 x1 6)
  let μ8 := zk_si μ7 x0 7 (μ7.1 x1 7)
  some μ8
  else none
  else none
  else none
  else none
def g_X3_become (N : Nat) (as : List ZV) (μ : ZM) : Option (ZM) := match as with
  | [.inr (.inr (3, x0)), .inr (.inr (3, x1))] => f_X3_become N x0 x1 μ
  | _ => none
theorem g_X3_become_i {N : Nat} {as : List ZV} {μ : ZM} {r : ZM} (h : g_X3_become N as μ = some r) : ∃ (x0 : Nat) (x1 : Nat), as = [.inr (.inr (3, x0)), .inr (.inr (3, x1))] ∧ f_X3_become N x0 x1 μ = some r := by
  unfold g_X3_become at h
  split at h
  · exact ⟨_, _, rfl, h⟩
  · cases h
set_option maxRecDepth 100000 in
theorem c_X3_become (N : Nat) : zk_C yX3_become cX3_become 2 none ({ frames := 1, cells := 0, slots := 0, locals := 26 } : Room) zq_V (g_X3_become N) := by
  refine zk_met ?κ (by decide +kernel) ?hG ?body
  case body =>
    intro X E C
    have C : zk_X X E RX3 cX3_become 2 none ({ frames := 1, cells := 0, slots := 0, locals := 26 } : Room) := C
    have h92 := zs_vret C dX3_become_92
    have h89 := zs_pI C dX3_become_89 zf_3_7 zw_63 rfl (by decide +kernel) h92
    have h86 := zs_gI C dX3_become_86 zf_3_7 zw_63 h89
    have h85 := zs_aload_n (i := 1) C dX3_become_85 rfl h86
    have h84 := zs_aload_n (i := 0) C dX3_become_84 rfl h85
    have h81 := zs_pI C dX3_become_81 zf_3_6 zw_61 rfl (by decide +kernel) h84
    have h78 := zs_gI C dX3_become_78 zf_3_6 zw_61 h81
    have h77 := zs_aload_n (i := 1) C dX3_become_77 rfl h78
    have h76 := zs_aload_n (i := 0) C dX3_become_76 rfl h77
    have h73 := zs_pI C dX3_become_73 zf_3_5 zw_59 rfl (by decide +kernel) h76
    have h70 := zs_gI C dX3_become_70 zf_3_5 zw_59 h73
    have h69 := zs_aload_n (i := 1) C dX3_become_69 rfl h70
    have h68 := zs_aload_n (i := 0) C dX3_become_68 rfl h69
    have h65 := zs_pI C dX3_become_65 zf_3_4 zw_57 rfl (by decide +kernel) h68
    have h62 := zs_gI C dX3_become_62 zf_3_4 zw_57 h65
    have h61 := zs_aload_n (i := 1) C dX3_become_61 rfl h62
    have h60 := zs_aload_n (i := 0) C dX3_become_60 rfl h61
    have h57 := zs_cpI (n0 := 7) (n1 := 7) C dX3_become_57 (by decide) (by decide) zw_273 zw_275 zw_274 zw_32 (Nat.le_of_ble_eq_true rfl) (Nat.le_of_ble_eq_true rfl) h60
    have h55 := zs_bipush (v := 7) C dX3_become_55 (by decide) h57
    have h54 := zs_iconst (v := 0) C dX3_become_54 (by decide) h55
    have h51 := zs_gR C dX3_become_51 zf_3_3 zw_55 h54
    have h50 := zs_aload_n (i := 0) C dX3_become_50 rfl h51
    have h49 := zs_iconst (v := 0) C dX3_become_49 (by decide) h50
    have h46 := zs_gR C dX3_become_46 zf_3_3 zw_55 h49
    have h45 := zs_aload_n (i := 1) C dX3_become_45 rfl h46
    have h42 := zs_cpI (n0 := 7) (n1 := 7) C dX3_become_42 (by decide) (by decide) zw_273 zw_275 zw_274 zw_32 (Nat.le_of_ble_eq_true rfl) (Nat.le_of_ble_eq_true rfl) h45
    have h40 := zs_bipush (v := 7) C dX3_become_40 (by decide) h42
    have h39 := zs_iconst (v := 0) C dX3_become_39 (by decide) h40
    have h36 := zs_gR C dX3_become_36 zf_3_2 zw_53 h39
    have h35 := zs_aload_n (i := 0) C dX3_become_35 rfl h36
    have h34 := zs_iconst (v := 0) C dX3_become_34 (by decide) h35
    have h31 := zs_gR C dX3_become_31 zf_3_2 zw_53 h34
    have h30 := zs_aload_n (i := 1) C dX3_become_30 rfl h31
    have h27 := zs_cpI (n0 := 7) (n1 := 7) C dX3_become_27 (by decide) (by decide) zw_273 zw_275 zw_274 zw_32 (Nat.le_of_ble_eq_true rfl) (Nat.le_of_ble_eq_true rfl) h30
    have h25 := zs_bipush (v := 7) C dX3_become_25 (by decide) h27
    have h24 := zs_iconst (v := 0) C dX3_become_24 (by decide) h25
    have h21 := zs_gR C dX3_become_21 zf_3_1 zw_51 h24
    have h20 := zs_aload_n (i := 0) C dX3_become_20 rfl h21
    have h19 := zs_iconst (v := 0) C dX3_become_19 (by decide) h20
    have h16 := zs_gR C dX3_become_16 zf_3_1 zw_51 h19
    have h15 := zs_aload_n (i := 1) C dX3_become_15 rfl h16
    have h12 := zs_cpI (n0 := 7) (n1 := 7) C dX3_become_12 (by decide) (by decide) zw_273 zw_275 zw_274 zw_32 (Nat.le_of_ble_eq_true rfl) (Nat.le_of_ble_eq_true rfl) h15
    have h10 := zs_bipush (v := 7) C dX3_become_10 (by decide) h12
    have h9 := zs_iconst (v := 0) C dX3_become_9 (by decide) h10
    have h6 := zs_gR C dX3_become_6 zf_3_0 zw_49 h9
    have h5 := zs_aload_n (i := 0) C dX3_become_5 rfl h6
    have h4 := zs_iconst (v := 0) C dX3_become_4 (by decide) h5
    have h1 := zs_gR C dX3_become_1 zf_3_0 zw_49 h4
    have h0 := zs_aload_n (i := 1) C dX3_become_0 rfl h1
    exact h0
  case hG =>
    intro as μ r h
    obtain ⟨x0, x1, rfl, h⟩ := g_X3_become_i h
    exact ⟨Nat.le_of_ble_eq_true rfl, h⟩
theorem m_X3_become (N : Nat) : zk_MV yX3_become cX3_become 2 none ({ frames := 1, cells := 0, slots := 0, locals := 26 } : Room) zq_V (g_X3_become N) 1 3 := ⟨c_X3_become N, zw_272, zw_270, zw_271, zw_27, rfl, rfl, by decide +kernel, by decide, ⟨TX3, 8, rfl⟩, fun as μ r h => by obtain ⟨x0, x1, rfl, -⟩ := g_X3_become_i h; exact ⟨_, _, rfl⟩⟩
-- LongestWed$Town.allTempers()I
def f_X3_allTempers_L4 (N : Nat) : Nat → Nat → Int32 → Int32 → ZM → Option (Int32 × ZM)
  | 0, _, _, _, _ => none
  | n + 1, x0, x1, x2, μ =>
    if (μ.1 x0 4) ≤ x2 then
      some (x1, μ)
    else
      (f_X3_isTogether N x0 x2 μ).bind fun r1 =>
      if r1.1 = 0 then
        f_X3_allTempers_L4 N n x0 x1 (x2 + 1) r1.2
      else
        if zk_o x2 7 = true then none else
        f_X3_allTempers_L4 N n x0 (x1 + (r1.2.1 (x0 + 4) (Int32.toNatClampNeg x2))) (x2 + 1) r1.2
def k_X3_allTempers_L4 (N n : Nat) : ZK (Int32 × ZM) := fun L st μ => match L, st with
  | [some (.inr (.inr (3, x0))), some (.inl x1), some (.inl x2)], [] => f_X3_allTempers_L4 N n x0 x1 x2 μ
  | _, _ => none
theorem k_X3_allTempers_L4_i {N : Nat} {n : Nat} {L : ZL} {st : List ZV} {μ : ZM} {r : Int32 × ZM} (h : k_X3_allTempers_L4 N n L st μ = some r) : ∃ (x0 : Nat) (x1 : Int32) (x2 : Int32), L = [some (.inr (.inr (3, x0))), some (.inl x1), some (.inl x2)] ∧ st = [] ∧ f_X3_allTempers_L4 N n x0 x1 x2 μ = some r := by
  unfold k_X3_allTempers_L4 at h
  split at h
  · exact ⟨_, _, _, rfl, rfl, h⟩
  · cases h
set_option maxRecDepth 100000 in
theorem s_X3_allTempers_L4 (N : Nat) {X : ZX} {E : ZE} (C : zk_X X E RX3 cX3_allTempers 3 (some .int) ({ frames := 1, cells := 0, slots := 0, locals := 21 } : Room)) : ∀ n, zk_S X E 3 zq_I 4 (k_X3_allTempers_L4 N n) := by
  intro n
  induction n with
  | zero =>
    intro H locs ls L st μ r h hL hst hW hS
    obtain ⟨x0, x1, x2, rfl, rfl, h⟩ := k_X3_allTempers_L4_i h
    exact nomatch (show none = some r from h)
  | succ n ih =>
    have h36 := zs_iret C dX3_allTempers_36
    have h35 := zs_iload_n (i := 1) C dX3_allTempers_35 rfl h36
    have h32 := zs_goto (tgt := 4) C dX3_allTempers_32 (by decide) ih
    have h29 := zs_iinc (n := 1) C dX3_allTempers_29 (by decide) h32
    have h28 := zs_istore_n (i := 1) C dX3_allTempers_28 rfl h29
    have h27 := zs_iadd C dX3_allTempers_27 h28
    have h26 := zs_iald (n := 7) C dX3_allTempers_26 (by decide) h27
    have h25 := zs_iload_n (i := 2) C dX3_allTempers_25 rfl h26
    have h22 := zs_gR C dX3_allTempers_22 zf_3_3 zw_55 h25
    have h21 := zs_aload_n (i := 0) C dX3_allTempers_21 rfl h22
    have h20 := zs_iload_n (i := 1) C dX3_allTempers_20 rfl h21
    have h17 := zs_if_eq (tgt := 29) C dX3_allTempers_17 (by decide) h29 h20
    have h14 := zs_vI C dX3_allTempers_14 (m_X3_isTogether N) zw_209 ⟨Nat.le_of_ble_eq_true rfl, Nat.le_of_ble_eq_true rfl⟩ h17
    have h13 := zs_iload_n (i := 2) C dX3_allTempers_13 rfl h14
    have h12 := zs_aload_n (i := 0) C dX3_allTempers_12 rfl h13
    have h9 := zs_icmp_ge (tgt := 35) C dX3_allTempers_9 (by decide) h35 h12
    have h6 := zs_gI C dX3_allTempers_6 zf_3_4 zw_57 h9
    have h5 := zs_aload_n (i := 0) C dX3_allTempers_5 rfl h6
    have h4 := zs_iload_n (i := 2) C dX3_allTempers_4 rfl h5
    intro H locs ls L st μ r h hL hst hW hS
    obtain ⟨x0, x1, x2, rfl, rfl, h⟩ := k_X3_allTempers_L4_i h
    exact h4 H locs ls [some (.inr (.inr (3, x0))), some (.inl x1), some (.inl x2)] [] μ r h (hL.less ⟨rfl, rfl, rfl, trivial⟩) hst hW hS
def f_X3_allTempers (N : Nat) (x0 : Nat) (μ : ZM) : Option (Int32 × ZM) :=
  f_X3_allTempers_L4 N N x0 0 0 μ
def g_X3_allTempers (N : Nat) (as : List ZV) (μ : ZM) : Option (Int32 × ZM) := match as with
  | [.inr (.inr (3, x0))] => f_X3_allTempers N x0 μ
  | _ => none
theorem g_X3_allTempers_i {N : Nat} {as : List ZV} {μ : ZM} {r : Int32 × ZM} (h : g_X3_allTempers N as μ = some r) : ∃ (x0 : Nat), as = [.inr (.inr (3, x0))] ∧ f_X3_allTempers N x0 μ = some r := by
  unfold g_X3_allTempers at h
  split at h
  · exact ⟨_, rfl, h⟩
  · cases h
set_option maxRecDepth 100000 in
theorem c_X3_allTempers (N : Nat) : zk_C yX3_allTempers cX3_allTempers 3 (some .int) ({ frames := 1, cells := 0, slots := 0, locals := 21 } : Room) zq_I (g_X3_allTempers N) := by
  refine zk_met ?κ (by decide +kernel) ?hG ?body
  case body =>
    intro X E C
    have C : zk_X X E RX3 cX3_allTempers 3 (some .int) ({ frames := 1, cells := 0, slots := 0, locals := 21 } : Room) := C
    have e4 := s_X3_allTempers_L4 N C N
    have h3 := zs_istore_n (i := 2) C dX3_allTempers_3 rfl e4
    have h2 := zs_iconst (v := 0) C dX3_allTempers_2 (by decide) h3
    have h1 := zs_istore_n (i := 1) C dX3_allTempers_1 rfl h2
    have h0 := zs_iconst (v := 0) C dX3_allTempers_0 (by decide) h1
    exact h0
  case hG =>
    intro as μ r h
    obtain ⟨x0, rfl, h⟩ := g_X3_allTempers_i h
    exact ⟨Nat.le_of_ble_eq_true rfl, h⟩
theorem m_X3_allTempers (N : Nat) : zk_MV yX3_allTempers cX3_allTempers 3 (some .int) ({ frames := 1, cells := 0, slots := 0, locals := 21 } : Room) zq_I (g_X3_allTempers N) 0 3 := ⟨c_X3_allTempers N, zw_285, zw_283, zw_284, zw_27, rfl, rfl, by decide +kernel, by decide, ⟨TX3, 8, rfl⟩, fun as μ r h => by obtain ⟨x0, rfl, -⟩ := g_X3_allTempers_i h; exact ⟨_, _, rfl⟩⟩
-- LongestWed$Town.worsen(II)V
def f_X3_worsen (N : Nat) (x0 : Nat) (x1 : Int32) (x2 : Int32) (μ : ZM) : Option (ZM) :=
  if zk_o x1 7 = true then none else
  if zk_o x1 7 = true then none else
  let μ1 := zk_si μ (x0 + 4) (Int32.toNatClampNeg x1) (if (0 : Int32) < ((μ.1 (x0 + 4) (Int32.toNatClampNeg x1)) + x2) then ((μ.1 (x0 + 4) (Int32.toNatClampNeg x1)) + x2) else 0)
  if zk_o x1 7 = true then none else
  let j40 : Unit → Option (ZM) := fun u2 =>
    let μ3 := zk_si μ1 x0 5 ((μ1.1 x0 5) &&& ((1 <<< (x1 &&& 31)) ^^^ (-1)))
    if zk_o x1 7 = true then none else
    if zk_o x1 7 = true then none else
    let μ4 := zk_si μ3 (x0 + 4) (Int32.toNatClampNeg x1) (if (μ3.1 (x0 + 4) (Int32.toNatClampNeg x1)) < 19 then (μ3.1 (x0 + 4) (Int32.toNatClampNeg x1)) else 19)
    if zk_o x1 7 = true then none else
    if zk_o x1 7 = true then none else
    let μ5 := zk_si μ4 (x0 + 3) (Int32.toNatClampNeg x1) (if (μ4.1 (x0 + 3) (Int32.toNatClampNeg x1)) < 99 then (μ4.1 (x0 + 3) (Int32.toNatClampNeg x1)) else 99)
    some μ5
  if (19 : Int32) < (μ1.1 (x0 + 4) (Int32.toNatClampNeg x1)) then
    j40 ()
  else
    if zk_o x1 7 = true then none else
    if (μ1.1 (x0 + 3) (Int32.toNatClampNeg x1)) ≤ (99 : Int32) then
      some μ1
    else
      j40 ()
def g_X3_worsen (N : Nat) (as : List ZV) (μ : ZM) : Option (ZM) := match as with
  | [.inr (.inr (3, x0)), .inl x1, .inl x2] => f_X3_worsen N x0 x1 x2 μ
  | _ => none
theorem g_X3_worsen_i {N : Nat} {as : List ZV} {μ : ZM} {r : ZM} (h : g_X3_worsen N as μ = some r) : ∃ (x0 : Nat) (x1 : Int32) (x2 : Int32), as = [.inr (.inr (3, x0)), .inl x1, .inl x2] ∧ f_X3_worsen N x0 x1 x2 μ = some r := by
  unfold g_X3_worsen at h
  split at h
  · exact ⟨_, _, _, rfl, h⟩
  · cases h
set_option maxRecDepth 100000 in
theorem c_X3_worsen (N : Nat) : zk_C yX3_worsen cX3_worsen 3 none ({ frames := 1, cells := 0, slots := 0, locals := 21 } : Room) zq_V (g_X3_worsen N) := by
  refine zk_met ?κ (by decide +kernel) ?hG ?body
  case body =>
    intro X E C
    have C : zk_X X E RX3 cX3_worsen 3 none ({ frames := 1, cells := 0, slots := 0, locals := 21 } : Room) := C
    have h88 := zs_vret C dX3_worsen_88
    have h87 := zs_iast (n := 7) C dX3_worsen_87 (by decide) h88
    have h84 := zs_mmin C dX3_worsen_84 zw_302 zw_296 zw_33 zw_297 (Nat.le_of_ble_eq_true rfl) (Nat.le_of_ble_eq_true rfl) h87
    have h83 := zs_iald (n := 7) C dX3_worsen_83 (by decide) h84
    have h82 := zs_iload_n (i := 1) C dX3_worsen_82 rfl h83
    have h79 := zs_gR C dX3_worsen_79 zf_3_2 zw_53 h82
    have h78 := zs_aload_n (i := 0) C dX3_worsen_78 rfl h79
    have h76 := zs_bipush (v := 99) C dX3_worsen_76 (by decide) h78
    have h75 := zs_iload_n (i := 1) C dX3_worsen_75 rfl h76
    have h72 := zs_gR C dX3_worsen_72 zf_3_2 zw_53 h75
    have h71 := zs_aload_n (i := 0) C dX3_worsen_71 rfl h72
    have h70 := zs_iast (n := 7) C dX3_worsen_70 (by decide) h71
    have h67 := zs_mmin C dX3_worsen_67 zw_302 zw_296 zw_33 zw_297 (Nat.le_of_ble_eq_true rfl) (Nat.le_of_ble_eq_true rfl) h70
    have h66 := zs_iald (n := 7) C dX3_worsen_66 (by decide) h67
    have h65 := zs_iload_n (i := 1) C dX3_worsen_65 rfl h66
    have h62 := zs_gR C dX3_worsen_62 zf_3_3 zw_55 h65
    have h61 := zs_aload_n (i := 0) C dX3_worsen_61 rfl h62
    have h59 := zs_bipush (v := 19) C dX3_worsen_59 (by decide) h61
    have h58 := zs_iload_n (i := 1) C dX3_worsen_58 rfl h59
    have h55 := zs_gR C dX3_worsen_55 zf_3_3 zw_55 h58
    have h54 := zs_aload_n (i := 0) C dX3_worsen_54 rfl h55
    have h51 := zs_pI C dX3_worsen_51 zf_3_5 zw_59 rfl (by decide +kernel) h54
    have h50 := zs_iand C dX3_worsen_50 h51
    have h49 := zs_ixor C dX3_worsen_49 h50
    have h48 := zs_iconst (v := (-1)) C dX3_worsen_48 (by decide) h49
    have h47 := zs_ishl C dX3_worsen_47 h48
    have h46 := zs_iload_n (i := 1) C dX3_worsen_46 rfl h47
    have h45 := zs_iconst (v := 1) C dX3_worsen_45 (by decide) h46
    have h42 := zs_gI C dX3_worsen_42 zf_3_5 zw_59 h45
    have h41 := zs_dup C dX3_worsen_41 h42
    have h40 := zs_aload_n (i := 0) C dX3_worsen_40 rfl h41
    have h37 := zs_icmp_le (tgt := 88) C dX3_worsen_37 (by decide) h88 h40
    have h35 := zs_bipush (v := 99) C dX3_worsen_35 (by decide) h37
    have h34 := zs_iald (n := 7) C dX3_worsen_34 (by decide) h35
    have h33 := zs_iload_n (i := 1) C dX3_worsen_33 rfl h34
    have h30 := zs_gR C dX3_worsen_30 zf_3_2 zw_53 h33
    have h29 := zs_aload_n (i := 0) C dX3_worsen_29 rfl h30
    have h26 := zs_icmp_gt (tgt := 40) C dX3_worsen_26 (by decide) h40 h29
    have h24 := zs_bipush (v := 19) C dX3_worsen_24 (by decide) h26
    have h23 := zs_iald (n := 7) C dX3_worsen_23 (by decide) h24
    have h22 := zs_iload_n (i := 1) C dX3_worsen_22 rfl h23
    have h19 := zs_gR C dX3_worsen_19 zf_3_3 zw_55 h22
    have h18 := zs_aload_n (i := 0) C dX3_worsen_18 rfl h19
    have h17 := zs_iast (n := 7) C dX3_worsen_17 (by decide) h18
    have h14 := zs_mmax C dX3_worsen_14 zw_307 zw_308 zw_33 zw_309 (Nat.le_of_ble_eq_true rfl) (Nat.le_of_ble_eq_true rfl) h17
    have h13 := zs_iadd C dX3_worsen_13 h14
    have h12 := zs_iload_n (i := 2) C dX3_worsen_12 rfl h13
    have h11 := zs_iald (n := 7) C dX3_worsen_11 (by decide) h12
    have h10 := zs_iload_n (i := 1) C dX3_worsen_10 rfl h11
    have h7 := zs_gR C dX3_worsen_7 zf_3_3 zw_55 h10
    have h6 := zs_aload_n (i := 0) C dX3_worsen_6 rfl h7
    have h5 := zs_iconst (v := 0) C dX3_worsen_5 (by decide) h6
    have h4 := zs_iload_n (i := 1) C dX3_worsen_4 rfl h5
    have h1 := zs_gR C dX3_worsen_1 zf_3_3 zw_55 h4
    have h0 := zs_aload_n (i := 0) C dX3_worsen_0 rfl h1
    exact h0
  case hG =>
    intro as μ r h
    obtain ⟨x0, x1, x2, rfl, h⟩ := g_X3_worsen_i h
    exact ⟨Nat.le_of_ble_eq_true rfl, h⟩
theorem m_X3_worsen (N : Nat) : zk_MV yX3_worsen cX3_worsen 3 none ({ frames := 1, cells := 0, slots := 0, locals := 21 } : Room) zq_V (g_X3_worsen N) 2 3 := ⟨c_X3_worsen N, zw_306, zw_304, zw_305, zw_27, rfl, rfl, by decide +kernel, by decide, ⟨TX3, 8, rfl⟩, fun as μ r h => by obtain ⟨x0, x1, x2, rfl, -⟩ := g_X3_worsen_i h; exact ⟨_, _, rfl⟩⟩
-- LongestWed$Town.passYear()V
def f_X3_passYear_L13 (N : Nat) : Nat → Nat → Int32 → Int32 → Int32 → ZM → Option (ZM)
  | 0, _, _, _, _, _ => none
  | n + 1, x0, x1, x2, x3, μ =>
    if (μ.1 x0 4) ≤ x3 then
      let μ1 := zk_si μ x0 6 ((μ.1 x0 6) + 1)
      some μ1
    else
      (f_X3_isTogether N x0 x3 μ).bind fun r2 =>
      if r2.1 = 0 then
        f_X3_passYear_L13 N n x0 x1 x2 (x3 + 1) r2.2
      else
        (f_X3_worse N x0 x3 x1 x2 r2.2).bind fun r3 =>
        if zk_o x3 7 = true then none else
        if zk_o x3 7 = true then none else
        let μ4 := zk_si r3.2 (x0 + 2) (Int32.toNatClampNeg x3) (if ((r3.2.1 (x0 + 2) (Int32.toNatClampNeg x3)) + 1) < 99 then ((r3.2.1 (x0 + 2) (Int32.toNatClampNeg x3)) + 1) else 99)
        if zk_o x3 7 = true then none else
        if zk_o x3 7 = true then none else
        let μ5 := zk_si μ4 (x0 + 3) (Int32.toNatClampNeg x3) ((μ4.1 (x0 + 3) (Int32.toNatClampNeg x3)) + 1)
        (f_X3_worsen N x0 x3 r3.1 μ5).bind fun r6 =>
        f_X3_passYear_L13 N n x0 x1 x2 (x3 + 1) r6
def k_X3_passYear_L13 (N n : Nat) : ZK (ZM) := fun L st μ => match L, st with
  | [some (.inr (.inr (3, x0))), some (.inl x1), some (.inl x2), some (.inl x3), _], [] => f_X3_passYear_L13 N n x0 x1 x2 x3 μ
  | _, _ => none
theorem k_X3_passYear_L13_i {N : Nat} {n : Nat} {L : ZL} {st : List ZV} {μ : ZM} {r : ZM} (h : k_X3_passYear_L13 N n L st μ = some r) : ∃ (x0 : Nat) (x1 : Int32) (x2 : Int32) (x3 : Int32) (u4 : Option ZV), L = [some (.inr (.inr (3, x0))), some (.inl x1), some (.inl x2), some (.inl x3), u4] ∧ st = [] ∧ f_X3_passYear_L13 N n x0 x1 x2 x3 μ = some r := by
  unfold k_X3_passYear_L13 at h
  split at h
  · exact ⟨_, _, _, _, _, rfl, rfl, h⟩
  · cases h
set_option maxRecDepth 100000 in
theorem s_X3_passYear_L13 (N : Nat) {X : ZX} {E : ZE} (C : zk_X X E RX3 cX3_passYear 5 none ({ frames := 2, cells := 0, slots := 0, locals := 44 } : Room)) : ∀ n, zk_S X E 5 zq_V 13 (k_X3_passYear_L13 N n) := by
  intro n
  induction n with
  | zero =>
    intro H locs ls L st μ r h hL hst hW hS
    obtain ⟨x0, x1, x2, x3, u4, rfl, rfl, h⟩ := k_X3_passYear_L13_i h
    exact nomatch (show none = some r from h)
  | succ n ih =>
    have h90 := zs_vret C dX3_passYear_90
    have h87 := zs_pI C dX3_passYear_87 zf_3_6 zw_61 rfl (by decide +kernel) h90
    have h86 := zs_iadd C dX3_passYear_86 h87
    have h85 := zs_iconst (v := 1) C dX3_passYear_85 (by decide) h86
    have h82 := zs_gI C dX3_passYear_82 zf_3_6 zw_61 h85
    have h81 := zs_dup C dX3_passYear_81 h82
    have h80 := zs_aload_n (i := 0) C dX3_passYear_80 rfl h81
    have h77 := zs_goto (tgt := 13) C dX3_passYear_77 (by decide) ih
    have h74 := zs_iinc (n := 1) C dX3_passYear_74 (by decide) h77
    have h71 := zs_vV C dX3_passYear_71 (m_X3_worsen N) zw_303 ⟨Nat.le_of_ble_eq_true rfl, Nat.le_of_ble_eq_true rfl⟩ h74
    have h69 := zs_iload (i := 4) C dX3_passYear_69 h71
    have h68 := zs_iload_n (i := 3) C dX3_passYear_68 rfl h69
    have h67 := zs_aload_n (i := 0) C dX3_passYear_67 rfl h68
    have h66 := zs_iast (n := 7) C dX3_passYear_66 (by decide) h67
    have h65 := zs_iadd C dX3_passYear_65 h66
    have h64 := zs_iconst (v := 1) C dX3_passYear_64 (by decide) h65
    have h63 := zs_iald (n := 7) C dX3_passYear_63 (by decide) h64
    have h62 := zs_dup2 C dX3_passYear_62 h63
    have h61 := zs_iload_n (i := 3) C dX3_passYear_61 rfl h62
    have h58 := zs_gR C dX3_passYear_58 zf_3_2 zw_53 h61
    have h57 := zs_aload_n (i := 0) C dX3_passYear_57 rfl h58
    have h56 := zs_iast (n := 7) C dX3_passYear_56 (by decide) h57
    have h53 := zs_mmin C dX3_passYear_53 zw_302 zw_296 zw_33 zw_297 (Nat.le_of_ble_eq_true rfl) (Nat.le_of_ble_eq_true rfl) h56
    have h52 := zs_iadd C dX3_passYear_52 h53
    have h51 := zs_iconst (v := 1) C dX3_passYear_51 (by decide) h52
    have h50 := zs_iald (n := 7) C dX3_passYear_50 (by decide) h51
    have h49 := zs_iload_n (i := 3) C dX3_passYear_49 rfl h50
    have h46 := zs_gR C dX3_passYear_46 zf_3_1 zw_51 h49
    have h45 := zs_aload_n (i := 0) C dX3_passYear_45 rfl h46
    have h43 := zs_bipush (v := 99) C dX3_passYear_43 (by decide) h45
    have h42 := zs_iload_n (i := 3) C dX3_passYear_42 rfl h43
    have h39 := zs_gR C dX3_passYear_39 zf_3_1 zw_51 h42
    have h38 := zs_aload_n (i := 0) C dX3_passYear_38 rfl h39
    have h36 := zs_istore (i := 4) C dX3_passYear_36 h38
    have h33 := zs_vI C dX3_passYear_33 (m_X3_worse N) zw_214 ⟨Nat.le_of_ble_eq_true rfl, Nat.le_of_ble_eq_true rfl⟩ h36
    have h32 := zs_iload_n (i := 2) C dX3_passYear_32 rfl h33
    have h31 := zs_iload_n (i := 1) C dX3_passYear_31 rfl h32
    have h30 := zs_iload_n (i := 3) C dX3_passYear_30 rfl h31
    have h29 := zs_aload_n (i := 0) C dX3_passYear_29 rfl h30
    have h26 := zs_if_eq (tgt := 74) C dX3_passYear_26 (by decide) h74 h29
    have h23 := zs_vI C dX3_passYear_23 (m_X3_isTogether N) zw_209 ⟨Nat.le_of_ble_eq_true rfl, Nat.le_of_ble_eq_true rfl⟩ h26
    have h22 := zs_iload_n (i := 3) C dX3_passYear_22 rfl h23
    have h21 := zs_aload_n (i := 0) C dX3_passYear_21 rfl h22
    have h18 := zs_icmp_ge (tgt := 80) C dX3_passYear_18 (by decide) h80 h21
    have h15 := zs_gI C dX3_passYear_15 zf_3_4 zw_57 h18
    have h14 := zs_aload_n (i := 0) C dX3_passYear_14 rfl h15
    have h13 := zs_iload_n (i := 3) C dX3_passYear_13 rfl h14
    intro H locs ls L st μ r h hL hst hW hS
    obtain ⟨x0, x1, x2, x3, u4, rfl, rfl, h⟩ := k_X3_passYear_L13_i h
    exact h13 H locs ls [some (.inr (.inr (3, x0))), some (.inl x1), some (.inl x2), some (.inl x3), none] [] μ r h (hL.less ⟨rfl, rfl, rfl, rfl, trivial⟩) hst hW hS
def f_X3_passYear (N : Nat) (x0 : Nat) (μ : ZM) : Option (ZM) :=
  (f_X3_keeper N x0 μ).bind fun r1 =>
  (f_X3_secondTo N x0 r1.1 r1.2).bind fun r2 =>
  f_X3_passYear_L13 N N x0 r1.1 r2.1 0 r2.2
def g_X3_passYear (N : Nat) (as : List ZV) (μ : ZM) : Option (ZM) := match as with
  | [.inr (.inr (3, x0))] => f_X3_passYear N x0 μ
  | _ => none
theorem g_X3_passYear_i {N : Nat} {as : List ZV} {μ : ZM} {r : ZM} (h : g_X3_passYear N as μ = some r) : ∃ (x0 : Nat), as = [.inr (.inr (3, x0))] ∧ f_X3_passYear N x0 μ = some r := by
  unfold g_X3_passYear at h
  split at h
  · exact ⟨_, rfl, h⟩
  · cases h
set_option maxRecDepth 100000 in
theorem c_X3_passYear (N : Nat) : zk_C yX3_passYear cX3_passYear 5 none ({ frames := 2, cells := 0, slots := 0, locals := 44 } : Room) zq_V (g_X3_passYear N) := by
  refine zk_met ?κ (by decide +kernel) ?hG ?body
  case body =>
    intro X E C
    have C : zk_X X E RX3 cX3_passYear 5 none ({ frames := 2, cells := 0, slots := 0, locals := 44 } : Room) := C
    have e13 := s_X3_passYear_L13 N C N
    have h12 := zs_istore_n (i := 3) C dX3_passYear_12 rfl e13
    have h11 := zs_iconst (v := 0) C dX3_passYear_11 (by decide) h12
    have h10 := zs_istore_n (i := 2) C dX3_passYear_10 rfl h11
    have h7 := zs_vI C dX3_passYear_7 (m_X3_secondTo N) zw_210 ⟨Nat.le_of_ble_eq_true rfl, Nat.le_of_ble_eq_true rfl⟩ h10
    have h6 := zs_iload_n (i := 1) C dX3_passYear_6 rfl h7
    have h5 := zs_aload_n (i := 0) C dX3_passYear_5 rfl h6
    have h4 := zs_istore_n (i := 1) C dX3_passYear_4 rfl h5
    have h1 := zs_vI C dX3_passYear_1 (m_X3_keeper N) zw_201 ⟨Nat.le_of_ble_eq_true rfl, Nat.le_of_ble_eq_true rfl⟩ h4
    have h0 := zs_aload_n (i := 0) C dX3_passYear_0 rfl h1
    exact h0
  case hG =>
    intro as μ r h
    obtain ⟨x0, rfl, h⟩ := g_X3_passYear_i h
    exact ⟨Nat.le_of_ble_eq_true rfl, h⟩
theorem m_X3_passYear (N : Nat) : zk_MV yX3_passYear cX3_passYear 5 none ({ frames := 2, cells := 0, slots := 0, locals := 44 } : Room) zq_V (g_X3_passYear N) 0 3 := ⟨c_X3_passYear N, zw_301, zw_299, zw_300, zw_27, rfl, rfl, by decide +kernel, by decide, ⟨TX3, 8, rfl⟩, fun as μ r h => by obtain ⟨x0, rfl, -⟩ := g_X3_passYear_i h; exact ⟨_, _, rfl⟩⟩
-- LongestWed$Town.better(II)V
def f_X3_better (N : Nat) (x0 : Nat) (x1 : Int32) (x2 : Int32) (μ : ZM) : Option (ZM) :=
  if zk_o x1 7 = true then none else
  if zk_o x1 7 = true then none else
  let μ1 := zk_si μ (x0 + 4) (Int32.toNatClampNeg x1) (if (0 : Int32) < ((μ.1 (x0 + 4) (Int32.toNatClampNeg x1)) - x2) then ((μ.1 (x0 + 4) (Int32.toNatClampNeg x1)) - x2) else 0)
  some μ1
def g_X3_better (N : Nat) (as : List ZV) (μ : ZM) : Option (ZM) := match as with
  | [.inr (.inr (3, x0)), .inl x1, .inl x2] => f_X3_better N x0 x1 x2 μ
  | _ => none
theorem g_X3_better_i {N : Nat} {as : List ZV} {μ : ZM} {r : ZM} (h : g_X3_better N as μ = some r) : ∃ (x0 : Nat) (x1 : Int32) (x2 : Int32), as = [.inr (.inr (3, x0)), .inl x1, .inl x2] ∧ f_X3_better N x0 x1 x2 μ = some r := by
  unfold g_X3_better at h
  split at h
  · exact ⟨_, _, _, rfl, h⟩
  · cases h
set_option maxRecDepth 100000 in
theorem c_X3_better (N : Nat) : zk_C yX3_better cX3_better 3 none ({ frames := 1, cells := 0, slots := 0, locals := 21 } : Room) zq_V (g_X3_better N) := by
  refine zk_met ?κ (by decide +kernel) ?hG ?body
  case body =>
    intro X E C
    have C : zk_X X E RX3 cX3_better 3 none ({ frames := 1, cells := 0, slots := 0, locals := 21 } : Room) := C
    have h18 := zs_vret C dX3_better_18
    have h17 := zs_iast (n := 7) C dX3_better_17 (by decide) h18
    have h14 := zs_mmax C dX3_better_14 zw_307 zw_308 zw_33 zw_309 (Nat.le_of_ble_eq_true rfl) (Nat.le_of_ble_eq_true rfl) h17
    have h13 := zs_isub C dX3_better_13 h14
    have h12 := zs_iload_n (i := 2) C dX3_better_12 rfl h13
    have h11 := zs_iald (n := 7) C dX3_better_11 (by decide) h12
    have h10 := zs_iload_n (i := 1) C dX3_better_10 rfl h11
    have h7 := zs_gR C dX3_better_7 zf_3_3 zw_55 h10
    have h6 := zs_aload_n (i := 0) C dX3_better_6 rfl h7
    have h5 := zs_iconst (v := 0) C dX3_better_5 (by decide) h6
    have h4 := zs_iload_n (i := 1) C dX3_better_4 rfl h5
    have h1 := zs_gR C dX3_better_1 zf_3_3 zw_55 h4
    have h0 := zs_aload_n (i := 0) C dX3_better_0 rfl h1
    exact h0
  case hG =>
    intro as μ r h
    obtain ⟨x0, x1, x2, rfl, h⟩ := g_X3_better_i h
    exact ⟨Nat.le_of_ble_eq_true rfl, h⟩
theorem m_X3_better (N : Nat) : zk_MV yX3_better cX3_better 3 none ({ frames := 1, cells := 0, slots := 0, locals := 21 } : Room) zq_V (g_X3_better N) 2 3 := ⟨c_X3_better N, zw_317, zw_315, zw_316, zw_27, rfl, rfl, by decide +kernel, by decide, ⟨TX3, 8, rfl⟩, fun as μ r h => by obtain ⟨x0, x1, x2, rfl, -⟩ := g_X3_better_i h; exact ⟨_, _, rfl⟩⟩
-- LongestWed$Town.wedAnew(I)V
def f_X3_wedAnew (N : Nat) (x0 : Nat) (x1 : Int32) (μ : ZM) : Option (ZM) :=
  let μ1 := zk_si μ x0 5 ((μ.1 x0 5) ||| (1 <<< (x1 &&& 31)))
  if zk_o x1 7 = true then none else
  let μ2 := zk_si μ1 (x0 + 2) (Int32.toNatClampNeg x1) 0
  if zk_o x1 7 = true then none else
  let μ3 := zk_si μ2 (x0 + 3) (Int32.toNatClampNeg x1) 20
  if zk_o x1 7 = true then none else
  let μ4 := zk_si μ3 (x0 + 4) (Int32.toNatClampNeg x1) 0
  some μ4
def g_X3_wedAnew (N : Nat) (as : List ZV) (μ : ZM) : Option (ZM) := match as with
  | [.inr (.inr (3, x0)), .inl x1] => f_X3_wedAnew N x0 x1 μ
  | _ => none
theorem g_X3_wedAnew_i {N : Nat} {as : List ZV} {μ : ZM} {r : ZM} (h : g_X3_wedAnew N as μ = some r) : ∃ (x0 : Nat) (x1 : Int32), as = [.inr (.inr (3, x0)), .inl x1] ∧ f_X3_wedAnew N x0 x1 μ = some r := by
  unfold g_X3_wedAnew at h
  split at h
  · exact ⟨_, _, rfl, h⟩
  · cases h
set_option maxRecDepth 100000 in
theorem c_X3_wedAnew (N : Nat) : zk_C yX3_wedAnew cX3_wedAnew 2 none ({ frames := 0, cells := 0, slots := 0, locals := 0 } : Room) zq_V (g_X3_wedAnew N) := by
  refine zk_met ?κ (by decide +kernel) ?hG ?body
  case body =>
    intro X E C
    have C : zk_X X E RX3 cX3_wedAnew 2 none ({ frames := 0, cells := 0, slots := 0, locals := 0 } : Room) := C
    have h34 := zs_vret C dX3_wedAnew_34
    have h33 := zs_iast (n := 7) C dX3_wedAnew_33 (by decide) h34
    have h32 := zs_iconst (v := 0) C dX3_wedAnew_32 (by decide) h33
    have h31 := zs_iload_n (i := 1) C dX3_wedAnew_31 rfl h32
    have h28 := zs_gR C dX3_wedAnew_28 zf_3_3 zw_55 h31
    have h27 := zs_aload_n (i := 0) C dX3_wedAnew_27 rfl h28
    have h26 := zs_iast (n := 7) C dX3_wedAnew_26 (by decide) h27
    have h24 := zs_bipush (v := 20) C dX3_wedAnew_24 (by decide) h26
    have h23 := zs_iload_n (i := 1) C dX3_wedAnew_23 rfl h24
    have h20 := zs_gR C dX3_wedAnew_20 zf_3_2 zw_53 h23
    have h19 := zs_aload_n (i := 0) C dX3_wedAnew_19 rfl h20
    have h18 := zs_iast (n := 7) C dX3_wedAnew_18 (by decide) h19
    have h17 := zs_iconst (v := 0) C dX3_wedAnew_17 (by decide) h18
    have h16 := zs_iload_n (i := 1) C dX3_wedAnew_16 rfl h17
    have h13 := zs_gR C dX3_wedAnew_13 zf_3_1 zw_51 h16
    have h12 := zs_aload_n (i := 0) C dX3_wedAnew_12 rfl h13
    have h9 := zs_pI C dX3_wedAnew_9 zf_3_5 zw_59 rfl (by decide +kernel) h12
    have h8 := zs_ior C dX3_wedAnew_8 h9
    have h7 := zs_ishl C dX3_wedAnew_7 h8
    have h6 := zs_iload_n (i := 1) C dX3_wedAnew_6 rfl h7
    have h5 := zs_iconst (v := 1) C dX3_wedAnew_5 (by decide) h6
    have h2 := zs_gI C dX3_wedAnew_2 zf_3_5 zw_59 h5
    have h1 := zs_dup C dX3_wedAnew_1 h2
    have h0 := zs_aload_n (i := 0) C dX3_wedAnew_0 rfl h1
    exact h0
  case hG =>
    intro as μ r h
    obtain ⟨x0, x1, rfl, h⟩ := g_X3_wedAnew_i h
    exact ⟨Nat.le_of_ble_eq_true rfl, h⟩
theorem m_X3_wedAnew (N : Nat) : zk_MV yX3_wedAnew cX3_wedAnew 2 none ({ frames := 0, cells := 0, slots := 0, locals := 0 } : Room) zq_V (g_X3_wedAnew N) 1 3 := ⟨c_X3_wedAnew N, zw_330, zw_328, zw_329, zw_27, rfl, rfl, by decide +kernel, by decide, ⟨TX3, 8, rfl⟩, fun as μ r h => by obtain ⟨x0, x1, rfl, -⟩ := g_X3_wedAnew_i h; exact ⟨_, _, rfl⟩⟩
-- LongestWed$Town.drawNext()V
def f_X3_drawNext (N : Nat) (x0 : Nat) (μ : ZM) : Option (ZM) :=
  let μ1 := zk_si μ x0 7 ((((μ.1 x0 7) * 1103515245) + 12345) &&& 2147483647)
  if 0 < (μ1.1 x0 4) then
    if 65536 = 0 then none else
    if (μ1.1 x0 4) = 0 then none else
    if 128 = 0 then none else
    if 7 = 0 then none else
    (f_X3_isTogether N x0 (((μ1.1 x0 7) / 65536) - ((μ1.1 x0 7) / 65536) / (μ1.1 x0 4) * (μ1.1 x0 4)) μ1).bind fun r2 =>
    if r2.1 = 0 then
      if ¬ (((μ1.1 x0 7) / 128) - ((μ1.1 x0 7) / 128) / 7 * 7) = 0 then
        some r2.2
      else
        (f_X3_wedAnew N x0 (((μ1.1 x0 7) / 65536) - ((μ1.1 x0 7) / 65536) / (μ1.1 x0 4) * (μ1.1 x0 4)) r2.2).bind fun r3 =>
        some r3
    else
      (f_X3_worsen N x0 (((μ1.1 x0 7) / 65536) - ((μ1.1 x0 7) / 65536) / (μ1.1 x0 4) * (μ1.1 x0 4)) (((μ1.1 x0 7) / 128) - ((μ1.1 x0 7) / 128) / 7 * 7) r2.2).bind fun r4 =>
      some r4
  else
    some μ1
def g_X3_drawNext (N : Nat) (as : List ZV) (μ : ZM) : Option (ZM) := match as with
  | [.inr (.inr (3, x0))] => f_X3_drawNext N x0 μ
  | _ => none
theorem g_X3_drawNext_i {N : Nat} {as : List ZV} {μ : ZM} {r : ZM} (h : g_X3_drawNext N as μ = some r) : ∃ (x0 : Nat), as = [.inr (.inr (3, x0))] ∧ f_X3_drawNext N x0 μ = some r := by
  unfold g_X3_drawNext at h
  split at h
  · exact ⟨_, rfl, h⟩
  · cases h
set_option maxRecDepth 100000 in
theorem c_X3_drawNext (N : Nat) : zk_C yX3_drawNext cX3_drawNext 3 none ({ frames := 2, cells := 0, slots := 0, locals := 43 } : Room) zq_V (g_X3_drawNext N) := by
  refine zk_met ?κ (by decide +kernel) ?hG ?body
  case body =>
    intro X E C
    have C : zk_X X E RX3 cX3_drawNext 3 none ({ frames := 2, cells := 0, slots := 0, locals := 43 } : Room) := C
    have h77 := zs_vret C dX3_drawNext_77
    have h74 := zs_vV C dX3_drawNext_74 (m_X3_wedAnew N) zw_342 ⟨Nat.le_of_ble_eq_true rfl, Nat.le_of_ble_eq_true rfl⟩ h77
    have h73 := zs_iload_n (i := 1) C dX3_drawNext_73 rfl h74
    have h72 := zs_aload_n (i := 0) C dX3_drawNext_72 rfl h73
    have h69 := zs_if_ne (tgt := 77) C dX3_drawNext_69 (by decide) h77 h72
    have h68 := zs_iload_n (i := 2) C dX3_drawNext_68 rfl h69
    have h65 := zs_goto (tgt := 77) C dX3_drawNext_65 (by decide) h77
    have h62 := zs_vV C dX3_drawNext_62 (m_X3_worsen N) zw_303 ⟨Nat.le_of_ble_eq_true rfl, Nat.le_of_ble_eq_true rfl⟩ h65
    have h61 := zs_iload_n (i := 2) C dX3_drawNext_61 rfl h62
    have h60 := zs_iload_n (i := 1) C dX3_drawNext_60 rfl h61
    have h59 := zs_aload_n (i := 0) C dX3_drawNext_59 rfl h60
    have h56 := zs_if_eq (tgt := 68) C dX3_drawNext_56 (by decide) h68 h59
    have h53 := zs_vI C dX3_drawNext_53 (m_X3_isTogether N) zw_209 ⟨Nat.le_of_ble_eq_true rfl, Nat.le_of_ble_eq_true rfl⟩ h56
    have h52 := zs_iload_n (i := 1) C dX3_drawNext_52 rfl h53
    have h51 := zs_aload_n (i := 0) C dX3_drawNext_51 rfl h52
    have h50 := zs_istore_n (i := 2) C dX3_drawNext_50 rfl h51
    have h49 := zs_irem C dX3_drawNext_49 h50
    have h47 := zs_bipush (v := 7) C dX3_drawNext_47 (by decide) h49
    have h46 := zs_idiv C dX3_drawNext_46 h47
    have h43 := zs_sipush (v := 128) C dX3_drawNext_43 (by decide) h46
    have h40 := zs_gI C dX3_drawNext_40 zf_3_7 zw_63 h43
    have h39 := zs_aload_n (i := 0) C dX3_drawNext_39 rfl h40
    have h38 := zs_istore_n (i := 1) C dX3_drawNext_38 rfl h39
    have h37 := zs_irem C dX3_drawNext_37 h38
    have h34 := zs_gI C dX3_drawNext_34 zf_3_4 zw_57 h37
    have h33 := zs_aload_n (i := 0) C dX3_drawNext_33 rfl h34
    have h32 := zs_idiv C dX3_drawNext_32 h33
    have h30 := zs_ldc (v := 65536) C dX3_drawNext_30 zw_341 h32
    have h27 := zs_gI C dX3_drawNext_27 zf_3_7 zw_63 h30
    have h26 := zs_aload_n (i := 0) C dX3_drawNext_26 rfl h27
    have h25 := zs_vret C dX3_drawNext_25
    have h22 := zs_if_gt (tgt := 26) C dX3_drawNext_22 (by decide) h26 h25
    have h19 := zs_gI C dX3_drawNext_19 zf_3_4 zw_57 h22
    have h18 := zs_aload_n (i := 0) C dX3_drawNext_18 rfl h19
    have h15 := zs_pI C dX3_drawNext_15 zf_3_7 zw_63 rfl (by decide +kernel) h18
    have h14 := zs_iand C dX3_drawNext_14 h15
    have h12 := zs_ldc (v := 2147483647) C dX3_drawNext_12 zw_340 h14
    have h11 := zs_iadd C dX3_drawNext_11 h12
    have h8 := zs_sipush (v := 12345) C dX3_drawNext_8 (by decide) h11
    have h7 := zs_imul C dX3_drawNext_7 h8
    have h5 := zs_ldc (v := 1103515245) C dX3_drawNext_5 zw_339 h7
    have h2 := zs_gI C dX3_drawNext_2 zf_3_7 zw_63 h5
    have h1 := zs_aload_n (i := 0) C dX3_drawNext_1 rfl h2
    have h0 := zs_aload_n (i := 0) C dX3_drawNext_0 rfl h1
    exact h0
  case hG =>
    intro as μ r h
    obtain ⟨x0, rfl, h⟩ := g_X3_drawNext_i h
    exact ⟨Nat.le_of_ble_eq_true rfl, h⟩
theorem m_X3_drawNext (N : Nat) : zk_MV yX3_drawNext cX3_drawNext 3 none ({ frames := 2, cells := 0, slots := 0, locals := 43 } : Room) zq_V (g_X3_drawNext N) 0 3 := ⟨c_X3_drawNext N, zw_338, zw_336, zw_337, zw_27, rfl, rfl, by decide +kernel, by decide, ⟨TX3, 8, rfl⟩, fun as μ r h => by obtain ⟨x0, rfl, -⟩ := g_X3_drawNext_i h; exact ⟨_, _, rfl⟩⟩
-- LongestWed$Town.passYears(I)V
def f_X3_passYears_L2 (N : Nat) : Nat → Nat → Int32 → Int32 → ZM → Option (ZM)
  | 0, _, _, _, _ => none
  | n + 1, x0, x1, x2, μ =>
    if x1 ≤ x2 then
      some μ
    else
      (f_X3_passYear N x0 μ).bind fun r1 =>
      f_X3_passYears_L2 N n x0 x1 (x2 + 1) r1
def k_X3_passYears_L2 (N n : Nat) : ZK (ZM) := fun L st μ => match L, st with
  | [some (.inr (.inr (3, x0))), some (.inl x1), some (.inl x2)], [] => f_X3_passYears_L2 N n x0 x1 x2 μ
  | _, _ => none
theorem k_X3_passYears_L2_i {N : Nat} {n : Nat} {L : ZL} {st : List ZV} {μ : ZM} {r : ZM} (h : k_X3_passYears_L2 N n L st μ = some r) : ∃ (x0 : Nat) (x1 : Int32) (x2 : Int32), L = [some (.inr (.inr (3, x0))), some (.inl x1), some (.inl x2)] ∧ st = [] ∧ f_X3_passYears_L2 N n x0 x1 x2 μ = some r := by
  unfold k_X3_passYears_L2 at h
  split at h
  · exact ⟨_, _, _, rfl, rfl, h⟩
  · cases h
set_option maxRecDepth 100000 in
theorem s_X3_passYears_L2 (N : Nat) {X : ZX} {E : ZE} (C : zk_X X E RX3 cX3_passYears 3 none ({ frames := 3, cells := 0, slots := 0, locals := 68 } : Room)) : ∀ n, zk_S X E 3 zq_V 2 (k_X3_passYears_L2 N n) := by
  intro n
  induction n with
  | zero =>
    intro H locs ls L st μ r h hL hst hW hS
    obtain ⟨x0, x1, x2, rfl, rfl, h⟩ := k_X3_passYears_L2_i h
    exact nomatch (show none = some r from h)
  | succ n ih =>
    have h17 := zs_vret C dX3_passYears_17
    have h14 := zs_goto (tgt := 2) C dX3_passYears_14 (by decide) ih
    have h11 := zs_iinc (n := 1) C dX3_passYears_11 (by decide) h14
    have h8 := zs_vV C dX3_passYears_8 (m_X3_passYear N) zw_363 ⟨Nat.le_of_ble_eq_true rfl, Nat.le_of_ble_eq_true rfl⟩ h11
    have h7 := zs_aload_n (i := 0) C dX3_passYears_7 rfl h8
    have h4 := zs_icmp_ge (tgt := 17) C dX3_passYears_4 (by decide) h17 h7
    have h3 := zs_iload_n (i := 1) C dX3_passYears_3 rfl h4
    have h2 := zs_iload_n (i := 2) C dX3_passYears_2 rfl h3
    intro H locs ls L st μ r h hL hst hW hS
    obtain ⟨x0, x1, x2, rfl, rfl, h⟩ := k_X3_passYears_L2_i h
    exact h2 H locs ls [some (.inr (.inr (3, x0))), some (.inl x1), some (.inl x2)] [] μ r h (hL.less ⟨rfl, rfl, rfl, trivial⟩) hst hW hS
def f_X3_passYears (N : Nat) (x0 : Nat) (x1 : Int32) (μ : ZM) : Option (ZM) :=
  f_X3_passYears_L2 N N x0 x1 0 μ
def g_X3_passYears (N : Nat) (as : List ZV) (μ : ZM) : Option (ZM) := match as with
  | [.inr (.inr (3, x0)), .inl x1] => f_X3_passYears N x0 x1 μ
  | _ => none
theorem g_X3_passYears_i {N : Nat} {as : List ZV} {μ : ZM} {r : ZM} (h : g_X3_passYears N as μ = some r) : ∃ (x0 : Nat) (x1 : Int32), as = [.inr (.inr (3, x0)), .inl x1] ∧ f_X3_passYears N x0 x1 μ = some r := by
  unfold g_X3_passYears at h
  split at h
  · exact ⟨_, _, rfl, h⟩
  · cases h
set_option maxRecDepth 100000 in
theorem c_X3_passYears (N : Nat) : zk_C yX3_passYears cX3_passYears 3 none ({ frames := 3, cells := 0, slots := 0, locals := 68 } : Room) zq_V (g_X3_passYears N) := by
  refine zk_met ?κ (by decide +kernel) ?hG ?body
  case body =>
    intro X E C
    have C : zk_X X E RX3 cX3_passYears 3 none ({ frames := 3, cells := 0, slots := 0, locals := 68 } : Room) := C
    have e2 := s_X3_passYears_L2 N C N
    have h1 := zs_istore_n (i := 2) C dX3_passYears_1 rfl e2
    have h0 := zs_iconst (v := 0) C dX3_passYears_0 (by decide) h1
    exact h0
  case hG =>
    intro as μ r h
    obtain ⟨x0, x1, rfl, h⟩ := g_X3_passYears_i h
    exact ⟨Nat.le_of_ble_eq_true rfl, h⟩
theorem m_X3_passYears (N : Nat) : zk_MV yX3_passYears cX3_passYears 3 none ({ frames := 3, cells := 0, slots := 0, locals := 68 } : Room) zq_V (g_X3_passYears N) 1 3 := ⟨c_X3_passYears N, zw_362, zw_360, zw_361, zw_27, rfl, rfl, by decide +kernel, by decide, ⟨TX3, 8, rfl⟩, fun as μ r h => by obtain ⟨x0, x1, rfl, -⟩ := g_X3_passYears_i h; exact ⟨_, _, rfl⟩⟩
-- LongestWed$Town.tenthsToStay(II)I
def f_X3_tenthsToStay (N : Nat) (x0 : Nat) (x1 : Int32) (x2 : Int32) (μ : ZM) : Option (Int32 × ZM) :=
  (f_X3_isTogether N x0 x1 μ).bind fun r1 =>
  if ¬ r1.1 = 0 then
    if zk_o x1 7 = true then none else
    if ((r1.2.1 (x0 + 4) (Int32.toNatClampNeg x1)) + 10) ≤ (19 : Int32) then
      some (10, r1.2)
    else
      some ((10 - x2), r1.2)
  else
    some (0, r1.2)
def g_X3_tenthsToStay (N : Nat) (as : List ZV) (μ : ZM) : Option (Int32 × ZM) := match as with
  | [.inr (.inr (3, x0)), .inl x1, .inl x2] => f_X3_tenthsToStay N x0 x1 x2 μ
  | _ => none
theorem g_X3_tenthsToStay_i {N : Nat} {as : List ZV} {μ : ZM} {r : Int32 × ZM} (h : g_X3_tenthsToStay N as μ = some r) : ∃ (x0 : Nat) (x1 : Int32) (x2 : Int32), as = [.inr (.inr (3, x0)), .inl x1, .inl x2] ∧ f_X3_tenthsToStay N x0 x1 x2 μ = some r := by
  unfold g_X3_tenthsToStay at h
  split at h
  · exact ⟨_, _, _, rfl, h⟩
  · cases h
set_option maxRecDepth 100000 in
theorem c_X3_tenthsToStay (N : Nat) : zk_C yX3_tenthsToStay cX3_tenthsToStay 3 (some .int) ({ frames := 1, cells := 0, slots := 0, locals := 21 } : Room) zq_I (g_X3_tenthsToStay N) := by
  refine zk_met ?κ (by decide +kernel) ?hG ?body
  case body =>
    intro X E C
    have C : zk_X X E RX3 cX3_tenthsToStay 3 (some .int) ({ frames := 1, cells := 0, slots := 0, locals := 21 } : Room) := C
    have h33 := zs_iret C dX3_tenthsToStay_33
    have h31 := zs_bipush (v := 10) C dX3_tenthsToStay_31 (by decide) h33
    have h28 := zs_goto (tgt := 33) C dX3_tenthsToStay_28 (by decide) h33
    have h27 := zs_isub C dX3_tenthsToStay_27 h28
    have h26 := zs_iload_n (i := 2) C dX3_tenthsToStay_26 rfl h27
    have h24 := zs_bipush (v := 10) C dX3_tenthsToStay_24 (by decide) h26
    have h21 := zs_icmp_le (tgt := 31) C dX3_tenthsToStay_21 (by decide) h31 h24
    have h19 := zs_bipush (v := 19) C dX3_tenthsToStay_19 (by decide) h21
    have h18 := zs_iadd C dX3_tenthsToStay_18 h19
    have h16 := zs_bipush (v := 10) C dX3_tenthsToStay_16 (by decide) h18
    have h15 := zs_iald (n := 7) C dX3_tenthsToStay_15 (by decide) h16
    have h14 := zs_iload_n (i := 1) C dX3_tenthsToStay_14 rfl h15
    have h11 := zs_gR C dX3_tenthsToStay_11 zf_3_3 zw_55 h14
    have h10 := zs_aload_n (i := 0) C dX3_tenthsToStay_10 rfl h11
    have h9 := zs_iret C dX3_tenthsToStay_9
    have h8 := zs_iconst (v := 0) C dX3_tenthsToStay_8 (by decide) h9
    have h5 := zs_if_ne (tgt := 10) C dX3_tenthsToStay_5 (by decide) h10 h8
    have h2 := zs_vI C dX3_tenthsToStay_2 (m_X3_isTogether N) zw_209 ⟨Nat.le_of_ble_eq_true rfl, Nat.le_of_ble_eq_true rfl⟩ h5
    have h1 := zs_iload_n (i := 1) C dX3_tenthsToStay_1 rfl h2
    have h0 := zs_aload_n (i := 0) C dX3_tenthsToStay_0 rfl h1
    exact h0
  case hG =>
    intro as μ r h
    obtain ⟨x0, x1, x2, rfl, h⟩ := g_X3_tenthsToStay_i h
    exact ⟨Nat.le_of_ble_eq_true rfl, h⟩
theorem m_X3_tenthsToStay (N : Nat) : zk_MV yX3_tenthsToStay cX3_tenthsToStay 3 (some .int) ({ frames := 1, cells := 0, slots := 0, locals := 21 } : Room) zq_I (g_X3_tenthsToStay N) 2 3 := ⟨c_X3_tenthsToStay N, zw_441, zw_439, zw_440, zw_27, rfl, rfl, by decide +kernel, by decide, ⟨TX3, 8, rfl⟩, fun as μ r h => by obtain ⟨x0, x1, x2, rfl, -⟩ := g_X3_tenthsToStay_i h; exact ⟨_, _, rfl⟩⟩
-- LongestWed$Town.isBefore(II)Z
def f_X3_isBefore (N : Nat) (x0 : Nat) (x1 : Int32) (x2 : Int32) (μ : ZM) : Option (Int32 × ZM) :=
  if zk_o x1 7 = true then none else
  if zk_o x2 7 = true then none else
  if (μ.1 (x0 + 2) (Int32.toNatClampNeg x2)) < (μ.1 (x0 + 2) (Int32.toNatClampNeg x1)) then
    zk_zr 1 μ
  else
    if zk_o x1 7 = true then none else
    if zk_o x2 7 = true then none else
    if ¬ (μ.1 (x0 + 2) (Int32.toNatClampNeg x1)) = (μ.1 (x0 + 2) (Int32.toNatClampNeg x2)) then
      zk_zr 0 μ
    else
      if x2 ≤ x1 then
        zk_zr 0 μ
      else
        zk_zr 1 μ
def g_X3_isBefore (N : Nat) (as : List ZV) (μ : ZM) : Option (Int32 × ZM) := match as with
  | [.inr (.inr (3, x0)), .inl x1, .inl x2] => f_X3_isBefore N x0 x1 x2 μ
  | _ => none
theorem g_X3_isBefore_i {N : Nat} {as : List ZV} {μ : ZM} {r : Int32 × ZM} (h : g_X3_isBefore N as μ = some r) : ∃ (x0 : Nat) (x1 : Int32) (x2 : Int32), as = [.inr (.inr (3, x0)), .inl x1, .inl x2] ∧ f_X3_isBefore N x0 x1 x2 μ = some r := by
  unfold g_X3_isBefore at h
  split at h
  · exact ⟨_, _, _, rfl, h⟩
  · cases h
set_option maxRecDepth 100000 in
theorem c_X3_isBefore (N : Nat) : zk_C yX3_isBefore cX3_isBefore 3 (some .boolean) ({ frames := 0, cells := 0, slots := 0, locals := 0 } : Room) zq_I (g_X3_isBefore N) := by
  refine zk_met ?κ (by decide +kernel) ?hG ?body
  case body =>
    intro X E C
    have C : zk_X X E RX3 cX3_isBefore 3 (some .boolean) ({ frames := 0, cells := 0, slots := 0, locals := 0 } : Room) := C
    have h40 := zs_zret C dX3_isBefore_40
    have h39 := zs_iconst (v := 0) C dX3_isBefore_39 (by decide) h40
    have h36 := zs_goto (tgt := 40) C dX3_isBefore_36 (by decide) h40
    have h35 := zs_iconst (v := 1) C dX3_isBefore_35 (by decide) h36
    have h32 := zs_icmp_ge (tgt := 39) C dX3_isBefore_32 (by decide) h39 h35
    have h31 := zs_iload_n (i := 2) C dX3_isBefore_31 rfl h32
    have h30 := zs_iload_n (i := 1) C dX3_isBefore_30 rfl h31
    have h27 := zs_icmp_ne (tgt := 39) C dX3_isBefore_27 (by decide) h39 h30
    have h26 := zs_iald (n := 7) C dX3_isBefore_26 (by decide) h27
    have h25 := zs_iload_n (i := 2) C dX3_isBefore_25 rfl h26
    have h22 := zs_gR C dX3_isBefore_22 zf_3_1 zw_51 h25
    have h21 := zs_aload_n (i := 0) C dX3_isBefore_21 rfl h22
    have h20 := zs_iald (n := 7) C dX3_isBefore_20 (by decide) h21
    have h19 := zs_iload_n (i := 1) C dX3_isBefore_19 rfl h20
    have h16 := zs_gR C dX3_isBefore_16 zf_3_1 zw_51 h19
    have h15 := zs_aload_n (i := 0) C dX3_isBefore_15 rfl h16
    have h12 := zs_icmp_gt (tgt := 35) C dX3_isBefore_12 (by decide) h35 h15
    have h11 := zs_iald (n := 7) C dX3_isBefore_11 (by decide) h12
    have h10 := zs_iload_n (i := 2) C dX3_isBefore_10 rfl h11
    have h7 := zs_gR C dX3_isBefore_7 zf_3_1 zw_51 h10
    have h6 := zs_aload_n (i := 0) C dX3_isBefore_6 rfl h7
    have h5 := zs_iald (n := 7) C dX3_isBefore_5 (by decide) h6
    have h4 := zs_iload_n (i := 1) C dX3_isBefore_4 rfl h5
    have h1 := zs_gR C dX3_isBefore_1 zf_3_1 zw_51 h4
    have h0 := zs_aload_n (i := 0) C dX3_isBefore_0 rfl h1
    exact h0
  case hG =>
    intro as μ r h
    obtain ⟨x0, x1, x2, rfl, h⟩ := g_X3_isBefore_i h
    exact ⟨Nat.le_of_ble_eq_true rfl, h⟩
theorem m_X3_isBefore (N : Nat) : zk_MV yX3_isBefore cX3_isBefore 3 (some .boolean) ({ frames := 0, cells := 0, slots := 0, locals := 0 } : Room) zq_I (g_X3_isBefore N) 2 3 := ⟨c_X3_isBefore N, zw_445, zw_443, zw_444, zw_27, rfl, rfl, by decide +kernel, by decide, ⟨TX3, 8, rfl⟩, fun as μ r h => by obtain ⟨x0, x1, x2, rfl, -⟩ := g_X3_isBefore_i h; exact ⟨_, _, rfl⟩⟩
end
section
-- LongestWed$Sheet.reaches(II)Z
def f_X1_reaches (N : Nat) (x0 : Nat) (x1 : Int32) (x2 : Int32) (μ : ZM) : Option (Int32 × ZM) :=
  if x1 < 0 then
    zk_zr 0 μ
  else
    if x2 < 0 then
      zk_zr 0 μ
    else
      if ((μ.1 x0 2) - x2) < x1 then
        zk_zr 0 μ
      else
        zk_zr 1 μ
def g_X1_reaches (N : Nat) (as : List ZV) (μ : ZM) : Option (Int32 × ZM) := match as with
  | [.inr (.inr (1, x0)), .inl x1, .inl x2] => f_X1_reaches N x0 x1 x2 μ
  | _ => none
theorem g_X1_reaches_i {N : Nat} {as : List ZV} {μ : ZM} {r : Int32 × ZM} (h : g_X1_reaches N as μ = some r) : ∃ (x0 : Nat) (x1 : Int32) (x2 : Int32), as = [.inr (.inr (1, x0)), .inl x1, .inl x2] ∧ f_X1_reaches N x0 x1 x2 μ = some r := by
  unfold g_X1_reaches at h
  split at h
  · exact ⟨_, _, _, rfl, h⟩
  · cases h
set_option maxRecDepth 100000 in
theorem c_X1_reaches (N : Nat) : zk_C yX1_reaches cX1_reaches 3 (some .boolean) ({ frames := 0, cells := 0, slots := 0, locals := 0 } : Room) zq_I (g_X1_reaches N) := by
  refine zk_met ?κ (by decide +kernel) ?hG ?body
  case body =>
    intro X E C
    have C : zk_X X E RX1 cX1_reaches 3 (some .boolean) ({ frames := 0, cells := 0, slots := 0, locals := 0 } : Room) := C
    have h23 := zs_zret C dX1_reaches_23
    have h22 := zs_iconst (v := 0) C dX1_reaches_22 (by decide) h23
    have h19 := zs_goto (tgt := 23) C dX1_reaches_19 (by decide) h23
    have h18 := zs_iconst (v := 1) C dX1_reaches_18 (by decide) h19
    have h15 := zs_icmp_gt (tgt := 22) C dX1_reaches_15 (by decide) h22 h18
    have h14 := zs_isub C dX1_reaches_14 h15
    have h13 := zs_iload_n (i := 2) C dX1_reaches_13 rfl h14
    have h10 := zs_gI C dX1_reaches_10 zf_1_2 zw_135 h13
    have h9 := zs_aload_n (i := 0) C dX1_reaches_9 rfl h10
    have h8 := zs_iload_n (i := 1) C dX1_reaches_8 rfl h9
    have h5 := zs_if_lt (tgt := 22) C dX1_reaches_5 (by decide) h22 h8
    have h4 := zs_iload_n (i := 2) C dX1_reaches_4 rfl h5
    have h1 := zs_if_lt (tgt := 22) C dX1_reaches_1 (by decide) h22 h4
    have h0 := zs_iload_n (i := 1) C dX1_reaches_0 rfl h1
    exact h0
  case hG =>
    intro as μ r h
    obtain ⟨x0, x1, x2, rfl, h⟩ := g_X1_reaches_i h
    exact ⟨Nat.le_of_ble_eq_true rfl, h⟩
theorem m_X1_reaches (N : Nat) : zk_MV yX1_reaches cX1_reaches 3 (some .boolean) ({ frames := 0, cells := 0, slots := 0, locals := 0 } : Room) zq_I (g_X1_reaches N) 2 1 := ⟨c_X1_reaches N, zw_478, zw_476, zw_477, zw_30, rfl, rfl, by decide +kernel, by decide, ⟨TX1, 3, rfl⟩, fun as μ r h => by obtain ⟨x0, x1, x2, rfl, -⟩ := g_X1_reaches_i h; exact ⟨_, _, rfl⟩⟩
-- LongestWed$Sheet.faultOf(III)I
def f_X1_faultOf (N : Nat) (x0 : Nat) (x1 : Int32) (x2 : Int32) (x3 : Int32) (μ : ZM) : Option (Int32 × ZM) :=
  if ¬ (μ.1 x0 1) = (-1 : Int32) then
    if (μ.1 x0 1) = x1 then
      (f_X1_reaches N x0 x2 x3 μ).bind fun r1 =>
      if r1.1 = 0 then
        some ((-13), r1.2)
      else
        some (0, r1.2)
    else
      some ((-12), μ)
  else
    some ((-11), μ)
def g_X1_faultOf (N : Nat) (as : List ZV) (μ : ZM) : Option (Int32 × ZM) := match as with
  | [.inr (.inr (1, x0)), .inl x1, .inl x2, .inl x3] => f_X1_faultOf N x0 x1 x2 x3 μ
  | _ => none
theorem g_X1_faultOf_i {N : Nat} {as : List ZV} {μ : ZM} {r : Int32 × ZM} (h : g_X1_faultOf N as μ = some r) : ∃ (x0 : Nat) (x1 : Int32) (x2 : Int32) (x3 : Int32), as = [.inr (.inr (1, x0)), .inl x1, .inl x2, .inl x3] ∧ f_X1_faultOf N x0 x1 x2 x3 μ = some r := by
  unfold g_X1_faultOf at h
  split at h
  · exact ⟨_, _, _, _, rfl, h⟩
  · cases h
set_option maxRecDepth 100000 in
theorem c_X1_faultOf (N : Nat) : zk_C yX1_faultOf cX1_faultOf 4 (some .int) ({ frames := 1, cells := 0, slots := 0, locals := 22 } : Room) zq_I (g_X1_faultOf N) := by
  refine zk_met ?κ (by decide +kernel) ?hG ?body
  case body =>
    intro X E C
    have C : zk_X X E RX1 cX1_faultOf 4 (some .int) ({ frames := 1, cells := 0, slots := 0, locals := 22 } : Room) := C
    have h37 := zs_iret C dX1_faultOf_37
    have h35 := zs_bipush (v := (-13)) C dX1_faultOf_35 (by decide) h37
    have h32 := zs_goto (tgt := 37) C dX1_faultOf_32 (by decide) h37
    have h31 := zs_iconst (v := 0) C dX1_faultOf_31 (by decide) h32
    have h28 := zs_if_eq (tgt := 35) C dX1_faultOf_28 (by decide) h35 h31
    have h25 := zs_vI C dX1_faultOf_25 (m_X1_reaches N) zw_475 ⟨Nat.le_of_ble_eq_true rfl, Nat.le_of_ble_eq_true rfl⟩ h28
    have h24 := zs_iload_n (i := 3) C dX1_faultOf_24 rfl h25
    have h23 := zs_iload_n (i := 2) C dX1_faultOf_23 rfl h24
    have h22 := zs_aload_n (i := 0) C dX1_faultOf_22 rfl h23
    have h21 := zs_iret C dX1_faultOf_21
    have h19 := zs_bipush (v := (-12)) C dX1_faultOf_19 (by decide) h21
    have h16 := zs_icmp_eq (tgt := 22) C dX1_faultOf_16 (by decide) h22 h19
    have h15 := zs_iload_n (i := 1) C dX1_faultOf_15 rfl h16
    have h12 := zs_gI C dX1_faultOf_12 zf_1_1 zw_133 h15
    have h11 := zs_aload_n (i := 0) C dX1_faultOf_11 rfl h12
    have h10 := zs_iret C dX1_faultOf_10
    have h8 := zs_bipush (v := (-11)) C dX1_faultOf_8 (by decide) h10
    have h5 := zs_icmp_ne (tgt := 11) C dX1_faultOf_5 (by decide) h11 h8
    have h4 := zs_iconst (v := (-1)) C dX1_faultOf_4 (by decide) h5
    have h1 := zs_gI C dX1_faultOf_1 zf_1_1 zw_133 h4
    have h0 := zs_aload_n (i := 0) C dX1_faultOf_0 rfl h1
    exact h0
  case hG =>
    intro as μ r h
    obtain ⟨x0, x1, x2, x3, rfl, h⟩ := g_X1_faultOf_i h
    exact ⟨Nat.le_of_ble_eq_true rfl, h⟩
theorem m_X1_faultOf (N : Nat) : zk_MV yX1_faultOf cX1_faultOf 4 (some .int) ({ frames := 1, cells := 0, slots := 0, locals := 22 } : Room) zq_I (g_X1_faultOf N) 3 1 := ⟨c_X1_faultOf N, zw_474, zw_472, zw_473, zw_30, rfl, rfl, by decide +kernel, by decide, ⟨TX1, 3, rfl⟩, fun as μ r h => by obtain ⟨x0, x1, x2, x3, rfl, -⟩ := g_X1_faultOf_i h; exact ⟨_, _, rfl⟩⟩
-- LongestWed$Sheet.lowestBits(J)J
def f_X1_lowestBits (N : Nat) (x0 : Nat) (x1 : Int64) (μ : ZM) : Option (Int64 × ZM) :=
  if (μ.1 x0 1) = 0 then
    some ((Int32.toInt64 (Int8.toInt32 (Int32.toInt8 (Int64.toInt32 x1)))), μ)
  else
  if (μ.1 x0 1) = 1 then
    some ((Int32.toInt64 (Int16.toInt32 (Int32.toInt16 (Int64.toInt32 x1)))), μ)
  else
  if (μ.1 x0 1) = 2 then
    some ((Int32.toInt64 (Int64.toInt32 x1)), μ)
  else
    some (x1, μ)
def g_X1_lowestBits (N : Nat) (as : List ZV) (μ : ZM) : Option (Int64 × ZM) := match as with
  | [.inr (.inr (1, x0)), .inr (.inl x1)] => f_X1_lowestBits N x0 x1 μ
  | _ => none
theorem g_X1_lowestBits_i {N : Nat} {as : List ZV} {μ : ZM} {r : Int64 × ZM} (h : g_X1_lowestBits N as μ = some r) : ∃ (x0 : Nat) (x1 : Int64), as = [.inr (.inr (1, x0)), .inr (.inl x1)] ∧ f_X1_lowestBits N x0 x1 μ = some r := by
  unfold g_X1_lowestBits at h
  split at h
  · exact ⟨_, _, rfl, h⟩
  · cases h
set_option maxRecDepth 100000 in
theorem c_X1_lowestBits (N : Nat) : zk_C yX1_lowestBits cX1_lowestBits 3 (some .long) ({ frames := 0, cells := 0, slots := 0, locals := 0 } : Room) zq_J (g_X1_lowestBits N) := by
  refine zk_met ?κ (by decide +kernel) ?hG ?body
  case body =>
    intro X E C
    have C : zk_X X E RX1 cX1_lowestBits 3 (some .long) ({ frames := 0, cells := 0, slots := 0, locals := 0 } : Room) := C
    have h47 := zs_lret C dX1_lowestBits_47
    have h46 := zs_lload_n (i := 1) C dX1_lowestBits_46 rfl h47
    have h45 := zs_lret C dX1_lowestBits_45
    have h44 := zs_i2l C dX1_lowestBits_44 h45
    have h43 := zs_l2i C dX1_lowestBits_43 h44
    have h42 := zs_lload_n (i := 1) C dX1_lowestBits_42 rfl h43
    have h41 := zs_lret C dX1_lowestBits_41
    have h40 := zs_i2l C dX1_lowestBits_40 h41
    have h39 := zs_i2s C dX1_lowestBits_39 h40
    have h38 := zs_l2i C dX1_lowestBits_38 h39
    have h37 := zs_lload_n (i := 1) C dX1_lowestBits_37 rfl h38
    have h36 := zs_lret C dX1_lowestBits_36
    have h35 := zs_i2l C dX1_lowestBits_35 h36
    have h34 := zs_i2b C dX1_lowestBits_34 h35
    have h33 := zs_l2i C dX1_lowestBits_33 h34
    have h32 := zs_lload_n (i := 1) C dX1_lowestBits_32 rfl h33
    have h4 := zs_tab (q := zq_J) (cs := [(0, _), (1, _), (2, _)]) (tg := (fun x => if x = 0 then 32 else if x = 1 then 37 else if x = 2 then 42 else 0)) (tgt := 46) C dX1_lowestBits_4 (by decide) (by decide) (by decide +kernel) (by decide +kernel) (List.forall_mem_cons.mpr ⟨h32, (List.forall_mem_cons.mpr ⟨h37, (List.forall_mem_cons.mpr ⟨h42, (fun _ h => absurd h List.not_mem_nil)⟩)⟩)⟩) h46
    have h1 := zs_gI C dX1_lowestBits_1 zf_1_1 zw_133 h4
    have h0 := zs_aload_n (i := 0) C dX1_lowestBits_0 rfl h1
    exact h0
  case hG =>
    intro as μ r h
    obtain ⟨x0, x1, rfl, h⟩ := g_X1_lowestBits_i h
    exact ⟨Nat.le_of_ble_eq_true rfl, h⟩
theorem m_X1_lowestBits (N : Nat) : zk_MV yX1_lowestBits cX1_lowestBits 3 (some .long) ({ frames := 0, cells := 0, slots := 0, locals := 0 } : Room) zq_J (g_X1_lowestBits N) 1 1 := ⟨c_X1_lowestBits N, zw_514, zw_512, zw_513, zw_30, rfl, rfl, by decide +kernel, by decide, ⟨TX1, 3, rfl⟩, fun as μ r h => by obtain ⟨x0, x1, rfl, -⟩ := g_X1_lowestBits_i h; exact ⟨_, _, rfl⟩⟩
-- LongestWed$Sheet.put(IJ)V
def f_X1_put (N : Nat) (x0 : Nat) (x1 : Int32) (x2 : Int64) (μ : ZM) : Option (ZM) :=
  if x1 < 0 then
    some μ
  else
    if (μ.1 x0 2) ≤ x1 then
      some μ
    else
      (f_X1_lowestBits N x0 x2 μ).bind fun r1 =>
      if zk_o x1 24 = true then none else
      let μ2 := zk_sj r1.2 (x0 + 1) (Int32.toNatClampNeg x1) r1.1
      some μ2
def g_X1_put (N : Nat) (as : List ZV) (μ : ZM) : Option (ZM) := match as with
  | [.inr (.inr (1, x0)), .inl x1, .inr (.inl x2)] => f_X1_put N x0 x1 x2 μ
  | _ => none
theorem g_X1_put_i {N : Nat} {as : List ZV} {μ : ZM} {r : ZM} (h : g_X1_put N as μ = some r) : ∃ (x0 : Nat) (x1 : Int32) (x2 : Int64), as = [.inr (.inr (1, x0)), .inl x1, .inr (.inl x2)] ∧ f_X1_put N x0 x1 x2 μ = some r := by
  unfold g_X1_put at h
  split at h
  · exact ⟨_, _, _, rfl, h⟩
  · cases h
set_option maxRecDepth 100000 in
theorem c_X1_put (N : Nat) : zk_C yX1_put cX1_put 4 none ({ frames := 1, cells := 0, slots := 0, locals := 22 } : Room) zq_V (g_X1_put N) := by
  refine zk_met ?κ (by decide +kernel) ?hG ?body
  case body =>
    intro X E C
    have C : zk_X X E RX1 cX1_put 4 none ({ frames := 1, cells := 0, slots := 0, locals := 22 } : Room) := C
    have h23 := zs_vret C dX1_put_23
    have h22 := zs_last (n := 24) C dX1_put_22 (by decide) h23
    have h19 := zs_vJ C dX1_put_19 (m_X1_lowestBits N) zw_511 ⟨Nat.le_of_ble_eq_true rfl, Nat.le_of_ble_eq_true rfl⟩ h22
    have h18 := zs_lload_n (i := 2) C dX1_put_18 rfl h19
    have h17 := zs_aload_n (i := 0) C dX1_put_17 rfl h18
    have h16 := zs_iload_n (i := 1) C dX1_put_16 rfl h17
    have h13 := zs_gR C dX1_put_13 zf_1_0 zw_131 h16
    have h12 := zs_aload_n (i := 0) C dX1_put_12 rfl h13
    have h9 := zs_icmp_ge (tgt := 23) C dX1_put_9 (by decide) h23 h12
    have h6 := zs_gI C dX1_put_6 zf_1_2 zw_135 h9
    have h5 := zs_aload_n (i := 0) C dX1_put_5 rfl h6
    have h4 := zs_iload_n (i := 1) C dX1_put_4 rfl h5
    have h1 := zs_if_lt (tgt := 23) C dX1_put_1 (by decide) h23 h4
    have h0 := zs_iload_n (i := 1) C dX1_put_0 rfl h1
    exact h0
  case hG =>
    intro as μ r h
    obtain ⟨x0, x1, x2, rfl, h⟩ := g_X1_put_i h
    exact ⟨Nat.le_of_ble_eq_true rfl, h⟩
theorem m_X1_put (N : Nat) : zk_MV yX1_put cX1_put 4 none ({ frames := 1, cells := 0, slots := 0, locals := 22 } : Room) zq_V (g_X1_put N) 2 1 := ⟨c_X1_put N, zw_510, zw_508, zw_509, zw_30, rfl, rfl, by decide +kernel, by decide, ⟨TX1, 3, rfl⟩, fun as μ r h => by obtain ⟨x0, x1, x2, rfl, -⟩ := g_X1_put_i h; exact ⟨_, _, rfl⟩⟩
-- LongestWed$Sheet.renew(II)V
def f_X1_renew_L2 (N : Nat) : Nat → Nat → Int32 → Int32 → Int32 → ZM → Option (ZM)
  | 0, _, _, _, _, _ => none
  | n + 1, x0, x1, x2, x3, μ =>
    if (24 : Int32) ≤ x3 then
      let μ1 := zk_si μ x0 1 x1
      let μ2 := zk_si μ1 x0 2 x2
      some μ2
    else
      if zk_o x3 24 = true then none else
      let μ3 := zk_sj μ (x0 + 1) (Int32.toNatClampNeg x3) 0
      f_X1_renew_L2 N n x0 x1 x2 (x3 + 1) μ3
def k_X1_renew_L2 (N n : Nat) : ZK (ZM) := fun L st μ => match L, st with
  | [some (.inr (.inr (1, x0))), some (.inl x1), some (.inl x2), some (.inl x3)], [] => f_X1_renew_L2 N n x0 x1 x2 x3 μ
  | _, _ => none
theorem k_X1_renew_L2_i {N : Nat} {n : Nat} {L : ZL} {st : List ZV} {μ : ZM} {r : ZM} (h : k_X1_renew_L2 N n L st μ = some r) : ∃ (x0 : Nat) (x1 : Int32) (x2 : Int32) (x3 : Int32), L = [some (.inr (.inr (1, x0))), some (.inl x1), some (.inl x2), some (.inl x3)] ∧ st = [] ∧ f_X1_renew_L2 N n x0 x1 x2 x3 μ = some r := by
  unfold k_X1_renew_L2 at h
  split at h
  · exact ⟨_, _, _, _, rfl, rfl, h⟩
  · cases h
set_option maxRecDepth 100000 in
theorem s_X1_renew_L2 (N : Nat) {X : ZX} {E : ZE} (C : zk_X X E RX1 cX1_renew 4 none ({ frames := 0, cells := 0, slots := 0, locals := 0 } : Room)) : ∀ n, zk_S X E 4 zq_V 2 (k_X1_renew_L2 N n) := by
  intro n
  induction n with
  | zero =>
    intro H locs ls L st μ r h hL hst hW hS
    obtain ⟨x0, x1, x2, x3, rfl, rfl, h⟩ := k_X1_renew_L2_i h
    exact nomatch (show none = some r from h)
  | succ n ih =>
    have h31 := zs_vret C dX1_renew_31
    have h28 := zs_pI C dX1_renew_28 zf_1_2 zw_135 rfl (by decide +kernel) h31
    have h27 := zs_iload_n (i := 2) C dX1_renew_27 rfl h28
    have h26 := zs_aload_n (i := 0) C dX1_renew_26 rfl h27
    have h23 := zs_pI C dX1_renew_23 zf_1_1 zw_133 rfl (by decide +kernel) h26
    have h22 := zs_iload_n (i := 1) C dX1_renew_22 rfl h23
    have h21 := zs_aload_n (i := 0) C dX1_renew_21 rfl h22
    have h18 := zs_goto (tgt := 2) C dX1_renew_18 (by decide) ih
    have h15 := zs_iinc (n := 1) C dX1_renew_15 (by decide) h18
    have h14 := zs_last (n := 24) C dX1_renew_14 (by decide) h15
    have h13 := zs_lconst (v := 0) C dX1_renew_13 (by decide) h14
    have h12 := zs_iload_n (i := 3) C dX1_renew_12 rfl h13
    have h9 := zs_gR C dX1_renew_9 zf_1_0 zw_131 h12
    have h8 := zs_aload_n (i := 0) C dX1_renew_8 rfl h9
    have h5 := zs_icmp_ge (tgt := 21) C dX1_renew_5 (by decide) h21 h8
    have h3 := zs_bipush (v := 24) C dX1_renew_3 (by decide) h5
    have h2 := zs_iload_n (i := 3) C dX1_renew_2 rfl h3
    intro H locs ls L st μ r h hL hst hW hS
    obtain ⟨x0, x1, x2, x3, rfl, rfl, h⟩ := k_X1_renew_L2_i h
    exact h2 H locs ls [some (.inr (.inr (1, x0))), some (.inl x1), some (.inl x2), some (.inl x3)] [] μ r h (hL.less ⟨rfl, rfl, rfl, rfl, trivial⟩) hst hW hS
def f_X1_renew (N : Nat) (x0 : Nat) (x1 : Int32) (x2 : Int32) (μ : ZM) : Option (ZM) :=
  f_X1_renew_L2 N N x0 x1 x2 0 μ
def g_X1_renew (N : Nat) (as : List ZV) (μ : ZM) : Option (ZM) := match as with
  | [.inr (.inr (1, x0)), .inl x1, .inl x2] => f_X1_renew N x0 x1 x2 μ
  | _ => none
theorem g_X1_renew_i {N : Nat} {as : List ZV} {μ : ZM} {r : ZM} (h : g_X1_renew N as μ = some r) : ∃ (x0 : Nat) (x1 : Int32) (x2 : Int32), as = [.inr (.inr (1, x0)), .inl x1, .inl x2] ∧ f_X1_renew N x0 x1 x2 μ = some r := by
  unfold g_X1_renew at h
  split at h
  · exact ⟨_, _, _, rfl, h⟩
  · cases h
set_option maxRecDepth 100000 in
theorem c_X1_renew (N : Nat) : zk_C yX1_renew cX1_renew 4 none ({ frames := 0, cells := 0, slots := 0, locals := 0 } : Room) zq_V (g_X1_renew N) := by
  refine zk_met ?κ (by decide +kernel) ?hG ?body
  case body =>
    intro X E C
    have C : zk_X X E RX1 cX1_renew 4 none ({ frames := 0, cells := 0, slots := 0, locals := 0 } : Room) := C
    have e2 := s_X1_renew_L2 N C N
    have h1 := zs_istore_n (i := 3) C dX1_renew_1 rfl e2
    have h0 := zs_iconst (v := 0) C dX1_renew_0 (by decide) h1
    exact h0
  case hG =>
    intro as μ r h
    obtain ⟨x0, x1, x2, rfl, h⟩ := g_X1_renew_i h
    exact ⟨Nat.le_of_ble_eq_true rfl, h⟩
theorem m_X1_renew (N : Nat) : zk_MV yX1_renew cX1_renew 4 none ({ frames := 0, cells := 0, slots := 0, locals := 0 } : Room) zq_V (g_X1_renew N) 2 1 := ⟨c_X1_renew N, zw_522, zw_520, zw_521, zw_30, rfl, rfl, by decide +kernel, by decide, ⟨TX1, 3, rfl⟩, fun as μ r h => by obtain ⟨x0, x1, x2, rfl, -⟩ := g_X1_renew_i h; exact ⟨_, _, rfl⟩⟩
end
section
-- LongestWed$Past.forget()V
def f_X0_forget (N : Nat) (x0 : Nat) (μ : ZM) : Option (ZM) :=
  let μ1 := zk_si μ x0 2 0
  some μ1
def g_X0_forget (N : Nat) (as : List ZV) (μ : ZM) : Option (ZM) := match as with
  | [.inr (.inr (0, x0))] => f_X0_forget N x0 μ
  | _ => none
theorem g_X0_forget_i {N : Nat} {as : List ZV} {μ : ZM} {r : ZM} (h : g_X0_forget N as μ = some r) : ∃ (x0 : Nat), as = [.inr (.inr (0, x0))] ∧ f_X0_forget N x0 μ = some r := by
  unfold g_X0_forget at h
  split at h
  · exact ⟨_, rfl, h⟩
  · cases h
set_option maxRecDepth 100000 in
theorem c_X0_forget (N : Nat) : zk_C yX0_forget cX0_forget 1 none ({ frames := 0, cells := 0, slots := 0, locals := 0 } : Room) zq_V (g_X0_forget N) := by
  refine zk_met ?κ (by decide +kernel) ?hG ?body
  case body =>
    intro X E C
    have C : zk_X X E RX0 cX0_forget 1 none ({ frames := 0, cells := 0, slots := 0, locals := 0 } : Room) := C
    have h5 := zs_vret C dX0_forget_5
    have h2 := zs_pI C dX0_forget_2 zf_0_2 zw_94 rfl (by decide +kernel) h5
    have h1 := zs_iconst (v := 0) C dX0_forget_1 (by decide) h2
    have h0 := zs_aload_n (i := 0) C dX0_forget_0 rfl h1
    exact h0
  case hG =>
    intro as μ r h
    obtain ⟨x0, rfl, h⟩ := g_X0_forget_i h
    exact ⟨Nat.le_of_ble_eq_true rfl, h⟩
theorem m_X0_forget (N : Nat) : zk_MV yX0_forget cX0_forget 1 none ({ frames := 0, cells := 0, slots := 0, locals := 0 } : Room) zq_V (g_X0_forget N) 0 0 := ⟨c_X0_forget N, zw_180, zw_178, zw_179, zw_28, rfl, rfl, by decide +kernel, by decide, ⟨TX0, 3, rfl⟩, fun as μ r h => by obtain ⟨x0, rfl, -⟩ := g_X0_forget_i h; exact ⟨_, _, rfl⟩⟩
-- LongestWed$Past.note(LLongestWed$Town;)V
def f_X0_note (N : Nat) (x0 : Nat) (x1 : Nat) (μ : ZM) : Option (ZM) :=
  if zk_o (μ.1 x0 1) 8 = true then none else
  (f_X3_become N ((x0 + 1) + 1 + 5 * Int32.toNatClampNeg (μ.1 x0 1)) x1 μ).bind fun r1 =>
  if 8 = 0 then none else
  let μ2 := zk_si r1 x0 1 (((r1.1 x0 1) + 1) - ((r1.1 x0 1) + 1) / 8 * 8)
  let μ3 := zk_si μ2 x0 2 (if ((μ2.1 x0 2) + 1) < 8 then ((μ2.1 x0 2) + 1) else 8)
  some μ3
def g_X0_note (N : Nat) (as : List ZV) (μ : ZM) : Option (ZM) := match as with
  | [.inr (.inr (0, x0)), .inr (.inr (3, x1))] => f_X0_note N x0 x1 μ
  | _ => none
theorem g_X0_note_i {N : Nat} {as : List ZV} {μ : ZM} {r : ZM} (h : g_X0_note N as μ = some r) : ∃ (x0 : Nat) (x1 : Nat), as = [.inr (.inr (0, x0)), .inr (.inr (3, x1))] ∧ f_X0_note N x0 x1 μ = some r := by
  unfold g_X0_note at h
  split at h
  · exact ⟨_, _, rfl, h⟩
  · cases h
set_option maxRecDepth 100000 in
theorem c_X0_note (N : Nat) : zk_C yX0_note cX0_note 2 none ({ frames := 2, cells := 0, slots := 0, locals := 47 } : Room) zq_V (g_X0_note N) := by
  refine zk_met ?κ (by decide +kernel) ?hG ?body
  case body =>
    intro X E C
    have C : zk_X X E RX0 cX0_note 2 none ({ frames := 2, cells := 0, slots := 0, locals := 47 } : Room) := C
    have h41 := zs_vret C dX0_note_41
    have h38 := zs_pI C dX0_note_38 zf_0_2 zw_94 rfl (by decide +kernel) h41
    have h35 := zs_mmin C dX0_note_35 zw_295 zw_296 zw_33 zw_297 (Nat.le_of_ble_eq_true rfl) (Nat.le_of_ble_eq_true rfl) h38
    have h34 := zs_iadd C dX0_note_34 h35
    have h33 := zs_iconst (v := 1) C dX0_note_33 (by decide) h34
    have h30 := zs_gI C dX0_note_30 zf_0_2 zw_94 h33
    have h29 := zs_aload_n (i := 0) C dX0_note_29 rfl h30
    have h27 := zs_bipush (v := 8) C dX0_note_27 (by decide) h29
    have h26 := zs_aload_n (i := 0) C dX0_note_26 rfl h27
    have h23 := zs_pI C dX0_note_23 zf_0_1 zw_93 rfl (by decide +kernel) h26
    have h22 := zs_irem C dX0_note_22 h23
    have h20 := zs_bipush (v := 8) C dX0_note_20 (by decide) h22
    have h19 := zs_iadd C dX0_note_19 h20
    have h18 := zs_iconst (v := 1) C dX0_note_18 (by decide) h19
    have h15 := zs_gI C dX0_note_15 zf_0_1 zw_93 h18
    have h14 := zs_aload_n (i := 0) C dX0_note_14 rfl h15
    have h13 := zs_aload_n (i := 0) C dX0_note_13 rfl h14
    have h10 := zs_vV C dX0_note_10 (m_X3_become N) zw_294 ⟨Nat.le_of_ble_eq_true rfl, Nat.le_of_ble_eq_true rfl⟩ h13
    have h9 := zs_aload_n (i := 1) C dX0_note_9 rfl h10
    have h8 := zs_aldT C dX0_note_8 h9
    have h5 := zs_gI C dX0_note_5 zf_0_1 zw_93 h8
    have h4 := zs_aload_n (i := 0) C dX0_note_4 rfl h5
    have h1 := zs_gR C dX0_note_1 zf_0_0 zw_92 h4
    have h0 := zs_aload_n (i := 0) C dX0_note_0 rfl h1
    exact h0
  case hG =>
    intro as μ r h
    obtain ⟨x0, x1, rfl, h⟩ := g_X0_note_i h
    exact ⟨Nat.le_of_ble_eq_true rfl, h⟩
theorem m_X0_note (N : Nat) : zk_MV yX0_note cX0_note 2 none ({ frames := 2, cells := 0, slots := 0, locals := 47 } : Room) zq_V (g_X0_note N) 1 0 := ⟨c_X0_note N, zw_293, zw_291, zw_292, zw_28, rfl, rfl, by decide +kernel, by decide, ⟨TX0, 3, rfl⟩, fun as μ r h => by obtain ⟨x0, x1, rfl, -⟩ := g_X0_note_i h; exact ⟨_, _, rfl⟩⟩
-- LongestWed$Past.giveBack(LLongestWed$Town;)V
def f_X0_giveBack (N : Nat) (x0 : Nat) (x1 : Nat) (μ : ZM) : Option (ZM) :=
  if 8 = 0 then none else
  let μ1 := zk_si μ x0 1 ((((μ.1 x0 1) + 8) - 1) - (((μ.1 x0 1) + 8) - 1) / 8 * 8)
  let μ2 := zk_si μ1 x0 2 ((μ1.1 x0 2) - 1)
  if zk_o (μ2.1 x0 1) 8 = true then none else
  (f_X3_become N x1 ((x0 + 1) + 1 + 5 * Int32.toNatClampNeg (μ2.1 x0 1)) μ2).bind fun r3 =>
  some r3
def g_X0_giveBack (N : Nat) (as : List ZV) (μ : ZM) : Option (ZM) := match as with
  | [.inr (.inr (0, x0)), .inr (.inr (3, x1))] => f_X0_giveBack N x0 x1 μ
  | _ => none
theorem g_X0_giveBack_i {N : Nat} {as : List ZV} {μ : ZM} {r : ZM} (h : g_X0_giveBack N as μ = some r) : ∃ (x0 : Nat) (x1 : Nat), as = [.inr (.inr (0, x0)), .inr (.inr (3, x1))] ∧ f_X0_giveBack N x0 x1 μ = some r := by
  unfold g_X0_giveBack at h
  split at h
  · exact ⟨_, _, rfl, h⟩
  · cases h
set_option maxRecDepth 100000 in
theorem c_X0_giveBack (N : Nat) : zk_C yX0_giveBack cX0_giveBack 2 none ({ frames := 2, cells := 0, slots := 0, locals := 47 } : Room) zq_V (g_X0_giveBack N) := by
  refine zk_met ?κ (by decide +kernel) ?hG ?body
  case body =>
    intro X E C
    have C : zk_X X E RX0 cX0_giveBack 2 none ({ frames := 2, cells := 0, slots := 0, locals := 47 } : Room) := C
    have h39 := zs_vret C dX0_giveBack_39
    have h36 := zs_vV C dX0_giveBack_36 (m_X3_become N) zw_294 ⟨Nat.le_of_ble_eq_true rfl, Nat.le_of_ble_eq_true rfl⟩ h39
    have h35 := zs_aldT C dX0_giveBack_35 h36
    have h32 := zs_gI C dX0_giveBack_32 zf_0_1 zw_93 h35
    have h31 := zs_aload_n (i := 0) C dX0_giveBack_31 rfl h32
    have h28 := zs_gR C dX0_giveBack_28 zf_0_0 zw_92 h31
    have h27 := zs_aload_n (i := 0) C dX0_giveBack_27 rfl h28
    have h26 := zs_aload_n (i := 1) C dX0_giveBack_26 rfl h27
    have h23 := zs_pI C dX0_giveBack_23 zf_0_2 zw_94 rfl (by decide +kernel) h26
    have h22 := zs_isub C dX0_giveBack_22 h23
    have h21 := zs_iconst (v := 1) C dX0_giveBack_21 (by decide) h22
    have h18 := zs_gI C dX0_giveBack_18 zf_0_2 zw_94 h21
    have h17 := zs_dup C dX0_giveBack_17 h18
    have h16 := zs_aload_n (i := 0) C dX0_giveBack_16 rfl h17
    have h13 := zs_pI C dX0_giveBack_13 zf_0_1 zw_93 rfl (by decide +kernel) h16
    have h12 := zs_irem C dX0_giveBack_12 h13
    have h10 := zs_bipush (v := 8) C dX0_giveBack_10 (by decide) h12
    have h9 := zs_isub C dX0_giveBack_9 h10
    have h8 := zs_iconst (v := 1) C dX0_giveBack_8 (by decide) h9
    have h7 := zs_iadd C dX0_giveBack_7 h8
    have h5 := zs_bipush (v := 8) C dX0_giveBack_5 (by decide) h7
    have h2 := zs_gI C dX0_giveBack_2 zf_0_1 zw_93 h5
    have h1 := zs_aload_n (i := 0) C dX0_giveBack_1 rfl h2
    have h0 := zs_aload_n (i := 0) C dX0_giveBack_0 rfl h1
    exact h0
  case hG =>
    intro as μ r h
    obtain ⟨x0, x1, rfl, h⟩ := g_X0_giveBack_i h
    exact ⟨Nat.le_of_ble_eq_true rfl, h⟩
theorem m_X0_giveBack (N : Nat) : zk_MV yX0_giveBack cX0_giveBack 2 none ({ frames := 2, cells := 0, slots := 0, locals := 47 } : Room) zq_V (g_X0_giveBack N) 1 0 := ⟨c_X0_giveBack N, zw_350, zw_348, zw_349, zw_28, rfl, rfl, by decide +kernel, by decide, ⟨TX0, 3, rfl⟩, fun as μ r h => by obtain ⟨x0, x1, rfl, -⟩ := g_X0_giveBack_i h; exact ⟨_, _, rfl⟩⟩
-- LongestWed$Past.become(LLongestWed$Past;)V
def f_X0_become_L2 (N : Nat) : Nat → Nat → Nat → Int32 → ZM → Option (ZM)
  | 0, _, _, _, _ => none
  | n + 1, x0, x1, x2, μ =>
    if (8 : Int32) ≤ x2 then
      let μ1 := zk_si μ x0 1 (μ.1 x1 1)
      let μ2 := zk_si μ1 x0 2 (μ1.1 x1 2)
      some μ2
    else
      if zk_o x2 8 = true then none else
      if zk_o x2 8 = true then none else
      (f_X3_become N ((x0 + 1) + 1 + 5 * Int32.toNatClampNeg x2) ((x1 + 1) + 1 + 5 * Int32.toNatClampNeg x2) μ).bind fun r3 =>
      f_X0_become_L2 N n x0 x1 (x2 + 1) r3
def k_X0_become_L2 (N n : Nat) : ZK (ZM) := fun L st μ => match L, st with
  | [some (.inr (.inr (0, x0))), some (.inr (.inr (0, x1))), some (.inl x2)], [] => f_X0_become_L2 N n x0 x1 x2 μ
  | _, _ => none
theorem k_X0_become_L2_i {N : Nat} {n : Nat} {L : ZL} {st : List ZV} {μ : ZM} {r : ZM} (h : k_X0_become_L2 N n L st μ = some r) : ∃ (x0 : Nat) (x1 : Nat) (x2 : Int32), L = [some (.inr (.inr (0, x0))), some (.inr (.inr (0, x1))), some (.inl x2)] ∧ st = [] ∧ f_X0_become_L2 N n x0 x1 x2 μ = some r := by
  unfold k_X0_become_L2 at h
  split at h
  · exact ⟨_, _, _, rfl, rfl, h⟩
  · cases h
set_option maxRecDepth 100000 in
theorem s_X0_become_L2 (N : Nat) {X : ZX} {E : ZE} (C : zk_X X E RX0 cX0_become 3 none ({ frames := 2, cells := 0, slots := 0, locals := 47 } : Room)) : ∀ n, zk_S X E 3 zq_V 2 (k_X0_become_L2 N n) := by
  intro n
  induction n with
  | zero =>
    intro H locs ls L st μ r h hL hst hW hS
    obtain ⟨x0, x1, x2, rfl, rfl, h⟩ := k_X0_become_L2_i h
    exact nomatch (show none = some r from h)
  | succ n ih =>
    have h45 := zs_vret C dX0_become_45
    have h42 := zs_pI C dX0_become_42 zf_0_2 zw_94 rfl (by decide +kernel) h45
    have h39 := zs_gI C dX0_become_39 zf_0_2 zw_94 h42
    have h38 := zs_aload_n (i := 1) C dX0_become_38 rfl h39
    have h37 := zs_aload_n (i := 0) C dX0_become_37 rfl h38
    have h34 := zs_pI C dX0_become_34 zf_0_1 zw_93 rfl (by decide +kernel) h37
    have h31 := zs_gI C dX0_become_31 zf_0_1 zw_93 h34
    have h30 := zs_aload_n (i := 1) C dX0_become_30 rfl h31
    have h29 := zs_aload_n (i := 0) C dX0_become_29 rfl h30
    have h26 := zs_goto (tgt := 2) C dX0_become_26 (by decide) ih
    have h23 := zs_iinc (n := 1) C dX0_become_23 (by decide) h26
    have h20 := zs_vV C dX0_become_20 (m_X3_become N) zw_294 ⟨Nat.le_of_ble_eq_true rfl, Nat.le_of_ble_eq_true rfl⟩ h23
    have h19 := zs_aldT C dX0_become_19 h20
    have h18 := zs_iload_n (i := 2) C dX0_become_18 rfl h19
    have h15 := zs_gR C dX0_become_15 zf_0_0 zw_92 h18
    have h14 := zs_aload_n (i := 1) C dX0_become_14 rfl h15
    have h13 := zs_aldT C dX0_become_13 h14
    have h12 := zs_iload_n (i := 2) C dX0_become_12 rfl h13
    have h9 := zs_gR C dX0_become_9 zf_0_0 zw_92 h12
    have h8 := zs_aload_n (i := 0) C dX0_become_8 rfl h9
    have h5 := zs_icmp_ge (tgt := 29) C dX0_become_5 (by decide) h29 h8
    have h3 := zs_bipush (v := 8) C dX0_become_3 (by decide) h5
    have h2 := zs_iload_n (i := 2) C dX0_become_2 rfl h3
    intro H locs ls L st μ r h hL hst hW hS
    obtain ⟨x0, x1, x2, rfl, rfl, h⟩ := k_X0_become_L2_i h
    exact h2 H locs ls [some (.inr (.inr (0, x0))), some (.inr (.inr (0, x1))), some (.inl x2)] [] μ r h (hL.less ⟨rfl, rfl, rfl, trivial⟩) hst hW hS
def f_X0_become (N : Nat) (x0 : Nat) (x1 : Nat) (μ : ZM) : Option (ZM) :=
  f_X0_become_L2 N N x0 x1 0 μ
def g_X0_become (N : Nat) (as : List ZV) (μ : ZM) : Option (ZM) := match as with
  | [.inr (.inr (0, x0)), .inr (.inr (0, x1))] => f_X0_become N x0 x1 μ
  | _ => none
theorem g_X0_become_i {N : Nat} {as : List ZV} {μ : ZM} {r : ZM} (h : g_X0_become N as μ = some r) : ∃ (x0 : Nat) (x1 : Nat), as = [.inr (.inr (0, x0)), .inr (.inr (0, x1))] ∧ f_X0_become N x0 x1 μ = some r := by
  unfold g_X0_become at h
  split at h
  · exact ⟨_, _, rfl, h⟩
  · cases h
set_option maxRecDepth 100000 in
theorem c_X0_become (N : Nat) : zk_C yX0_become cX0_become 3 none ({ frames := 2, cells := 0, slots := 0, locals := 47 } : Room) zq_V (g_X0_become N) := by
  refine zk_met ?κ (by decide +kernel) ?hG ?body
  case body =>
    intro X E C
    have C : zk_X X E RX0 cX0_become 3 none ({ frames := 2, cells := 0, slots := 0, locals := 47 } : Room) := C
    have e2 := s_X0_become_L2 N C N
    have h1 := zs_istore_n (i := 2) C dX0_become_1 rfl e2
    have h0 := zs_iconst (v := 0) C dX0_become_0 (by decide) h1
    exact h0
  case hG =>
    intro as μ r h
    obtain ⟨x0, x1, rfl, h⟩ := g_X0_become_i h
    exact ⟨Nat.le_of_ble_eq_true rfl, h⟩
theorem m_X0_become (N : Nat) : zk_MV yX0_become cX0_become 3 none ({ frames := 2, cells := 0, slots := 0, locals := 47 } : Room) zq_V (g_X0_become N) 1 0 := ⟨c_X0_become N, zw_456, zw_454, zw_455, zw_28, rfl, rfl, by decide +kernel, by decide, ⟨TX0, 3, rfl⟩, fun as μ r h => by obtain ⟨x0, x1, rfl, -⟩ := g_X0_become_i h; exact ⟨_, _, rfl⟩⟩
end
