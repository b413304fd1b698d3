-- ===== PART A: goes FIRST, ahead of the names: the tables' words, and 'selects' of the private methods out of them =====
/-- a private method of a class that the tables say can be made, by its rows of tables_1 -/
def lw_okq (q : MethodName × Nat) : Prop := (q.1.cls ≠ "java/lang/invoke/MethodHandle" ∧ q.1.cls ≠ "java/lang/invoke/VarHandle") ∧ Cond.instantiable q.1.cls q.2 ∈ tables_1 ∧ Cond.privateMethod q.1 ∈ tables_1 ∧ Cond.instanceMethod q.1 ∈ tables_1
theorem lw_p0 : lw_okq (⟨"ConstrainedCoder$Encoder", "orderEdges", "(LConstrainedCoder$Graph;)V"⟩, 7) := ⟨⟨by decide +kernel, by decide +kernel⟩, List.mem_of_getElem? (i := 163) (by decide +kernel), List.mem_of_getElem? (i := 293) (by decide +kernel), List.mem_of_getElem? (i := 294) (by decide +kernel)⟩
theorem lw_p1 : lw_okq (⟨"ConstrainedCoder$Encoder", "giveDataWord", "(II)V"⟩, 7) := ⟨⟨by decide +kernel, by decide +kernel⟩, List.mem_of_getElem? (i := 163) (by decide +kernel), List.mem_of_getElem? (i := 320) (by decide +kernel), List.mem_of_getElem? (i := 321) (by decide +kernel)⟩
theorem lw_p2 : lw_okq (⟨"ConstrainedCoder", "afterGraphChange", "(I)I"⟩, 13) := ⟨⟨by decide +kernel, by decide +kernel⟩, List.mem_of_getElem? (i := 17) (by decide +kernel), List.mem_of_getElem? (i := 345) (by decide +kernel), List.mem_of_getElem? (i := 346) (by decide +kernel)⟩
theorem lw_p3 : lw_okq (⟨"ConstrainedCoder$PowerBuilder", "countPaths", "(LConstrainedCoder$Graph;I)V"⟩, 9) := ⟨⟨by decide +kernel, by decide +kernel⟩, List.mem_of_getElem? (i := 80) (by decide +kernel), List.mem_of_getElem? (i := 490) (by decide +kernel), List.mem_of_getElem? (i := 491) (by decide +kernel)⟩
theorem lw_p4 : lw_okq (⟨"ConstrainedCoder$PowerBuilder", "totalOfPaths", "(LConstrainedCoder$Graph;I)I"⟩, 9) := ⟨⟨by decide +kernel, by decide +kernel⟩, List.mem_of_getElem? (i := 80) (by decide +kernel), List.mem_of_getElem? (i := 498) (by decide +kernel), List.mem_of_getElem? (i := 499) (by decide +kernel)⟩
theorem lw_p5 : lw_okq (⟨"ConstrainedCoder$PowerBuilder", "listEmptyPaths", "(LConstrainedCoder$Graph;I)V"⟩, 9) := ⟨⟨by decide +kernel, by decide +kernel⟩, List.mem_of_getElem? (i := 80) (by decide +kernel), List.mem_of_getElem? (i := 503) (by decide +kernel), List.mem_of_getElem? (i := 504) (by decide +kernel)⟩
theorem lw_p6 : lw_okq (⟨"ConstrainedCoder$PowerBuilder", "extendPaths", "(LConstrainedCoder$Graph;I)V"⟩, 9) := ⟨⟨by decide +kernel, by decide +kernel⟩, List.mem_of_getElem? (i := 80) (by decide +kernel), List.mem_of_getElem? (i := 507) (by decide +kernel), List.mem_of_getElem? (i := 508) (by decide +kernel)⟩
theorem lw_p7 : lw_okq (⟨"ConstrainedCoder$PowerBuilder", "appendLonger", "(III)V"⟩, 9) := ⟨⟨by decide +kernel, by decide +kernel⟩, List.mem_of_getElem? (i := 80) (by decide +kernel), List.mem_of_getElem? (i := 512) (by decide +kernel), List.mem_of_getElem? (i := 513) (by decide +kernel)⟩
theorem lw_p8 : lw_okq (⟨"ConstrainedCoder$Graph", "inDegree", "(I)I"⟩, 7) := ⟨⟨by decide +kernel, by decide +kernel⟩, List.mem_of_getElem? (i := 25) (by decide +kernel), List.mem_of_getElem? (i := 533) (by decide +kernel), List.mem_of_getElem? (i := 534) (by decide +kernel)⟩
theorem lw_p9 : lw_okq (⟨"ConstrainedCoder$Graph", "moveEdgesOutsideMask", "(III)V"⟩, 7) := ⟨⟨by decide +kernel, by decide +kernel⟩, List.mem_of_getElem? (i := 25) (by decide +kernel), List.mem_of_getElem? (i := 538) (by decide +kernel), List.mem_of_getElem? (i := 539) (by decide +kernel)⟩
theorem lw_p10 : lw_okq (⟨"ConstrainedCoder$Graph", "copyIncomingEdges", "(II)V"⟩, 7) := ⟨⟨by decide +kernel, by decide +kernel⟩, List.mem_of_getElem? (i := 25) (by decide +kernel), List.mem_of_getElem? (i := 542) (by decide +kernel), List.mem_of_getElem? (i := 543) (by decide +kernel)⟩
theorem lw_p11 : lw_okq (⟨"ConstrainedCoder$WordCounter", "countAll", "(LConstrainedCoder$Graph;IZ)V"⟩, 2) := ⟨⟨by decide +kernel, by decide +kernel⟩, List.mem_of_getElem? (i := 116) (by decide +kernel), List.mem_of_getElem? (i := 574) (by decide +kernel), List.mem_of_getElem? (i := 575) (by decide +kernel)⟩
theorem lw_p12 : lw_okq (⟨"ConstrainedCoder$WordCounter", "addThrough", "(LConstrainedCoder$Graph;III)V"⟩, 2) := ⟨⟨by decide +kernel, by decide +kernel⟩, List.mem_of_getElem? (i := 116) (by decide +kernel), List.mem_of_getElem? (i := 584) (by decide +kernel), List.mem_of_getElem? (i := 585) (by decide +kernel)⟩
theorem lw_p13 : lw_okq (⟨"ConstrainedCoder$WordCounter", "weightOf", "(I)I"⟩, 2) := ⟨⟨by decide +kernel, by decide +kernel⟩, List.mem_of_getElem? (i := 116) (by decide +kernel), List.mem_of_getElem? (i := 591) (by decide +kernel), List.mem_of_getElem? (i := 592) (by decide +kernel)⟩
theorem lw_p14 : lw_okq (⟨"ConstrainedCoder$WordCounter", "countAt", "(III)J"⟩, 2) := ⟨⟨by decide +kernel, by decide +kernel⟩, List.mem_of_getElem? (i := 116) (by decide +kernel), List.mem_of_getElem? (i := 602) (by decide +kernel), List.mem_of_getElem? (i := 603) (by decide +kernel)⟩
theorem lw_p15 : lw_okq (⟨"ConstrainedCoder$WordCounter", "countThrough", "(LConstrainedCoder$Graph;IIII)J"⟩, 2) := ⟨⟨by decide +kernel, by decide +kernel⟩, List.mem_of_getElem? (i := 116) (by decide +kernel), List.mem_of_getElem? (i := 610) (by decide +kernel), List.mem_of_getElem? (i := 611) (by decide +kernel)⟩
def lw_privs_1 : List (MethodName × Nat) := [(⟨"ConstrainedCoder$Encoder", "orderEdges", "(LConstrainedCoder$Graph;)V"⟩, 7), (⟨"ConstrainedCoder$Encoder", "giveDataWord", "(II)V"⟩, 7), (⟨"ConstrainedCoder", "afterGraphChange", "(I)I"⟩, 13), (⟨"ConstrainedCoder$PowerBuilder", "countPaths", "(LConstrainedCoder$Graph;I)V"⟩, 9), (⟨"ConstrainedCoder$PowerBuilder", "totalOfPaths", "(LConstrainedCoder$Graph;I)I"⟩, 9), (⟨"ConstrainedCoder$PowerBuilder", "listEmptyPaths", "(LConstrainedCoder$Graph;I)V"⟩, 9), (⟨"ConstrainedCoder$PowerBuilder", "extendPaths", "(LConstrainedCoder$Graph;I)V"⟩, 9), (⟨"ConstrainedCoder$PowerBuilder", "appendLonger", "(III)V"⟩, 9), (⟨"ConstrainedCoder$Graph", "inDegree", "(I)I"⟩, 7), (⟨"ConstrainedCoder$Graph", "moveEdgesOutsideMask", "(III)V"⟩, 7), (⟨"ConstrainedCoder$Graph", "copyIncomingEdges", "(II)V"⟩, 7), (⟨"ConstrainedCoder$WordCounter", "countAll", "(LConstrainedCoder$Graph;IZ)V"⟩, 2), (⟨"ConstrainedCoder$WordCounter", "addThrough", "(LConstrainedCoder$Graph;III)V"⟩, 2), (⟨"ConstrainedCoder$WordCounter", "weightOf", "(I)I"⟩, 2), (⟨"ConstrainedCoder$WordCounter", "countAt", "(III)J"⟩, 2), (⟨"ConstrainedCoder$WordCounter", "countThrough", "(LConstrainedCoder$Graph;IIII)J"⟩, 2)]
theorem lw_r1 : ∀ q ∈ lw_privs_1, lw_okq q := List.forall_mem_cons.mpr ⟨lw_p0, List.forall_mem_cons.mpr ⟨lw_p1, List.forall_mem_cons.mpr ⟨lw_p2, List.forall_mem_cons.mpr ⟨lw_p3, List.forall_mem_cons.mpr ⟨lw_p4, List.forall_mem_cons.mpr ⟨lw_p5, List.forall_mem_cons.mpr ⟨lw_p6, List.forall_mem_cons.mpr ⟨lw_p7, List.forall_mem_cons.mpr ⟨lw_p8, List.forall_mem_cons.mpr ⟨lw_p9, List.forall_mem_cons.mpr ⟨lw_p10, List.forall_mem_cons.mpr ⟨lw_p11, List.forall_mem_cons.mpr ⟨lw_p12, List.forall_mem_cons.mpr ⟨lw_p13, List.forall_mem_cons.mpr ⟨lw_p14, List.forall_mem_cons.mpr ⟨lw_p15, fun _ h => absurd h List.not_mem_nil⟩⟩⟩⟩⟩⟩⟩⟩⟩⟩⟩⟩⟩⟩⟩⟩
theorem lw_p16 : lw_okq (⟨"ConstrainedCoder$Graph", "successors", "(II)I"⟩, 7) := ⟨⟨by decide +kernel, by decide +kernel⟩, List.mem_of_getElem? (i := 25) (by decide +kernel), List.mem_of_getElem? (i := 676) (by decide +kernel), List.mem_of_getElem? (i := 677) (by decide +kernel)⟩
theorem lw_p17 : lw_okq (⟨"ConstrainedCoder$AnticipationFinder", "leavesFirstEdgeOpen", "(LConstrainedCoder$Graph;)Z"⟩, 2) := ⟨⟨by decide +kernel, by decide +kernel⟩, List.mem_of_getElem? (i := 191) (by decide +kernel), List.mem_of_getElem? (i := 736) (by decide +kernel), List.mem_of_getElem? (i := 737) (by decide +kernel)⟩
theorem lw_p18 : lw_okq (⟨"ConstrainedCoder$AnticipationFinder", "goTogether", "(LConstrainedCoder$Graph;II)Z"⟩, 2) := ⟨⟨by decide +kernel, by decide +kernel⟩, List.mem_of_getElem? (i := 191) (by decide +kernel), List.mem_of_getElem? (i := 742) (by decide +kernel), List.mem_of_getElem? (i := 743) (by decide +kernel)⟩
theorem lw_p19 : lw_okq (⟨"ConstrainedCoder$AnticipationFinder", "lengthenPaths", "(LConstrainedCoder$Graph;)V"⟩, 2) := ⟨⟨by decide +kernel, by decide +kernel⟩, List.mem_of_getElem? (i := 191) (by decide +kernel), List.mem_of_getElem? (i := 748) (by decide +kernel), List.mem_of_getElem? (i := 749) (by decide +kernel)⟩
theorem lw_p20 : lw_okq (⟨"ConstrainedCoder$Encoder", "statesAfter", "(LConstrainedCoder$Graph;II)I"⟩, 7) := ⟨⟨by decide +kernel, by decide +kernel⟩, List.mem_of_getElem? (i := 163) (by decide +kernel), List.mem_of_getElem? (i := 768) (by decide +kernel), List.mem_of_getElem? (i := 769) (by decide +kernel)⟩
theorem lw_p21 : lw_okq (⟨"ConstrainedCoder$Encoder", "isTaken", "(LConstrainedCoder$Graph;III)Z"⟩, 7) := ⟨⟨by decide +kernel, by decide +kernel⟩, List.mem_of_getElem? (i := 163) (by decide +kernel), List.mem_of_getElem? (i := 772) (by decide +kernel), List.mem_of_getElem? (i := 773) (by decide +kernel)⟩
theorem lw_p22 : lw_okq (⟨"ConstrainedCoder$Encoder", "statesBefore", "(LConstrainedCoder$Graph;II)I"⟩, 7) := ⟨⟨by decide +kernel, by decide +kernel⟩, List.mem_of_getElem? (i := 163) (by decide +kernel), List.mem_of_getElem? (i := 777) (by decide +kernel), List.mem_of_getElem? (i := 778) (by decide +kernel)⟩
theorem lw_p23 : lw_okq (⟨"ConstrainedCoder$Encoder", "commonDataWord", "(LConstrainedCoder$Graph;III)I"⟩, 7) := ⟨⟨by decide +kernel, by decide +kernel⟩, List.mem_of_getElem? (i := 163) (by decide +kernel), List.mem_of_getElem? (i := 781) (by decide +kernel), List.mem_of_getElem? (i := 782) (by decide +kernel)⟩
theorem lw_p24 : lw_okq (⟨"ConstrainedCoder$EigenvectorFinder", "isNumber", "(I)Z"⟩, 3) := ⟨⟨by decide +kernel, by decide +kernel⟩, List.mem_of_getElem? (i := 146) (by decide +kernel), List.mem_of_getElem? (i := 796) (by decide +kernel), List.mem_of_getElem? (i := 797) (by decide +kernel)⟩
theorem lw_p25 : lw_okq (⟨"ConstrainedCoder$EigenvectorFinder", "smallestBound", "(LConstrainedCoder$Graph;I[I)I"⟩, 3) := ⟨⟨by decide +kernel, by decide +kernel⟩, List.mem_of_getElem? (i := 146) (by decide +kernel), List.mem_of_getElem? (i := 800) (by decide +kernel), List.mem_of_getElem? (i := 801) (by decide +kernel)⟩
theorem lw_p26 : lw_okq (⟨"ConstrainedCoder$EigenvectorFinder", "settle", "(LConstrainedCoder$Graph;I[I)Z"⟩, 3) := ⟨⟨by decide +kernel, by decide +kernel⟩, List.mem_of_getElem? (i := 146) (by decide +kernel), List.mem_of_getElem? (i := 805) (by decide +kernel), List.mem_of_getElem? (i := 806) (by decide +kernel)⟩
theorem lw_p27 : lw_okq (⟨"ConstrainedCoder$EigenvectorFinder", "lower", "(LConstrainedCoder$Graph;I[I)Z"⟩, 3) := ⟨⟨by decide +kernel, by decide +kernel⟩, List.mem_of_getElem? (i := 146) (by decide +kernel), List.mem_of_getElem? (i := 809) (by decide +kernel), List.mem_of_getElem? (i := 810) (by decide +kernel)⟩
def lw_privs_2 : List (MethodName × Nat) := [(⟨"ConstrainedCoder$Graph", "successors", "(II)I"⟩, 7), (⟨"ConstrainedCoder$AnticipationFinder", "leavesFirstEdgeOpen", "(LConstrainedCoder$Graph;)Z"⟩, 2), (⟨"ConstrainedCoder$AnticipationFinder", "goTogether", "(LConstrainedCoder$Graph;II)Z"⟩, 2), (⟨"ConstrainedCoder$AnticipationFinder", "lengthenPaths", "(LConstrainedCoder$Graph;)V"⟩, 2), (⟨"ConstrainedCoder$Encoder", "statesAfter", "(LConstrainedCoder$Graph;II)I"⟩, 7), (⟨"ConstrainedCoder$Encoder", "isTaken", "(LConstrainedCoder$Graph;III)Z"⟩, 7), (⟨"ConstrainedCoder$Encoder", "statesBefore", "(LConstrainedCoder$Graph;II)I"⟩, 7), (⟨"ConstrainedCoder$Encoder", "commonDataWord", "(LConstrainedCoder$Graph;III)I"⟩, 7), (⟨"ConstrainedCoder$EigenvectorFinder", "isNumber", "(I)Z"⟩, 3), (⟨"ConstrainedCoder$EigenvectorFinder", "smallestBound", "(LConstrainedCoder$Graph;I[I)I"⟩, 3), (⟨"ConstrainedCoder$EigenvectorFinder", "settle", "(LConstrainedCoder$Graph;I[I)Z"⟩, 3), (⟨"ConstrainedCoder$EigenvectorFinder", "lower", "(LConstrainedCoder$Graph;I[I)Z"⟩, 3)]
theorem lw_r2 : ∀ q ∈ lw_privs_2, lw_okq q := List.forall_mem_cons.mpr ⟨lw_p16, List.forall_mem_cons.mpr ⟨lw_p17, List.forall_mem_cons.mpr ⟨lw_p18, List.forall_mem_cons.mpr ⟨lw_p19, List.forall_mem_cons.mpr ⟨lw_p20, List.forall_mem_cons.mpr ⟨lw_p21, List.forall_mem_cons.mpr ⟨lw_p22, List.forall_mem_cons.mpr ⟨lw_p23, List.forall_mem_cons.mpr ⟨lw_p24, List.forall_mem_cons.mpr ⟨lw_p25, List.forall_mem_cons.mpr ⟨lw_p26, List.forall_mem_cons.mpr ⟨lw_p27, fun _ h => absurd h List.not_mem_nil⟩⟩⟩⟩⟩⟩⟩⟩⟩⟩⟩⟩
def lw_privs : List (MethodName × Nat) := lw_privs_1 ++ (lw_privs_2)
def lw_tbl : List Cond := k2_sels lw_privs ++ tables_1
theorem lw_privs_ok : ∀ q ∈ lw_privs, lw_okq q := by
  show ∀ q ∈ lw_privs_1 ++ (lw_privs_2), lw_okq q
  exact List.forall_mem_append.mpr ⟨lw_r1, lw_r2⟩
def RX0 : String := "ConstrainedCoder$AnticipationFinder"
def TX0 : u_T := fun k => match k with
  | 0 => ("ConstrainedCoder$AnticipationFinder", "together", "[I", true)
  | _ => ("ConstrainedCoder$AnticipationFinder", "longerTogether", "[I", true)
def tyX0 : Nat → FieldType := fun k => match k with
  | 0 => .array .int
  | _ => .array .int
abbrev wsX00 : List Cond := u_ws RX0 TX0 2
theorem nmX0 : ∀ a, a < 2 → ∀ b, b < 2 → a ≠ b → (TX0 a).2.1 ≠ (TX0 b).2.1 := by decide +kernel
theorem tyX0_ok : ∀ k, k < 2 → parseFieldDescriptor (TX0 k).2.2.1 = some (tyX0 k) := by decide +kernel
abbrev cX0_init : ByteArray := prog_2_method_1_code
def yX0_init : MethodName := ⟨RX0, "<init>", "()V"⟩
abbrev cX0_smallest : ByteArray := prog_2_method_2_code
def yX0_smallest : MethodName := ⟨RX0, "smallest", "(LConstrainedCoder$Graph;)I"⟩
abbrev cX0_leavesFirstEdgeOpen : ByteArray := prog_2_method_3_code
def yX0_leavesFirstEdgeOpen : MethodName := ⟨RX0, "leavesFirstEdgeOpen", "(LConstrainedCoder$Graph;)Z"⟩
abbrev cX0_lengthenPaths : ByteArray := prog_2_method_4_code
def yX0_lengthenPaths : MethodName := ⟨RX0, "lengthenPaths", "(LConstrainedCoder$Graph;)V"⟩
abbrev cX0_goTogether : ByteArray := prog_2_method_5_code
def yX0_goTogether : MethodName := ⟨RX0, "goTogether", "(LConstrainedCoder$Graph;II)Z"⟩
def RX1 : String := "ConstrainedCoder$ConstraintText"
def TX1 : u_T := fun k => match k with
  | 0 => ("ConstrainedCoder$ConstraintText", "characters", "[I", true)
  | _ => ("ConstrainedCoder$ConstraintText", "length", "I", false)
def tyX1 : Nat → FieldType := fun k => match k with
  | 0 => .array .int
  | _ => .int
abbrev wsX10 : List Cond := u_ws RX1 TX1 2
theorem nmX1 : ∀ a, a < 2 → ∀ b, b < 2 → a ≠ b → (TX1 a).2.1 ≠ (TX1 b).2.1 := by decide +kernel
theorem tyX1_ok : ∀ k, k < 2 → parseFieldDescriptor (TX1 k).2.2.1 = some (tyX1 k) := by decide +kernel
abbrev cX1_init : ByteArray := prog_3_method_1_code
def yX1_init : MethodName := ⟨RX1, "<init>", "()V"⟩
def RX2 : String := "ConstrainedCoder$EigenvectorFinder"
def TX2 : u_T := fun k => match k with
  | 0 => ("ConstrainedCoder$EigenvectorFinder", "bounds", "[I", true)
  | 1 => ("ConstrainedCoder$EigenvectorFinder", "elements", "[[I", true)
  | _ => ("ConstrainedCoder$EigenvectorFinder", "sums", "[I", true)
def tyX2 : Nat → FieldType := fun k => match k with
  | 0 => .array .int
  | 1 => .array (.array .int)
  | _ => .array .int
abbrev wsX20 : List Cond := u_ws RX2 TX2 3
theorem nmX2 : ∀ a, a < 3 → ∀ b, b < 3 → a ≠ b → (TX2 a).2.1 ≠ (TX2 b).2.1 := by decide +kernel
theorem tyX2_ok : ∀ k, k < 3 → parseFieldDescriptor (TX2 k).2.2.1 = some (tyX2 k) := by decide +kernel
abbrev cX2_init : ByteArray := prog_4_method_1_code
def yX2_init : MethodName := ⟨RX2, "<init>", "()V"⟩
abbrev cX2_forget : ByteArray := prog_4_method_2_code
def yX2_forget : MethodName := ⟨RX2, "forget", "()V"⟩
abbrev cX2_find : ByteArray := prog_4_method_3_code
def yX2_find : MethodName := ⟨RX2, "find", "(LConstrainedCoder$Graph;I)V"⟩
abbrev cX2_foundBound : ByteArray := prog_4_method_4_code
def yX2_foundBound : MethodName := ⟨RX2, "foundBound", "(I)I"⟩
abbrev cX2_foundElement : ByteArray := prog_4_method_5_code
def yX2_foundElement : MethodName := ⟨RX2, "foundElement", "(II)I"⟩
abbrev cX2_isNumber : ByteArray := prog_4_method_6_code
def yX2_isNumber : MethodName := ⟨RX2, "isNumber", "(I)Z"⟩
abbrev cX2_smallestBound : ByteArray := prog_4_method_7_code
def yX2_smallestBound : MethodName := ⟨RX2, "smallestBound", "(LConstrainedCoder$Graph;I[I)I"⟩
abbrev cX2_settle : ByteArray := prog_4_method_8_code
def yX2_settle : MethodName := ⟨RX2, "settle", "(LConstrainedCoder$Graph;I[I)Z"⟩
abbrev cX2_lower : ByteArray := prog_4_method_9_code
def yX2_lower : MethodName := ⟨RX2, "lower", "(LConstrainedCoder$Graph;I[I)Z"⟩
def RX3 : String := "ConstrainedCoder$Encoder"
def TX3 : u_T := fun k => match k with
  | 0 => ("ConstrainedCoder$Encoder", "edgeFor", "[I", true)
  | 1 => ("ConstrainedCoder$Encoder", "dataOf", "[I", true)
  | 2 => ("ConstrainedCoder$Encoder", "ordered", "[I", true)
  | 3 => ("ConstrainedCoder$Encoder", "on", "Z", false)
  | 4 => ("ConstrainedCoder$Encoder", "dataWords", "I", false)
  | 5 => ("ConstrainedCoder$Encoder", "startState", "I", false)
  | _ => ("ConstrainedCoder$Encoder", "currentState", "I", false)
def tyX3 : Nat → FieldType := fun k => match k with
  | 0 => .array .int
  | 1 => .array .int
  | 2 => .array .int
  | 3 => .boolean
  | 4 => .int
  | 5 => .int
  | _ => .int
abbrev wsX30 : List Cond := u_ws RX3 TX3 7
theorem nmX3 : ∀ a, a < 7 → ∀ b, b < 7 → a ≠ b → (TX3 a).2.1 ≠ (TX3 b).2.1 := by decide +kernel
theorem tyX3_ok : ∀ k, k < 7 → parseFieldDescriptor (TX3 k).2.2.1 = some (tyX3 k) := by decide +kernel
abbrev cX3_init : ByteArray := prog_5_method_1_code
def yX3_init : MethodName := ⟨RX3, "<init>", "()V"⟩
abbrev cX3_turnOff : ByteArray := prog_5_method_2_code
def yX3_turnOff : MethodName := ⟨RX3, "turnOff", "()V"⟩
abbrev cX3_turnOn : ByteArray := prog_5_method_3_code
def yX3_turnOn : MethodName := ⟨RX3, "turnOn", "(LConstrainedCoder$Graph;II)I"⟩
abbrev cX3_orderEdges : ByteArray := prog_5_method_4_code
def yX3_orderEdges : MethodName := ⟨RX3, "orderEdges", "(LConstrainedCoder$Graph;)V"⟩
abbrev cX3_giveDataWord : ByteArray := prog_5_method_5_code
def yX3_giveDataWord : MethodName := ⟨RX3, "giveDataWord", "(II)V"⟩
abbrev cX3_state : ByteArray := prog_5_method_6_code
def yX3_state : MethodName := ⟨RX3, "state", "()I"⟩
abbrev cX3_write : ByteArray := prog_5_method_7_code
def yX3_write : MethodName := ⟨RX3, "write", "(LConstrainedCoder$Graph;LConstrainedCoder$Word;I)I"⟩
abbrev cX3_read : ByteArray := prog_5_method_8_code
def yX3_read : MethodName := ⟨RX3, "read", "(LConstrainedCoder$Graph;LConstrainedCoder$Word;I)I"⟩
abbrev cX3_statesAfter : ByteArray := prog_5_method_9_code
def yX3_statesAfter : MethodName := ⟨RX3, "statesAfter", "(LConstrainedCoder$Graph;II)I"⟩
abbrev cX3_statesBefore : ByteArray := prog_5_method_10_code
def yX3_statesBefore : MethodName := ⟨RX3, "statesBefore", "(LConstrainedCoder$Graph;II)I"⟩
abbrev cX3_commonDataWord : ByteArray := prog_5_method_11_code
def yX3_commonDataWord : MethodName := ⟨RX3, "commonDataWord", "(LConstrainedCoder$Graph;III)I"⟩
abbrev cX3_isTaken : ByteArray := prog_5_method_12_code
def yX3_isTaken : MethodName := ⟨RX3, "isTaken", "(LConstrainedCoder$Graph;III)Z"⟩
def RX4 : String := "ConstrainedCoder$Graph"
def TX4 : u_T := fun k => match k with
  | 0 => ("ConstrainedCoder$Graph", "starts", "[I", true)
  | 1 => ("ConstrainedCoder$Graph", "labels", "[I", true)
  | 2 => ("ConstrainedCoder$Graph", "ends", "[I", true)
  | 3 => ("ConstrainedCoder$Graph", "reached", "[I", true)
  | 4 => ("ConstrainedCoder$Graph", "states", "I", false)
  | 5 => ("ConstrainedCoder$Graph", "edges", "I", false)
  | _ => ("ConstrainedCoder$Graph", "labelBits", "I", false)
def tyX4 : Nat → FieldType := fun k => match k with
  | 0 => .array .int
  | 1 => .array .int
  | 2 => .array .int
  | 3 => .array .int
  | 4 => .int
  | 5 => .int
  | _ => .int
abbrev wsX40 : List Cond := u_ws RX4 TX4 7
theorem nmX4 : ∀ a, a < 7 → ∀ b, b < 7 → a ≠ b → (TX4 a).2.1 ≠ (TX4 b).2.1 := by decide +kernel
theorem tyX4_ok : ∀ k, k < 7 → parseFieldDescriptor (TX4 k).2.2.1 = some (tyX4 k) := by decide +kernel
abbrev cX4_init : ByteArray := prog_6_method_1_code
def yX4_init : MethodName := ⟨RX4, "<init>", "()V"⟩
abbrev cX4_states : ByteArray := prog_6_method_2_code
def yX4_states : MethodName := ⟨RX4, "states", "()I"⟩
abbrev cX4_edges : ByteArray := prog_6_method_3_code
def yX4_edges : MethodName := ⟨RX4, "edges", "()I"⟩
abbrev cX4_labelBits : ByteArray := prog_6_method_4_code
def yX4_labelBits : MethodName := ⟨RX4, "labelBits", "()I"⟩
abbrev cX4_hasState : ByteArray := prog_6_method_5_code
def yX4_hasState : MethodName := ⟨RX4, "hasState", "(I)Z"⟩
abbrev cX4_hasEdge : ByteArray := prog_6_method_6_code
def yX4_hasEdge : MethodName := ⟨RX4, "hasEdge", "(I)Z"⟩
abbrev cX4_startOf : ByteArray := prog_6_method_7_code
def yX4_startOf : MethodName := ⟨RX4, "startOf", "(I)I"⟩
abbrev cX4_labelOf : ByteArray := prog_6_method_8_code
def yX4_labelOf : MethodName := ⟨RX4, "labelOf", "(I)I"⟩
abbrev cX4_endOf : ByteArray := prog_6_method_9_code
def yX4_endOf : MethodName := ⟨RX4, "endOf", "(I)I"⟩
abbrev cX4_becomeEmpty : ByteArray := prog_6_method_10_code
def yX4_becomeEmpty : MethodName := ⟨RX4, "becomeEmpty", "(I)I"⟩
abbrev cX4_becomeRunLength : ByteArray := prog_6_method_11_code
def yX4_becomeRunLength : MethodName := ⟨RX4, "becomeRunLength", "(II)I"⟩
abbrev cX4_becomeCharge : ByteArray := prog_6_method_12_code
def yX4_becomeCharge : MethodName := ⟨RX4, "becomeCharge", "(I)I"⟩
abbrev cX4_becomeCopyOf : ByteArray := prog_6_method_13_code
def yX4_becomeCopyOf : MethodName := ⟨RX4, "becomeCopyOf", "(LConstrainedCoder$Graph;)V"⟩
abbrev cX4_dropAllEdges : ByteArray := prog_6_method_14_code
def yX4_dropAllEdges : MethodName := ⟨RX4, "dropAllEdges", "(I)V"⟩
abbrev cX4_appendState : ByteArray := prog_6_method_15_code
def yX4_appendState : MethodName := ⟨RX4, "appendState", "()I"⟩
abbrev cX4_appendEdge : ByteArray := prog_6_method_16_code
def yX4_appendEdge : MethodName := ⟨RX4, "appendEdge", "(III)I"⟩
abbrev cX4_dropEdge : ByteArray := prog_6_method_17_code
def yX4_dropEdge : MethodName := ⟨RX4, "dropEdge", "(I)I"⟩
abbrev cX4_outDegree : ByteArray := prog_6_method_18_code
def yX4_outDegree : MethodName := ⟨RX4, "outDegree", "(I)I"⟩
abbrev cX4_inDegree : ByteArray := prog_6_method_19_code
def yX4_inDegree : MethodName := ⟨RX4, "inDegree", "(I)I"⟩
abbrev cX4_hasEdgesForAll : ByteArray := prog_6_method_20_code
def yX4_hasEdgesForAll : MethodName := ⟨RX4, "hasEdgesForAll", "(I)Z"⟩
abbrev cX4_splitState : ByteArray := prog_6_method_21_code
def yX4_splitState : MethodName := ⟨RX4, "splitState", "(II)I"⟩
abbrev cX4_moveEdgesOutsideMask : ByteArray := prog_6_method_22_code
def yX4_moveEdgesOutsideMask : MethodName := ⟨RX4, "moveEdgesOutsideMask", "(III)V"⟩
abbrev cX4_copyIncomingEdges : ByteArray := prog_6_method_23_code
def yX4_copyIncomingEdges : MethodName := ⟨RX4, "copyIncomingEdges", "(II)V"⟩
abbrev cX4_deterministic : ByteArray := prog_6_method_24_code
def yX4_deterministic : MethodName := ⟨RX4, "deterministic", "()Z"⟩
abbrev cX4_edgeWithLabel : ByteArray := prog_6_method_27_code
def yX4_edgeWithLabel : MethodName := ⟨RX4, "edgeWithLabel", "(II)I"⟩
abbrev cX4_firstUngeneratedLabel : ByteArray := prog_6_method_28_code
def yX4_firstUngeneratedLabel : MethodName := ⟨RX4, "firstUngeneratedLabel", "(ILConstrainedCoder$Word;)I"⟩
abbrev cX4_successors : ByteArray := prog_6_method_29_code
def yX4_successors : MethodName := ⟨RX4, "successors", "(II)I"⟩
def RX5 : String := "ConstrainedCoder$GrowthEstimator"
def TX5 : u_T := fun k => match k with
  | 0 => ("ConstrainedCoder$GrowthEstimator", "values", "[D", true)
  | _ => ("ConstrainedCoder$GrowthEstimator", "sums", "[D", true)
def tyX5 : Nat → FieldType := fun k => match k with
  | 0 => .array .double
  | _ => .array .double
abbrev wsX50 : List Cond := u_ws RX5 TX5 2
theorem nmX5 : ∀ a, a < 2 → ∀ b, b < 2 → a ≠ b → (TX5 a).2.1 ≠ (TX5 b).2.1 := by decide +kernel
theorem tyX5_ok : ∀ k, k < 2 → parseFieldDescriptor (TX5 k).2.2.1 = some (tyX5 k) := by decide +kernel
abbrev cX5_init : ByteArray := prog_7_method_1_code
def yX5_init : MethodName := ⟨RX5, "<init>", "()V"⟩
def RX6 : String := "ConstrainedCoder$PowerBuilder"
def TX6 : u_T := fun k => match k with
  | 0 => ("ConstrainedCoder$PowerBuilder", "pathCounts", "[[I", true)
  | 1 => ("ConstrainedCoder$PowerBuilder", "starts", "[I", true)
  | 2 => ("ConstrainedCoder$PowerBuilder", "labels", "[I", true)
  | 3 => ("ConstrainedCoder$PowerBuilder", "ends", "[I", true)
  | 4 => ("ConstrainedCoder$PowerBuilder", "longerStarts", "[I", true)
  | 5 => ("ConstrainedCoder$PowerBuilder", "longerLabels", "[I", true)
  | 6 => ("ConstrainedCoder$PowerBuilder", "longerEnds", "[I", true)
  | 7 => ("ConstrainedCoder$PowerBuilder", "paths", "I", false)
  | _ => ("ConstrainedCoder$PowerBuilder", "longerPaths", "I", false)
def tyX6 : Nat → FieldType := fun k => match k with
  | 0 => .array (.array .int)
  | 1 => .array .int
  | 2 => .array .int
  | 3 => .array .int
  | 4 => .array .int
  | 5 => .array .int
  | 6 => .array .int
  | 7 => .int
  | _ => .int
abbrev wsX60 : List Cond := u_ws RX6 TX6 9
theorem nmX6 : ∀ a, a < 9 → ∀ b, b < 9 → a ≠ b → (TX6 a).2.1 ≠ (TX6 b).2.1 := by decide +kernel
theorem tyX6_ok : ∀ k, k < 9 → parseFieldDescriptor (TX6 k).2.2.1 = some (tyX6 k) := by decide +kernel
abbrev cX6_init : ByteArray := prog_8_method_1_code
def yX6_init : MethodName := ⟨RX6, "<init>", "()V"⟩
abbrev cX6_raise : ByteArray := prog_8_method_2_code
def yX6_raise : MethodName := ⟨RX6, "raise", "(LConstrainedCoder$Graph;I)I"⟩
abbrev cX6_countPaths : ByteArray := prog_8_method_3_code
def yX6_countPaths : MethodName := ⟨RX6, "countPaths", "(LConstrainedCoder$Graph;I)V"⟩
abbrev cX6_totalOfPaths : ByteArray := prog_8_method_4_code
def yX6_totalOfPaths : MethodName := ⟨RX6, "totalOfPaths", "(LConstrainedCoder$Graph;I)I"⟩
abbrev cX6_listEmptyPaths : ByteArray := prog_8_method_5_code
def yX6_listEmptyPaths : MethodName := ⟨RX6, "listEmptyPaths", "(LConstrainedCoder$Graph;I)V"⟩
abbrev cX6_extendPaths : ByteArray := prog_8_method_6_code
def yX6_extendPaths : MethodName := ⟨RX6, "extendPaths", "(LConstrainedCoder$Graph;I)V"⟩
abbrev cX6_appendLonger : ByteArray := prog_8_method_7_code
def yX6_appendLonger : MethodName := ⟨RX6, "appendLonger", "(III)V"⟩
def RX7 : String := "ConstrainedCoder$Slots"
def TX7 : u_T := fun k => match k with
  | 0 => ("ConstrainedCoder$Slots", "values", "[[I", true)
  | 1 => ("ConstrainedCoder$Slots", "lengths", "[I", true)
  | _ => ("ConstrainedCoder$Slots", "filled", "[Z", true)
def tyX7 : Nat → FieldType := fun k => match k with
  | 0 => .array (.array .int)
  | 1 => .array .int
  | _ => .array .boolean
abbrev wsX70 : List Cond := u_ws RX7 TX7 3
theorem nmX7 : ∀ a, a < 3 → ∀ b, b < 3 → a ≠ b → (TX7 a).2.1 ≠ (TX7 b).2.1 := by decide +kernel
theorem tyX7_ok : ∀ k, k < 3 → parseFieldDescriptor (TX7 k).2.2.1 = some (tyX7 k) := by decide +kernel
abbrev cX7_init : ByteArray := prog_9_method_1_code
def yX7_init : MethodName := ⟨RX7, "<init>", "()V"⟩
def RX8 : String := "ConstrainedCoder$Word"
def TX8 : u_T := fun k => match k with
  | 0 => ("ConstrainedCoder$Word", "bits", "[I", true)
  | _ => ("ConstrainedCoder$Word", "length", "I", false)
def tyX8 : Nat → FieldType := fun k => match k with
  | 0 => .array .int
  | _ => .int
abbrev wsX80 : List Cond := u_ws RX8 TX8 2
theorem nmX8 : ∀ a, a < 2 → ∀ b, b < 2 → a ≠ b → (TX8 a).2.1 ≠ (TX8 b).2.1 := by decide +kernel
theorem tyX8_ok : ∀ k, k < 2 → parseFieldDescriptor (TX8 k).2.2.1 = some (tyX8 k) := by decide +kernel
abbrev cX8_init : ByteArray := prog_10_method_1_code
def yX8_init : MethodName := ⟨RX8, "<init>", "()V"⟩
abbrev cX8_length : ByteArray := prog_10_method_2_code
def yX8_length : MethodName := ⟨RX8, "length", "()I"⟩
abbrev cX8_hasIndex : ByteArray := prog_10_method_3_code
def yX8_hasIndex : MethodName := ⟨RX8, "hasIndex", "(I)Z"⟩
abbrev cX8_hasRoom : ByteArray := prog_10_method_4_code
def yX8_hasRoom : MethodName := ⟨RX8, "hasRoom", "(I)Z"⟩
abbrev cX8_bit : ByteArray := prog_10_method_5_code
def yX8_bit : MethodName := ⟨RX8, "bit", "(I)I"⟩
abbrev cX8_makeEmpty : ByteArray := prog_10_method_6_code
def yX8_makeEmpty : MethodName := ⟨RX8, "makeEmpty", "()V"⟩
abbrev cX8_append : ByteArray := prog_10_method_7_code
def yX8_append : MethodName := ⟨RX8, "append", "(I)I"⟩
abbrev cX8_appendLabel : ByteArray := prog_10_method_8_code
def yX8_appendLabel : MethodName := ⟨RX8, "appendLabel", "(II)V"⟩
abbrev cX8_wholeLabels : ByteArray := prog_10_method_9_code
def yX8_wholeLabels : MethodName := ⟨RX8, "wholeLabels", "(I)I"⟩
abbrev cX8_isMultipleOf : ByteArray := prog_10_method_10_code
def yX8_isMultipleOf : MethodName := ⟨RX8, "isMultipleOf", "(I)Z"⟩
abbrev cX8_labelAt : ByteArray := prog_10_method_11_code
def yX8_labelAt : MethodName := ⟨RX8, "labelAt", "(II)I"⟩
abbrev cX8_ones : ByteArray := prog_10_method_12_code
def yX8_ones : MethodName := ⟨RX8, "ones", "()I"⟩
abbrev cX8_invertPrefix : ByteArray := prog_10_method_13_code
def yX8_invertPrefix : MethodName := ⟨RX8, "invertPrefix", "(I)I"⟩
abbrev cX8_balanceByPrefix : ByteArray := prog_10_method_14_code
def yX8_balanceByPrefix : MethodName := ⟨RX8, "balanceByPrefix", "()I"⟩
abbrev cX8_becomeCopyOf : ByteArray := prog_10_method_15_code
def yX8_becomeCopyOf : MethodName := ⟨RX8, "becomeCopyOf", "(LConstrainedCoder$Word;)V"⟩
def RX9 : String := "ConstrainedCoder$WordCounter"
def TX9 : u_T := fun k => match k with
  | 0 => ("ConstrainedCoder$WordCounter", "counts", "[[J", true)
  | _ => ("ConstrainedCoder$WordCounter", "onesWeigh", "Z", false)
def tyX9 : Nat → FieldType := fun k => match k with
  | 0 => .array (.array .long)
  | _ => .boolean
abbrev wsX90 : List Cond := u_ws RX9 TX9 2
theorem nmX9 : ∀ a, a < 2 → ∀ b, b < 2 → a ≠ b → (TX9 a).2.1 ≠ (TX9 b).2.1 := by decide +kernel
theorem tyX9_ok : ∀ k, k < 2 → parseFieldDescriptor (TX9 k).2.2.1 = some (tyX9 k) := by decide +kernel
abbrev cX9_init : ByteArray := prog_11_method_1_code
def yX9_init : MethodName := ⟨RX9, "<init>", "()V"⟩
abbrev cX9_numberOfWords : ByteArray := prog_11_method_2_code
def yX9_numberOfWords : MethodName := ⟨RX9, "numberOfWords", "(LConstrainedCoder$Graph;III)J"⟩
abbrev cX9_writeWordOfRank : ByteArray := prog_11_method_3_code
def yX9_writeWordOfRank : MethodName := ⟨RX9, "writeWordOfRank", "(LConstrainedCoder$Graph;LConstrainedCoder$Word;IIIJ)I"⟩
abbrev cX9_rankOfWord : ByteArray := prog_11_method_4_code
def yX9_rankOfWord : MethodName := ⟨RX9, "rankOfWord", "(LConstrainedCoder$Graph;LConstrainedCoder$Word;II)J"⟩
abbrev cX9_problemOf : ByteArray := prog_11_method_5_code
def yX9_problemOf : MethodName := ⟨RX9, "problemOf", "(LConstrainedCoder$Graph;III)I"⟩
abbrev cX9_countAll : ByteArray := prog_11_method_6_code
def yX9_countAll : MethodName := ⟨RX9, "countAll", "(LConstrainedCoder$Graph;IZ)V"⟩
abbrev cX9_addThrough : ByteArray := prog_11_method_7_code
def yX9_addThrough : MethodName := ⟨RX9, "addThrough", "(LConstrainedCoder$Graph;III)V"⟩
abbrev cX9_weightOf : ByteArray := prog_11_method_8_code
def yX9_weightOf : MethodName := ⟨RX9, "weightOf", "(I)I"⟩
abbrev cX9_countAt : ByteArray := prog_11_method_9_code
def yX9_countAt : MethodName := ⟨RX9, "countAt", "(III)J"⟩
abbrev cX9_countThrough : ByteArray := prog_11_method_10_code
def yX9_countThrough : MethodName := ⟨RX9, "countThrough", "(LConstrainedCoder$Graph;IIII)J"⟩
def RX10 : String := "ConstrainedCoder"
def TX10 : u_T := fun k => match k with
  | 0 => ("ConstrainedCoder", "graph", "LConstrainedCoder$Graph;", true)
  | 1 => ("ConstrainedCoder", "word", "LConstrainedCoder$Word;", true)
  | 2 => ("ConstrainedCoder", "input", "LConstrainedCoder$ConstraintText;", true)
  | 3 => ("ConstrainedCoder", "powers", "LConstrainedCoder$PowerBuilder;", true)
  | 4 => ("ConstrainedCoder", "counter", "LConstrainedCoder$WordCounter;", true)
  | 5 => ("ConstrainedCoder", "growth", "LConstrainedCoder$GrowthEstimator;", true)
  | 6 => ("ConstrainedCoder", "eigenvectors", "LConstrainedCoder$EigenvectorFinder;", true)
  | 7 => ("ConstrainedCoder", "encoder", "LConstrainedCoder$Encoder;", true)
  | 8 => ("ConstrainedCoder", "anticipations", "LConstrainedCoder$AnticipationFinder;", true)
  | 9 => ("ConstrainedCoder", "slots", "LConstrainedCoder$Slots;", true)
  | 10 => ("ConstrainedCoder", "savedGraph", "LConstrainedCoder$Graph;", true)
  | 11 => ("ConstrainedCoder", "savedWord", "LConstrainedCoder$Word;", true)
  | _ => ("ConstrainedCoder", "snapshotSaved", "Z", false)
def tyX10 : Nat → FieldType := fun k => match k with
  | 0 => .object "ConstrainedCoder$Graph"
  | 1 => .object "ConstrainedCoder$Word"
  | 2 => .object "ConstrainedCoder$ConstraintText"
  | 3 => .object "ConstrainedCoder$PowerBuilder"
  | 4 => .object "ConstrainedCoder$WordCounter"
  | 5 => .object "ConstrainedCoder$GrowthEstimator"
  | 6 => .object "ConstrainedCoder$EigenvectorFinder"
  | 7 => .object "ConstrainedCoder$Encoder"
  | 8 => .object "ConstrainedCoder$AnticipationFinder"
  | 9 => .object "ConstrainedCoder$Slots"
  | 10 => .object "ConstrainedCoder$Graph"
  | 11 => .object "ConstrainedCoder$Word"
  | _ => .boolean
abbrev wsX100 : List Cond := u_ws RX10 TX10 13
theorem nmX10 : ∀ a, a < 13 → ∀ b, b < 13 → a ≠ b → (TX10 a).2.1 ≠ (TX10 b).2.1 := by decide +kernel
theorem tyX10_ok : ∀ k, k < 13 → parseFieldDescriptor (TX10 k).2.2.1 = some (tyX10 k) := by decide +kernel
abbrev cX10_init : ByteArray := prog_1_method_1_code
def yX10_init : MethodName := ⟨RX10, "<init>", "()V"⟩
abbrev cX10_loadRunLength : ByteArray := prog_1_method_2_code
def yX10_loadRunLength : MethodName := ⟨RX10, "loadRunLength", "(II)I"⟩
abbrev cX10_loadCharge : ByteArray := prog_1_method_3_code
def yX10_loadCharge : MethodName := ⟨RX10, "loadCharge", "(I)I"⟩
abbrev cX10_clear : ByteArray := prog_1_method_4_code
def yX10_clear : MethodName := ⟨RX10, "clear", "(I)I"⟩
abbrev cX10_addState : ByteArray := prog_1_method_5_code
def yX10_addState : MethodName := ⟨RX10, "addState", "()I"⟩
abbrev cX10_addEdge : ByteArray := prog_1_method_6_code
def yX10_addEdge : MethodName := ⟨RX10, "addEdge", "(III)I"⟩
abbrev cX10_removeEdge : ByteArray := prog_1_method_7_code
def yX10_removeEdge : MethodName := ⟨RX10, "removeEdge", "(I)I"⟩
abbrev cX10_stateCount : ByteArray := prog_1_method_8_code
def yX10_stateCount : MethodName := ⟨RX10, "stateCount", "()I"⟩
abbrev cX10_edgeCount : ByteArray := prog_1_method_9_code
def yX10_edgeCount : MethodName := ⟨RX10, "edgeCount", "()I"⟩
abbrev cX10_labelLength : ByteArray := prog_1_method_10_code
def yX10_labelLength : MethodName := ⟨RX10, "labelLength", "()I"⟩
abbrev cX10_edgeStart : ByteArray := prog_1_method_11_code
def yX10_edgeStart : MethodName := ⟨RX10, "edgeStart", "(I)I"⟩
abbrev cX10_edgeLabel : ByteArray := prog_1_method_12_code
def yX10_edgeLabel : MethodName := ⟨RX10, "edgeLabel", "(I)I"⟩
abbrev cX10_edgeEnd : ByteArray := prog_1_method_13_code
def yX10_edgeEnd : MethodName := ⟨RX10, "edgeEnd", "(I)I"⟩
abbrev cX10_power : ByteArray := prog_1_method_14_code
def yX10_power : MethodName := ⟨RX10, "power", "(I)I"⟩
abbrev cX10_split : ByteArray := prog_1_method_15_code
def yX10_split : MethodName := ⟨RX10, "split", "(II)I"⟩
abbrev cX10_isDeterministic : ByteArray := prog_1_method_16_code
def yX10_isDeterministic : MethodName := ⟨RX10, "isDeterministic", "()I"⟩
abbrev cX10_afterGraphChange : ByteArray := prog_1_method_18_code
def yX10_afterGraphChange : MethodName := ⟨RX10, "afterGraphChange", "(I)I"⟩
abbrev cX10_appendBit : ByteArray := prog_1_method_21_code
def yX10_appendBit : MethodName := ⟨RX10, "appendBit", "(I)I"⟩
abbrev cX10_clearWord : ByteArray := prog_1_method_22_code
def yX10_clearWord : MethodName := ⟨RX10, "clearWord", "()I"⟩
abbrev cX10_wordLength : ByteArray := prog_1_method_23_code
def yX10_wordLength : MethodName := ⟨RX10, "wordLength", "()I"⟩
abbrev cX10_wordBit : ByteArray := prog_1_method_24_code
def yX10_wordBit : MethodName := ⟨RX10, "wordBit", "(I)I"⟩
abbrev cX10_firstViolation : ByteArray := prog_1_method_25_code
def yX10_firstViolation : MethodName := ⟨RX10, "firstViolation", "(I)I"⟩
abbrev cX10_balance : ByteArray := prog_1_method_26_code
def yX10_balance : MethodName := ⟨RX10, "balance", "()I"⟩
abbrev cX10_invert : ByteArray := prog_1_method_27_code
def yX10_invert : MethodName := ⟨RX10, "invert", "(I)I"⟩
abbrev cX10_countWords : ByteArray := prog_1_method_28_code
def yX10_countWords : MethodName := ⟨RX10, "countWords", "(III)J"⟩
abbrev cX10_unrank : ByteArray := prog_1_method_29_code
def yX10_unrank : MethodName := ⟨RX10, "unrank", "(IIIJ)I"⟩
abbrev cX10_rank : ByteArray := prog_1_method_30_code
def yX10_rank : MethodName := ⟨RX10, "rank", "(II)J"⟩
abbrev cX10_eigenvectorElement : ByteArray := prog_1_method_32_code
def yX10_eigenvectorElement : MethodName := ⟨RX10, "eigenvectorElement", "(II)I"⟩
abbrev cX10_eigenvectorBound : ByteArray := prog_1_method_33_code
def yX10_eigenvectorBound : MethodName := ⟨RX10, "eigenvectorBound", "(I)I"⟩
abbrev cX10_isEncoder : ByteArray := prog_1_method_34_code
def yX10_isEncoder : MethodName := ⟨RX10, "isEncoder", "(I)I"⟩
abbrev cX10_startEncoder : ByteArray := prog_1_method_35_code
def yX10_startEncoder : MethodName := ⟨RX10, "startEncoder", "(II)I"⟩
abbrev cX10_encode : ByteArray := prog_1_method_36_code
def yX10_encode : MethodName := ⟨RX10, "encode", "(I)I"⟩
abbrev cX10_encoderState : ByteArray := prog_1_method_37_code
def yX10_encoderState : MethodName := ⟨RX10, "encoderState", "()I"⟩
abbrev cX10_anticipation : ByteArray := prog_1_method_38_code
def yX10_anticipation : MethodName := ⟨RX10, "anticipation", "()I"⟩
abbrev cX10_decode : ByteArray := prog_1_method_39_code
def yX10_decode : MethodName := ⟨RX10, "decode", "(I)I"⟩
abbrev cX10_saveSnapshot : ByteArray := prog_1_method_44_code
def yX10_saveSnapshot : MethodName := ⟨RX10, "saveSnapshot", "()I"⟩
abbrev cX10_restoreSnapshot : ByteArray := prog_1_method_45_code
def yX10_restoreSnapshot : MethodName := ⟨RX10, "restoreSnapshot", "()I"⟩
abbrev cX10_isDataLength : ByteArray := prog_1_method_46_code
def yX10_isDataLength : MethodName := ⟨RX10, "isDataLength", "(I)Z"⟩
def RX11 : String := "ConstrainedCoderModel"
def TX11 : u_T := fun k => match k with
  | _ => ("", "", "", false)
def tyX11 : Nat → FieldType := fun k => match k with
  | _ => .int
abbrev wsX110 : List Cond := u_ws RX11 TX11 0
theorem nmX11 : ∀ a, a < 0 → ∀ b, b < 0 → a ≠ b → (TX11 a).2.1 ≠ (TX11 b).2.1 := by decide +kernel
theorem tyX11_ok : ∀ k, k < 0 → parseFieldDescriptor (TX11 k).2.2.1 = some (tyX11 k) := by decide +kernel
def RJ6 : String := "java/lang/Integer"
def TJ6 : u_T := fun k => match k with
  | _ => ("", "", "", false)
def tyJ6 : Nat → FieldType := fun k => match k with
  | _ => .int
abbrev wsJ60 : List Cond := u_ws RJ6 TJ6 0
theorem nmJ6 : ∀ a, a < 0 → ∀ b, b < 0 → a ≠ b → (TJ6 a).2.1 ≠ (TJ6 b).2.1 := by decide +kernel
theorem tyJ6_ok : ∀ k, k < 0 → parseFieldDescriptor (TJ6 k).2.2.1 = some (tyJ6 k) := by decide +kernel
abbrev cJ6_bitCount_0f7a4 : ByteArray := prog_14_method_49_code
def yJ6_bitCount_0f7a4 : MethodName := ⟨RJ6, "bitCount", "(I)I"⟩
def RJ9 : String := "java/lang/Math"
def TJ9 : u_T := fun k => match k with
  | _ => ("", "", "", false)
def tyJ9 : Nat → FieldType := fun k => match k with
  | _ => .int
abbrev wsJ90 : List Cond := u_ws RJ9 TJ9 0
theorem nmJ9 : ∀ a, a < 0 → ∀ b, b < 0 → a ≠ b → (TJ9 a).2.1 ≠ (TJ9 b).2.1 := by decide +kernel
theorem tyJ9_ok : ∀ k, k < 0 → parseFieldDescriptor (TJ9 k).2.2.1 = some (tyJ9 k) := by decide +kernel
abbrev cJ9_max_7cf53 : ByteArray := prog_15_method_65_code
def yJ9_max_7cf53 : MethodName := ⟨RJ9, "max", "(II)I"⟩
abbrev cJ9_min_7cf53 : ByteArray := prog_15_method_69_code
def yJ9_min_7cf53 : MethodName := ⟨RJ9, "min", "(II)I"⟩
abbrev cJ9_min_f86c9 : ByteArray := prog_15_method_70_code
def yJ9_min_f86c9 : MethodName := ⟨RJ9, "min", "(JJ)J"⟩
def RJ10 : String := "java/lang/System"
def TJ10 : u_T := fun k => match k with
  | _ => ("", "", "", false)
def tyJ10 : Nat → FieldType := fun k => match k with
  | _ => .int
abbrev wsJ100 : List Cond := u_ws RJ10 TJ10 0
theorem nmJ10 : ∀ a, a < 0 → ∀ b, b < 0 → a ≠ b → (TJ10 a).2.1 ≠ (TJ10 b).2.1 := by decide +kernel
theorem tyJ10_ok : ∀ k, k < 0 → parseFieldDescriptor (TJ10 k).2.2.1 = some (tyJ10 k) := by decide +kernel
def RJ7 : String := "java/util/Arrays"
def TJ7 : u_T := fun k => match k with
  | _ => ("", "", "", false)
def tyJ7 : Nat → FieldType := fun k => match k with
  | _ => .int
abbrev wsJ70 : List Cond := u_ws RJ7 TJ7 0
theorem nmJ7 : ∀ a, a < 0 → ∀ b, b < 0 → a ≠ b → (TJ7 a).2.1 ≠ (TJ7 b).2.1 := by decide +kernel
theorem tyJ7_ok : ∀ k, k < 0 → parseFieldDescriptor (TJ7 k).2.2.1 = some (tyJ7 k) := by decide +kernel
abbrev cJ7_fill_d0a16 : ByteArray := prog_17_method_101_code
def yJ7_fill_d0a16 : MethodName := ⟨RJ7, "fill", "([JJ)V"⟩
abbrev cJ7_fill_53178 : ByteArray := prog_17_method_103_code
def yJ7_fill_53178 : MethodName := ⟨RJ7, "fill", "([II)V"⟩
def RL : String := "ConstrainedCoderLaw"
abbrev cL_cell : ByteArray := method_2_code
def yL_cell : MethodName := ⟨RL, "cell", "([II)I"⟩
abbrev cL_all : ByteArray := method_3_code
def yL_all : MethodName := ⟨RL, "all", "(LConstrainedCoder;)[I"⟩
abbrev cL_same : ByteArray := method_4_code
def yL_same : MethodName := ⟨RL, "same", "([I[II)Z"⟩
abbrev cL_acts : ByteArray := method_5_code
def yL_acts : MethodName := ⟨RL, "acts", "(LConstrainedCoder;II)I"⟩
abbrev cL_ranks : ByteArray := method_6_code
def yL_ranks : MethodName := ⟨RL, "ranks", "(LConstrainedCoder;III)Z"⟩
abbrev cL_powers : ByteArray := method_7_code
def yL_powers : MethodName := ⟨RL, "powers", "(LConstrainedCoder;II)Z"⟩
abbrev cL_splits : ByteArray := method_8_code
def yL_splits : MethodName := ⟨RL, "splits", "(LConstrainedCoder;II)Z"⟩
abbrev cL_encodes : ByteArray := method_9_code
def yL_encodes : MethodName := ⟨RL, "encodes", "(LConstrainedCoder;III)Z"⟩
abbrev cL_grows : ByteArray := method_10_code
def yL_grows : MethodName := ⟨RL, "grows", "(LConstrainedCoder;I)Z"⟩
abbrev cL_balanced : ByteArray := method_11_code
def yL_balanced : MethodName := ⟨RL, "balanced", "(LConstrainedCoder;)Z"⟩
abbrev cL_law : ByteArray := code
def yL_law : MethodName := ⟨RL, "law", "([I)Z"⟩
abbrev vwCl : List vw_C := [(RX0, TX0, 2), (RX1, TX1, 2), (RX2, TX2, 3), (RX3, TX3, 7), (RX4, TX4, 7), (RX5, TX5, 2), (RX6, TX6, 9), (RX7, TX7, 3), (RX8, TX8, 2), (RX9, TX9, 2), (RX10, TX10, 13)]
