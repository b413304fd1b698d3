-- ===== PART A: goes FIRST, ahead of the names: the tables' words, and 'selects' of the private methods out of them =====
/-- a private method of a class that the tables say can be made, by its rows of tables_1 -/
def lw_okq (q : MethodName × Nat) : Prop := (q.1.cls ≠ "java/lang/invoke/MethodHandle" ∧ q.1.cls ≠ "java/lang/invoke/VarHandle") ∧ Cond.instantiable q.1.cls q.2 ∈ tables_1 ∧ Cond.privateMethod q.1 ∈ tables_1 ∧ Cond.instanceMethod q.1 ∈ tables_1
theorem lw_p0 : lw_okq (⟨"ConstrainedCoder", "afterGraphChange", "(I)I"⟩, 13) := ⟨⟨by decide +kernel, by decide +kernel⟩, List.mem_of_getElem? (i := 24) (by decide +kernel), List.mem_of_getElem? (i := 289) (by decide +kernel), List.mem_of_getElem? (i := 290) (by decide +kernel)⟩
theorem lw_p1 : lw_okq (⟨"ConstrainedCoder$PowerBuilder", "countPaths", "(LConstrainedCoder$Graph;I)V"⟩, 9) := ⟨⟨by decide +kernel, by decide +kernel⟩, List.mem_of_getElem? (i := 87) (by decide +kernel), List.mem_of_getElem? (i := 400) (by decide +kernel), List.mem_of_getElem? (i := 401) (by decide +kernel)⟩
theorem lw_p2 : lw_okq (⟨"ConstrainedCoder$PowerBuilder", "totalOfPaths", "(LConstrainedCoder$Graph;I)I"⟩, 9) := ⟨⟨by decide +kernel, by decide +kernel⟩, List.mem_of_getElem? (i := 87) (by decide +kernel), List.mem_of_getElem? (i := 408) (by decide +kernel), List.mem_of_getElem? (i := 409) (by decide +kernel)⟩
theorem lw_p3 : lw_okq (⟨"ConstrainedCoder$PowerBuilder", "listEmptyPaths", "(LConstrainedCoder$Graph;I)V"⟩, 9) := ⟨⟨by decide +kernel, by decide +kernel⟩, List.mem_of_getElem? (i := 87) (by decide +kernel), List.mem_of_getElem? (i := 413) (by decide +kernel), List.mem_of_getElem? (i := 414) (by decide +kernel)⟩
theorem lw_p4 : lw_okq (⟨"ConstrainedCoder$PowerBuilder", "extendPaths", "(LConstrainedCoder$Graph;I)V"⟩, 9) := ⟨⟨by decide +kernel, by decide +kernel⟩, List.mem_of_getElem? (i := 87) (by decide +kernel), List.mem_of_getElem? (i := 417) (by decide +kernel), List.mem_of_getElem? (i := 418) (by decide +kernel)⟩
theorem lw_p5 : lw_okq (⟨"ConstrainedCoder$PowerBuilder", "appendLonger", "(III)V"⟩, 9) := ⟨⟨by decide +kernel, by decide +kernel⟩, List.mem_of_getElem? (i := 87) (by decide +kernel), List.mem_of_getElem? (i := 422) (by decide +kernel), List.mem_of_getElem? (i := 423) (by decide +kernel)⟩
theorem lw_p6 : lw_okq (⟨"ConstrainedCoder$Graph", "inDegree", "(I)I"⟩, 7) := ⟨⟨by decide +kernel, by decide +kernel⟩, List.mem_of_getElem? (i := 32) (by decide +kernel), List.mem_of_getElem? (i := 449) (by decide +kernel), List.mem_of_getElem? (i := 450) (by decide +kernel)⟩
theorem lw_p7 : lw_okq (⟨"ConstrainedCoder$Graph", "moveEdgesOutsideMask", "(III)V"⟩, 7) := ⟨⟨by decide +kernel, by decide +kernel⟩, List.mem_of_getElem? (i := 32) (by decide +kernel), List.mem_of_getElem? (i := 454) (by decide +kernel), List.mem_of_getElem? (i := 455) (by decide +kernel)⟩
theorem lw_p8 : lw_okq (⟨"ConstrainedCoder$Graph", "copyIncomingEdges", "(II)V"⟩, 7) := ⟨⟨by decide +kernel, by decide +kernel⟩, List.mem_of_getElem? (i := 32) (by decide +kernel), List.mem_of_getElem? (i := 458) (by decide +kernel), List.mem_of_getElem? (i := 459) (by decide +kernel)⟩
theorem lw_p9 : lw_okq (⟨"ConstrainedCoder$Graph", "closeReachedStates", "()V"⟩, 7) := ⟨⟨by decide +kernel, by decide +kernel⟩, List.mem_of_getElem? (i := 32) (by decide +kernel), List.mem_of_getElem? (i := 478) (by decide +kernel), List.mem_of_getElem? (i := 479) (by decide +kernel)⟩
theorem lw_p10 : lw_okq (⟨"ConstrainedCoder$ConstraintText", "loadNamed", "(LConstrainedCoder$Graph;)I"⟩, 2) := ⟨⟨by decide +kernel, by decide +kernel⟩, List.mem_of_getElem? (i := 74) (by decide +kernel), List.mem_of_getElem? (i := 498) (by decide +kernel), List.mem_of_getElem? (i := 499) (by decide +kernel)⟩
theorem lw_p11 : lw_okq (⟨"ConstrainedCoder$ConstraintText", "matchedBy", "(Ljava/lang/String;)I"⟩, 2) := ⟨⟨by decide +kernel, by decide +kernel⟩, List.mem_of_getElem? (i := 74) (by decide +kernel), List.mem_of_getElem? (i := 503) (by decide +kernel), List.mem_of_getElem? (i := 504) (by decide +kernel)⟩
theorem lw_p12 : lw_okq (⟨"ConstrainedCoder$ConstraintText", "digitAt", "(I)I"⟩, 2) := ⟨⟨by decide +kernel, by decide +kernel⟩, List.mem_of_getElem? (i := 74) (by decide +kernel), List.mem_of_getElem? (i := 560) (by decide +kernel), List.mem_of_getElem? (i := 561) (by decide +kernel)⟩
theorem lw_p13 : lw_okq (⟨"ConstrainedCoder$Graph", "successors", "(II)I"⟩, 7) := ⟨⟨by decide +kernel, by decide +kernel⟩, List.mem_of_getElem? (i := 32) (by decide +kernel), List.mem_of_getElem? (i := 626) (by decide +kernel), List.mem_of_getElem? (i := 627) (by decide +kernel)⟩
theorem lw_p14 : lw_okq (⟨"ConstrainedCoder$WordCounter", "countAll", "(LConstrainedCoder$Graph;IZ)V"⟩, 2) := ⟨⟨by decide +kernel, by decide +kernel⟩, List.mem_of_getElem? (i := 123) (by decide +kernel), List.mem_of_getElem? (i := 665) (by decide +kernel), List.mem_of_getElem? (i := 666) (by decide +kernel)⟩
theorem lw_p15 : lw_okq (⟨"ConstrainedCoder$WordCounter", "addThrough", "(LConstrainedCoder$Graph;III)V"⟩, 2) := ⟨⟨by decide +kernel, by decide +kernel⟩, List.mem_of_getElem? (i := 123) (by decide +kernel), List.mem_of_getElem? (i := 675) (by decide +kernel), List.mem_of_getElem? (i := 676) (by decide +kernel)⟩
def lw_privs_1 : List (MethodName × Nat) := [(⟨"ConstrainedCoder", "afterGraphChange", "(I)I"⟩, 13), (⟨"ConstrainedCoder$PowerBuilder", "countPaths", "(LConstrainedCoder$Graph;I)V"⟩, 9), (⟨"ConstrainedCoder$PowerBuilder", "totalOfPaths", "(LConstrainedCoder$Graph;I)I"⟩, 9), (⟨"ConstrainedCoder$PowerBuilder", "listEmptyPaths", "(LConstrainedCoder$Graph;I)V"⟩, 9), (⟨"ConstrainedCoder$PowerBuilder", "extendPaths", "(LConstrainedCoder$Graph;I)V"⟩, 9), (⟨"ConstrainedCoder$PowerBuilder", "appendLonger", "(III)V"⟩, 9), (⟨"ConstrainedCoder$Graph", "inDegree", "(I)I"⟩, 7), (⟨"ConstrainedCoder$Graph", "moveEdgesOutsideMask", "(III)V"⟩, 7), (⟨"ConstrainedCoder$Graph", "copyIncomingEdges", "(II)V"⟩, 7), (⟨"ConstrainedCoder$Graph", "closeReachedStates", "()V"⟩, 7), (⟨"ConstrainedCoder$ConstraintText", "loadNamed", "(LConstrainedCoder$Graph;)I"⟩, 2), (⟨"ConstrainedCoder$ConstraintText", "matchedBy", "(Ljava/lang/String;)I"⟩, 2), (⟨"ConstrainedCoder$ConstraintText", "digitAt", "(I)I"⟩, 2), (⟨"ConstrainedCoder$Graph", "successors", "(II)I"⟩, 7), (⟨"ConstrainedCoder$WordCounter", "countAll", "(LConstrainedCoder$Graph;IZ)V"⟩, 2), (⟨"ConstrainedCoder$WordCounter", "addThrough", "(LConstrainedCoder$Graph;III)V"⟩, 2)]
theorem lw_r1 : ∀ q ∈ lw_privs_1, lw_okq q := List.forall_mem_cons.mpr ⟨lw_p0, List.forall_mem_cons.mpr ⟨lw_p1, List.forall_mem_cons.mpr ⟨lw_p2, List.forall_mem_cons.mpr ⟨lw_p3, List.forall_mem_cons.mpr ⟨lw_p4, List.forall_mem_cons.mpr ⟨lw_p5, List.forall_mem_cons.mpr ⟨lw_p6, List.forall_mem_cons.mpr ⟨lw_p7, List.forall_mem_cons.mpr ⟨lw_p8, List.forall_mem_cons.mpr ⟨lw_p9, List.forall_mem_cons.mpr ⟨lw_p10, List.forall_mem_cons.mpr ⟨lw_p11, List.forall_mem_cons.mpr ⟨lw_p12, List.forall_mem_cons.mpr ⟨lw_p13, List.forall_mem_cons.mpr ⟨lw_p14, List.forall_mem_cons.mpr ⟨lw_p15, fun _ h => absurd h List.not_mem_nil⟩⟩⟩⟩⟩⟩⟩⟩⟩⟩⟩⟩⟩⟩⟩⟩
theorem lw_p16 : lw_okq (⟨"ConstrainedCoder$WordCounter", "weightOf", "(I)I"⟩, 2) := ⟨⟨by decide +kernel, by decide +kernel⟩, List.mem_of_getElem? (i := 123) (by decide +kernel), List.mem_of_getElem? (i := 682) (by decide +kernel), List.mem_of_getElem? (i := 683) (by decide +kernel)⟩
theorem lw_p17 : lw_okq (⟨"ConstrainedCoder$WordCounter", "countAt", "(III)J"⟩, 2) := ⟨⟨by decide +kernel, by decide +kernel⟩, List.mem_of_getElem? (i := 123) (by decide +kernel), List.mem_of_getElem? (i := 693) (by decide +kernel), List.mem_of_getElem? (i := 694) (by decide +kernel)⟩
theorem lw_p18 : lw_okq (⟨"ConstrainedCoder$WordCounter", "countThrough", "(LConstrainedCoder$Graph;IIII)J"⟩, 2) := ⟨⟨by decide +kernel, by decide +kernel⟩, List.mem_of_getElem? (i := 123) (by decide +kernel), List.mem_of_getElem? (i := 706) (by decide +kernel), List.mem_of_getElem? (i := 707) (by decide +kernel)⟩
theorem lw_p19 : lw_okq (⟨"ConstrainedCoder$GrowthEstimator", "addEnds", "(LConstrainedCoder$Graph;)V"⟩, 2) := ⟨⟨by decide +kernel, by decide +kernel⟩, List.mem_of_getElem? (i := 139) (by decide +kernel), List.mem_of_getElem? (i := 748) (by decide +kernel), List.mem_of_getElem? (i := 749) (by decide +kernel)⟩
theorem lw_p20 : lw_okq (⟨"ConstrainedCoder$GrowthEstimator", "greatestSum", "(LConstrainedCoder$Graph;)D"⟩, 2) := ⟨⟨by decide +kernel, by decide +kernel⟩, List.mem_of_getElem? (i := 139) (by decide +kernel), List.mem_of_getElem? (i := 755) (by decide +kernel), List.mem_of_getElem? (i := 756) (by decide +kernel)⟩
theorem lw_p21 : lw_okq (⟨"ConstrainedCoder$GrowthEstimator", "takeSums", "(LConstrainedCoder$Graph;D)V"⟩, 2) := ⟨⟨by decide +kernel, by decide +kernel⟩, List.mem_of_getElem? (i := 139) (by decide +kernel), List.mem_of_getElem? (i := 760) (by decide +kernel), List.mem_of_getElem? (i := 761) (by decide +kernel)⟩
theorem lw_p22 : lw_okq (⟨"ConstrainedCoder$EigenvectorFinder", "isNumber", "(I)Z"⟩, 3) := ⟨⟨by decide +kernel, by decide +kernel⟩, List.mem_of_getElem? (i := 153) (by decide +kernel), List.mem_of_getElem? (i := 783) (by decide +kernel), List.mem_of_getElem? (i := 784) (by decide +kernel)⟩
theorem lw_p23 : lw_okq (⟨"ConstrainedCoder$EigenvectorFinder", "smallestBound", "(LConstrainedCoder$Graph;I[I)I"⟩, 3) := ⟨⟨by decide +kernel, by decide +kernel⟩, List.mem_of_getElem? (i := 153) (by decide +kernel), List.mem_of_getElem? (i := 787) (by decide +kernel), List.mem_of_getElem? (i := 788) (by decide +kernel)⟩
theorem lw_p24 : lw_okq (⟨"ConstrainedCoder$EigenvectorFinder", "settle", "(LConstrainedCoder$Graph;I[I)Z"⟩, 3) := ⟨⟨by decide +kernel, by decide +kernel⟩, List.mem_of_getElem? (i := 153) (by decide +kernel), List.mem_of_getElem? (i := 792) (by decide +kernel), List.mem_of_getElem? (i := 793) (by decide +kernel)⟩
theorem lw_p25 : lw_okq (⟨"ConstrainedCoder$EigenvectorFinder", "lower", "(LConstrainedCoder$Graph;I[I)Z"⟩, 3) := ⟨⟨by decide +kernel, by decide +kernel⟩, List.mem_of_getElem? (i := 153) (by decide +kernel), List.mem_of_getElem? (i := 796) (by decide +kernel), List.mem_of_getElem? (i := 797) (by decide +kernel)⟩
theorem lw_p26 : lw_okq (⟨"ConstrainedCoder$Encoder", "orderEdges", "(LConstrainedCoder$Graph;)V"⟩, 7) := ⟨⟨by decide +kernel, by decide +kernel⟩, List.mem_of_getElem? (i := 170) (by decide +kernel), List.mem_of_getElem? (i := 833) (by decide +kernel), List.mem_of_getElem? (i := 834) (by decide +kernel)⟩
theorem lw_p27 : lw_okq (⟨"ConstrainedCoder$Encoder", "giveDataWord", "(II)V"⟩, 7) := ⟨⟨by decide +kernel, by decide +kernel⟩, List.mem_of_getElem? (i := 170) (by decide +kernel), List.mem_of_getElem? (i := 842) (by decide +kernel), List.mem_of_getElem? (i := 843) (by decide +kernel)⟩
theorem lw_p28 : lw_okq (⟨"ConstrainedCoder$AnticipationFinder", "leavesFirstEdgeOpen", "(LConstrainedCoder$Graph;)Z"⟩, 2) := ⟨⟨by decide +kernel, by decide +kernel⟩, List.mem_of_getElem? (i := 198) (by decide +kernel), List.mem_of_getElem? (i := 875) (by decide +kernel), List.mem_of_getElem? (i := 876) (by decide +kernel)⟩
theorem lw_p29 : lw_okq (⟨"ConstrainedCoder$AnticipationFinder", "goTogether", "(LConstrainedCoder$Graph;II)Z"⟩, 2) := ⟨⟨by decide +kernel, by decide +kernel⟩, List.mem_of_getElem? (i := 198) (by decide +kernel), List.mem_of_getElem? (i := 881) (by decide +kernel), List.mem_of_getElem? (i := 882) (by decide +kernel)⟩
theorem lw_p30 : lw_okq (⟨"ConstrainedCoder$AnticipationFinder", "lengthenPaths", "(LConstrainedCoder$Graph;)V"⟩, 2) := ⟨⟨by decide +kernel, by decide +kernel⟩, List.mem_of_getElem? (i := 198) (by decide +kernel), List.mem_of_getElem? (i := 887) (by decide +kernel), List.mem_of_getElem? (i := 888) (by decide +kernel)⟩
theorem lw_p31 : lw_okq (⟨"ConstrainedCoder$Encoder", "statesAfter", "(LConstrainedCoder$Graph;II)I"⟩, 7) := ⟨⟨by decide +kernel, by decide +kernel⟩, List.mem_of_getElem? (i := 170) (by decide +kernel), List.mem_of_getElem? (i := 907) (by decide +kernel), List.mem_of_getElem? (i := 908) (by decide +kernel)⟩
def lw_privs_2 : List (MethodName × Nat) := [(⟨"ConstrainedCoder$WordCounter", "weightOf", "(I)I"⟩, 2), (⟨"ConstrainedCoder$WordCounter", "countAt", "(III)J"⟩, 2), (⟨"ConstrainedCoder$WordCounter", "countThrough", "(LConstrainedCoder$Graph;IIII)J"⟩, 2), (⟨"ConstrainedCoder$GrowthEstimator", "addEnds", "(LConstrainedCoder$Graph;)V"⟩, 2), (⟨"ConstrainedCoder$GrowthEstimator", "greatestSum", "(LConstrainedCoder$Graph;)D"⟩, 2), (⟨"ConstrainedCoder$GrowthEstimator", "takeSums", "(LConstrainedCoder$Graph;D)V"⟩, 2), (⟨"ConstrainedCoder$EigenvectorFinder", "isNumber", "(I)Z"⟩, 3), (⟨"ConstrainedCoder$EigenvectorFinder", "smallestBound", "(LConstrainedCoder$Graph;I[I)I"⟩, 3), (⟨"ConstrainedCoder$EigenvectorFinder", "settle", "(LConstrainedCoder$Graph;I[I)Z"⟩, 3), (⟨"ConstrainedCoder$EigenvectorFinder", "lower", "(LConstrainedCoder$Graph;I[I)Z"⟩, 3), (⟨"ConstrainedCoder$Encoder", "orderEdges", "(LConstrainedCoder$Graph;)V"⟩, 7), (⟨"ConstrainedCoder$Encoder", "giveDataWord", "(II)V"⟩, 7), (⟨"ConstrainedCoder$AnticipationFinder", "leavesFirstEdgeOpen", "(LConstrainedCoder$Graph;)Z"⟩, 2), (⟨"ConstrainedCoder$AnticipationFinder", "goTogether", "(LConstrainedCoder$Graph;II)Z"⟩, 2), (⟨"ConstrainedCoder$AnticipationFinder", "lengthenPaths", "(LConstrainedCoder$Graph;)V"⟩, 2), (⟨"ConstrainedCoder$Encoder", "statesAfter", "(LConstrainedCoder$Graph;II)I"⟩, 7)]
theorem lw_r2 : ∀ q ∈ lw_privs_2, lw_okq q := List.forall_mem_cons.mpr ⟨lw_p16, List.forall_mem_cons.mpr ⟨lw_p17, List.forall_mem_cons.mpr ⟨lw_p18, List.forall_mem_cons.mpr ⟨lw_p19, List.forall_mem_cons.mpr ⟨lw_p20, List.forall_mem_cons.mpr ⟨lw_p21, List.forall_mem_cons.mpr ⟨lw_p22, List.forall_mem_cons.mpr ⟨lw_p23, List.forall_mem_cons.mpr ⟨lw_p24, List.forall_mem_cons.mpr ⟨lw_p25, List.forall_mem_cons.mpr ⟨lw_p26, List.forall_mem_cons.mpr ⟨lw_p27, List.forall_mem_cons.mpr ⟨lw_p28, List.forall_mem_cons.mpr ⟨lw_p29, List.forall_mem_cons.mpr ⟨lw_p30, List.forall_mem_cons.mpr ⟨lw_p31, fun _ h => absurd h List.not_mem_nil⟩⟩⟩⟩⟩⟩⟩⟩⟩⟩⟩⟩⟩⟩⟩⟩
theorem lw_p32 : lw_okq (⟨"ConstrainedCoder$Encoder", "isTaken", "(LConstrainedCoder$Graph;III)Z"⟩, 7) := ⟨⟨by decide +kernel, by decide +kernel⟩, List.mem_of_getElem? (i := 170) (by decide +kernel), List.mem_of_getElem? (i := 911) (by decide +kernel), List.mem_of_getElem? (i := 912) (by decide +kernel)⟩
theorem lw_p33 : lw_okq (⟨"ConstrainedCoder$Encoder", "statesBefore", "(LConstrainedCoder$Graph;II)I"⟩, 7) := ⟨⟨by decide +kernel, by decide +kernel⟩, List.mem_of_getElem? (i := 170) (by decide +kernel), List.mem_of_getElem? (i := 916) (by decide +kernel), List.mem_of_getElem? (i := 917) (by decide +kernel)⟩
theorem lw_p34 : lw_okq (⟨"ConstrainedCoder$Encoder", "commonDataWord", "(LConstrainedCoder$Graph;III)I"⟩, 7) := ⟨⟨by decide +kernel, by decide +kernel⟩, List.mem_of_getElem? (i := 170) (by decide +kernel), List.mem_of_getElem? (i := 920) (by decide +kernel), List.mem_of_getElem? (i := 921) (by decide +kernel)⟩
theorem lw_p35 : lw_okq (⟨"ConstrainedCoderModel", "begins", "(II)I"⟩, 38) := ⟨⟨by decide +kernel, by decide +kernel⟩, List.mem_of_getElem? (i := 982) (by decide +kernel), List.mem_of_getElem? (i := 1107) (by decide +kernel), List.mem_of_getElem? (i := 1108) (by decide +kernel)⟩
theorem lw_p36 : lw_okq (⟨"ConstrainedCoderModel", "lays", "(III)V"⟩, 38) := ⟨⟨by decide +kernel, by decide +kernel⟩, List.mem_of_getElem? (i := 982) (by decide +kernel), List.mem_of_getElem? (i := 1111) (by decide +kernel), List.mem_of_getElem? (i := 1112) (by decide +kernel)⟩
theorem lw_p37 : lw_okq (⟨"ConstrainedCoderModel", "isState", "(I)Z"⟩, 38) := ⟨⟨by decide +kernel, by decide +kernel⟩, List.mem_of_getElem? (i := 982) (by decide +kernel), List.mem_of_getElem? (i := 1134) (by decide +kernel), List.mem_of_getElem? (i := 1135) (by decide +kernel)⟩
theorem lw_p38 : lw_okq (⟨"ConstrainedCoderModel", "isEdge", "(I)Z"⟩, 38) := ⟨⟨by decide +kernel, by decide +kernel⟩, List.mem_of_getElem? (i := 982) (by decide +kernel), List.mem_of_getElem? (i := 1142) (by decide +kernel), List.mem_of_getElem? (i := 1143) (by decide +kernel)⟩
theorem lw_p39 : lw_okq (⟨"ConstrainedCoderModel", "walks", "(IIII)V"⟩, 38) := ⟨⟨by decide +kernel, by decide +kernel⟩, List.mem_of_getElem? (i := 982) (by decide +kernel), List.mem_of_getElem? (i := 1175) (by decide +kernel), List.mem_of_getElem? (i := 1176) (by decide +kernel)⟩
theorem lw_p40 : lw_okq (⟨"ConstrainedCoderModel", "edgesOf", "(I)I"⟩, 38) := ⟨⟨by decide +kernel, by decide +kernel⟩, List.mem_of_getElem? (i := 982) (by decide +kernel), List.mem_of_getElem? (i := 1183) (by decide +kernel), List.mem_of_getElem? (i := 1184) (by decide +kernel)⟩
theorem lw_p41 : lw_okq (⟨"ConstrainedCoderModel", "isDeterministicNow", "()Z"⟩, 38) := ⟨⟨by decide +kernel, by decide +kernel⟩, List.mem_of_getElem? (i := 982) (by decide +kernel), List.mem_of_getElem? (i := 1191) (by decide +kernel), List.mem_of_getElem? (i := 1192) (by decide +kernel)⟩
theorem lw_p42 : lw_okq (⟨"ConstrainedCoderModel", "goes", "(Ljava/lang/String;)I"⟩, 38) := ⟨⟨by decide +kernel, by decide +kernel⟩, List.mem_of_getElem? (i := 982) (by decide +kernel), List.mem_of_getElem? (i := 1209) (by decide +kernel), List.mem_of_getElem? (i := 1210) (by decide +kernel)⟩
theorem lw_p43 : lw_okq (⟨"ConstrainedCoderModel", "labelAt", "(I)I"⟩, 38) := ⟨⟨by decide +kernel, by decide +kernel⟩, List.mem_of_getElem? (i := 982) (by decide +kernel), List.mem_of_getElem? (i := 1237) (by decide +kernel), List.mem_of_getElem? (i := 1238) (by decide +kernel)⟩
theorem lw_p44 : lw_okq (⟨"ConstrainedCoderModel", "after", "(II)I"⟩, 38) := ⟨⟨by decide +kernel, by decide +kernel⟩, List.mem_of_getElem? (i := 982) (by decide +kernel), List.mem_of_getElem? (i := 1241) (by decide +kernel), List.mem_of_getElem? (i := 1242) (by decide +kernel)⟩
theorem lw_p45 : lw_okq (⟨"ConstrainedCoderModel", "ones", "()I"⟩, 38) := ⟨⟨by decide +kernel, by decide +kernel⟩, List.mem_of_getElem? (i := 982) (by decide +kernel), List.mem_of_getElem? (i := 1249) (by decide +kernel), List.mem_of_getElem? (i := 1250) (by decide +kernel)⟩
theorem lw_p46 : lw_okq (⟨"ConstrainedCoderModel", "hinders", "(III)I"⟩, 38) := ⟨⟨by decide +kernel, by decide +kernel⟩, List.mem_of_getElem? (i := 982) (by decide +kernel), List.mem_of_getElem? (i := 1261) (by decide +kernel), List.mem_of_getElem? (i := 1262) (by decide +kernel)⟩
theorem lw_p47 : lw_okq (⟨"ConstrainedCoderModel", "counts", "(I)V"⟩, 38) := ⟨⟨by decide +kernel, by decide +kernel⟩, List.mem_of_getElem? (i := 982) (by decide +kernel), List.mem_of_getElem? (i := 1265) (by decide +kernel), List.mem_of_getElem? (i := 1266) (by decide +kernel)⟩
def lw_privs_3 : List (MethodName × Nat) := [(⟨"ConstrainedCoder$Encoder", "isTaken", "(LConstrainedCoder$Graph;III)Z"⟩, 7), (⟨"ConstrainedCoder$Encoder", "statesBefore", "(LConstrainedCoder$Graph;II)I"⟩, 7), (⟨"ConstrainedCoder$Encoder", "commonDataWord", "(LConstrainedCoder$Graph;III)I"⟩, 7), (⟨"ConstrainedCoderModel", "begins", "(II)I"⟩, 38), (⟨"ConstrainedCoderModel", "lays", "(III)V"⟩, 38), (⟨"ConstrainedCoderModel", "isState", "(I)Z"⟩, 38), (⟨"ConstrainedCoderModel", "isEdge", "(I)Z"⟩, 38), (⟨"ConstrainedCoderModel", "walks", "(IIII)V"⟩, 38), (⟨"ConstrainedCoderModel", "edgesOf", "(I)I"⟩, 38), (⟨"ConstrainedCoderModel", "isDeterministicNow", "()Z"⟩, 38), (⟨"ConstrainedCoderModel", "goes", "(Ljava/lang/String;)I"⟩, 38), (⟨"ConstrainedCoderModel", "labelAt", "(I)I"⟩, 38), (⟨"ConstrainedCoderModel", "after", "(II)I"⟩, 38), (⟨"ConstrainedCoderModel", "ones", "()I"⟩, 38), (⟨"ConstrainedCoderModel", "hinders", "(III)I"⟩, 38), (⟨"ConstrainedCoderModel", "counts", "(I)V"⟩, 38)]
theorem lw_r3 : ∀ q ∈ lw_privs_3, lw_okq q := List.forall_mem_cons.mpr ⟨lw_p32, List.forall_mem_cons.mpr ⟨lw_p33, List.forall_mem_cons.mpr ⟨lw_p34, List.forall_mem_cons.mpr ⟨lw_p35, List.forall_mem_cons.mpr ⟨lw_p36, List.forall_mem_cons.mpr ⟨lw_p37, List.forall_mem_cons.mpr ⟨lw_p38, List.forall_mem_cons.mpr ⟨lw_p39, List.forall_mem_cons.mpr ⟨lw_p40, List.forall_mem_cons.mpr ⟨lw_p41, List.forall_mem_cons.mpr ⟨lw_p42, List.forall_mem_cons.mpr ⟨lw_p43, List.forall_mem_cons.mpr ⟨lw_p44, List.forall_mem_cons.mpr ⟨lw_p45, List.forall_mem_cons.mpr ⟨lw_p46, List.forall_mem_cons.mpr ⟨lw_p47, fun _ h => absurd h List.not_mem_nil⟩⟩⟩⟩⟩⟩⟩⟩⟩⟩⟩⟩⟩⟩⟩⟩
theorem lw_p48 : lw_okq (⟨"ConstrainedCoderModel", "at", "(III)I"⟩, 38) := ⟨⟨by decide +kernel, by decide +kernel⟩, List.mem_of_getElem? (i := 982) (by decide +kernel), List.mem_of_getElem? (i := 1269) (by decide +kernel), List.mem_of_getElem? (i := 1270) (by decide +kernel)⟩
theorem lw_p49 : lw_okq (⟨"ConstrainedCoderModel", "number", "(IIIZ)J"⟩, 38) := ⟨⟨by decide +kernel, by decide +kernel⟩, List.mem_of_getElem? (i := 982) (by decide +kernel), List.mem_of_getElem? (i := 1276) (by decide +kernel), List.mem_of_getElem? (i := 1277) (by decide +kernel)⟩
theorem lw_p50 : lw_okq (⟨"ConstrainedCoderModel", "edgeBy", "(II)I"⟩, 38) := ⟨⟨by decide +kernel, by decide +kernel⟩, List.mem_of_getElem? (i := 982) (by decide +kernel), List.mem_of_getElem? (i := 1284) (by decide +kernel), List.mem_of_getElem? (i := 1285) (by decide +kernel)⟩
theorem lw_p51 : lw_okq (⟨"ConstrainedCoderModel", "bound", "(I)I"⟩, 38) := ⟨⟨by decide +kernel, by decide +kernel⟩, List.mem_of_getElem? (i := 982) (by decide +kernel), List.mem_of_getElem? (i := 1316) (by decide +kernel), List.mem_of_getElem? (i := 1317) (by decide +kernel)⟩
theorem lw_p52 : lw_okq (⟨"ConstrainedCoderModel", "isEncoderFor", "(I)Z"⟩, 38) := ⟨⟨by decide +kernel, by decide +kernel⟩, List.mem_of_getElem? (i := 982) (by decide +kernel), List.mem_of_getElem? (i := 1328) (by decide +kernel), List.mem_of_getElem? (i := 1329) (by decide +kernel)⟩
theorem lw_p53 : lw_okq (⟨"ConstrainedCoderModel", "data", "(I)I"⟩, 38) := ⟨⟨by decide +kernel, by decide +kernel⟩, List.mem_of_getElem? (i := 982) (by decide +kernel), List.mem_of_getElem? (i := 1340) (by decide +kernel), List.mem_of_getElem? (i := 1341) (by decide +kernel)⟩
theorem lw_p54 : lw_okq (⟨"ConstrainedCoderModel", "pairs", "(Z)Z"⟩, 38) := ⟨⟨by decide +kernel, by decide +kernel⟩, List.mem_of_getElem? (i := 982) (by decide +kernel), List.mem_of_getElem? (i := 1352) (by decide +kernel), List.mem_of_getElem? (i := 1353) (by decide +kernel)⟩
theorem lw_p55 : lw_okq (⟨"ConstrainedCoderModel", "encoded", "(II)I"⟩, 38) := ⟨⟨by decide +kernel, by decide +kernel⟩, List.mem_of_getElem? (i := 982) (by decide +kernel), List.mem_of_getElem? (i := 1360) (by decide +kernel), List.mem_of_getElem? (i := 1361) (by decide +kernel)⟩
def lw_privs_4 : List (MethodName × Nat) := [(⟨"ConstrainedCoderModel", "at", "(III)I"⟩, 38), (⟨"ConstrainedCoderModel", "number", "(IIIZ)J"⟩, 38), (⟨"ConstrainedCoderModel", "edgeBy", "(II)I"⟩, 38), (⟨"ConstrainedCoderModel", "bound", "(I)I"⟩, 38), (⟨"ConstrainedCoderModel", "isEncoderFor", "(I)Z"⟩, 38), (⟨"ConstrainedCoderModel", "data", "(I)I"⟩, 38), (⟨"ConstrainedCoderModel", "pairs", "(Z)Z"⟩, 38), (⟨"ConstrainedCoderModel", "encoded", "(II)I"⟩, 38)]
theorem lw_r4 : ∀ q ∈ lw_privs_4, lw_okq q := List.forall_mem_cons.mpr ⟨lw_p48, List.forall_mem_cons.mpr ⟨lw_p49, List.forall_mem_cons.mpr ⟨lw_p50, List.forall_mem_cons.mpr ⟨lw_p51, List.forall_mem_cons.mpr ⟨lw_p52, List.forall_mem_cons.mpr ⟨lw_p53, List.forall_mem_cons.mpr ⟨lw_p54, List.forall_mem_cons.mpr ⟨lw_p55, fun _ h => absurd h List.not_mem_nil⟩⟩⟩⟩⟩⟩⟩⟩
def lw_privs : List (MethodName × Nat) := lw_privs_1 ++ (lw_privs_2 ++ (lw_privs_3 ++ (lw_privs_4)))
def lw_tbl : List Cond := k2_sels lw_privs ++ tables_1
theorem lw_privs_ok : ∀ q ∈ lw_privs, lw_okq q := by
  show ∀ q ∈ lw_privs_1 ++ (lw_privs_2 ++ (lw_privs_3 ++ (lw_privs_4))), lw_okq q
  exact List.forall_mem_append.mpr ⟨lw_r1, List.forall_mem_append.mpr ⟨lw_r2, List.forall_mem_append.mpr ⟨lw_r3, lw_r4⟩⟩⟩
/-- the streams that the claim lets the run draw from -/
abbrev lw_cs : List Choice := [Jvm.Choice.named "NaN.bits"]
theorem lw_bits : nanBits ∈ lw_cs := by first | decide | exact List.mem_cons_self | simp [lw_cs, nanBits]
def RX0 : String := "ConstrainedCoder$AnticipationFinder"
def TX0 : u_T := fun k => match k with
  | 0 => ("ConstrainedCoder$AnticipationFinder", "together", "[I", true)
  | _ => ("ConstrainedCoder$AnticipationFinder", "longerTogether", "[I", true)
def tyX0 : Nat → FieldType := fun k => match k with
  | 0 => .array .int
  | _ => .array .int
abbrev wsX00 : List Cond := u_ws RX0 TX0 2
theorem nmX0 : ∀ a, a < 2 → ∀ b, b < 2 → a ≠ b → (TX0 a).2.1 ≠ (TX0 b).2.1 := by decide +kernel
theorem tyX0_ok : ∀ k, k < 2 → parseFieldDescriptor (TX0 k).2.2.1 = some (tyX0 k) := by decide +kernel
abbrev cX0_init : ByteArray := prog_2_method_1_code
def yX0_init : MethodName := ⟨RX0, "<init>", "()V"⟩
abbrev cX0_smallest : ByteArray := prog_2_method_2_code
def yX0_smallest : MethodName := ⟨RX0, "smallest", "(LConstrainedCoder$Graph;)I"⟩
abbrev cX0_leavesFirstEdgeOpen : ByteArray := prog_2_method_3_code
def yX0_leavesFirstEdgeOpen : MethodName := ⟨RX0, "leavesFirstEdgeOpen", "(LConstrainedCoder$Graph;)Z"⟩
abbrev cX0_lengthenPaths : ByteArray := prog_2_method_4_code
def yX0_lengthenPaths : MethodName := ⟨RX0, "lengthenPaths", "(LConstrainedCoder$Graph;)V"⟩
abbrev cX0_goTogether : ByteArray := prog_2_method_5_code
def yX0_goTogether : MethodName := ⟨RX0, "goTogether", "(LConstrainedCoder$Graph;II)Z"⟩
def RX1 : String := "ConstrainedCoder$ConstraintText"
def TX1 : u_T := fun k => match k with
  | 0 => ("ConstrainedCoder$ConstraintText", "characters", "[I", true)
  | _ => ("ConstrainedCoder$ConstraintText", "length", "I", false)
def tyX1 : Nat → FieldType := fun k => match k with
  | 0 => .array .int
  | _ => .int
abbrev wsX10 : List Cond := u_ws RX1 TX1 2
theorem nmX1 : ∀ a, a < 2 → ∀ b, b < 2 → a ≠ b → (TX1 a).2.1 ≠ (TX1 b).2.1 := by decide +kernel
theorem tyX1_ok : ∀ k, k < 2 → parseFieldDescriptor (TX1 k).2.2.1 = some (tyX1 k) := by decide +kernel
abbrev cX1_init : ByteArray := prog_3_method_1_code
def yX1_init : MethodName := ⟨RX1, "<init>", "()V"⟩
abbrev cX1_append : ByteArray := prog_3_method_2_code
def yX1_append : MethodName := ⟨RX1, "append", "(I)I"⟩
abbrev cX1_applyTo : ByteArray := prog_3_method_3_code
def yX1_applyTo : MethodName := ⟨RX1, "applyTo", "(LConstrainedCoder$Graph;)I"⟩
abbrev cX1_loadNamed : ByteArray := prog_3_method_4_code
def yX1_loadNamed : MethodName := ⟨RX1, "loadNamed", "(LConstrainedCoder$Graph;)I"⟩
abbrev cX1_matchedBy : ByteArray := prog_3_method_5_code
def yX1_matchedBy : MethodName := ⟨RX1, "matchedBy", "(Ljava/lang/String;)I"⟩
abbrev cX1_fits : ByteArray := prog_3_method_6_code
def yX1_fits : MethodName := ⟨RX1, "fits", "(CI)Z"⟩
abbrev cX1_digitAt : ByteArray := prog_3_method_7_code
def yX1_digitAt : MethodName := ⟨RX1, "digitAt", "(I)I"⟩
def RX2 : String := "ConstrainedCoder$EigenvectorFinder"
def TX2 : u_T := fun k => match k with
  | 0 => ("ConstrainedCoder$EigenvectorFinder", "bounds", "[I", true)
  | 1 => ("ConstrainedCoder$EigenvectorFinder", "elements", "[[I", true)
  | _ => ("ConstrainedCoder$EigenvectorFinder", "sums", "[I", true)
def tyX2 : Nat → FieldType := fun k => match k with
  | 0 => .array .int
  | 1 => .array (.array .int)
  | _ => .array .int
abbrev wsX20 : List Cond := u_ws RX2 TX2 3
theorem nmX2 : ∀ a, a < 3 → ∀ b, b < 3 → a ≠ b → (TX2 a).2.1 ≠ (TX2 b).2.1 := by decide +kernel
theorem tyX2_ok : ∀ k, k < 3 → parseFieldDescriptor (TX2 k).2.2.1 = some (tyX2 k) := by decide +kernel
abbrev cX2_init : ByteArray := prog_4_method_1_code
def yX2_init : MethodName := ⟨RX2, "<init>", "()V"⟩
abbrev cX2_forget : ByteArray := prog_4_method_2_code
def yX2_forget : MethodName := ⟨RX2, "forget", "()V"⟩
abbrev cX2_find : ByteArray := prog_4_method_3_code
def yX2_find : MethodName := ⟨RX2, "find", "(LConstrainedCoder$Graph;I)V"⟩
abbrev cX2_foundBound : ByteArray := prog_4_method_4_code
def yX2_foundBound : MethodName := ⟨RX2, "foundBound", "(I)I"⟩
abbrev cX2_foundElement : ByteArray := prog_4_method_5_code
def yX2_foundElement : MethodName := ⟨RX2, "foundElement", "(II)I"⟩
abbrev cX2_isNumber : ByteArray := prog_4_method_6_code
def yX2_isNumber : MethodName := ⟨RX2, "isNumber", "(I)Z"⟩
abbrev cX2_smallestBound : ByteArray := prog_4_method_7_code
def yX2_smallestBound : MethodName := ⟨RX2, "smallestBound", "(LConstrainedCoder$Graph;I[I)I"⟩
abbrev cX2_settle : ByteArray := prog_4_method_8_code
def yX2_settle : MethodName := ⟨RX2, "settle", "(LConstrainedCoder$Graph;I[I)Z"⟩
abbrev cX2_lower : ByteArray := prog_4_method_9_code
def yX2_lower : MethodName := ⟨RX2, "lower", "(LConstrainedCoder$Graph;I[I)Z"⟩
def RX3 : String := "ConstrainedCoder$Encoder"
def TX3 : u_T := fun k => match k with
  | 0 => ("ConstrainedCoder$Encoder", "edgeFor", "[I", true)
  | 1 => ("ConstrainedCoder$Encoder", "dataOf", "[I", true)
  | 2 => ("ConstrainedCoder$Encoder", "ordered", "[I", true)
  | 3 => ("ConstrainedCoder$Encoder", "on", "Z", false)
  | 4 => ("ConstrainedCoder$Encoder", "dataWords", "I", false)
  | 5 => ("ConstrainedCoder$Encoder", "startState", "I", false)
  | _ => ("ConstrainedCoder$Encoder", "currentState", "I", false)
def tyX3 : Nat → FieldType := fun k => match k with
  | 0 => .array .int
  | 1 => .array .int
  | 2 => .array .int
  | 3 => .boolean
  | 4 => .int
  | 5 => .int
  | _ => .int
abbrev wsX30 : List Cond := u_ws RX3 TX3 7
theorem nmX3 : ∀ a, a < 7 → ∀ b, b < 7 → a ≠ b → (TX3 a).2.1 ≠ (TX3 b).2.1 := by decide +kernel
theorem tyX3_ok : ∀ k, k < 7 → parseFieldDescriptor (TX3 k).2.2.1 = some (tyX3 k) := by decide +kernel
abbrev cX3_init : ByteArray := prog_5_method_1_code
def yX3_init : MethodName := ⟨RX3, "<init>", "()V"⟩
abbrev cX3_turnOff : ByteArray := prog_5_method_2_code
def yX3_turnOff : MethodName := ⟨RX3, "turnOff", "()V"⟩
abbrev cX3_turnOn : ByteArray := prog_5_method_3_code
def yX3_turnOn : MethodName := ⟨RX3, "turnOn", "(LConstrainedCoder$Graph;II)I"⟩
abbrev cX3_orderEdges : ByteArray := prog_5_method_4_code
def yX3_orderEdges : MethodName := ⟨RX3, "orderEdges", "(LConstrainedCoder$Graph;)V"⟩
abbrev cX3_giveDataWord : ByteArray := prog_5_method_5_code
def yX3_giveDataWord : MethodName := ⟨RX3, "giveDataWord", "(II)V"⟩
abbrev cX3_state : ByteArray := prog_5_method_6_code
def yX3_state : MethodName := ⟨RX3, "state", "()I"⟩
abbrev cX3_write : ByteArray := prog_5_method_7_code
def yX3_write : MethodName := ⟨RX3, "write", "(LConstrainedCoder$Graph;LConstrainedCoder$Word;I)I"⟩
abbrev cX3_read : ByteArray := prog_5_method_8_code
def yX3_read : MethodName := ⟨RX3, "read", "(LConstrainedCoder$Graph;LConstrainedCoder$Word;I)I"⟩
abbrev cX3_statesAfter : ByteArray := prog_5_method_9_code
def yX3_statesAfter : MethodName := ⟨RX3, "statesAfter", "(LConstrainedCoder$Graph;II)I"⟩
abbrev cX3_statesBefore : ByteArray := prog_5_method_10_code
def yX3_statesBefore : MethodName := ⟨RX3, "statesBefore", "(LConstrainedCoder$Graph;II)I"⟩
abbrev cX3_commonDataWord : ByteArray := prog_5_method_11_code
def yX3_commonDataWord : MethodName := ⟨RX3, "commonDataWord", "(LConstrainedCoder$Graph;III)I"⟩
abbrev cX3_isTaken : ByteArray := prog_5_method_12_code
def yX3_isTaken : MethodName := ⟨RX3, "isTaken", "(LConstrainedCoder$Graph;III)Z"⟩
def RX4 : String := "ConstrainedCoder$Graph"
def TX4 : u_T := fun k => match k with
  | 0 => ("ConstrainedCoder$Graph", "starts", "[I", true)
  | 1 => ("ConstrainedCoder$Graph", "labels", "[I", true)
  | 2 => ("ConstrainedCoder$Graph", "ends", "[I", true)
  | 3 => ("ConstrainedCoder$Graph", "reached", "[I", true)
  | 4 => ("ConstrainedCoder$Graph", "states", "I", false)
  | 5 => ("ConstrainedCoder$Graph", "edges", "I", false)
  | _ => ("ConstrainedCoder$Graph", "labelBits", "I", false)
def tyX4 : Nat → FieldType := fun k => match k with
  | 0 => .array .int
  | 1 => .array .int
  | 2 => .array .int
  | 3 => .array .int
  | 4 => .int
  | 5 => .int
  | _ => .int
abbrev wsX40 : List Cond := u_ws RX4 TX4 7
theorem nmX4 : ∀ a, a < 7 → ∀ b, b < 7 → a ≠ b → (TX4 a).2.1 ≠ (TX4 b).2.1 := by decide +kernel
theorem tyX4_ok : ∀ k, k < 7 → parseFieldDescriptor (TX4 k).2.2.1 = some (tyX4 k) := by decide +kernel
abbrev cX4_init : ByteArray := prog_6_method_1_code
def yX4_init : MethodName := ⟨RX4, "<init>", "()V"⟩
abbrev cX4_states : ByteArray := prog_6_method_2_code
def yX4_states : MethodName := ⟨RX4, "states", "()I"⟩
abbrev cX4_edges : ByteArray := prog_6_method_3_code
def yX4_edges : MethodName := ⟨RX4, "edges", "()I"⟩
abbrev cX4_labelBits : ByteArray := prog_6_method_4_code
def yX4_labelBits : MethodName := ⟨RX4, "labelBits", "()I"⟩
abbrev cX4_hasState : ByteArray := prog_6_method_5_code
def yX4_hasState : MethodName := ⟨RX4, "hasState", "(I)Z"⟩
abbrev cX4_hasEdge : ByteArray := prog_6_method_6_code
def yX4_hasEdge : MethodName := ⟨RX4, "hasEdge", "(I)Z"⟩
abbrev cX4_startOf : ByteArray := prog_6_method_7_code
def yX4_startOf : MethodName := ⟨RX4, "startOf", "(I)I"⟩
abbrev cX4_labelOf : ByteArray := prog_6_method_8_code
def yX4_labelOf : MethodName := ⟨RX4, "labelOf", "(I)I"⟩
abbrev cX4_endOf : ByteArray := prog_6_method_9_code
def yX4_endOf : MethodName := ⟨RX4, "endOf", "(I)I"⟩
abbrev cX4_becomeEmpty : ByteArray := prog_6_method_10_code
def yX4_becomeEmpty : MethodName := ⟨RX4, "becomeEmpty", "(I)I"⟩
abbrev cX4_becomeRunLength : ByteArray := prog_6_method_11_code
def yX4_becomeRunLength : MethodName := ⟨RX4, "becomeRunLength", "(II)I"⟩
abbrev cX4_becomeCharge : ByteArray := prog_6_method_12_code
def yX4_becomeCharge : MethodName := ⟨RX4, "becomeCharge", "(I)I"⟩
abbrev cX4_becomeCopyOf : ByteArray := prog_6_method_13_code
def yX4_becomeCopyOf : MethodName := ⟨RX4, "becomeCopyOf", "(LConstrainedCoder$Graph;)V"⟩
abbrev cX4_dropAllEdges : ByteArray := prog_6_method_14_code
def yX4_dropAllEdges : MethodName := ⟨RX4, "dropAllEdges", "(I)V"⟩
abbrev cX4_appendState : ByteArray := prog_6_method_15_code
def yX4_appendState : MethodName := ⟨RX4, "appendState", "()I"⟩
abbrev cX4_appendEdge : ByteArray := prog_6_method_16_code
def yX4_appendEdge : MethodName := ⟨RX4, "appendEdge", "(III)I"⟩
abbrev cX4_dropEdge : ByteArray := prog_6_method_17_code
def yX4_dropEdge : MethodName := ⟨RX4, "dropEdge", "(I)I"⟩
abbrev cX4_outDegree : ByteArray := prog_6_method_18_code
def yX4_outDegree : MethodName := ⟨RX4, "outDegree", "(I)I"⟩
abbrev cX4_inDegree : ByteArray := prog_6_method_19_code
def yX4_inDegree : MethodName := ⟨RX4, "inDegree", "(I)I"⟩
abbrev cX4_hasEdgesForAll : ByteArray := prog_6_method_20_code
def yX4_hasEdgesForAll : MethodName := ⟨RX4, "hasEdgesForAll", "(I)Z"⟩
abbrev cX4_splitState : ByteArray := prog_6_method_21_code
def yX4_splitState : MethodName := ⟨RX4, "splitState", "(II)I"⟩
abbrev cX4_moveEdgesOutsideMask : ByteArray := prog_6_method_22_code
def yX4_moveEdgesOutsideMask : MethodName := ⟨RX4, "moveEdgesOutsideMask", "(III)V"⟩
abbrev cX4_copyIncomingEdges : ByteArray := prog_6_method_23_code
def yX4_copyIncomingEdges : MethodName := ⟨RX4, "copyIncomingEdges", "(II)V"⟩
abbrev cX4_deterministic : ByteArray := prog_6_method_24_code
def yX4_deterministic : MethodName := ⟨RX4, "deterministic", "()Z"⟩
abbrev cX4_irreducible : ByteArray := prog_6_method_25_code
def yX4_irreducible : MethodName := ⟨RX4, "irreducible", "()Z"⟩
abbrev cX4_closeReachedStates : ByteArray := prog_6_method_26_code
def yX4_closeReachedStates : MethodName := ⟨RX4, "closeReachedStates", "()V"⟩
abbrev cX4_edgeWithLabel : ByteArray := prog_6_method_27_code
def yX4_edgeWithLabel : MethodName := ⟨RX4, "edgeWithLabel", "(II)I"⟩
abbrev cX4_firstUngeneratedLabel : ByteArray := prog_6_method_28_code
def yX4_firstUngeneratedLabel : MethodName := ⟨RX4, "firstUngeneratedLabel", "(ILConstrainedCoder$Word;)I"⟩
abbrev cX4_successors : ByteArray := prog_6_method_29_code
def yX4_successors : MethodName := ⟨RX4, "successors", "(II)I"⟩
def RX5 : String := "ConstrainedCoder$GrowthEstimator"
def TX5 : u_T := fun k => match k with
  | 0 => ("ConstrainedCoder$GrowthEstimator", "values", "[D", true)
  | _ => ("ConstrainedCoder$GrowthEstimator", "sums", "[D", true)
def tyX5 : Nat → FieldType := fun k => match k with
  | 0 => .array .double
  | _ => .array .double
abbrev wsX50 : List Cond := u_ws RX5 TX5 2
theorem nmX5 : ∀ a, a < 2 → ∀ b, b < 2 → a ≠ b → (TX5 a).2.1 ≠ (TX5 b).2.1 := by decide +kernel
theorem tyX5_ok : ∀ k, k < 2 → parseFieldDescriptor (TX5 k).2.2.1 = some (tyX5 k) := by decide +kernel
abbrev cX5_init : ByteArray := prog_7_method_1_code
def yX5_init : MethodName := ⟨RX5, "<init>", "()V"⟩
abbrev cX5_rateBits : ByteArray := prog_7_method_2_code
def yX5_rateBits : MethodName := ⟨RX5, "rateBits", "(LConstrainedCoder$Graph;I)J"⟩
abbrev cX5_addEnds : ByteArray := prog_7_method_3_code
def yX5_addEnds : MethodName := ⟨RX5, "addEnds", "(LConstrainedCoder$Graph;)V"⟩
abbrev cX5_greatestSum : ByteArray := prog_7_method_4_code
def yX5_greatestSum : MethodName := ⟨RX5, "greatestSum", "(LConstrainedCoder$Graph;)D"⟩
abbrev cX5_takeSums : ByteArray := prog_7_method_5_code
def yX5_takeSums : MethodName := ⟨RX5, "takeSums", "(LConstrainedCoder$Graph;D)V"⟩
abbrev cX5_bitsOf : ByteArray := prog_7_method_6_code
def yX5_bitsOf : MethodName := ⟨RX5, "bitsOf", "(D)J"⟩
def RX6 : String := "ConstrainedCoder$PowerBuilder"
def TX6 : u_T := fun k => match k with
  | 0 => ("ConstrainedCoder$PowerBuilder", "pathCounts", "[[I", true)
  | 1 => ("ConstrainedCoder$PowerBuilder", "starts", "[I", true)
  | 2 => ("ConstrainedCoder$PowerBuilder", "labels", "[I", true)
  | 3 => ("ConstrainedCoder$PowerBuilder", "ends", "[I", true)
  | 4 => ("ConstrainedCoder$PowerBuilder", "longerStarts", "[I", true)
  | 5 => ("ConstrainedCoder$PowerBuilder", "longerLabels", "[I", true)
  | 6 => ("ConstrainedCoder$PowerBuilder", "longerEnds", "[I", true)
  | 7 => ("ConstrainedCoder$PowerBuilder", "paths", "I", false)
  | _ => ("ConstrainedCoder$PowerBuilder", "longerPaths", "I", false)
def tyX6 : Nat → FieldType := fun k => match k with
  | 0 => .array (.array .int)
  | 1 => .array .int
  | 2 => .array .int
  | 3 => .array .int
  | 4 => .array .int
  | 5 => .array .int
  | 6 => .array .int
  | 7 => .int
  | _ => .int
abbrev wsX60 : List Cond := u_ws RX6 TX6 9
theorem nmX6 : ∀ a, a < 9 → ∀ b, b < 9 → a ≠ b → (TX6 a).2.1 ≠ (TX6 b).2.1 := by decide +kernel
theorem tyX6_ok : ∀ k, k < 9 → parseFieldDescriptor (TX6 k).2.2.1 = some (tyX6 k) := by decide +kernel
abbrev cX6_init : ByteArray := prog_8_method_1_code
def yX6_init : MethodName := ⟨RX6, "<init>", "()V"⟩
abbrev cX6_raise : ByteArray := prog_8_method_2_code
def yX6_raise : MethodName := ⟨RX6, "raise", "(LConstrainedCoder$Graph;I)I"⟩
abbrev cX6_countPaths : ByteArray := prog_8_method_3_code
def yX6_countPaths : MethodName := ⟨RX6, "countPaths", "(LConstrainedCoder$Graph;I)V"⟩
abbrev cX6_totalOfPaths : ByteArray := prog_8_method_4_code
def yX6_totalOfPaths : MethodName := ⟨RX6, "totalOfPaths", "(LConstrainedCoder$Graph;I)I"⟩
abbrev cX6_listEmptyPaths : ByteArray := prog_8_method_5_code
def yX6_listEmptyPaths : MethodName := ⟨RX6, "listEmptyPaths", "(LConstrainedCoder$Graph;I)V"⟩
abbrev cX6_extendPaths : ByteArray := prog_8_method_6_code
def yX6_extendPaths : MethodName := ⟨RX6, "extendPaths", "(LConstrainedCoder$Graph;I)V"⟩
abbrev cX6_appendLonger : ByteArray := prog_8_method_7_code
def yX6_appendLonger : MethodName := ⟨RX6, "appendLonger", "(III)V"⟩
def RX7 : String := "ConstrainedCoder$Slots"
def TX7 : u_T := fun k => match k with
  | 0 => ("ConstrainedCoder$Slots", "values", "[[I", true)
  | 1 => ("ConstrainedCoder$Slots", "lengths", "[I", true)
  | _ => ("ConstrainedCoder$Slots", "filled", "[Z", true)
def tyX7 : Nat → FieldType := fun k => match k with
  | 0 => .array (.array .int)
  | 1 => .array .int
  | _ => .array .boolean
abbrev wsX70 : List Cond := u_ws RX7 TX7 3
theorem nmX7 : ∀ a, a < 3 → ∀ b, b < 3 → a ≠ b → (TX7 a).2.1 ≠ (TX7 b).2.1 := by decide +kernel
theorem tyX7_ok : ∀ k, k < 3 → parseFieldDescriptor (TX7 k).2.2.1 = some (tyX7 k) := by decide +kernel
abbrev cX7_init : ByteArray := prog_9_method_1_code
def yX7_init : MethodName := ⟨RX7, "<init>", "()V"⟩
abbrev cX7_hasSlot : ByteArray := prog_9_method_2_code
def yX7_hasSlot : MethodName := ⟨RX7, "hasSlot", "(I)Z"⟩
abbrev cX7_make : ByteArray := prog_9_method_3_code
def yX7_make : MethodName := ⟨RX7, "make", "(II)I"⟩
abbrev cX7_put : ByteArray := prog_9_method_4_code
def yX7_put : MethodName := ⟨RX7, "put", "(III)I"⟩
abbrev cX7_get : ByteArray := prog_9_method_5_code
def yX7_get : MethodName := ⟨RX7, "get", "(II)I"⟩
abbrev cX7_firstUnequal : ByteArray := prog_9_method_6_code
def yX7_firstUnequal : MethodName := ⟨RX7, "firstUnequal", "(ILConstrainedCoder$EigenvectorFinder;I)I"⟩
def RX8 : String := "ConstrainedCoder$Word"
def TX8 : u_T := fun k => match k with
  | 0 => ("ConstrainedCoder$Word", "bits", "[I", true)
  | _ => ("ConstrainedCoder$Word", "length", "I", false)
def tyX8 : Nat → FieldType := fun k => match k with
  | 0 => .array .int
  | _ => .int
abbrev wsX80 : List Cond := u_ws RX8 TX8 2
theorem nmX8 : ∀ a, a < 2 → ∀ b, b < 2 → a ≠ b → (TX8 a).2.1 ≠ (TX8 b).2.1 := by decide +kernel
theorem tyX8_ok : ∀ k, k < 2 → parseFieldDescriptor (TX8 k).2.2.1 = some (tyX8 k) := by decide +kernel
abbrev cX8_init : ByteArray := prog_10_method_1_code
def yX8_init : MethodName := ⟨RX8, "<init>", "()V"⟩
abbrev cX8_length : ByteArray := prog_10_method_2_code
def yX8_length : MethodName := ⟨RX8, "length", "()I"⟩
abbrev cX8_hasIndex : ByteArray := prog_10_method_3_code
def yX8_hasIndex : MethodName := ⟨RX8, "hasIndex", "(I)Z"⟩
abbrev cX8_hasRoom : ByteArray := prog_10_method_4_code
def yX8_hasRoom : MethodName := ⟨RX8, "hasRoom", "(I)Z"⟩
abbrev cX8_bit : ByteArray := prog_10_method_5_code
def yX8_bit : MethodName := ⟨RX8, "bit", "(I)I"⟩
abbrev cX8_makeEmpty : ByteArray := prog_10_method_6_code
def yX8_makeEmpty : MethodName := ⟨RX8, "makeEmpty", "()V"⟩
abbrev cX8_append : ByteArray := prog_10_method_7_code
def yX8_append : MethodName := ⟨RX8, "append", "(I)I"⟩
abbrev cX8_appendLabel : ByteArray := prog_10_method_8_code
def yX8_appendLabel : MethodName := ⟨RX8, "appendLabel", "(II)V"⟩
abbrev cX8_wholeLabels : ByteArray := prog_10_method_9_code
def yX8_wholeLabels : MethodName := ⟨RX8, "wholeLabels", "(I)I"⟩
abbrev cX8_isMultipleOf : ByteArray := prog_10_method_10_code
def yX8_isMultipleOf : MethodName := ⟨RX8, "isMultipleOf", "(I)Z"⟩
abbrev cX8_labelAt : ByteArray := prog_10_method_11_code
def yX8_labelAt : MethodName := ⟨RX8, "labelAt", "(II)I"⟩
abbrev cX8_ones : ByteArray := prog_10_method_12_code
def yX8_ones : MethodName := ⟨RX8, "ones", "()I"⟩
abbrev cX8_invertPrefix : ByteArray := prog_10_method_13_code
def yX8_invertPrefix : MethodName := ⟨RX8, "invertPrefix", "(I)I"⟩
abbrev cX8_balanceByPrefix : ByteArray := prog_10_method_14_code
def yX8_balanceByPrefix : MethodName := ⟨RX8, "balanceByPrefix", "()I"⟩
abbrev cX8_becomeCopyOf : ByteArray := prog_10_method_15_code
def yX8_becomeCopyOf : MethodName := ⟨RX8, "becomeCopyOf", "(LConstrainedCoder$Word;)V"⟩
def RX9 : String := "ConstrainedCoder$WordCounter"
def TX9 : u_T := fun k => match k with
  | 0 => ("ConstrainedCoder$WordCounter", "counts", "[[J", true)
  | _ => ("ConstrainedCoder$WordCounter", "onesWeigh", "Z", false)
def tyX9 : Nat → FieldType := fun k => match k with
  | 0 => .array (.array .long)
  | _ => .boolean
abbrev wsX90 : List Cond := u_ws RX9 TX9 2
theorem nmX9 : ∀ a, a < 2 → ∀ b, b < 2 → a ≠ b → (TX9 a).2.1 ≠ (TX9 b).2.1 := by decide +kernel
theorem tyX9_ok : ∀ k, k < 2 → parseFieldDescriptor (TX9 k).2.2.1 = some (tyX9 k) := by decide +kernel
abbrev cX9_init : ByteArray := prog_11_method_1_code
def yX9_init : MethodName := ⟨RX9, "<init>", "()V"⟩
abbrev cX9_numberOfWords : ByteArray := prog_11_method_2_code
def yX9_numberOfWords : MethodName := ⟨RX9, "numberOfWords", "(LConstrainedCoder$Graph;III)J"⟩
abbrev cX9_writeWordOfRank : ByteArray := prog_11_method_3_code
def yX9_writeWordOfRank : MethodName := ⟨RX9, "writeWordOfRank", "(LConstrainedCoder$Graph;LConstrainedCoder$Word;IIIJ)I"⟩
abbrev cX9_rankOfWord : ByteArray := prog_11_method_4_code
def yX9_rankOfWord : MethodName := ⟨RX9, "rankOfWord", "(LConstrainedCoder$Graph;LConstrainedCoder$Word;II)J"⟩
abbrev cX9_problemOf : ByteArray := prog_11_method_5_code
def yX9_problemOf : MethodName := ⟨RX9, "problemOf", "(LConstrainedCoder$Graph;III)I"⟩
abbrev cX9_countAll : ByteArray := prog_11_method_6_code
def yX9_countAll : MethodName := ⟨RX9, "countAll", "(LConstrainedCoder$Graph;IZ)V"⟩
abbrev cX9_addThrough : ByteArray := prog_11_method_7_code
def yX9_addThrough : MethodName := ⟨RX9, "addThrough", "(LConstrainedCoder$Graph;III)V"⟩
abbrev cX9_weightOf : ByteArray := prog_11_method_8_code
def yX9_weightOf : MethodName := ⟨RX9, "weightOf", "(I)I"⟩
abbrev cX9_countAt : ByteArray := prog_11_method_9_code
def yX9_countAt : MethodName := ⟨RX9, "countAt", "(III)J"⟩
abbrev cX9_countThrough : ByteArray := prog_11_method_10_code
def yX9_countThrough : MethodName := ⟨RX9, "countThrough", "(LConstrainedCoder$Graph;IIII)J"⟩
def RX10 : String := "ConstrainedCoder"
def TX10 : u_T := fun k => match k with
  | 0 => ("ConstrainedCoder", "graph", "LConstrainedCoder$Graph;", true)
  | 1 => ("ConstrainedCoder", "word", "LConstrainedCoder$Word;", true)
  | 2 => ("ConstrainedCoder", "input", "LConstrainedCoder$ConstraintText;", true)
  | 3 => ("ConstrainedCoder", "powers", "LConstrainedCoder$PowerBuilder;", true)
  | 4 => ("ConstrainedCoder", "counter", "LConstrainedCoder$WordCounter;", true)
  | 5 => ("ConstrainedCoder", "growth", "LConstrainedCoder$GrowthEstimator;", true)
  | 6 => ("ConstrainedCoder", "eigenvectors", "LConstrainedCoder$EigenvectorFinder;", true)
  | 7 => ("ConstrainedCoder", "encoder", "LConstrainedCoder$Encoder;", true)
  | 8 => ("ConstrainedCoder", "anticipations", "LConstrainedCoder$AnticipationFinder;", true)
  | 9 => ("ConstrainedCoder", "slots", "LConstrainedCoder$Slots;", true)
  | 10 => ("ConstrainedCoder", "savedGraph", "LConstrainedCoder$Graph;", true)
  | 11 => ("ConstrainedCoder", "savedWord", "LConstrainedCoder$Word;", true)
  | _ => ("ConstrainedCoder", "snapshotSaved", "Z", false)
def tyX10 : Nat → FieldType := fun k => match k with
  | 0 => .object "ConstrainedCoder$Graph"
  | 1 => .object "ConstrainedCoder$Word"
  | 2 => .object "ConstrainedCoder$ConstraintText"
  | 3 => .object "ConstrainedCoder$PowerBuilder"
  | 4 => .object "ConstrainedCoder$WordCounter"
  | 5 => .object "ConstrainedCoder$GrowthEstimator"
  | 6 => .object "ConstrainedCoder$EigenvectorFinder"
  | 7 => .object "ConstrainedCoder$Encoder"
  | 8 => .object "ConstrainedCoder$AnticipationFinder"
  | 9 => .object "ConstrainedCoder$Slots"
  | 10 => .object "ConstrainedCoder$Graph"
  | 11 => .object "ConstrainedCoder$Word"
  | _ => .boolean
abbrev wsX100 : List Cond := u_ws RX10 TX10 13
theorem nmX10 : ∀ a, a < 13 → ∀ b, b < 13 → a ≠ b → (TX10 a).2.1 ≠ (TX10 b).2.1 := by decide +kernel
theorem tyX10_ok : ∀ k, k < 13 → parseFieldDescriptor (TX10 k).2.2.1 = some (tyX10 k) := by decide +kernel
abbrev cX10_init : ByteArray := prog_1_method_1_code
def yX10_init : MethodName := ⟨RX10, "<init>", "()V"⟩
abbrev cX10_loadRunLength : ByteArray := prog_1_method_2_code
def yX10_loadRunLength : MethodName := ⟨RX10, "loadRunLength", "(II)I"⟩
abbrev cX10_loadCharge : ByteArray := prog_1_method_3_code
def yX10_loadCharge : MethodName := ⟨RX10, "loadCharge", "(I)I"⟩
abbrev cX10_clear : ByteArray := prog_1_method_4_code
def yX10_clear : MethodName := ⟨RX10, "clear", "(I)I"⟩
abbrev cX10_addState : ByteArray := prog_1_method_5_code
def yX10_addState : MethodName := ⟨RX10, "addState", "()I"⟩
abbrev cX10_addEdge : ByteArray := prog_1_method_6_code
def yX10_addEdge : MethodName := ⟨RX10, "addEdge", "(III)I"⟩
abbrev cX10_removeEdge : ByteArray := prog_1_method_7_code
def yX10_removeEdge : MethodName := ⟨RX10, "removeEdge", "(I)I"⟩
abbrev cX10_stateCount : ByteArray := prog_1_method_8_code
def yX10_stateCount : MethodName := ⟨RX10, "stateCount", "()I"⟩
abbrev cX10_edgeCount : ByteArray := prog_1_method_9_code
def yX10_edgeCount : MethodName := ⟨RX10, "edgeCount", "()I"⟩
abbrev cX10_labelLength : ByteArray := prog_1_method_10_code
def yX10_labelLength : MethodName := ⟨RX10, "labelLength", "()I"⟩
abbrev cX10_edgeStart : ByteArray := prog_1_method_11_code
def yX10_edgeStart : MethodName := ⟨RX10, "edgeStart", "(I)I"⟩
abbrev cX10_edgeLabel : ByteArray := prog_1_method_12_code
def yX10_edgeLabel : MethodName := ⟨RX10, "edgeLabel", "(I)I"⟩
abbrev cX10_edgeEnd : ByteArray := prog_1_method_13_code
def yX10_edgeEnd : MethodName := ⟨RX10, "edgeEnd", "(I)I"⟩
abbrev cX10_power : ByteArray := prog_1_method_14_code
def yX10_power : MethodName := ⟨RX10, "power", "(I)I"⟩
abbrev cX10_split : ByteArray := prog_1_method_15_code
def yX10_split : MethodName := ⟨RX10, "split", "(II)I"⟩
abbrev cX10_isDeterministic : ByteArray := prog_1_method_16_code
def yX10_isDeterministic : MethodName := ⟨RX10, "isDeterministic", "()I"⟩
abbrev cX10_isIrreducible : ByteArray := prog_1_method_17_code
def yX10_isIrreducible : MethodName := ⟨RX10, "isIrreducible", "()I"⟩
abbrev cX10_afterGraphChange : ByteArray := prog_1_method_18_code
def yX10_afterGraphChange : MethodName := ⟨RX10, "afterGraphChange", "(I)I"⟩
abbrev cX10_appendCharacter : ByteArray := prog_1_method_19_code
def yX10_appendCharacter : MethodName := ⟨RX10, "appendCharacter", "(I)I"⟩
abbrev cX10_parseConstraint : ByteArray := prog_1_method_20_code
def yX10_parseConstraint : MethodName := ⟨RX10, "parseConstraint", "()I"⟩
abbrev cX10_appendBit : ByteArray := prog_1_method_21_code
def yX10_appendBit : MethodName := ⟨RX10, "appendBit", "(I)I"⟩
abbrev cX10_clearWord : ByteArray := prog_1_method_22_code
def yX10_clearWord : MethodName := ⟨RX10, "clearWord", "()I"⟩
abbrev cX10_wordLength : ByteArray := prog_1_method_23_code
def yX10_wordLength : MethodName := ⟨RX10, "wordLength", "()I"⟩
abbrev cX10_wordBit : ByteArray := prog_1_method_24_code
def yX10_wordBit : MethodName := ⟨RX10, "wordBit", "(I)I"⟩
abbrev cX10_firstViolation : ByteArray := prog_1_method_25_code
def yX10_firstViolation : MethodName := ⟨RX10, "firstViolation", "(I)I"⟩
abbrev cX10_balance : ByteArray := prog_1_method_26_code
def yX10_balance : MethodName := ⟨RX10, "balance", "()I"⟩
abbrev cX10_invert : ByteArray := prog_1_method_27_code
def yX10_invert : MethodName := ⟨RX10, "invert", "(I)I"⟩
abbrev cX10_countWords : ByteArray := prog_1_method_28_code
def yX10_countWords : MethodName := ⟨RX10, "countWords", "(III)J"⟩
abbrev cX10_unrank : ByteArray := prog_1_method_29_code
def yX10_unrank : MethodName := ⟨RX10, "unrank", "(IIIJ)I"⟩
abbrev cX10_rank : ByteArray := prog_1_method_30_code
def yX10_rank : MethodName := ⟨RX10, "rank", "(II)J"⟩
abbrev cX10_growthRate : ByteArray := prog_1_method_31_code
def yX10_growthRate : MethodName := ⟨RX10, "growthRate", "(I)J"⟩
abbrev cX10_eigenvectorElement : ByteArray := prog_1_method_32_code
def yX10_eigenvectorElement : MethodName := ⟨RX10, "eigenvectorElement", "(II)I"⟩
abbrev cX10_eigenvectorBound : ByteArray := prog_1_method_33_code
def yX10_eigenvectorBound : MethodName := ⟨RX10, "eigenvectorBound", "(I)I"⟩
abbrev cX10_isEncoder : ByteArray := prog_1_method_34_code
def yX10_isEncoder : MethodName := ⟨RX10, "isEncoder", "(I)I"⟩
abbrev cX10_startEncoder : ByteArray := prog_1_method_35_code
def yX10_startEncoder : MethodName := ⟨RX10, "startEncoder", "(II)I"⟩
abbrev cX10_encode : ByteArray := prog_1_method_36_code
def yX10_encode : MethodName := ⟨RX10, "encode", "(I)I"⟩
abbrev cX10_encoderState : ByteArray := prog_1_method_37_code
def yX10_encoderState : MethodName := ⟨RX10, "encoderState", "()I"⟩
abbrev cX10_anticipation : ByteArray := prog_1_method_38_code
def yX10_anticipation : MethodName := ⟨RX10, "anticipation", "()I"⟩
abbrev cX10_decode : ByteArray := prog_1_method_39_code
def yX10_decode : MethodName := ⟨RX10, "decode", "(I)I"⟩
abbrev cX10_newArray : ByteArray := prog_1_method_40_code
def yX10_newArray : MethodName := ⟨RX10, "newArray", "(II)I"⟩
abbrev cX10_setElement : ByteArray := prog_1_method_41_code
def yX10_setElement : MethodName := ⟨RX10, "setElement", "(III)I"⟩
abbrev cX10_element : ByteArray := prog_1_method_42_code
def yX10_element : MethodName := ⟨RX10, "element", "(II)I"⟩
abbrev cX10_firstDifference : ByteArray := prog_1_method_43_code
def yX10_firstDifference : MethodName := ⟨RX10, "firstDifference", "(II)I"⟩
abbrev cX10_saveSnapshot : ByteArray := prog_1_method_44_code
def yX10_saveSnapshot : MethodName := ⟨RX10, "saveSnapshot", "()I"⟩
abbrev cX10_restoreSnapshot : ByteArray := prog_1_method_45_code
def yX10_restoreSnapshot : MethodName := ⟨RX10, "restoreSnapshot", "()I"⟩
abbrev cX10_isDataLength : ByteArray := prog_1_method_46_code
def yX10_isDataLength : MethodName := ⟨RX10, "isDataLength", "(I)Z"⟩
def RX11 : String := "ConstrainedCoderModel"
def TX11 : u_T := fun k => match k with
  | 0 => ("ConstrainedCoderModel", "states", "I", false)
  | 1 => ("ConstrainedCoderModel", "edges", "I", false)
  | 2 => ("ConstrainedCoderModel", "bits", "I", false)
  | 3 => ("ConstrainedCoderModel", "start", "[I", true)
  | 4 => ("ConstrainedCoderModel", "label", "[I", true)
  | 5 => ("ConstrainedCoderModel", "end", "[I", true)
  | 6 => ("ConstrainedCoderModel", "word", "[I", true)
  | 7 => ("ConstrainedCoderModel", "size", "I", false)
  | 8 => ("ConstrainedCoderModel", "savedStates", "I", false)
  | 9 => ("ConstrainedCoderModel", "savedEdges", "I", false)
  | 10 => ("ConstrainedCoderModel", "savedBits", "I", false)
  | 11 => ("ConstrainedCoderModel", "savedSize", "I", false)
  | 12 => ("ConstrainedCoderModel", "savedStart", "[I", true)
  | 13 => ("ConstrainedCoderModel", "savedLabel", "[I", true)
  | 14 => ("ConstrainedCoderModel", "savedEnd", "[I", true)
  | 15 => ("ConstrainedCoderModel", "savedWord", "[I", true)
  | 16 => ("ConstrainedCoderModel", "isSaved", "Z", false)
  | 17 => ("ConstrainedCoderModel", "text", "[I", true)
  | 18 => ("ConstrainedCoderModel", "textSize", "I", false)
  | 19 => ("ConstrainedCoderModel", "elements", "[I", true)
  | 20 => ("ConstrainedCoderModel", "lengths", "[I", true)
  | 21 => ("ConstrainedCoderModel", "on", "I", false)
  | 22 => ("ConstrainedCoderModel", "began", "I", false)
  | 23 => ("ConstrainedCoderModel", "here", "I", false)
  | 24 => ("ConstrainedCoderModel", "paths", "[J", true)
  | 25 => ("ConstrainedCoderModel", "oldStart", "[I", true)
  | 26 => ("ConstrainedCoderModel", "oldLabel", "[I", true)
  | 27 => ("ConstrainedCoderModel", "oldEnd", "[I", true)
  | 28 => ("ConstrainedCoderModel", "oldEdges", "I", false)
  | 29 => ("ConstrainedCoderModel", "oldBits", "I", false)
  | 30 => ("ConstrainedCoderModel", "ways", "[J", true)
  | 31 => ("ConstrainedCoderModel", "values", "[D", true)
  | 32 => ("ConstrainedCoderModel", "sums", "[D", true)
  | 33 => ("ConstrainedCoderModel", "x", "[I", true)
  | 34 => ("ConstrainedCoderModel", "anew", "[I", true)
  | 35 => ("ConstrainedCoderModel", "pairs", "[Z", true)
  | 36 => ("ConstrainedCoderModel", "further", "[Z", true)
  | _ => ("ConstrainedCoderModel", "ahead", "[I", true)
def tyX11 : Nat → FieldType := fun k => match k with
  | 0 => .int
  | 1 => .int
  | 2 => .int
  | 3 => .array .int
  | 4 => .array .int
  | 5 => .array .int
  | 6 => .array .int
  | 7 => .int
  | 8 => .int
  | 9 => .int
  | 10 => .int
  | 11 => .int
  | 12 => .array .int
  | 13 => .array .int
  | 14 => .array .int
  | 15 => .array .int
  | 16 => .boolean
  | 17 => .array .int
  | 18 => .int
  | 19 => .array .int
  | 20 => .array .int
  | 21 => .int
  | 22 => .int
  | 23 => .int
  | 24 => .array .long
  | 25 => .array .int
  | 26 => .array .int
  | 27 => .array .int
  | 28 => .int
  | 29 => .int
  | 30 => .array .long
  | 31 => .array .double
  | 32 => .array .double
  | 33 => .array .int
  | 34 => .array .int
  | 35 => .array .boolean
  | 36 => .array .boolean
  | _ => .array .int
abbrev wsX110 : List Cond := u_ws RX11 TX11 38
theorem nmX11 : ∀ a, a < 38 → ∀ b, b < 38 → a ≠ b → (TX11 a).2.1 ≠ (TX11 b).2.1 := by decide +kernel
theorem tyX11_ok : ∀ k, k < 38 → parseFieldDescriptor (TX11 k).2.2.1 = some (tyX11 k) := by decide +kernel
abbrev cX11_init : ByteArray := prog_13_method_1_code
def yX11_init : MethodName := ⟨RX11, "<init>", "()V"⟩
abbrev cX11_isIn : ByteArray := prog_13_method_2_code
def yX11_isIn : MethodName := ⟨RX11, "isIn", "(III)Z"⟩
abbrev cX11_isState : ByteArray := prog_13_method_3_code
def yX11_isState : MethodName := ⟨RX11, "isState", "(I)Z"⟩
abbrev cX11_isEdge : ByteArray := prog_13_method_4_code
def yX11_isEdge : MethodName := ⟨RX11, "isEdge", "(I)Z"⟩
abbrev cX11_lays : ByteArray := prog_13_method_5_code
def yX11_lays : MethodName := ⟨RX11, "lays", "(III)V"⟩
abbrev cX11_begins : ByteArray := prog_13_method_6_code
def yX11_begins : MethodName := ⟨RX11, "begins", "(II)I"⟩
abbrev cX11_loadRunLength : ByteArray := prog_13_method_7_code
def yX11_loadRunLength : MethodName := ⟨RX11, "loadRunLength", "(II)I"⟩
abbrev cX11_loadCharge : ByteArray := prog_13_method_8_code
def yX11_loadCharge : MethodName := ⟨RX11, "loadCharge", "(I)I"⟩
abbrev cX11_clear : ByteArray := prog_13_method_9_code
def yX11_clear : MethodName := ⟨RX11, "clear", "(I)I"⟩
abbrev cX11_addState : ByteArray := prog_13_method_10_code
def yX11_addState : MethodName := ⟨RX11, "addState", "()I"⟩
abbrev cX11_addEdge : ByteArray := prog_13_method_11_code
def yX11_addEdge : MethodName := ⟨RX11, "addEdge", "(III)I"⟩
abbrev cX11_removeEdge : ByteArray := prog_13_method_12_code
def yX11_removeEdge : MethodName := ⟨RX11, "removeEdge", "(I)I"⟩
abbrev cX11_stateCount : ByteArray := prog_13_method_13_code
def yX11_stateCount : MethodName := ⟨RX11, "stateCount", "()I"⟩
abbrev cX11_edgeCount : ByteArray := prog_13_method_14_code
def yX11_edgeCount : MethodName := ⟨RX11, "edgeCount", "()I"⟩
abbrev cX11_labelLength : ByteArray := prog_13_method_15_code
def yX11_labelLength : MethodName := ⟨RX11, "labelLength", "()I"⟩
abbrev cX11_edgeStart : ByteArray := prog_13_method_16_code
def yX11_edgeStart : MethodName := ⟨RX11, "edgeStart", "(I)I"⟩
abbrev cX11_edgeLabel : ByteArray := prog_13_method_17_code
def yX11_edgeLabel : MethodName := ⟨RX11, "edgeLabel", "(I)I"⟩
abbrev cX11_edgeEnd : ByteArray := prog_13_method_18_code
def yX11_edgeEnd : MethodName := ⟨RX11, "edgeEnd", "(I)I"⟩
abbrev cX11_power : ByteArray := prog_13_method_19_code
def yX11_power : MethodName := ⟨RX11, "power", "(I)I"⟩
abbrev cX11_walks : ByteArray := prog_13_method_20_code
def yX11_walks : MethodName := ⟨RX11, "walks", "(IIII)V"⟩
abbrev cX11_edgesOf : ByteArray := prog_13_method_21_code
def yX11_edgesOf : MethodName := ⟨RX11, "edgesOf", "(I)I"⟩
abbrev cX11_split : ByteArray := prog_13_method_22_code
def yX11_split : MethodName := ⟨RX11, "split", "(II)I"⟩
abbrev cX11_isDeterministicNow : ByteArray := prog_13_method_23_code
def yX11_isDeterministicNow : MethodName := ⟨RX11, "isDeterministicNow", "()Z"⟩
abbrev cX11_isDeterministic : ByteArray := prog_13_method_24_code
def yX11_isDeterministic : MethodName := ⟨RX11, "isDeterministic", "()I"⟩
abbrev cX11_isIrreducible : ByteArray := prog_13_method_25_code
def yX11_isIrreducible : MethodName := ⟨RX11, "isIrreducible", "()I"⟩
abbrev cX11_appendCharacter : ByteArray := prog_13_method_26_code
def yX11_appendCharacter : MethodName := ⟨RX11, "appendCharacter", "(I)I"⟩
abbrev cX11_goes : ByteArray := prog_13_method_27_code
def yX11_goes : MethodName := ⟨RX11, "goes", "(Ljava/lang/String;)I"⟩
abbrev cX11_parseConstraint : ByteArray := prog_13_method_28_code
def yX11_parseConstraint : MethodName := ⟨RX11, "parseConstraint", "()I"⟩
abbrev cX11_appendBit : ByteArray := prog_13_method_29_code
def yX11_appendBit : MethodName := ⟨RX11, "appendBit", "(I)I"⟩
abbrev cX11_clearWord : ByteArray := prog_13_method_30_code
def yX11_clearWord : MethodName := ⟨RX11, "clearWord", "()I"⟩
abbrev cX11_wordLength : ByteArray := prog_13_method_31_code
def yX11_wordLength : MethodName := ⟨RX11, "wordLength", "()I"⟩
abbrev cX11_wordBit : ByteArray := prog_13_method_32_code
def yX11_wordBit : MethodName := ⟨RX11, "wordBit", "(I)I"⟩
abbrev cX11_labelAt : ByteArray := prog_13_method_33_code
def yX11_labelAt : MethodName := ⟨RX11, "labelAt", "(I)I"⟩
abbrev cX11_after : ByteArray := prog_13_method_34_code
def yX11_after : MethodName := ⟨RX11, "after", "(II)I"⟩
abbrev cX11_firstViolation : ByteArray := prog_13_method_35_code
def yX11_firstViolation : MethodName := ⟨RX11, "firstViolation", "(I)I"⟩
abbrev cX11_ones : ByteArray := prog_13_method_36_code
def yX11_ones : MethodName := ⟨RX11, "ones", "()I"⟩
abbrev cX11_balance : ByteArray := prog_13_method_37_code
def yX11_balance : MethodName := ⟨RX11, "balance", "()I"⟩
abbrev cX11_invert : ByteArray := prog_13_method_38_code
def yX11_invert : MethodName := ⟨RX11, "invert", "(I)I"⟩
abbrev cX11_onesOf : ByteArray := prog_13_method_39_code
def yX11_onesOf : MethodName := ⟨RX11, "onesOf", "(I)I"⟩
abbrev cX11_at : ByteArray := prog_13_method_40_code
def yX11_at : MethodName := ⟨RX11, "at", "(III)I"⟩
abbrev cX11_counts : ByteArray := prog_13_method_41_code
def yX11_counts : MethodName := ⟨RX11, "counts", "(I)V"⟩
abbrev cX11_number : ByteArray := prog_13_method_42_code
def yX11_number : MethodName := ⟨RX11, "number", "(IIIZ)J"⟩
abbrev cX11_hinders : ByteArray := prog_13_method_43_code
def yX11_hinders : MethodName := ⟨RX11, "hinders", "(III)I"⟩
abbrev cX11_countWords : ByteArray := prog_13_method_44_code
def yX11_countWords : MethodName := ⟨RX11, "countWords", "(III)J"⟩
abbrev cX11_edgeBy : ByteArray := prog_13_method_45_code
def yX11_edgeBy : MethodName := ⟨RX11, "edgeBy", "(II)I"⟩
abbrev cX11_unrank : ByteArray := prog_13_method_46_code
def yX11_unrank : MethodName := ⟨RX11, "unrank", "(IIIJ)I"⟩
abbrev cX11_rank : ByteArray := prog_13_method_47_code
def yX11_rank : MethodName := ⟨RX11, "rank", "(II)J"⟩
abbrev cX11_growthRate : ByteArray := prog_13_method_48_code
def yX11_growthRate : MethodName := ⟨RX11, "growthRate", "(I)J"⟩
abbrev cX11_bound : ByteArray := prog_13_method_49_code
def yX11_bound : MethodName := ⟨RX11, "bound", "(I)I"⟩
abbrev cX11_eigenvectorElement : ByteArray := prog_13_method_50_code
def yX11_eigenvectorElement : MethodName := ⟨RX11, "eigenvectorElement", "(II)I"⟩
abbrev cX11_eigenvectorBound : ByteArray := prog_13_method_51_code
def yX11_eigenvectorBound : MethodName := ⟨RX11, "eigenvectorBound", "(I)I"⟩
abbrev cX11_isEncoderFor : ByteArray := prog_13_method_52_code
def yX11_isEncoderFor : MethodName := ⟨RX11, "isEncoderFor", "(I)Z"⟩
abbrev cX11_isEncoder : ByteArray := prog_13_method_53_code
def yX11_isEncoder : MethodName := ⟨RX11, "isEncoder", "(I)I"⟩
abbrev cX11_startEncoder : ByteArray := prog_13_method_54_code
def yX11_startEncoder : MethodName := ⟨RX11, "startEncoder", "(II)I"⟩
abbrev cX11_data : ByteArray := prog_13_method_55_code
def yX11_data : MethodName := ⟨RX11, "data", "(I)I"⟩
abbrev cX11_encode : ByteArray := prog_13_method_56_code
def yX11_encode : MethodName := ⟨RX11, "encode", "(I)I"⟩
abbrev cX11_encoderState : ByteArray := prog_13_method_57_code
def yX11_encoderState : MethodName := ⟨RX11, "encoderState", "()I"⟩
abbrev cX11_pairs : ByteArray := prog_13_method_58_code
def yX11_pairs : MethodName := ⟨RX11, "pairs", "(Z)Z"⟩
abbrev cX11_anticipation : ByteArray := prog_13_method_59_code
def yX11_anticipation : MethodName := ⟨RX11, "anticipation", "()I"⟩
abbrev cX11_decode : ByteArray := prog_13_method_60_code
def yX11_decode : MethodName := ⟨RX11, "decode", "(I)I"⟩
abbrev cX11_encoded : ByteArray := prog_13_method_61_code
def yX11_encoded : MethodName := ⟨RX11, "encoded", "(II)I"⟩
abbrev cX11_isSlot : ByteArray := prog_13_method_62_code
def yX11_isSlot : MethodName := ⟨RX11, "isSlot", "(I)Z"⟩
abbrev cX11_newArray : ByteArray := prog_13_method_63_code
def yX11_newArray : MethodName := ⟨RX11, "newArray", "(II)I"⟩
abbrev cX11_setElement : ByteArray := prog_13_method_64_code
def yX11_setElement : MethodName := ⟨RX11, "setElement", "(III)I"⟩
abbrev cX11_element : ByteArray := prog_13_method_65_code
def yX11_element : MethodName := ⟨RX11, "element", "(II)I"⟩
abbrev cX11_firstDifference : ByteArray := prog_13_method_66_code
def yX11_firstDifference : MethodName := ⟨RX11, "firstDifference", "(II)I"⟩
abbrev cX11_copies : ByteArray := prog_13_method_67_code
def yX11_copies : MethodName := ⟨RX11, "copies", "([I[I)V"⟩
abbrev cX11_saveSnapshot : ByteArray := prog_13_method_68_code
def yX11_saveSnapshot : MethodName := ⟨RX11, "saveSnapshot", "()I"⟩
abbrev cX11_restoreSnapshot : ByteArray := prog_13_method_69_code
def yX11_restoreSnapshot : MethodName := ⟨RX11, "restoreSnapshot", "()I"⟩
def RJx145de : String := "java/io/Serializable"
def TJx145de : u_T := fun k => match k with
  | _ => ("", "", "", false)
def tyJx145de : Nat → FieldType := fun k => match k with
  | _ => .int
abbrev wsJx145de0 : List Cond := u_ws RJx145de TJx145de 0
theorem nmJx145de : ∀ a, a < 0 → ∀ b, b < 0 → a ≠ b → (TJx145de a).2.1 ≠ (TJx145de b).2.1 := by decide +kernel
theorem tyJx145de_ok : ∀ k, k < 0 → parseFieldDescriptor (TJx145de k).2.2.1 = some (tyJx145de k) := by decide +kernel
def RJx9f9b0 : String := "java/lang/CharSequence"
def TJx9f9b0 : u_T := fun k => match k with
  | _ => ("", "", "", false)
def tyJx9f9b0 : Nat → FieldType := fun k => match k with
  | _ => .int
abbrev wsJx9f9b00 : List Cond := u_ws RJx9f9b0 TJx9f9b0 0
theorem nmJx9f9b0 : ∀ a, a < 0 → ∀ b, b < 0 → a ≠ b → (TJx9f9b0 a).2.1 ≠ (TJx9f9b0 b).2.1 := by decide +kernel
theorem tyJx9f9b0_ok : ∀ k, k < 0 → parseFieldDescriptor (TJx9f9b0 k).2.2.1 = some (tyJx9f9b0 k) := by decide +kernel
def RJxb160c : String := "java/lang/Comparable"
def TJxb160c : u_T := fun k => match k with
  | _ => ("", "", "", false)
def tyJxb160c : Nat → FieldType := fun k => match k with
  | _ => .int
abbrev wsJxb160c0 : List Cond := u_ws RJxb160c TJxb160c 0
theorem nmJxb160c : ∀ a, a < 0 → ∀ b, b < 0 → a ≠ b → (TJxb160c a).2.1 ≠ (TJxb160c b).2.1 := by decide +kernel
theorem tyJxb160c_ok : ∀ k, k < 0 → parseFieldDescriptor (TJxb160c k).2.2.1 = some (tyJxb160c k) := by decide +kernel
def RJxe99ae : String := "java/lang/Double"
def TJxe99ae : u_T := fun k => match k with
  | _ => ("", "", "", false)
def tyJxe99ae : Nat → FieldType := fun k => match k with
  | _ => .int
abbrev wsJxe99ae0 : List Cond := u_ws RJxe99ae TJxe99ae 0
theorem nmJxe99ae : ∀ a, a < 0 → ∀ b, b < 0 → a ≠ b → (TJxe99ae a).2.1 ≠ (TJxe99ae b).2.1 := by decide +kernel
theorem tyJxe99ae_ok : ∀ k, k < 0 → parseFieldDescriptor (TJxe99ae k).2.2.1 = some (tyJxe99ae k) := by decide +kernel
abbrev cJxe99ae_isNaN_b9ae7 : ByteArray := prog_14_method_6_code
def yJxe99ae_isNaN_b9ae7 : MethodName := ⟨RJxe99ae, "isNaN", "(D)Z"⟩
abbrev cJxe99ae_doubleToLongBits_ccdee : ByteArray := prog_14_method_23_code
def yJxe99ae_doubleToLongBits_ccdee : MethodName := ⟨RJxe99ae, "doubleToLongBits", "(D)J"⟩
def RJ6 : String := "java/lang/Integer"
def TJ6 : u_T := fun k => match k with
  | _ => ("", "", "", false)
def tyJ6 : Nat → FieldType := fun k => match k with
  | _ => .int
abbrev wsJ60 : List Cond := u_ws RJ6 TJ6 0
theorem nmJ6 : ∀ a, a < 0 → ∀ b, b < 0 → a ≠ b → (TJ6 a).2.1 ≠ (TJ6 b).2.1 := by decide +kernel
theorem tyJ6_ok : ∀ k, k < 0 → parseFieldDescriptor (TJ6 k).2.2.1 = some (tyJ6 k) := by decide +kernel
abbrev cJ6_bitCount_0f7a4 : ByteArray := prog_15_method_49_code
def yJ6_bitCount_0f7a4 : MethodName := ⟨RJ6, "bitCount", "(I)I"⟩
def RJ9 : String := "java/lang/Math"
def TJ9 : u_T := fun k => match k with
  | _ => ("", "", "", false)
def tyJ9 : Nat → FieldType := fun k => match k with
  | _ => .int
abbrev wsJ90 : List Cond := u_ws RJ9 TJ9 0
theorem nmJ9 : ∀ a, a < 0 → ∀ b, b < 0 → a ≠ b → (TJ9 a).2.1 ≠ (TJ9 b).2.1 := by decide +kernel
theorem tyJ9_ok : ∀ k, k < 0 → parseFieldDescriptor (TJ9 k).2.2.1 = some (tyJ9 k) := by decide +kernel
abbrev cJ9_max_7cf53 : ByteArray := prog_16_method_65_code
def yJ9_max_7cf53 : MethodName := ⟨RJ9, "max", "(II)I"⟩
abbrev cJ9_min_7cf53 : ByteArray := prog_16_method_69_code
def yJ9_min_7cf53 : MethodName := ⟨RJ9, "min", "(II)I"⟩
def RJxd2413 : String := "java/lang/Number"
def TJxd2413 : u_T := fun k => match k with
  | _ => ("", "", "", false)
def tyJxd2413 : Nat → FieldType := fun k => match k with
  | _ => .int
abbrev wsJxd24130 : List Cond := u_ws RJxd2413 TJxd2413 0
theorem nmJxd2413 : ∀ a, a < 0 → ∀ b, b < 0 → a ≠ b → (TJxd2413 a).2.1 ≠ (TJxd2413 b).2.1 := by decide +kernel
theorem tyJxd2413_ok : ∀ k, k < 0 → parseFieldDescriptor (TJxd2413 k).2.2.1 = some (tyJxd2413 k) := by decide +kernel
def RJ0 : String := "java/lang/String"
def TJ0 : u_T := fun k => match k with
  | _ => ("", "", "", false)
def tyJ0 : Nat → FieldType := fun k => match k with
  | _ => .int
abbrev wsJ00 : List Cond := u_ws RJ0 TJ0 0
theorem nmJ0 : ∀ a, a < 0 → ∀ b, b < 0 → a ≠ b → (TJ0 a).2.1 ≠ (TJ0 b).2.1 := by decide +kernel
theorem tyJ0_ok : ∀ k, k < 0 → parseFieldDescriptor (TJ0 k).2.2.1 = some (tyJ0 k) := by decide +kernel
abbrev cJ0_length_8abf5 : ByteArray := prog_18_method_54_code
def yJ0_length_8abf5 : MethodName := ⟨RJ0, "length", "()I"⟩
abbrev cJ0_charAt_5068e : ByteArray := prog_18_method_56_code
def yJ0_charAt_5068e : MethodName := ⟨RJ0, "charAt", "(I)C"⟩
abbrev cJ0_coder_7d493 : ByteArray := prog_18_method_152_code
def yJ0_coder_7d493 : MethodName := ⟨RJ0, "coder", "()B"⟩
abbrev cJ0_isLatin1_aae02 : ByteArray := prog_18_method_154_code
def yJ0_isLatin1_aae02 : MethodName := ⟨RJ0, "isLatin1", "()Z"⟩
abbrev cJ0_checkIndex_df160 : ByteArray := prog_18_method_155_code
def yJ0_checkIndex_df160 : MethodName := ⟨RJ0, "checkIndex", "(II)V"⟩
def RJ1 : String := "java/lang/StringLatin1"
def TJ1 : u_T := fun k => match k with
  | _ => ("", "", "", false)
def tyJ1 : Nat → FieldType := fun k => match k with
  | _ => .int
abbrev wsJ10 : List Cond := u_ws RJ1 TJ1 0
theorem nmJ1 : ∀ a, a < 0 → ∀ b, b < 0 → a ≠ b → (TJ1 a).2.1 ≠ (TJ1 b).2.1 := by decide +kernel
theorem tyJ1_ok : ∀ k, k < 0 → parseFieldDescriptor (TJ1 k).2.2.1 = some (tyJ1 k) := by decide +kernel
abbrev cJ1_charAt_3b067 : ByteArray := prog_19_method_2_code
def yJ1_charAt_3b067 : MethodName := ⟨RJ1, "charAt", "([BI)C"⟩
def RJ2 : String := "java/lang/StringUTF16"
def TJ2 : u_T := fun k => match k with
  | _ => ("", "", "", false)
def tyJ2 : Nat → FieldType := fun k => match k with
  | _ => .int
abbrev wsJ20 : List Cond := u_ws RJ2 TJ2 0
theorem nmJ2 : ∀ a, a < 0 → ∀ b, b < 0 → a ≠ b → (TJ2 a).2.1 ≠ (TJ2 b).2.1 := by decide +kernel
theorem tyJ2_ok : ∀ k, k < 0 → parseFieldDescriptor (TJ2 k).2.2.1 = some (tyJ2 k) := by decide +kernel
abbrev cJ2_getChar_3b067 : ByteArray := prog_20_method_5_code
def yJ2_getChar_3b067 : MethodName := ⟨RJ2, "getChar", "([BI)C"⟩
abbrev cJ2_length_9d52b : ByteArray := prog_20_method_6_code
def yJ2_length_9d52b : MethodName := ⟨RJ2, "length", "([B)I"⟩
abbrev cJ2_charAt_3b067 : ByteArray := prog_20_method_83_code
def yJ2_charAt_3b067 : MethodName := ⟨RJ2, "charAt", "([BI)C"⟩
abbrev cJ2_checkIndex_2214a : ByteArray := prog_20_method_91_code
def yJ2_checkIndex_2214a : MethodName := ⟨RJ2, "checkIndex", "(I[B)V"⟩
def RJ10 : String := "java/lang/System"
def TJ10 : u_T := fun k => match k with
  | _ => ("", "", "", false)
def tyJ10 : Nat → FieldType := fun k => match k with
  | _ => .int
abbrev wsJ100 : List Cond := u_ws RJ10 TJ10 0
theorem nmJ10 : ∀ a, a < 0 → ∀ b, b < 0 → a ≠ b → (TJ10 a).2.1 ≠ (TJ10 b).2.1 := by decide +kernel
theorem tyJ10_ok : ∀ k, k < 0 → parseFieldDescriptor (TJ10 k).2.2.1 = some (tyJ10 k) := by decide +kernel
def RJxfd54e : String := "java/lang/constant/Constable"
def TJxfd54e : u_T := fun k => match k with
  | _ => ("", "", "", false)
def tyJxfd54e : Nat → FieldType := fun k => match k with
  | _ => .int
abbrev wsJxfd54e0 : List Cond := u_ws RJxfd54e TJxfd54e 0
theorem nmJxfd54e : ∀ a, a < 0 → ∀ b, b < 0 → a ≠ b → (TJxfd54e a).2.1 ≠ (TJxfd54e b).2.1 := by decide +kernel
theorem tyJxfd54e_ok : ∀ k, k < 0 → parseFieldDescriptor (TJxfd54e k).2.2.1 = some (tyJxfd54e k) := by decide +kernel
def RJx3cf43 : String := "java/lang/constant/ConstantDesc"
def TJx3cf43 : u_T := fun k => match k with
  | _ => ("", "", "", false)
def tyJx3cf43 : Nat → FieldType := fun k => match k with
  | _ => .int
abbrev wsJx3cf430 : List Cond := u_ws RJx3cf43 TJx3cf43 0
theorem nmJx3cf43 : ∀ a, a < 0 → ∀ b, b < 0 → a ≠ b → (TJx3cf43 a).2.1 ≠ (TJx3cf43 b).2.1 := by decide +kernel
theorem tyJx3cf43_ok : ∀ k, k < 0 → parseFieldDescriptor (TJx3cf43 k).2.2.1 = some (tyJx3cf43 k) := by decide +kernel
def RJ7 : String := "java/util/Arrays"
def TJ7 : u_T := fun k => match k with
  | _ => ("", "", "", false)
def tyJ7 : Nat → FieldType := fun k => match k with
  | _ => .int
abbrev wsJ70 : List Cond := u_ws RJ7 TJ7 0
theorem nmJ7 : ∀ a, a < 0 → ∀ b, b < 0 → a ≠ b → (TJ7 a).2.1 ≠ (TJ7 b).2.1 := by decide +kernel
theorem tyJ7_ok : ∀ k, k < 0 → parseFieldDescriptor (TJ7 k).2.2.1 = some (tyJ7 k) := by decide +kernel
abbrev cJ7_fill_d0a16 : ByteArray := prog_22_method_101_code
def yJ7_fill_d0a16 : MethodName := ⟨RJ7, "fill", "([JJ)V"⟩
abbrev cJ7_fill_53178 : ByteArray := prog_22_method_103_code
def yJ7_fill_53178 : MethodName := ⟨RJ7, "fill", "([II)V"⟩
abbrev cJ7_fill_7f8df : ByteArray := prog_22_method_113_code
def yJ7_fill_7f8df : MethodName := ⟨RJ7, "fill", "([DD)V"⟩
def RJ3 : String := "jdk/internal/util/Preconditions"
def TJ3 : u_T := fun k => match k with
  | _ => ("", "", "", false)
def tyJ3 : Nat → FieldType := fun k => match k with
  | _ => .int
abbrev wsJ30 : List Cond := u_ws RJ3 TJ3 0
theorem nmJ3 : ∀ a, a < 0 → ∀ b, b < 0 → a ≠ b → (TJ3 a).2.1 ≠ (TJ3 b).2.1 := by decide +kernel
theorem tyJ3_ok : ∀ k, k < 0 → parseFieldDescriptor (TJ3 k).2.2.1 = some (tyJ3 k) := by decide +kernel
abbrev cJ3_checkIndex_8e157 : ByteArray := prog_23_method_11_code
def yJ3_checkIndex_8e157 : MethodName := ⟨RJ3, "checkIndex", "(IILjava/util/function/BiFunction;)I"⟩
def RL : String := "ConstrainedCoderLaw"
abbrev cL_law : ByteArray := code
def yL_law : MethodName := ⟨RL, "law", "([I)Z"⟩
abbrev vwCl : List vw_C := [(RX0, TX0, 2), (RX1, TX1, 2), (RX2, TX2, 3), (RX3, TX3, 7), (RX4, TX4, 7), (RX5, TX5, 2), (RX6, TX6, 9), (RX7, TX7, 3), (RX8, TX8, 2), (RX9, TX9, 2), (RX10, TX10, 13), (RX11, TX11, 38)]
