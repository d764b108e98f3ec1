section
-- ===== PART A: goes FIRST, ahead of the names: the tables' words, and 'selects' of the private methods out of them =====
/-- a private method of a class that the tables say can be made, by its rows of tables_1 -/
def lw_okq (q : MethodName × Nat) : Prop := (q.1.cls ≠ "java/lang/invoke/MethodHandle" ∧ q.1.cls ≠ "java/lang/invoke/VarHandle") ∧ Cond.instantiable q.1.cls q.2 ∈ tables_1 ∧ Cond.privateMethod q.1 ∈ tables_1 ∧ Cond.instanceMethod q.1 ∈ tables_1
theorem lw_p0 : lw_okq (⟨"IndexedCompiler", "treeFor", "(I)LIndexedCompiler$Tree;"⟩, 12) := ⟨⟨by decide +kernel, by decide +kernel⟩, List.mem_of_getElem? (i := 28) (by decide +kernel), List.mem_of_getElem? (i := 412) (by decide +kernel), List.mem_of_getElem? (i := 413) (by decide +kernel)⟩
theorem lw_p1 : lw_okq (⟨"IndexedCompiler$Line", "sign", "(I)C"⟩, 10) := ⟨⟨by decide +kernel, by decide +kernel⟩, List.mem_of_getElem? (i := 36) (by decide +kernel), List.mem_of_getElem? (i := 498) (by decide +kernel), List.mem_of_getElem? (i := 499) (by decide +kernel)⟩
theorem lw_p2 : lw_okq (⟨"IndexedCompiler$Line", "takeWord", "(I)I"⟩, 10) := ⟨⟨by decide +kernel, by decide +kernel⟩, List.mem_of_getElem? (i := 36) (by decide +kernel), List.mem_of_getElem? (i := 505) (by decide +kernel), List.mem_of_getElem? (i := 506) (by decide +kernel)⟩
theorem lw_p3 : lw_okq (⟨"IndexedCompiler$Line", "note", "(III)V"⟩, 10) := ⟨⟨by decide +kernel, by decide +kernel⟩, List.mem_of_getElem? (i := 36) (by decide +kernel), List.mem_of_getElem? (i := 514) (by decide +kernel), List.mem_of_getElem? (i := 515) (by decide +kernel)⟩
theorem lw_p4 : lw_okq (⟨"IndexedCompiler$Line", "takeNumber", "(I)I"⟩, 10) := ⟨⟨by decide +kernel, by decide +kernel⟩, List.mem_of_getElem? (i := 36) (by decide +kernel), List.mem_of_getElem? (i := 521) (by decide +kernel), List.mem_of_getElem? (i := 522) (by decide +kernel)⟩
theorem lw_p5 : lw_okq (⟨"IndexedCompiler$Line", "takeMark", "(I)I"⟩, 10) := ⟨⟨by decide +kernel, by decide +kernel⟩, List.mem_of_getElem? (i := 36) (by decide +kernel), List.mem_of_getElem? (i := 525) (by decide +kernel), List.mem_of_getElem? (i := 526) (by decide +kernel)⟩
theorem lw_p6 : lw_okq (⟨"IndexedCompiler$Reader", "takeWord", "(I)V"⟩, 3) := ⟨⟨by decide +kernel, by decide +kernel⟩, List.mem_of_getElem? (i := 79) (by decide +kernel), List.mem_of_getElem? (i := 616) (by decide +kernel), List.mem_of_getElem? (i := 617) (by decide +kernel)⟩
theorem lw_p7 : lw_okq (⟨"IndexedCompiler$Reader", "refuse", "()V"⟩, 3) := ⟨⟨by decide +kernel, by decide +kernel⟩, List.mem_of_getElem? (i := 79) (by decide +kernel), List.mem_of_getElem? (i := 624) (by decide +kernel), List.mem_of_getElem? (i := 625) (by decide +kernel)⟩
theorem lw_p8 : lw_okq (⟨"java/lang/Throwable", "fillInStackTrace", "(I)Ljava/lang/Throwable;"⟩, 6) := ⟨⟨by decide +kernel, by decide +kernel⟩, List.mem_of_getElem? (i := 664) (by decide +kernel), List.mem_of_getElem? (i := 662) (by decide +kernel), List.mem_of_getElem? (i := 663) (by decide +kernel)⟩
theorem lw_p9 : lw_okq (⟨"IndexedCompiler$Reader", "takeName", "()I"⟩, 3) := ⟨⟨by decide +kernel, by decide +kernel⟩, List.mem_of_getElem? (i := 79) (by decide +kernel), List.mem_of_getElem? (i := 695) (by decide +kernel), List.mem_of_getElem? (i := 696) (by decide +kernel)⟩
theorem lw_p10 : lw_okq (⟨"IndexedCompiler$Reader", "readIndexNames", "()V"⟩, 3) := ⟨⟨by decide +kernel, by decide +kernel⟩, List.mem_of_getElem? (i := 79) (by decide +kernel), List.mem_of_getElem? (i := 703) (by decide +kernel), List.mem_of_getElem? (i := 704) (by decide +kernel)⟩
theorem lw_p11 : lw_okq (⟨"IndexedCompiler$Reader", "takeMark", "(I)V"⟩, 3) := ⟨⟨by decide +kernel, by decide +kernel⟩, List.mem_of_getElem? (i := 79) (by decide +kernel), List.mem_of_getElem? (i := 707) (by decide +kernel), List.mem_of_getElem? (i := 708) (by decide +kernel)⟩
theorem lw_p12 : lw_okq (⟨"IndexedCompiler$Reader", "readNamed", "()I"⟩, 3) := ⟨⟨by decide +kernel, by decide +kernel⟩, List.mem_of_getElem? (i := 79) (by decide +kernel), List.mem_of_getElem? (i := 711) (by decide +kernel), List.mem_of_getElem? (i := 712) (by decide +kernel)⟩
theorem lw_p13 : lw_okq (⟨"IndexedCompiler$Reader", "follow", "(II)I"⟩, 3) := ⟨⟨by decide +kernel, by decide +kernel⟩, List.mem_of_getElem? (i := 79) (by decide +kernel), List.mem_of_getElem? (i := 724) (by decide +kernel), List.mem_of_getElem? (i := 725) (by decide +kernel)⟩
theorem lw_p14 : lw_okq (⟨"IndexedCompiler$Reader", "readProps", "()I"⟩, 3) := ⟨⟨by decide +kernel, by decide +kernel⟩, List.mem_of_getElem? (i := 79) (by decide +kernel), List.mem_of_getElem? (i := 728) (by decide +kernel), List.mem_of_getElem? (i := 729) (by decide +kernel)⟩
theorem lw_p15 : lw_okq (⟨"IndexedCompiler$Reader", "readIndex", "()I"⟩, 3) := ⟨⟨by decide +kernel, by decide +kernel⟩, List.mem_of_getElem? (i := 79) (by decide +kernel), List.mem_of_getElem? (i := 732) (by decide +kernel), List.mem_of_getElem? (i := 733) (by decide +kernel)⟩
def lw_privs_1 : List (MethodName × Nat) := [(⟨"IndexedCompiler", "treeFor", "(I)LIndexedCompiler$Tree;"⟩, 12), (⟨"IndexedCompiler$Line", "sign", "(I)C"⟩, 10), (⟨"IndexedCompiler$Line", "takeWord", "(I)I"⟩, 10), (⟨"IndexedCompiler$Line", "note", "(III)V"⟩, 10), (⟨"IndexedCompiler$Line", "takeNumber", "(I)I"⟩, 10), (⟨"IndexedCompiler$Line", "takeMark", "(I)I"⟩, 10), (⟨"IndexedCompiler$Reader", "takeWord", "(I)V"⟩, 3), (⟨"IndexedCompiler$Reader", "refuse", "()V"⟩, 3), (⟨"java/lang/Throwable", "fillInStackTrace", "(I)Ljava/lang/Throwable;"⟩, 6), (⟨"IndexedCompiler$Reader", "takeName", "()I"⟩, 3), (⟨"IndexedCompiler$Reader", "readIndexNames", "()V"⟩, 3), (⟨"IndexedCompiler$Reader", "takeMark", "(I)V"⟩, 3), (⟨"IndexedCompiler$Reader", "readNamed", "()I"⟩, 3), (⟨"IndexedCompiler$Reader", "follow", "(II)I"⟩, 3), (⟨"IndexedCompiler$Reader", "readProps", "()I"⟩, 3), (⟨"IndexedCompiler$Reader", "readIndex", "()I"⟩, 3)]
theorem lw_r1 : ∀ q ∈ lw_privs_1, lw_okq q := List.forall_mem_cons.mpr ⟨lw_p0, List.forall_mem_cons.mpr ⟨lw_p1, List.forall_mem_cons.mpr ⟨lw_p2, List.forall_mem_cons.mpr ⟨lw_p3, List.forall_mem_cons.mpr ⟨lw_p4, List.forall_mem_cons.mpr ⟨lw_p5, List.forall_mem_cons.mpr ⟨lw_p6, List.forall_mem_cons.mpr ⟨lw_p7, List.forall_mem_cons.mpr ⟨lw_p8, List.forall_mem_cons.mpr ⟨lw_p9, List.forall_mem_cons.mpr ⟨lw_p10, List.forall_mem_cons.mpr ⟨lw_p11, List.forall_mem_cons.mpr ⟨lw_p12, List.forall_mem_cons.mpr ⟨lw_p13, List.forall_mem_cons.mpr ⟨lw_p14, List.forall_mem_cons.mpr ⟨lw_p15, fun _ h => absurd h List.not_mem_nil⟩⟩⟩⟩⟩⟩⟩⟩⟩⟩⟩⟩⟩⟩⟩⟩
theorem lw_p16 : lw_okq (⟨"IndexedCompiler$Reader", "isAdding", "()Z"⟩, 3) := ⟨⟨by decide +kernel, by decide +kernel⟩, List.mem_of_getElem? (i := 79) (by decide +kernel), List.mem_of_getElem? (i := 736) (by decide +kernel), List.mem_of_getElem? (i := 737) (by decide +kernel)⟩
theorem lw_p17 : lw_okq (⟨"IndexedCompiler$Reader", "takeRelation", "()I"⟩, 3) := ⟨⟨by decide +kernel, by decide +kernel⟩, List.mem_of_getElem? (i := 79) (by decide +kernel), List.mem_of_getElem? (i := 740) (by decide +kernel), List.mem_of_getElem? (i := 741) (by decide +kernel)⟩
theorem lw_p18 : lw_okq (⟨"IndexedCompiler$Reader", "readParameters", "()V"⟩, 3) := ⟨⟨by decide +kernel, by decide +kernel⟩, List.mem_of_getElem? (i := 79) (by decide +kernel), List.mem_of_getElem? (i := 748) (by decide +kernel), List.mem_of_getElem? (i := 749) (by decide +kernel)⟩
theorem lw_p19 : lw_okq (⟨"IndexedCompiler$Reader", "readType", "()I"⟩, 3) := ⟨⟨by decide +kernel, by decide +kernel⟩, List.mem_of_getElem? (i := 79) (by decide +kernel), List.mem_of_getElem? (i := 752) (by decide +kernel), List.mem_of_getElem? (i := 753) (by decide +kernel)⟩
theorem lw_p20 : lw_okq (⟨"IndexedCompiler$Reader", "readSteps", "(I)I"⟩, 3) := ⟨⟨by decide +kernel, by decide +kernel⟩, List.mem_of_getElem? (i := 79) (by decide +kernel), List.mem_of_getElem? (i := 756) (by decide +kernel), List.mem_of_getElem? (i := 757) (by decide +kernel)⟩
theorem lw_p21 : lw_okq (⟨"IndexedCompiler$Reader", "readStep", "(I)I"⟩, 3) := ⟨⟨by decide +kernel, by decide +kernel⟩, List.mem_of_getElem? (i := 79) (by decide +kernel), List.mem_of_getElem? (i := 760) (by decide +kernel), List.mem_of_getElem? (i := 761) (by decide +kernel)⟩
theorem lw_p22 : lw_okq (⟨"IndexedCompiler$Reader", "refuseDeeper", "(I)V"⟩, 3) := ⟨⟨by decide +kernel, by decide +kernel⟩, List.mem_of_getElem? (i := 79) (by decide +kernel), List.mem_of_getElem? (i := 764) (by decide +kernel), List.mem_of_getElem? (i := 765) (by decide +kernel)⟩
theorem lw_p23 : lw_okq (⟨"IndexedCompiler$Reader", "readLet", "(I)I"⟩, 3) := ⟨⟨by decide +kernel, by decide +kernel⟩, List.mem_of_getElem? (i := 79) (by decide +kernel), List.mem_of_getElem? (i := 768) (by decide +kernel), List.mem_of_getElem? (i := 769) (by decide +kernel)⟩
theorem lw_p24 : lw_okq (⟨"IndexedCompiler$Reader", "readChoice", "(I)I"⟩, 3) := ⟨⟨by decide +kernel, by decide +kernel⟩, List.mem_of_getElem? (i := 79) (by decide +kernel), List.mem_of_getElem? (i := 772) (by decide +kernel), List.mem_of_getElem? (i := 773) (by decide +kernel)⟩
theorem lw_p25 : lw_okq (⟨"IndexedCompiler$Reader", "readSum", "(I)I"⟩, 3) := ⟨⟨by decide +kernel, by decide +kernel⟩, List.mem_of_getElem? (i := 79) (by decide +kernel), List.mem_of_getElem? (i := 776) (by decide +kernel), List.mem_of_getElem? (i := 777) (by decide +kernel)⟩
theorem lw_p26 : lw_okq (⟨"IndexedCompiler$Reader", "readProduct", "(I)I"⟩, 3) := ⟨⟨by decide +kernel, by decide +kernel⟩, List.mem_of_getElem? (i := 79) (by decide +kernel), List.mem_of_getElem? (i := 780) (by decide +kernel), List.mem_of_getElem? (i := 781) (by decide +kernel)⟩
theorem lw_p27 : lw_okq (⟨"IndexedCompiler$Reader", "readPart", "(I)I"⟩, 3) := ⟨⟨by decide +kernel, by decide +kernel⟩, List.mem_of_getElem? (i := 79) (by decide +kernel), List.mem_of_getElem? (i := 784) (by decide +kernel), List.mem_of_getElem? (i := 785) (by decide +kernel)⟩
theorem lw_p28 : lw_okq (⟨"IndexedCompiler$Reader", "readAmount", "()I"⟩, 3) := ⟨⟨by decide +kernel, by decide +kernel⟩, List.mem_of_getElem? (i := 79) (by decide +kernel), List.mem_of_getElem? (i := 788) (by decide +kernel), List.mem_of_getElem? (i := 789) (by decide +kernel)⟩
theorem lw_p29 : lw_okq (⟨"IndexedCompiler$Reader", "readParen", "(I)I"⟩, 3) := ⟨⟨by decide +kernel, by decide +kernel⟩, List.mem_of_getElem? (i := 79) (by decide +kernel), List.mem_of_getElem? (i := 792) (by decide +kernel), List.mem_of_getElem? (i := 793) (by decide +kernel)⟩
theorem lw_p30 : lw_okq (⟨"IndexedCompiler$Reader", "readNameOrMore", "(I)I"⟩, 3) := ⟨⟨by decide +kernel, by decide +kernel⟩, List.mem_of_getElem? (i := 79) (by decide +kernel), List.mem_of_getElem? (i := 796) (by decide +kernel), List.mem_of_getElem? (i := 797) (by decide +kernel)⟩
theorem lw_p31 : lw_okq (⟨"IndexedCompiler$Reader", "readCall", "(II)V"⟩, 3) := ⟨⟨by decide +kernel, by decide +kernel⟩, List.mem_of_getElem? (i := 79) (by decide +kernel), List.mem_of_getElem? (i := 800) (by decide +kernel), List.mem_of_getElem? (i := 801) (by decide +kernel)⟩
def lw_privs_2 : List (MethodName × Nat) := [(⟨"IndexedCompiler$Reader", "isAdding", "()Z"⟩, 3), (⟨"IndexedCompiler$Reader", "takeRelation", "()I"⟩, 3), (⟨"IndexedCompiler$Reader", "readParameters", "()V"⟩, 3), (⟨"IndexedCompiler$Reader", "readType", "()I"⟩, 3), (⟨"IndexedCompiler$Reader", "readSteps", "(I)I"⟩, 3), (⟨"IndexedCompiler$Reader", "readStep", "(I)I"⟩, 3), (⟨"IndexedCompiler$Reader", "refuseDeeper", "(I)V"⟩, 3), (⟨"IndexedCompiler$Reader", "readLet", "(I)I"⟩, 3), (⟨"IndexedCompiler$Reader", "readChoice", "(I)I"⟩, 3), (⟨"IndexedCompiler$Reader", "readSum", "(I)I"⟩, 3), (⟨"IndexedCompiler$Reader", "readProduct", "(I)I"⟩, 3), (⟨"IndexedCompiler$Reader", "readPart", "(I)I"⟩, 3), (⟨"IndexedCompiler$Reader", "readAmount", "()I"⟩, 3), (⟨"IndexedCompiler$Reader", "readParen", "(I)I"⟩, 3), (⟨"IndexedCompiler$Reader", "readNameOrMore", "(I)I"⟩, 3), (⟨"IndexedCompiler$Reader", "readCall", "(II)V"⟩, 3)]
theorem lw_r2 : ∀ q ∈ lw_privs_2, lw_okq q := List.forall_mem_cons.mpr ⟨lw_p16, List.forall_mem_cons.mpr ⟨lw_p17, List.forall_mem_cons.mpr ⟨lw_p18, List.forall_mem_cons.mpr ⟨lw_p19, List.forall_mem_cons.mpr ⟨lw_p20, List.forall_mem_cons.mpr ⟨lw_p21, List.forall_mem_cons.mpr ⟨lw_p22, List.forall_mem_cons.mpr ⟨lw_p23, List.forall_mem_cons.mpr ⟨lw_p24, List.forall_mem_cons.mpr ⟨lw_p25, List.forall_mem_cons.mpr ⟨lw_p26, List.forall_mem_cons.mpr ⟨lw_p27, List.forall_mem_cons.mpr ⟨lw_p28, List.forall_mem_cons.mpr ⟨lw_p29, List.forall_mem_cons.mpr ⟨lw_p30, List.forall_mem_cons.mpr ⟨lw_p31, fun _ h => absurd h List.not_mem_nil⟩⟩⟩⟩⟩⟩⟩⟩⟩⟩⟩⟩⟩⟩⟩⟩
theorem lw_p32 : lw_okq (⟨"IndexedCompiler$Reader", "readIndexOfCall", "()I"⟩, 3) := ⟨⟨by decide +kernel, by decide +kernel⟩, List.mem_of_getElem? (i := 79) (by decide +kernel), List.mem_of_getElem? (i := 804) (by decide +kernel), List.mem_of_getElem? (i := 805) (by decide +kernel)⟩
theorem lw_p33 : lw_okq (⟨"IndexedCompiler$Reader", "isMultiplying", "()Z"⟩, 3) := ⟨⟨by decide +kernel, by decide +kernel⟩, List.mem_of_getElem? (i := 79) (by decide +kernel), List.mem_of_getElem? (i := 808) (by decide +kernel), List.mem_of_getElem? (i := 809) (by decide +kernel)⟩
theorem lw_p34 : lw_okq (⟨"IndexedCompiler$Reader", "readDivisor", "()I"⟩, 3) := ⟨⟨by decide +kernel, by decide +kernel⟩, List.mem_of_getElem? (i := 79) (by decide +kernel), List.mem_of_getElem? (i := 816) (by decide +kernel), List.mem_of_getElem? (i := 817) (by decide +kernel)⟩
theorem lw_p35 : lw_okq (⟨"IndexedCompiler", "sameNameAt", "(LIndexedCompiler$Tree;)I"⟩, 12) := ⟨⟨by decide +kernel, by decide +kernel⟩, List.mem_of_getElem? (i := 28) (by decide +kernel), List.mem_of_getElem? (i := 822) (by decide +kernel), List.mem_of_getElem? (i := 823) (by decide +kernel)⟩
theorem lw_p36 : lw_okq (⟨"IndexedCompiler$Tree", "bears", "(III)Z"⟩, 11) := ⟨⟨by decide +kernel, by decide +kernel⟩, List.mem_of_getElem? (i := 419) (by decide +kernel), List.mem_of_getElem? (i := 831) (by decide +kernel), List.mem_of_getElem? (i := 832) (by decide +kernel)⟩
theorem lw_p37 : lw_okq (⟨"IndexedCompiler$Checker", "startFunction", "()V"⟩, 15) := ⟨⟨by decide +kernel, by decide +kernel⟩, List.mem_of_getElem? (i := 98) (by decide +kernel), List.mem_of_getElem? (i := 858) (by decide +kernel), List.mem_of_getElem? (i := 859) (by decide +kernel)⟩
theorem lw_p38 : lw_okq (⟨"IndexedCompiler$Checker", "takeShape", "()LIndexedCompiler$Shape;"⟩, 15) := ⟨⟨by decide +kernel, by decide +kernel⟩, List.mem_of_getElem? (i := 98) (by decide +kernel), List.mem_of_getElem? (i := 868) (by decide +kernel), List.mem_of_getElem? (i := 869) (by decide +kernel)⟩
theorem lw_p39 : lw_okq (⟨"IndexedCompiler$Checker", "readHeader", "(LIndexedCompiler$Shape;)V"⟩, 15) := ⟨⟨by decide +kernel, by decide +kernel⟩, List.mem_of_getElem? (i := 98) (by decide +kernel), List.mem_of_getElem? (i := 907) (by decide +kernel), List.mem_of_getElem? (i := 908) (by decide +kernel)⟩
theorem lw_p40 : lw_okq (⟨"IndexedCompiler$Checker", "take", "()LIndexedCompiler$Expression;"⟩, 15) := ⟨⟨by decide +kernel, by decide +kernel⟩, List.mem_of_getElem? (i := 98) (by decide +kernel), List.mem_of_getElem? (i := 911) (by decide +kernel), List.mem_of_getElem? (i := 912) (by decide +kernel)⟩
theorem lw_p41 : lw_okq (⟨"IndexedCompiler$Checker", "bind", "(ILIndexedCompiler$Expression;)V"⟩, 15) := ⟨⟨by decide +kernel, by decide +kernel⟩, List.mem_of_getElem? (i := 98) (by decide +kernel), List.mem_of_getElem? (i := 933) (by decide +kernel), List.mem_of_getElem? (i := 934) (by decide +kernel)⟩
theorem lw_p42 : lw_okq (⟨"IndexedCompiler$Checker", "readProps", "(LIndexedCompiler$Tree;IILIndexedCompiler$Shape;)V"⟩, 15) := ⟨⟨by decide +kernel, by decide +kernel⟩, List.mem_of_getElem? (i := 98) (by decide +kernel), List.mem_of_getElem? (i := 938) (by decide +kernel), List.mem_of_getElem? (i := 939) (by decide +kernel)⟩
theorem lw_p43 : lw_okq (⟨"IndexedCompiler$Checker", "readIndex", "(LIndexedCompiler$Tree;IILIndexedCompiler$Expression;)V"⟩, 15) := ⟨⟨by decide +kernel, by decide +kernel⟩, List.mem_of_getElem? (i := 98) (by decide +kernel), List.mem_of_getElem? (i := 946) (by decide +kernel), List.mem_of_getElem? (i := 947) (by decide +kernel)⟩
theorem lw_p44 : lw_okq (⟨"IndexedCompiler$Checker", "find", "(I)I"⟩, 15) := ⟨⟨by decide +kernel, by decide +kernel⟩, List.mem_of_getElem? (i := 98) (by decide +kernel), List.mem_of_getElem? (i := 951) (by decide +kernel), List.mem_of_getElem? (i := 952) (by decide +kernel)⟩
theorem lw_p45 : lw_okq (⟨"IndexedCompiler$Checker", "pend", "(LIndexedCompiler$Shape;LIndexedCompiler$Expression;)V"⟩, 15) := ⟨⟨by decide +kernel, by decide +kernel⟩, List.mem_of_getElem? (i := 98) (by decide +kernel), List.mem_of_getElem? (i := 965) (by decide +kernel), List.mem_of_getElem? (i := 966) (by decide +kernel)⟩
theorem lw_p46 : lw_okq (⟨"IndexedCompiler$Checker", "readShape", "(LIndexedCompiler$Tree;IILIndexedCompiler$Shape;)V"⟩, 15) := ⟨⟨by decide +kernel, by decide +kernel⟩, List.mem_of_getElem? (i := 98) (by decide +kernel), List.mem_of_getElem? (i := 1000) (by decide +kernel), List.mem_of_getElem? (i := 1001) (by decide +kernel)⟩
theorem lw_p47 : lw_okq (⟨"IndexedCompiler$Checker", "give", "(LIndexedCompiler$Shape;LIndexedCompiler$Expression;I)V"⟩, 15) := ⟨⟨by decide +kernel, by decide +kernel⟩, List.mem_of_getElem? (i := 98) (by decide +kernel), List.mem_of_getElem? (i := 1008) (by decide +kernel), List.mem_of_getElem? (i := 1009) (by decide +kernel)⟩
def lw_privs_3 : List (MethodName × Nat) := [(⟨"IndexedCompiler$Reader", "readIndexOfCall", "()I"⟩, 3), (⟨"IndexedCompiler$Reader", "isMultiplying", "()Z"⟩, 3), (⟨"IndexedCompiler$Reader", "readDivisor", "()I"⟩, 3), (⟨"IndexedCompiler", "sameNameAt", "(LIndexedCompiler$Tree;)I"⟩, 12), (⟨"IndexedCompiler$Tree", "bears", "(III)Z"⟩, 11), (⟨"IndexedCompiler$Checker", "startFunction", "()V"⟩, 15), (⟨"IndexedCompiler$Checker", "takeShape", "()LIndexedCompiler$Shape;"⟩, 15), (⟨"IndexedCompiler$Checker", "readHeader", "(LIndexedCompiler$Shape;)V"⟩, 15), (⟨"IndexedCompiler$Checker", "take", "()LIndexedCompiler$Expression;"⟩, 15), (⟨"IndexedCompiler$Checker", "bind", "(ILIndexedCompiler$Expression;)V"⟩, 15), (⟨"IndexedCompiler$Checker", "readProps", "(LIndexedCompiler$Tree;IILIndexedCompiler$Shape;)V"⟩, 15), (⟨"IndexedCompiler$Checker", "readIndex", "(LIndexedCompiler$Tree;IILIndexedCompiler$Expression;)V"⟩, 15), (⟨"IndexedCompiler$Checker", "find", "(I)I"⟩, 15), (⟨"IndexedCompiler$Checker", "pend", "(LIndexedCompiler$Shape;LIndexedCompiler$Expression;)V"⟩, 15), (⟨"IndexedCompiler$Checker", "readShape", "(LIndexedCompiler$Tree;IILIndexedCompiler$Shape;)V"⟩, 15), (⟨"IndexedCompiler$Checker", "give", "(LIndexedCompiler$Shape;LIndexedCompiler$Expression;I)V"⟩, 15)]
theorem lw_r3 : ∀ q ∈ lw_privs_3, lw_okq q := List.forall_mem_cons.mpr ⟨lw_p32, List.forall_mem_cons.mpr ⟨lw_p33, List.forall_mem_cons.mpr ⟨lw_p34, List.forall_mem_cons.mpr ⟨lw_p35, List.forall_mem_cons.mpr ⟨lw_p36, List.forall_mem_cons.mpr ⟨lw_p37, List.forall_mem_cons.mpr ⟨lw_p38, List.forall_mem_cons.mpr ⟨lw_p39, List.forall_mem_cons.mpr ⟨lw_p40, List.forall_mem_cons.mpr ⟨lw_p41, List.forall_mem_cons.mpr ⟨lw_p42, List.forall_mem_cons.mpr ⟨lw_p43, List.forall_mem_cons.mpr ⟨lw_p44, List.forall_mem_cons.mpr ⟨lw_p45, List.forall_mem_cons.mpr ⟨lw_p46, List.forall_mem_cons.mpr ⟨lw_p47, fun _ h => absurd h List.not_mem_nil⟩⟩⟩⟩⟩⟩⟩⟩⟩⟩⟩⟩⟩⟩⟩⟩
theorem lw_p48 : lw_okq (⟨"IndexedCompiler$Checker", "lookAt", "(ILIndexedCompiler$Shape;)V"⟩, 15) := ⟨⟨by decide +kernel, by decide +kernel⟩, List.mem_of_getElem? (i := 98) (by decide +kernel), List.mem_of_getElem? (i := 1017) (by decide +kernel), List.mem_of_getElem? (i := 1018) (by decide +kernel)⟩
theorem lw_p49 : lw_okq (⟨"IndexedCompiler$Checker", "workOutAllButLast", "(I)I"⟩, 15) := ⟨⟨by decide +kernel, by decide +kernel⟩, List.mem_of_getElem? (i := 98) (by decide +kernel), List.mem_of_getElem? (i := 1021) (by decide +kernel), List.mem_of_getElem? (i := 1022) (by decide +kernel)⟩
theorem lw_p50 : lw_okq (⟨"IndexedCompiler$Checker", "workOut", "(ILIndexedCompiler$Expression;)V"⟩, 15) := ⟨⟨by decide +kernel, by decide +kernel⟩, List.mem_of_getElem? (i := 98) (by decide +kernel), List.mem_of_getElem? (i := 1025) (by decide +kernel), List.mem_of_getElem? (i := 1026) (by decide +kernel)⟩
theorem lw_p51 : lw_okq (⟨"IndexedCompiler$Checker", "meaningOf", "(I)LIndexedCompiler$Expression;"⟩, 15) := ⟨⟨by decide +kernel, by decide +kernel⟩, List.mem_of_getElem? (i := 98) (by decide +kernel), List.mem_of_getElem? (i := 1029) (by decide +kernel), List.mem_of_getElem? (i := 1030) (by decide +kernel)⟩
theorem lw_p52 : lw_okq (⟨"IndexedCompiler$Checker", "rowOf", "(I)LIndexedCompiler$Expression;"⟩, 15) := ⟨⟨by decide +kernel, by decide +kernel⟩, List.mem_of_getElem? (i := 98) (by decide +kernel), List.mem_of_getElem? (i := 1034) (by decide +kernel), List.mem_of_getElem? (i := 1035) (by decide +kernel)⟩
theorem lw_p53 : lw_okq (⟨"IndexedCompiler$Checker", "workOutAccess", "(ILIndexedCompiler$Expression;)V"⟩, 15) := ⟨⟨by decide +kernel, by decide +kernel⟩, List.mem_of_getElem? (i := 98) (by decide +kernel), List.mem_of_getElem? (i := 1038) (by decide +kernel), List.mem_of_getElem? (i := 1039) (by decide +kernel)⟩
theorem lw_p54 : lw_okq (⟨"IndexedCompiler$Checker", "workOutNumber", "(ILIndexedCompiler$Expression;)V"⟩, 15) := ⟨⟨by decide +kernel, by decide +kernel⟩, List.mem_of_getElem? (i := 98) (by decide +kernel), List.mem_of_getElem? (i := 1042) (by decide +kernel), List.mem_of_getElem? (i := 1043) (by decide +kernel)⟩
theorem lw_p55 : lw_okq (⟨"IndexedCompiler$Solver", "keepWork", "()V"⟩, 7) := ⟨⟨by decide +kernel, by decide +kernel⟩, List.mem_of_getElem? (i := 110) (by decide +kernel), List.mem_of_getElem? (i := 1061) (by decide +kernel), List.mem_of_getElem? (i := 1062) (by decide +kernel)⟩
theorem lw_p56 : lw_okq (⟨"IndexedCompiler$Solver", "takeAway", "(I)V"⟩, 7) := ⟨⟨by decide +kernel, by decide +kernel⟩, List.mem_of_getElem? (i := 110) (by decide +kernel), List.mem_of_getElem? (i := 1076) (by decide +kernel), List.mem_of_getElem? (i := 1077) (by decide +kernel)⟩
theorem lw_p57 : lw_okq (⟨"IndexedCompiler$Checker", "workOutCall", "(ILIndexedCompiler$Expression;)V"⟩, 15) := ⟨⟨by decide +kernel, by decide +kernel⟩, List.mem_of_getElem? (i := 98) (by decide +kernel), List.mem_of_getElem? (i := 1081) (by decide +kernel), List.mem_of_getElem? (i := 1082) (by decide +kernel)⟩
theorem lw_p58 : lw_okq (⟨"IndexedCompiler$Checker", "functionNamed", "(I)I"⟩, 15) := ⟨⟨by decide +kernel, by decide +kernel⟩, List.mem_of_getElem? (i := 98) (by decide +kernel), List.mem_of_getElem? (i := 1085) (by decide +kernel), List.mem_of_getElem? (i := 1086) (by decide +kernel)⟩
theorem lw_p59 : lw_okq (⟨"IndexedCompiler$Checker", "demandCall", "(LIndexedCompiler$Tree;IILIndexedCompiler$Expression;)V"⟩, 15) := ⟨⟨by decide +kernel, by decide +kernel⟩, List.mem_of_getElem? (i := 98) (by decide +kernel), List.mem_of_getElem? (i := 1096) (by decide +kernel), List.mem_of_getElem? (i := 1097) (by decide +kernel)⟩
theorem lw_p60 : lw_okq (⟨"IndexedCompiler$Checker", "pooled", "(I)LIndexedCompiler$Expression;"⟩, 15) := ⟨⟨by decide +kernel, by decide +kernel⟩, List.mem_of_getElem? (i := 98) (by decide +kernel), List.mem_of_getElem? (i := 1100) (by decide +kernel), List.mem_of_getElem? (i := 1101) (by decide +kernel)⟩
theorem lw_p61 : lw_okq (⟨"IndexedCompiler$Checker", "workOutTyped", "(ILIndexedCompiler$Expression;)V"⟩, 15) := ⟨⟨by decide +kernel, by decide +kernel⟩, List.mem_of_getElem? (i := 98) (by decide +kernel), List.mem_of_getElem? (i := 1104) (by decide +kernel), List.mem_of_getElem? (i := 1105) (by decide +kernel)⟩
theorem lw_p62 : lw_okq (⟨"IndexedCompiler$Checker", "workOutChain", "(ILIndexedCompiler$Expression;)V"⟩, 15) := ⟨⟨by decide +kernel, by decide +kernel⟩, List.mem_of_getElem? (i := 98) (by decide +kernel), List.mem_of_getElem? (i := 1108) (by decide +kernel), List.mem_of_getElem? (i := 1109) (by decide +kernel)⟩
theorem lw_p63 : lw_okq (⟨"IndexedCompiler$Checker", "workOutSum", "(ILIndexedCompiler$Expression;)V"⟩, 15) := ⟨⟨by decide +kernel, by decide +kernel⟩, List.mem_of_getElem? (i := 98) (by decide +kernel), List.mem_of_getElem? (i := 1112) (by decide +kernel), List.mem_of_getElem? (i := 1113) (by decide +kernel)⟩
def lw_privs_4 : List (MethodName × Nat) := [(⟨"IndexedCompiler$Checker", "lookAt", "(ILIndexedCompiler$Shape;)V"⟩, 15), (⟨"IndexedCompiler$Checker", "workOutAllButLast", "(I)I"⟩, 15), (⟨"IndexedCompiler$Checker", "workOut", "(ILIndexedCompiler$Expression;)V"⟩, 15), (⟨"IndexedCompiler$Checker", "meaningOf", "(I)LIndexedCompiler$Expression;"⟩, 15), (⟨"IndexedCompiler$Checker", "rowOf", "(I)LIndexedCompiler$Expression;"⟩, 15), (⟨"IndexedCompiler$Checker", "workOutAccess", "(ILIndexedCompiler$Expression;)V"⟩, 15), (⟨"IndexedCompiler$Checker", "workOutNumber", "(ILIndexedCompiler$Expression;)V"⟩, 15), (⟨"IndexedCompiler$Solver", "keepWork", "()V"⟩, 7), (⟨"IndexedCompiler$Solver", "takeAway", "(I)V"⟩, 7), (⟨"IndexedCompiler$Checker", "workOutCall", "(ILIndexedCompiler$Expression;)V"⟩, 15), (⟨"IndexedCompiler$Checker", "functionNamed", "(I)I"⟩, 15), (⟨"IndexedCompiler$Checker", "demandCall", "(LIndexedCompiler$Tree;IILIndexedCompiler$Expression;)V"⟩, 15), (⟨"IndexedCompiler$Checker", "pooled", "(I)LIndexedCompiler$Expression;"⟩, 15), (⟨"IndexedCompiler$Checker", "workOutTyped", "(ILIndexedCompiler$Expression;)V"⟩, 15), (⟨"IndexedCompiler$Checker", "workOutChain", "(ILIndexedCompiler$Expression;)V"⟩, 15), (⟨"IndexedCompiler$Checker", "workOutSum", "(ILIndexedCompiler$Expression;)V"⟩, 15)]
theorem lw_r4 : ∀ q ∈ lw_privs_4, lw_okq q := List.forall_mem_cons.mpr ⟨lw_p48, List.forall_mem_cons.mpr ⟨lw_p49, List.forall_mem_cons.mpr ⟨lw_p50, List.forall_mem_cons.mpr ⟨lw_p51, List.forall_mem_cons.mpr ⟨lw_p52, List.forall_mem_cons.mpr ⟨lw_p53, List.forall_mem_cons.mpr ⟨lw_p54, List.forall_mem_cons.mpr ⟨lw_p55, List.forall_mem_cons.mpr ⟨lw_p56, List.forall_mem_cons.mpr ⟨lw_p57, List.forall_mem_cons.mpr ⟨lw_p58, List.forall_mem_cons.mpr ⟨lw_p59, List.forall_mem_cons.mpr ⟨lw_p60, List.forall_mem_cons.mpr ⟨lw_p61, List.forall_mem_cons.mpr ⟨lw_p62, List.forall_mem_cons.mpr ⟨lw_p63, fun _ h => absurd h List.not_mem_nil⟩⟩⟩⟩⟩⟩⟩⟩⟩⟩⟩⟩⟩⟩⟩⟩
theorem lw_p64 : lw_okq (⟨"IndexedCompiler$Checker", "keepSmall", "(LIndexedCompiler$Expression;I)V"⟩, 15) := ⟨⟨by decide +kernel, by decide +kernel⟩, List.mem_of_getElem? (i := 98) (by decide +kernel), List.mem_of_getElem? (i := 1116) (by decide +kernel), List.mem_of_getElem? (i := 1117) (by decide +kernel)⟩
theorem lw_p65 : lw_okq (⟨"IndexedCompiler$Checker", "workOutProduct", "(ILIndexedCompiler$Expression;)V"⟩, 15) := ⟨⟨by decide +kernel, by decide +kernel⟩, List.mem_of_getElem? (i := 98) (by decide +kernel), List.mem_of_getElem? (i := 1120) (by decide +kernel), List.mem_of_getElem? (i := 1121) (by decide +kernel)⟩
theorem lw_p66 : lw_okq (⟨"IndexedCompiler$Checker", "divide", "(IILIndexedCompiler$Expression;)V"⟩, 15) := ⟨⟨by decide +kernel, by decide +kernel⟩, List.mem_of_getElem? (i := 98) (by decide +kernel), List.mem_of_getElem? (i := 1124) (by decide +kernel), List.mem_of_getElem? (i := 1125) (by decide +kernel)⟩
theorem lw_p67 : lw_okq (⟨"IndexedCompiler$Checker", "multiply", "(ILIndexedCompiler$Expression;LIndexedCompiler$Expression;)V"⟩, 15) := ⟨⟨by decide +kernel, by decide +kernel⟩, List.mem_of_getElem? (i := 98) (by decide +kernel), List.mem_of_getElem? (i := 1128) (by decide +kernel), List.mem_of_getElem? (i := 1129) (by decide +kernel)⟩
theorem lw_p68 : lw_okq (⟨"IndexedCompiler$Checker", "openLet", "(I)I"⟩, 15) := ⟨⟨by decide +kernel, by decide +kernel⟩, List.mem_of_getElem? (i := 98) (by decide +kernel), List.mem_of_getElem? (i := 1140) (by decide +kernel), List.mem_of_getElem? (i := 1141) (by decide +kernel)⟩
theorem lw_p69 : lw_okq (⟨"IndexedCompiler$Checker", "closeLet", "()V"⟩, 15) := ⟨⟨by decide +kernel, by decide +kernel⟩, List.mem_of_getElem? (i := 98) (by decide +kernel), List.mem_of_getElem? (i := 1144) (by decide +kernel), List.mem_of_getElem? (i := 1145) (by decide +kernel)⟩
theorem lw_p70 : lw_okq (⟨"IndexedCompiler$Checker", "workOutChoice", "(ILIndexedCompiler$Expression;)V"⟩, 15) := ⟨⟨by decide +kernel, by decide +kernel⟩, List.mem_of_getElem? (i := 98) (by decide +kernel), List.mem_of_getElem? (i := 1148) (by decide +kernel), List.mem_of_getElem? (i := 1149) (by decide +kernel)⟩
theorem lw_p71 : lw_okq (⟨"IndexedCompiler$Checker", "compare", "(ILIndexedCompiler$Expression;)I"⟩, 15) := ⟨⟨by decide +kernel, by decide +kernel⟩, List.mem_of_getElem? (i := 98) (by decide +kernel), List.mem_of_getElem? (i := 1152) (by decide +kernel), List.mem_of_getElem? (i := 1153) (by decide +kernel)⟩
theorem lw_p72 : lw_okq (⟨"IndexedCompiler$Checker", "tellContrary", "(ILIndexedCompiler$Expression;)V"⟩, 15) := ⟨⟨by decide +kernel, by decide +kernel⟩, List.mem_of_getElem? (i := 98) (by decide +kernel), List.mem_of_getElem? (i := 1156) (by decide +kernel), List.mem_of_getElem? (i := 1157) (by decide +kernel)⟩
theorem lw_p73 : lw_okq (⟨"IndexedCompiler$Checker", "lookAtChoice", "(ILIndexedCompiler$Shape;)V"⟩, 15) := ⟨⟨by decide +kernel, by decide +kernel⟩, List.mem_of_getElem? (i := 98) (by decide +kernel), List.mem_of_getElem? (i := 1167) (by decide +kernel), List.mem_of_getElem? (i := 1168) (by decide +kernel)⟩
theorem lw_p74 : lw_okq (⟨"IndexedCompiler$Checker", "lookAtPlain", "(ILIndexedCompiler$Shape;)V"⟩, 15) := ⟨⟨by decide +kernel, by decide +kernel⟩, List.mem_of_getElem? (i := 98) (by decide +kernel), List.mem_of_getElem? (i := 1171) (by decide +kernel), List.mem_of_getElem? (i := 1172) (by decide +kernel)⟩
theorem lw_p75 : lw_okq (⟨"IndexedCompiler$Coder", "emitSteps", "(I)V"⟩, 7) := ⟨⟨by decide +kernel, by decide +kernel⟩, List.mem_of_getElem? (i := 262) (by decide +kernel), List.mem_of_getElem? (i := 1183) (by decide +kernel), List.mem_of_getElem? (i := 1184) (by decide +kernel)⟩
theorem lw_p76 : lw_okq (⟨"IndexedCompiler$Coder", "emit", "(II)V"⟩, 7) := ⟨⟨by decide +kernel, by decide +kernel⟩, List.mem_of_getElem? (i := 262) (by decide +kernel), List.mem_of_getElem? (i := 1188) (by decide +kernel), List.mem_of_getElem? (i := 1189) (by decide +kernel)⟩
theorem lw_p77 : lw_okq (⟨"IndexedCompiler$Coder", "emitChoice", "(II)V"⟩, 7) := ⟨⟨by decide +kernel, by decide +kernel⟩, List.mem_of_getElem? (i := 262) (by decide +kernel), List.mem_of_getElem? (i := 1193) (by decide +kernel), List.mem_of_getElem? (i := 1194) (by decide +kernel)⟩
theorem lw_p78 : lw_okq (⟨"IndexedCompiler$Coder", "aim", "(I)V"⟩, 7) := ⟨⟨by decide +kernel, by decide +kernel⟩, List.mem_of_getElem? (i := 262) (by decide +kernel), List.mem_of_getElem? (i := 1197) (by decide +kernel), List.mem_of_getElem? (i := 1198) (by decide +kernel)⟩
theorem lw_p79 : lw_okq (⟨"IndexedCompiler$Coder", "emitChain", "(II)V"⟩, 7) := ⟨⟨by decide +kernel, by decide +kernel⟩, List.mem_of_getElem? (i := 262) (by decide +kernel), List.mem_of_getElem? (i := 1201) (by decide +kernel), List.mem_of_getElem? (i := 1202) (by decide +kernel)⟩
def lw_privs_5 : List (MethodName × Nat) := [(⟨"IndexedCompiler$Checker", "keepSmall", "(LIndexedCompiler$Expression;I)V"⟩, 15), (⟨"IndexedCompiler$Checker", "workOutProduct", "(ILIndexedCompiler$Expression;)V"⟩, 15), (⟨"IndexedCompiler$Checker", "divide", "(IILIndexedCompiler$Expression;)V"⟩, 15), (⟨"IndexedCompiler$Checker", "multiply", "(ILIndexedCompiler$Expression;LIndexedCompiler$Expression;)V"⟩, 15), (⟨"IndexedCompiler$Checker", "openLet", "(I)I"⟩, 15), (⟨"IndexedCompiler$Checker", "closeLet", "()V"⟩, 15), (⟨"IndexedCompiler$Checker", "workOutChoice", "(ILIndexedCompiler$Expression;)V"⟩, 15), (⟨"IndexedCompiler$Checker", "compare", "(ILIndexedCompiler$Expression;)I"⟩, 15), (⟨"IndexedCompiler$Checker", "tellContrary", "(ILIndexedCompiler$Expression;)V"⟩, 15), (⟨"IndexedCompiler$Checker", "lookAtChoice", "(ILIndexedCompiler$Shape;)V"⟩, 15), (⟨"IndexedCompiler$Checker", "lookAtPlain", "(ILIndexedCompiler$Shape;)V"⟩, 15), (⟨"IndexedCompiler$Coder", "emitSteps", "(I)V"⟩, 7), (⟨"IndexedCompiler$Coder", "emit", "(II)V"⟩, 7), (⟨"IndexedCompiler$Coder", "emitChoice", "(II)V"⟩, 7), (⟨"IndexedCompiler$Coder", "aim", "(I)V"⟩, 7), (⟨"IndexedCompiler$Coder", "emitChain", "(II)V"⟩, 7)]
theorem lw_r5 : ∀ q ∈ lw_privs_5, lw_okq q := List.forall_mem_cons.mpr ⟨lw_p64, List.forall_mem_cons.mpr ⟨lw_p65, List.forall_mem_cons.mpr ⟨lw_p66, List.forall_mem_cons.mpr ⟨lw_p67, List.forall_mem_cons.mpr ⟨lw_p68, List.forall_mem_cons.mpr ⟨lw_p69, List.forall_mem_cons.mpr ⟨lw_p70, List.forall_mem_cons.mpr ⟨lw_p71, List.forall_mem_cons.mpr ⟨lw_p72, List.forall_mem_cons.mpr ⟨lw_p73, List.forall_mem_cons.mpr ⟨lw_p74, List.forall_mem_cons.mpr ⟨lw_p75, List.forall_mem_cons.mpr ⟨lw_p76, List.forall_mem_cons.mpr ⟨lw_p77, List.forall_mem_cons.mpr ⟨lw_p78, List.forall_mem_cons.mpr ⟨lw_p79, fun _ h => absurd h List.not_mem_nil⟩⟩⟩⟩⟩⟩⟩⟩⟩⟩⟩⟩⟩⟩⟩⟩
theorem lw_p80 : lw_okq (⟨"IndexedCompiler$Coder", "emitOperands", "(II)V"⟩, 7) := ⟨⟨by decide +kernel, by decide +kernel⟩, List.mem_of_getElem? (i := 262) (by decide +kernel), List.mem_of_getElem? (i := 1205) (by decide +kernel), List.mem_of_getElem? (i := 1206) (by decide +kernel)⟩
theorem lw_p81 : lw_okq (⟨"IndexedCompiler$Machine", "lengthOf", "(I)I"⟩, 14) := ⟨⟨by decide +kernel, by decide +kernel⟩, List.mem_of_getElem? (i := 314) (by decide +kernel), List.mem_of_getElem? (i := 1221) (by decide +kernel), List.mem_of_getElem? (i := 1222) (by decide +kernel)⟩
theorem lw_p82 : lw_okq (⟨"IndexedCompiler$Machine", "cell", "(I)I"⟩, 14) := ⟨⟨by decide +kernel, by decide +kernel⟩, List.mem_of_getElem? (i := 314) (by decide +kernel), List.mem_of_getElem? (i := 1225) (by decide +kernel), List.mem_of_getElem? (i := 1226) (by decide +kernel)⟩
theorem lw_p83 : lw_okq (⟨"IndexedCompiler", "canRun", "(I)Z"⟩, 12) := ⟨⟨by decide +kernel, by decide +kernel⟩, List.mem_of_getElem? (i := 28) (by decide +kernel), List.mem_of_getElem? (i := 1307) (by decide +kernel), List.mem_of_getElem? (i := 1308) (by decide +kernel)⟩
theorem lw_p84 : lw_okq (⟨"IndexedCompiler$Slots", "holdAll", "(LIndexedCompiler$Tree;III)Z"⟩, 4) := ⟨⟨by decide +kernel, by decide +kernel⟩, List.mem_of_getElem? (i := 295) (by decide +kernel), List.mem_of_getElem? (i := 1412) (by decide +kernel), List.mem_of_getElem? (i := 1413) (by decide +kernel)⟩
theorem lw_p85 : lw_okq (⟨"IndexedCompiler$Slots", "indexValue", "(LIndexedCompiler$Tree;III)J"⟩, 4) := ⟨⟨by decide +kernel, by decide +kernel⟩, List.mem_of_getElem? (i := 295) (by decide +kernel), List.mem_of_getElem? (i := 1416) (by decide +kernel), List.mem_of_getElem? (i := 1417) (by decide +kernel)⟩
theorem lw_p86 : lw_okq (⟨"IndexedCompiler$Slots", "named", "(LIndexedCompiler$Tree;I)I"⟩, 4) := ⟨⟨by decide +kernel, by decide +kernel⟩, List.mem_of_getElem? (i := 295) (by decide +kernel), List.mem_of_getElem? (i := 1420) (by decide +kernel), List.mem_of_getElem? (i := 1421) (by decide +kernel)⟩
theorem lw_p87 : lw_okq (⟨"IndexedCompiler$Slots", "isOf", "(LIndexedCompiler$Tree;II)Z"⟩, 4) := ⟨⟨by decide +kernel, by decide +kernel⟩, List.mem_of_getElem? (i := 295) (by decide +kernel), List.mem_of_getElem? (i := 1428) (by decide +kernel), List.mem_of_getElem? (i := 1429) (by decide +kernel)⟩
theorem lw_p88 : lw_okq (⟨"IndexedCompiler$Machine", "start", "(I)V"⟩, 14) := ⟨⟨by decide +kernel, by decide +kernel⟩, List.mem_of_getElem? (i := 314) (by decide +kernel), List.mem_of_getElem? (i := 1436) (by decide +kernel), List.mem_of_getElem? (i := 1437) (by decide +kernel)⟩
theorem lw_p89 : lw_okq (⟨"IndexedCompiler$Machine", "loadSlots", "(LIndexedCompiler$Slots;)V"⟩, 14) := ⟨⟨by decide +kernel, by decide +kernel⟩, List.mem_of_getElem? (i := 314) (by decide +kernel), List.mem_of_getElem? (i := 1443) (by decide +kernel), List.mem_of_getElem? (i := 1444) (by decide +kernel)⟩
theorem lw_p90 : lw_okq (⟨"IndexedCompiler$Machine", "parametersOf", "(I)I"⟩, 14) := ⟨⟨by decide +kernel, by decide +kernel⟩, List.mem_of_getElem? (i := 314) (by decide +kernel), List.mem_of_getElem? (i := 1447) (by decide +kernel), List.mem_of_getElem? (i := 1448) (by decide +kernel)⟩
theorem lw_p91 : lw_okq (⟨"IndexedCompiler$Machine", "takeRow", "(I)I"⟩, 14) := ⟨⟨by decide +kernel, by decide +kernel⟩, List.mem_of_getElem? (i := 314) (by decide +kernel), List.mem_of_getElem? (i := 1454) (by decide +kernel), List.mem_of_getElem? (i := 1455) (by decide +kernel)⟩
theorem lw_p92 : lw_okq (⟨"IndexedCompiler$Machine", "changeCell", "(II)V"⟩, 14) := ⟨⟨by decide +kernel, by decide +kernel⟩, List.mem_of_getElem? (i := 314) (by decide +kernel), List.mem_of_getElem? (i := 1459) (by decide +kernel), List.mem_of_getElem? (i := 1460) (by decide +kernel)⟩
theorem lw_p93 : lw_okq (⟨"IndexedCompiler$Machine", "step", "()I"⟩, 14) := ⟨⟨by decide +kernel, by decide +kernel⟩, List.mem_of_getElem? (i := 314) (by decide +kernel), List.mem_of_getElem? (i := 1463) (by decide +kernel), List.mem_of_getElem? (i := 1464) (by decide +kernel)⟩
theorem lw_p94 : lw_okq (⟨"IndexedCompiler$Machine", "push", "(I)I"⟩, 14) := ⟨⟨by decide +kernel, by decide +kernel⟩, List.mem_of_getElem? (i := 314) (by decide +kernel), List.mem_of_getElem? (i := 1468) (by decide +kernel), List.mem_of_getElem? (i := 1469) (by decide +kernel)⟩
theorem lw_p95 : lw_okq (⟨"IndexedCompiler$Machine", "localPlace", "(I)I"⟩, 14) := ⟨⟨by decide +kernel, by decide +kernel⟩, List.mem_of_getElem? (i := 314) (by decide +kernel), List.mem_of_getElem? (i := 1472) (by decide +kernel), List.mem_of_getElem? (i := 1473) (by decide +kernel)⟩
def lw_privs_6 : List (MethodName × Nat) := [(⟨"IndexedCompiler$Coder", "emitOperands", "(II)V"⟩, 7), (⟨"IndexedCompiler$Machine", "lengthOf", "(I)I"⟩, 14), (⟨"IndexedCompiler$Machine", "cell", "(I)I"⟩, 14), (⟨"IndexedCompiler", "canRun", "(I)Z"⟩, 12), (⟨"IndexedCompiler$Slots", "holdAll", "(LIndexedCompiler$Tree;III)Z"⟩, 4), (⟨"IndexedCompiler$Slots", "indexValue", "(LIndexedCompiler$Tree;III)J"⟩, 4), (⟨"IndexedCompiler$Slots", "named", "(LIndexedCompiler$Tree;I)I"⟩, 4), (⟨"IndexedCompiler$Slots", "isOf", "(LIndexedCompiler$Tree;II)Z"⟩, 4), (⟨"IndexedCompiler$Machine", "start", "(I)V"⟩, 14), (⟨"IndexedCompiler$Machine", "loadSlots", "(LIndexedCompiler$Slots;)V"⟩, 14), (⟨"IndexedCompiler$Machine", "parametersOf", "(I)I"⟩, 14), (⟨"IndexedCompiler$Machine", "takeRow", "(I)I"⟩, 14), (⟨"IndexedCompiler$Machine", "changeCell", "(II)V"⟩, 14), (⟨"IndexedCompiler$Machine", "step", "()I"⟩, 14), (⟨"IndexedCompiler$Machine", "push", "(I)I"⟩, 14), (⟨"IndexedCompiler$Machine", "localPlace", "(I)I"⟩, 14)]
theorem lw_r6 : ∀ q ∈ lw_privs_6, lw_okq q := List.forall_mem_cons.mpr ⟨lw_p80, List.forall_mem_cons.mpr ⟨lw_p81, List.forall_mem_cons.mpr ⟨lw_p82, List.forall_mem_cons.mpr ⟨lw_p83, List.forall_mem_cons.mpr ⟨lw_p84, List.forall_mem_cons.mpr ⟨lw_p85, List.forall_mem_cons.mpr ⟨lw_p86, List.forall_mem_cons.mpr ⟨lw_p87, List.forall_mem_cons.mpr ⟨lw_p88, List.forall_mem_cons.mpr ⟨lw_p89, List.forall_mem_cons.mpr ⟨lw_p90, List.forall_mem_cons.mpr ⟨lw_p91, List.forall_mem_cons.mpr ⟨lw_p92, List.forall_mem_cons.mpr ⟨lw_p93, List.forall_mem_cons.mpr ⟨lw_p94, List.forall_mem_cons.mpr ⟨lw_p95, fun _ h => absurd h List.not_mem_nil⟩⟩⟩⟩⟩⟩⟩⟩⟩⟩⟩⟩⟩⟩⟩⟩
theorem lw_p96 : lw_okq (⟨"IndexedCompiler$Machine", "pop", "()I"⟩, 14) := ⟨⟨by decide +kernel, by decide +kernel⟩, List.mem_of_getElem? (i := 314) (by decide +kernel), List.mem_of_getElem? (i := 1476) (by decide +kernel), List.mem_of_getElem? (i := 1477) (by decide +kernel)⟩
theorem lw_p97 : lw_okq (⟨"IndexedCompiler$Machine", "calculate", "(I)I"⟩, 14) := ⟨⟨by decide +kernel, by decide +kernel⟩, List.mem_of_getElem? (i := 314) (by decide +kernel), List.mem_of_getElem? (i := 1480) (by decide +kernel), List.mem_of_getElem? (i := 1481) (by decide +kernel)⟩
theorem lw_p98 : lw_okq (⟨"IndexedCompiler$Machine", "open", "(I)I"⟩, 14) := ⟨⟨by decide +kernel, by decide +kernel⟩, List.mem_of_getElem? (i := 314) (by decide +kernel), List.mem_of_getElem? (i := 1489) (by decide +kernel), List.mem_of_getElem? (i := 1490) (by decide +kernel)⟩
theorem lw_p99 : lw_okq (⟨"IndexedCompiler$Machine", "close", "()I"⟩, 14) := ⟨⟨by decide +kernel, by decide +kernel⟩, List.mem_of_getElem? (i := 314) (by decide +kernel), List.mem_of_getElem? (i := 1494) (by decide +kernel), List.mem_of_getElem? (i := 1495) (by decide +kernel)⟩
theorem lw_p100 : lw_okq (⟨"IndexedCompiler$Machine", "jumpUnless", "(II)I"⟩, 14) := ⟨⟨by decide +kernel, by decide +kernel⟩, List.mem_of_getElem? (i := 314) (by decide +kernel), List.mem_of_getElem? (i := 1498) (by decide +kernel), List.mem_of_getElem? (i := 1499) (by decide +kernel)⟩
theorem lw_p101 : lw_okq (⟨"IndexedCompiler$Machine", "stepOnRow", "(I)I"⟩, 14) := ⟨⟨by decide +kernel, by decide +kernel⟩, List.mem_of_getElem? (i := 314) (by decide +kernel), List.mem_of_getElem? (i := 1503) (by decide +kernel), List.mem_of_getElem? (i := 1504) (by decide +kernel)⟩
theorem lw_p102 : lw_okq (⟨"IndexedCompiler$Machine", "makeRow", "(I)I"⟩, 14) := ⟨⟨by decide +kernel, by decide +kernel⟩, List.mem_of_getElem? (i := 314) (by decide +kernel), List.mem_of_getElem? (i := 1507) (by decide +kernel), List.mem_of_getElem? (i := 1508) (by decide +kernel)⟩
theorem lw_p103 : lw_okq (⟨"IndexedCompiler$Machine", "printTop", "()I"⟩, 14) := ⟨⟨by decide +kernel, by decide +kernel⟩, List.mem_of_getElem? (i := 314) (by decide +kernel), List.mem_of_getElem? (i := 1511) (by decide +kernel), List.mem_of_getElem? (i := 1512) (by decide +kernel)⟩
theorem lw_p104 : lw_okq (⟨"IndexedCompiler$Machine", "access", "(II)I"⟩, 14) := ⟨⟨by decide +kernel, by decide +kernel⟩, List.mem_of_getElem? (i := 314) (by decide +kernel), List.mem_of_getElem? (i := 1515) (by decide +kernel), List.mem_of_getElem? (i := 1516) (by decide +kernel)⟩
theorem lw_p105 : lw_okq (⟨"IndexedCompiler$Machine", "takeAnswer", "(I)V"⟩, 14) := ⟨⟨by decide +kernel, by decide +kernel⟩, List.mem_of_getElem? (i := 314) (by decide +kernel), List.mem_of_getElem? (i := 1519) (by decide +kernel), List.mem_of_getElem? (i := 1520) (by decide +kernel)⟩
theorem lw_p106 : lw_okq (⟨"IndexedCompiler$Machine", "saveSlots", "(LIndexedCompiler$Slots;I)V"⟩, 14) := ⟨⟨by decide +kernel, by decide +kernel⟩, List.mem_of_getElem? (i := 314) (by decide +kernel), List.mem_of_getElem? (i := 1523) (by decide +kernel), List.mem_of_getElem? (i := 1524) (by decide +kernel)⟩
theorem lw_p107 : lw_okq (⟨"IndexedCompilerModel", "put", "(II)V"⟩, 145) := ⟨⟨by decide +kernel, by decide +kernel⟩, List.mem_of_getElem? (i := 1572) (by decide +kernel), List.mem_of_getElem? (i := 2022) (by decide +kernel), List.mem_of_getElem? (i := 2023) (by decide +kernel)⟩
theorem lw_p108 : lw_okq (⟨"IndexedCompilerModel", "refused", "(I)Z"⟩, 145) := ⟨⟨by decide +kernel, by decide +kernel⟩, List.mem_of_getElem? (i := 1572) (by decide +kernel), List.mem_of_getElem? (i := 2026) (by decide +kernel), List.mem_of_getElem? (i := 2027) (by decide +kernel)⟩
theorem lw_p109 : lw_okq (⟨"IndexedCompilerModel", "readFunction", "(I)Z"⟩, 145) := ⟨⟨by decide +kernel, by decide +kernel⟩, List.mem_of_getElem? (i := 1572) (by decide +kernel), List.mem_of_getElem? (i := 2038) (by decide +kernel), List.mem_of_getElem? (i := 2039) (by decide +kernel)⟩
theorem lw_p110 : lw_okq (⟨"IndexedCompilerModel", "tokens", "()V"⟩, 145) := ⟨⟨by decide +kernel, by decide +kernel⟩, List.mem_of_getElem? (i := 1572) (by decide +kernel), List.mem_of_getElem? (i := 2042) (by decide +kernel), List.mem_of_getElem? (i := 2043) (by decide +kernel)⟩
theorem lw_p111 : lw_okq (⟨"IndexedCompilerModel", "at", "(I)C"⟩, 145) := ⟨⟨by decide +kernel, by decide +kernel⟩, List.mem_of_getElem? (i := 1572) (by decide +kernel), List.mem_of_getElem? (i := 2049) (by decide +kernel), List.mem_of_getElem? (i := 2050) (by decide +kernel)⟩
def lw_privs_7 : List (MethodName × Nat) := [(⟨"IndexedCompiler$Machine", "pop", "()I"⟩, 14), (⟨"IndexedCompiler$Machine", "calculate", "(I)I"⟩, 14), (⟨"IndexedCompiler$Machine", "open", "(I)I"⟩, 14), (⟨"IndexedCompiler$Machine", "close", "()I"⟩, 14), (⟨"IndexedCompiler$Machine", "jumpUnless", "(II)I"⟩, 14), (⟨"IndexedCompiler$Machine", "stepOnRow", "(I)I"⟩, 14), (⟨"IndexedCompiler$Machine", "makeRow", "(I)I"⟩, 14), (⟨"IndexedCompiler$Machine", "printTop", "()I"⟩, 14), (⟨"IndexedCompiler$Machine", "access", "(II)I"⟩, 14), (⟨"IndexedCompiler$Machine", "takeAnswer", "(I)V"⟩, 14), (⟨"IndexedCompiler$Machine", "saveSlots", "(LIndexedCompiler$Slots;I)V"⟩, 14), (⟨"IndexedCompilerModel", "put", "(II)V"⟩, 145), (⟨"IndexedCompilerModel", "refused", "(I)Z"⟩, 145), (⟨"IndexedCompilerModel", "readFunction", "(I)Z"⟩, 145), (⟨"IndexedCompilerModel", "tokens", "()V"⟩, 145), (⟨"IndexedCompilerModel", "at", "(I)C"⟩, 145)]
theorem lw_r7 : ∀ q ∈ lw_privs_7, lw_okq q := List.forall_mem_cons.mpr ⟨lw_p96, List.forall_mem_cons.mpr ⟨lw_p97, List.forall_mem_cons.mpr ⟨lw_p98, List.forall_mem_cons.mpr ⟨lw_p99, List.forall_mem_cons.mpr ⟨lw_p100, List.forall_mem_cons.mpr ⟨lw_p101, List.forall_mem_cons.mpr ⟨lw_p102, List.forall_mem_cons.mpr ⟨lw_p103, List.forall_mem_cons.mpr ⟨lw_p104, List.forall_mem_cons.mpr ⟨lw_p105, List.forall_mem_cons.mpr ⟨lw_p106, List.forall_mem_cons.mpr ⟨lw_p107, List.forall_mem_cons.mpr ⟨lw_p108, List.forall_mem_cons.mpr ⟨lw_p109, List.forall_mem_cons.mpr ⟨lw_p110, List.forall_mem_cons.mpr ⟨lw_p111, fun _ h => absurd h List.not_mem_nil⟩⟩⟩⟩⟩⟩⟩⟩⟩⟩⟩⟩⟩⟩⟩⟩
theorem lw_p112 : lw_okq (⟨"IndexedCompilerModel", "wantWord", "(I)V"⟩, 145) := ⟨⟨by decide +kernel, by decide +kernel⟩, List.mem_of_getElem? (i := 1572) (by decide +kernel), List.mem_of_getElem? (i := 2059) (by decide +kernel), List.mem_of_getElem? (i := 2060) (by decide +kernel)⟩
theorem lw_p113 : lw_okq (⟨"IndexedCompilerModel", "isWordHere", "(I)Z"⟩, 145) := ⟨⟨by decide +kernel, by decide +kernel⟩, List.mem_of_getElem? (i := 1572) (by decide +kernel), List.mem_of_getElem? (i := 2063) (by decide +kernel), List.mem_of_getElem? (i := 2064) (by decide +kernel)⟩
theorem lw_p114 : lw_okq (⟨"IndexedCompilerModel", "wrong", "()V"⟩, 145) := ⟨⟨by decide +kernel, by decide +kernel⟩, List.mem_of_getElem? (i := 1572) (by decide +kernel), List.mem_of_getElem? (i := 2067) (by decide +kernel), List.mem_of_getElem? (i := 2068) (by decide +kernel)⟩
theorem lw_p115 : lw_okq (⟨"IndexedCompilerModel", "wantName", "()I"⟩, 145) := ⟨⟨by decide +kernel, by decide +kernel⟩, List.mem_of_getElem? (i := 1572) (by decide +kernel), List.mem_of_getElem? (i := 2071) (by decide +kernel), List.mem_of_getElem? (i := 2072) (by decide +kernel)⟩
theorem lw_p116 : lw_okq (⟨"IndexedCompilerModel", "isNameHere", "()Z"⟩, 145) := ⟨⟨by decide +kernel, by decide +kernel⟩, List.mem_of_getElem? (i := 1572) (by decide +kernel), List.mem_of_getElem? (i := 2075) (by decide +kernel), List.mem_of_getElem? (i := 2076) (by decide +kernel)⟩
theorem lw_p117 : lw_okq (⟨"IndexedCompilerModel", "isMarkHere", "(I)Z"⟩, 145) := ⟨⟨by decide +kernel, by decide +kernel⟩, List.mem_of_getElem? (i := 1572) (by decide +kernel), List.mem_of_getElem? (i := 2084) (by decide +kernel), List.mem_of_getElem? (i := 2085) (by decide +kernel)⟩
theorem lw_p118 : lw_okq (⟨"IndexedCompilerModel", "readIndexNames", "(I)V"⟩, 145) := ⟨⟨by decide +kernel, by decide +kernel⟩, List.mem_of_getElem? (i := 1572) (by decide +kernel), List.mem_of_getElem? (i := 2088) (by decide +kernel), List.mem_of_getElem? (i := 2089) (by decide +kernel)⟩
theorem lw_p119 : lw_okq (⟨"IndexedCompilerModel", "isTold", "(II)Z"⟩, 145) := ⟨⟨by decide +kernel, by decide +kernel⟩, List.mem_of_getElem? (i := 1572) (by decide +kernel), List.mem_of_getElem? (i := 2092) (by decide +kernel), List.mem_of_getElem? (i := 2093) (by decide +kernel)⟩
theorem lw_p120 : lw_okq (⟨"IndexedCompilerModel", "tellSame", "(I)V"⟩, 145) := ⟨⟨by decide +kernel, by decide +kernel⟩, List.mem_of_getElem? (i := 1572) (by decide +kernel), List.mem_of_getElem? (i := 2096) (by decide +kernel), List.mem_of_getElem? (i := 2097) (by decide +kernel)⟩
theorem lw_p121 : lw_okq (⟨"IndexedCompilerModel", "readProps", "()I"⟩, 145) := ⟨⟨by decide +kernel, by decide +kernel⟩, List.mem_of_getElem? (i := 1572) (by decide +kernel), List.mem_of_getElem? (i := 2100) (by decide +kernel), List.mem_of_getElem? (i := 2101) (by decide +kernel)⟩
theorem lw_p122 : lw_okq (⟨"IndexedCompilerModel", "readIndex", "()I"⟩, 145) := ⟨⟨by decide +kernel, by decide +kernel⟩, List.mem_of_getElem? (i := 1572) (by decide +kernel), List.mem_of_getElem? (i := 2104) (by decide +kernel), List.mem_of_getElem? (i := 2105) (by decide +kernel)⟩
theorem lw_p123 : lw_okq (⟨"IndexedCompilerModel", "readTerm", "(I)V"⟩, 145) := ⟨⟨by decide +kernel, by decide +kernel⟩, List.mem_of_getElem? (i := 1572) (by decide +kernel), List.mem_of_getElem? (i := 2108) (by decide +kernel), List.mem_of_getElem? (i := 2109) (by decide +kernel)⟩
theorem lw_p124 : lw_okq (⟨"IndexedCompilerModel", "addTerm", "(II)V"⟩, 145) := ⟨⟨by decide +kernel, by decide +kernel⟩, List.mem_of_getElem? (i := 1572) (by decide +kernel), List.mem_of_getElem? (i := 2112) (by decide +kernel), List.mem_of_getElem? (i := 2113) (by decide +kernel)⟩
theorem lw_p125 : lw_okq (⟨"IndexedCompilerModel", "wantRelation", "()I"⟩, 145) := ⟨⟨by decide +kernel, by decide +kernel⟩, List.mem_of_getElem? (i := 1572) (by decide +kernel), List.mem_of_getElem? (i := 2116) (by decide +kernel), List.mem_of_getElem? (i := 2117) (by decide +kernel)⟩
theorem lw_p126 : lw_okq (⟨"IndexedCompilerModel", "wantMark", "(I)V"⟩, 145) := ⟨⟨by decide +kernel, by decide +kernel⟩, List.mem_of_getElem? (i := 1572) (by decide +kernel), List.mem_of_getElem? (i := 2120) (by decide +kernel), List.mem_of_getElem? (i := 2121) (by decide +kernel)⟩
theorem lw_p127 : lw_okq (⟨"IndexedCompilerModel", "readParams", "(I)V"⟩, 145) := ⟨⟨by decide +kernel, by decide +kernel⟩, List.mem_of_getElem? (i := 1572) (by decide +kernel), List.mem_of_getElem? (i := 2124) (by decide +kernel), List.mem_of_getElem? (i := 2125) (by decide +kernel)⟩
def lw_privs_8 : List (MethodName × Nat) := [(⟨"IndexedCompilerModel", "wantWord", "(I)V"⟩, 145), (⟨"IndexedCompilerModel", "isWordHere", "(I)Z"⟩, 145), (⟨"IndexedCompilerModel", "wrong", "()V"⟩, 145), (⟨"IndexedCompilerModel", "wantName", "()I"⟩, 145), (⟨"IndexedCompilerModel", "isNameHere", "()Z"⟩, 145), (⟨"IndexedCompilerModel", "isMarkHere", "(I)Z"⟩, 145), (⟨"IndexedCompilerModel", "readIndexNames", "(I)V"⟩, 145), (⟨"IndexedCompilerModel", "isTold", "(II)Z"⟩, 145), (⟨"IndexedCompilerModel", "tellSame", "(I)V"⟩, 145), (⟨"IndexedCompilerModel", "readProps", "()I"⟩, 145), (⟨"IndexedCompilerModel", "readIndex", "()I"⟩, 145), (⟨"IndexedCompilerModel", "readTerm", "(I)V"⟩, 145), (⟨"IndexedCompilerModel", "addTerm", "(II)V"⟩, 145), (⟨"IndexedCompilerModel", "wantRelation", "()I"⟩, 145), (⟨"IndexedCompilerModel", "wantMark", "(I)V"⟩, 145), (⟨"IndexedCompilerModel", "readParams", "(I)V"⟩, 145)]
theorem lw_r8 : ∀ q ∈ lw_privs_8, lw_okq q := List.forall_mem_cons.mpr ⟨lw_p112, List.forall_mem_cons.mpr ⟨lw_p113, List.forall_mem_cons.mpr ⟨lw_p114, List.forall_mem_cons.mpr ⟨lw_p115, List.forall_mem_cons.mpr ⟨lw_p116, List.forall_mem_cons.mpr ⟨lw_p117, List.forall_mem_cons.mpr ⟨lw_p118, List.forall_mem_cons.mpr ⟨lw_p119, List.forall_mem_cons.mpr ⟨lw_p120, List.forall_mem_cons.mpr ⟨lw_p121, List.forall_mem_cons.mpr ⟨lw_p122, List.forall_mem_cons.mpr ⟨lw_p123, List.forall_mem_cons.mpr ⟨lw_p124, List.forall_mem_cons.mpr ⟨lw_p125, List.forall_mem_cons.mpr ⟨lw_p126, List.forall_mem_cons.mpr ⟨lw_p127, fun _ h => absurd h List.not_mem_nil⟩⟩⟩⟩⟩⟩⟩⟩⟩⟩⟩⟩⟩⟩⟩⟩
theorem lw_p128 : lw_okq (⟨"IndexedCompilerModel", "readType", "()I"⟩, 145) := ⟨⟨by decide +kernel, by decide +kernel⟩, List.mem_of_getElem? (i := 1572) (by decide +kernel), List.mem_of_getElem? (i := 2128) (by decide +kernel), List.mem_of_getElem? (i := 2129) (by decide +kernel)⟩
theorem lw_p129 : lw_okq (⟨"IndexedCompilerModel", "readSteps", "()I"⟩, 145) := ⟨⟨by decide +kernel, by decide +kernel⟩, List.mem_of_getElem? (i := 1572) (by decide +kernel), List.mem_of_getElem? (i := 2132) (by decide +kernel), List.mem_of_getElem? (i := 2133) (by decide +kernel)⟩
theorem lw_p130 : lw_okq (⟨"IndexedCompilerModel", "enter", "(II)V"⟩, 145) := ⟨⟨by decide +kernel, by decide +kernel⟩, List.mem_of_getElem? (i := 1572) (by decide +kernel), List.mem_of_getElem? (i := 2136) (by decide +kernel), List.mem_of_getElem? (i := 2137) (by decide +kernel)⟩
theorem lw_p131 : lw_okq (⟨"IndexedCompilerModel", "goSteps", "(I)V"⟩, 145) := ⟨⟨by decide +kernel, by decide +kernel⟩, List.mem_of_getElem? (i := 1572) (by decide +kernel), List.mem_of_getElem? (i := 2140) (by decide +kernel), List.mem_of_getElem? (i := 2141) (by decide +kernel)⟩
theorem lw_p132 : lw_okq (⟨"IndexedCompilerModel", "newNode", "(IIIII)I"⟩, 145) := ⟨⟨by decide +kernel, by decide +kernel⟩, List.mem_of_getElem? (i := 1572) (by decide +kernel), List.mem_of_getElem? (i := 2144) (by decide +kernel), List.mem_of_getElem? (i := 2145) (by decide +kernel)⟩
theorem lw_p133 : lw_okq (⟨"IndexedCompilerModel", "give", "(I)V"⟩, 145) := ⟨⟨by decide +kernel, by decide +kernel⟩, List.mem_of_getElem? (i := 1572) (by decide +kernel), List.mem_of_getElem? (i := 2148) (by decide +kernel), List.mem_of_getElem? (i := 2149) (by decide +kernel)⟩
theorem lw_p134 : lw_okq (⟨"IndexedCompilerModel", "goStep", "(I)V"⟩, 145) := ⟨⟨by decide +kernel, by decide +kernel⟩, List.mem_of_getElem? (i := 1572) (by decide +kernel), List.mem_of_getElem? (i := 2152) (by decide +kernel), List.mem_of_getElem? (i := 2153) (by decide +kernel)⟩
theorem lw_p135 : lw_okq (⟨"IndexedCompilerModel", "goSum", "(I)V"⟩, 145) := ⟨⟨by decide +kernel, by decide +kernel⟩, List.mem_of_getElem? (i := 1572) (by decide +kernel), List.mem_of_getElem? (i := 2156) (by decide +kernel), List.mem_of_getElem? (i := 2157) (by decide +kernel)⟩
theorem lw_p136 : lw_okq (⟨"IndexedCompilerModel", "goProduct", "(I)V"⟩, 145) := ⟨⟨by decide +kernel, by decide +kernel⟩, List.mem_of_getElem? (i := 1572) (by decide +kernel), List.mem_of_getElem? (i := 2160) (by decide +kernel), List.mem_of_getElem? (i := 2161) (by decide +kernel)⟩
theorem lw_p137 : lw_okq (⟨"IndexedCompilerModel", "goPart", "(I)V"⟩, 145) := ⟨⟨by decide +kernel, by decide +kernel⟩, List.mem_of_getElem? (i := 1572) (by decide +kernel), List.mem_of_getElem? (i := 2164) (by decide +kernel), List.mem_of_getElem? (i := 2165) (by decide +kernel)⟩
theorem lw_p138 : lw_okq (⟨"IndexedCompilerModel", "beginPart", "(I)V"⟩, 145) := ⟨⟨by decide +kernel, by decide +kernel⟩, List.mem_of_getElem? (i := 1572) (by decide +kernel), List.mem_of_getElem? (i := 2168) (by decide +kernel), List.mem_of_getElem? (i := 2169) (by decide +kernel)⟩
theorem lw_p139 : lw_okq (⟨"IndexedCompilerModel", "beginName", "(I)V"⟩, 145) := ⟨⟨by decide +kernel, by decide +kernel⟩, List.mem_of_getElem? (i := 1572) (by decide +kernel), List.mem_of_getElem? (i := 2172) (by decide +kernel), List.mem_of_getElem? (i := 2173) (by decide +kernel)⟩
theorem lw_p140 : lw_okq (⟨"IndexedCompilerModel", "readCallIndexes", "(I)V"⟩, 145) := ⟨⟨by decide +kernel, by decide +kernel⟩, List.mem_of_getElem? (i := 1572) (by decide +kernel), List.mem_of_getElem? (i := 2176) (by decide +kernel), List.mem_of_getElem? (i := 2177) (by decide +kernel)⟩
theorem lw_p141 : lw_okq (⟨"IndexedCompilerModel", "endCall", "(I)V"⟩, 145) := ⟨⟨by decide +kernel, by decide +kernel⟩, List.mem_of_getElem? (i := 1572) (by decide +kernel), List.mem_of_getElem? (i := 2180) (by decide +kernel), List.mem_of_getElem? (i := 2181) (by decide +kernel)⟩
theorem lw_p142 : lw_okq (⟨"IndexedCompilerModel", "uncheck", "()V"⟩, 145) := ⟨⟨by decide +kernel, by decide +kernel⟩, List.mem_of_getElem? (i := 1572) (by decide +kernel), List.mem_of_getElem? (i := 2184) (by decide +kernel), List.mem_of_getElem? (i := 2185) (by decide +kernel)⟩
theorem lw_p143 : lw_okq (⟨"IndexedCompilerModel", "begin", "(I)V"⟩, 145) := ⟨⟨by decide +kernel, by decide +kernel⟩, List.mem_of_getElem? (i := 1572) (by decide +kernel), List.mem_of_getElem? (i := 2200) (by decide +kernel), List.mem_of_getElem? (i := 2201) (by decide +kernel)⟩
def lw_privs_9 : List (MethodName × Nat) := [(⟨"IndexedCompilerModel", "readType", "()I"⟩, 145), (⟨"IndexedCompilerModel", "readSteps", "()I"⟩, 145), (⟨"IndexedCompilerModel", "enter", "(II)V"⟩, 145), (⟨"IndexedCompilerModel", "goSteps", "(I)V"⟩, 145), (⟨"IndexedCompilerModel", "newNode", "(IIIII)I"⟩, 145), (⟨"IndexedCompilerModel", "give", "(I)V"⟩, 145), (⟨"IndexedCompilerModel", "goStep", "(I)V"⟩, 145), (⟨"IndexedCompilerModel", "goSum", "(I)V"⟩, 145), (⟨"IndexedCompilerModel", "goProduct", "(I)V"⟩, 145), (⟨"IndexedCompilerModel", "goPart", "(I)V"⟩, 145), (⟨"IndexedCompilerModel", "beginPart", "(I)V"⟩, 145), (⟨"IndexedCompilerModel", "beginName", "(I)V"⟩, 145), (⟨"IndexedCompilerModel", "readCallIndexes", "(I)V"⟩, 145), (⟨"IndexedCompilerModel", "endCall", "(I)V"⟩, 145), (⟨"IndexedCompilerModel", "uncheck", "()V"⟩, 145), (⟨"IndexedCompilerModel", "begin", "(I)V"⟩, 145)]
theorem lw_r9 : ∀ q ∈ lw_privs_9, lw_okq q := List.forall_mem_cons.mpr ⟨lw_p128, List.forall_mem_cons.mpr ⟨lw_p129, List.forall_mem_cons.mpr ⟨lw_p130, List.forall_mem_cons.mpr ⟨lw_p131, List.forall_mem_cons.mpr ⟨lw_p132, List.forall_mem_cons.mpr ⟨lw_p133, List.forall_mem_cons.mpr ⟨lw_p134, List.forall_mem_cons.mpr ⟨lw_p135, List.forall_mem_cons.mpr ⟨lw_p136, List.forall_mem_cons.mpr ⟨lw_p137, List.forall_mem_cons.mpr ⟨lw_p138, List.forall_mem_cons.mpr ⟨lw_p139, List.forall_mem_cons.mpr ⟨lw_p140, List.forall_mem_cons.mpr ⟨lw_p141, List.forall_mem_cons.mpr ⟨lw_p142, List.forall_mem_cons.mpr ⟨lw_p143, fun _ h => absurd h List.not_mem_nil⟩⟩⟩⟩⟩⟩⟩⟩⟩⟩⟩⟩⟩⟩⟩⟩
theorem lw_p144 : lw_okq (⟨"IndexedCompilerModel", "newVariable", "(I)I"⟩, 145) := ⟨⟨by decide +kernel, by decide +kernel⟩, List.mem_of_getElem? (i := 1572) (by decide +kernel), List.mem_of_getElem? (i := 2204) (by decide +kernel), List.mem_of_getElem? (i := 2205) (by decide +kernel)⟩
theorem lw_p145 : lw_okq (⟨"IndexedCompilerModel", "stop", "(II)V"⟩, 145) := ⟨⟨by decide +kernel, by decide +kernel⟩, List.mem_of_getElem? (i := 1572) (by decide +kernel), List.mem_of_getElem? (i := 2208) (by decide +kernel), List.mem_of_getElem? (i := 2209) (by decide +kernel)⟩
theorem lw_p146 : lw_okq (⟨"IndexedCompilerModel", "nameIndex", "(II)V"⟩, 145) := ⟨⟨by decide +kernel, by decide +kernel⟩, List.mem_of_getElem? (i := 1572) (by decide +kernel), List.mem_of_getElem? (i := 2212) (by decide +kernel), List.mem_of_getElem? (i := 2213) (by decide +kernel)⟩
theorem lw_p147 : lw_okq (⟨"IndexedCompilerModel", "goThroughProps", "(IIII)V"⟩, 145) := ⟨⟨by decide +kernel, by decide +kernel⟩, List.mem_of_getElem? (i := 1572) (by decide +kernel), List.mem_of_getElem? (i := 2216) (by decide +kernel), List.mem_of_getElem? (i := 2217) (by decide +kernel)⟩
theorem lw_p148 : lw_okq (⟨"IndexedCompilerModel", "workIndex", "(I[J)V"⟩, 145) := ⟨⟨by decide +kernel, by decide +kernel⟩, List.mem_of_getElem? (i := 1572) (by decide +kernel), List.mem_of_getElem? (i := 2220) (by decide +kernel), List.mem_of_getElem? (i := 2221) (by decide +kernel)⟩
theorem lw_p149 : lw_okq (⟨"IndexedCompilerModel", "findName", "(IZ)I"⟩, 145) := ⟨⟨by decide +kernel, by decide +kernel⟩, List.mem_of_getElem? (i := 1572) (by decide +kernel), List.mem_of_getElem? (i := 2224) (by decide +kernel), List.mem_of_getElem? (i := 2225) (by decide +kernel)⟩
theorem lw_p150 : lw_okq (⟨"IndexedCompilerModel", "addTimes", "([JJ[JI)V"⟩, 145) := ⟨⟨by decide +kernel, by decide +kernel⟩, List.mem_of_getElem? (i := 1572) (by decide +kernel), List.mem_of_getElem? (i := 2228) (by decide +kernel), List.mem_of_getElem? (i := 2229) (by decide +kernel)⟩
theorem lw_p151 : lw_okq (⟨"IndexedCompilerModel", "proposition", "(II[JI[JI[J)Z"⟩, 145) := ⟨⟨by decide +kernel, by decide +kernel⟩, List.mem_of_getElem? (i := 1572) (by decide +kernel), List.mem_of_getElem? (i := 2237) (by decide +kernel), List.mem_of_getElem? (i := 2238) (by decide +kernel)⟩
theorem lw_p152 : lw_okq (⟨"IndexedCompilerModel", "addFact", "([JII)V"⟩, 145) := ⟨⟨by decide +kernel, by decide +kernel⟩, List.mem_of_getElem? (i := 1572) (by decide +kernel), List.mem_of_getElem? (i := 2241) (by decide +kernel), List.mem_of_getElem? (i := 2242) (by decide +kernel)⟩
theorem lw_p153 : lw_okq (⟨"IndexedCompilerModel", "addGoal", "(II)V"⟩, 145) := ⟨⟨by decide +kernel, by decide +kernel⟩, List.mem_of_getElem? (i := 1572) (by decide +kernel), List.mem_of_getElem? (i := 2245) (by decide +kernel), List.mem_of_getElem? (i := 2246) (by decide +kernel)⟩
theorem lw_p154 : lw_okq (⟨"IndexedCompilerModel", "isProved", "([JI)Z"⟩, 145) := ⟨⟨by decide +kernel, by decide +kernel⟩, List.mem_of_getElem? (i := 1572) (by decide +kernel), List.mem_of_getElem? (i := 2249) (by decide +kernel), List.mem_of_getElem? (i := 2250) (by decide +kernel)⟩
theorem lw_p155 : lw_okq (⟨"IndexedCompilerModel", "keep", "()Z"⟩, 145) := ⟨⟨by decide +kernel, by decide +kernel⟩, List.mem_of_getElem? (i := 1572) (by decide +kernel), List.mem_of_getElem? (i := 2253) (by decide +kernel), List.mem_of_getElem? (i := 2254) (by decide +kernel)⟩
theorem lw_p156 : lw_okq (⟨"IndexedCompilerModel", "takeFresh", "()V"⟩, 145) := ⟨⟨by decide +kernel, by decide +kernel⟩, List.mem_of_getElem? (i := 1572) (by decide +kernel), List.mem_of_getElem? (i := 2264) (by decide +kernel), List.mem_of_getElem? (i := 2265) (by decide +kernel)⟩
theorem lw_p157 : lw_okq (⟨"IndexedCompilerModel", "without", "(I)Z"⟩, 145) := ⟨⟨by decide +kernel, by decide +kernel⟩, List.mem_of_getElem? (i := 1572) (by decide +kernel), List.mem_of_getElem? (i := 2268) (by decide +kernel), List.mem_of_getElem? (i := 2269) (by decide +kernel)⟩
theorem lw_p158 : lw_okq (⟨"IndexedCompilerModel", "have", "(II)V"⟩, 145) := ⟨⟨by decide +kernel, by decide +kernel⟩, List.mem_of_getElem? (i := 1572) (by decide +kernel), List.mem_of_getElem? (i := 2272) (by decide +kernel), List.mem_of_getElem? (i := 2273) (by decide +kernel)⟩
theorem lw_p159 : lw_okq (⟨"IndexedCompilerModel", "pushVariable", "(IZ)V"⟩, 145) := ⟨⟨by decide +kernel, by decide +kernel⟩, List.mem_of_getElem? (i := 1572) (by decide +kernel), List.mem_of_getElem? (i := 2276) (by decide +kernel), List.mem_of_getElem? (i := 2277) (by decide +kernel)⟩
def lw_privs_10 : List (MethodName × Nat) := [(⟨"IndexedCompilerModel", "newVariable", "(I)I"⟩, 145), (⟨"IndexedCompilerModel", "stop", "(II)V"⟩, 145), (⟨"IndexedCompilerModel", "nameIndex", "(II)V"⟩, 145), (⟨"IndexedCompilerModel", "goThroughProps", "(IIII)V"⟩, 145), (⟨"IndexedCompilerModel", "workIndex", "(I[J)V"⟩, 145), (⟨"IndexedCompilerModel", "findName", "(IZ)I"⟩, 145), (⟨"IndexedCompilerModel", "addTimes", "([JJ[JI)V"⟩, 145), (⟨"IndexedCompilerModel", "proposition", "(II[JI[JI[J)Z"⟩, 145), (⟨"IndexedCompilerModel", "addFact", "([JII)V"⟩, 145), (⟨"IndexedCompilerModel", "addGoal", "(II)V"⟩, 145), (⟨"IndexedCompilerModel", "isProved", "([JI)Z"⟩, 145), (⟨"IndexedCompilerModel", "keep", "()Z"⟩, 145), (⟨"IndexedCompilerModel", "takeFresh", "()V"⟩, 145), (⟨"IndexedCompilerModel", "without", "(I)Z"⟩, 145), (⟨"IndexedCompilerModel", "have", "(II)V"⟩, 145), (⟨"IndexedCompilerModel", "pushVariable", "(IZ)V"⟩, 145)]
theorem lw_r10 : ∀ q ∈ lw_privs_10, lw_okq q := List.forall_mem_cons.mpr ⟨lw_p144, List.forall_mem_cons.mpr ⟨lw_p145, List.forall_mem_cons.mpr ⟨lw_p146, List.forall_mem_cons.mpr ⟨lw_p147, List.forall_mem_cons.mpr ⟨lw_p148, List.forall_mem_cons.mpr ⟨lw_p149, List.forall_mem_cons.mpr ⟨lw_p150, List.forall_mem_cons.mpr ⟨lw_p151, List.forall_mem_cons.mpr ⟨lw_p152, List.forall_mem_cons.mpr ⟨lw_p153, List.forall_mem_cons.mpr ⟨lw_p154, List.forall_mem_cons.mpr ⟨lw_p155, List.forall_mem_cons.mpr ⟨lw_p156, List.forall_mem_cons.mpr ⟨lw_p157, List.forall_mem_cons.mpr ⟨lw_p158, List.forall_mem_cons.mpr ⟨lw_p159, fun _ h => absurd h List.not_mem_nil⟩⟩⟩⟩⟩⟩⟩⟩⟩⟩⟩⟩⟩⟩⟩⟩
theorem lw_p160 : lw_okq (⟨"IndexedCompilerModel", "pushValue", "(Z)V"⟩, 145) := ⟨⟨by decide +kernel, by decide +kernel⟩, List.mem_of_getElem? (i := 1572) (by decide +kernel), List.mem_of_getElem? (i := 2280) (by decide +kernel), List.mem_of_getElem? (i := 2281) (by decide +kernel)⟩
theorem lw_p161 : lw_okq (⟨"IndexedCompilerModel", "pushCopy", "([JIZ)V"⟩, 145) := ⟨⟨by decide +kernel, by decide +kernel⟩, List.mem_of_getElem? (i := 1572) (by decide +kernel), List.mem_of_getElem? (i := 2284) (by decide +kernel), List.mem_of_getElem? (i := 2285) (by decide +kernel)⟩
theorem lw_p162 : lw_okq (⟨"IndexedCompilerModel", "name", "(I)V"⟩, 145) := ⟨⟨by decide +kernel, by decide +kernel⟩, List.mem_of_getElem? (i := 1572) (by decide +kernel), List.mem_of_getElem? (i := 2288) (by decide +kernel), List.mem_of_getElem? (i := 2289) (by decide +kernel)⟩
theorem lw_p163 : lw_okq (⟨"IndexedCompilerModel", "lookType", "(I)V"⟩, 145) := ⟨⟨by decide +kernel, by decide +kernel⟩, List.mem_of_getElem? (i := 1572) (by decide +kernel), List.mem_of_getElem? (i := 2292) (by decide +kernel), List.mem_of_getElem? (i := 2293) (by decide +kernel)⟩
theorem lw_p164 : lw_okq (⟨"IndexedCompilerModel", "goOver", "(III)V"⟩, 145) := ⟨⟨by decide +kernel, by decide +kernel⟩, List.mem_of_getElem? (i := 1572) (by decide +kernel), List.mem_of_getElem? (i := 2296) (by decide +kernel), List.mem_of_getElem? (i := 2297) (by decide +kernel)⟩
theorem lw_p165 : lw_okq (⟨"IndexedCompilerModel", "enterNode", "(III)V"⟩, 145) := ⟨⟨by decide +kernel, by decide +kernel⟩, List.mem_of_getElem? (i := 1572) (by decide +kernel), List.mem_of_getElem? (i := 2300) (by decide +kernel), List.mem_of_getElem? (i := 2301) (by decide +kernel)⟩
theorem lw_p166 : lw_okq (⟨"IndexedCompilerModel", "goNode", "(II)V"⟩, 145) := ⟨⟨by decide +kernel, by decide +kernel⟩, List.mem_of_getElem? (i := 1572) (by decide +kernel), List.mem_of_getElem? (i := 2304) (by decide +kernel), List.mem_of_getElem? (i := 2305) (by decide +kernel)⟩
theorem lw_p167 : lw_okq (⟨"IndexedCompilerModel", "lookPlain", "(II)V"⟩, 145) := ⟨⟨by decide +kernel, by decide +kernel⟩, List.mem_of_getElem? (i := 1572) (by decide +kernel), List.mem_of_getElem? (i := 2308) (by decide +kernel), List.mem_of_getElem? (i := 2309) (by decide +kernel)⟩
theorem lw_p168 : lw_okq (⟨"IndexedCompilerModel", "lookValue", "(II)V"⟩, 145) := ⟨⟨by decide +kernel, by decide +kernel⟩, List.mem_of_getElem? (i := 1572) (by decide +kernel), List.mem_of_getElem? (i := 2312) (by decide +kernel), List.mem_of_getElem? (i := 2313) (by decide +kernel)⟩
theorem lw_p169 : lw_okq (⟨"IndexedCompilerModel", "wantKind", "(IZ)V"⟩, 145) := ⟨⟨by decide +kernel, by decide +kernel⟩, List.mem_of_getElem? (i := 1572) (by decide +kernel), List.mem_of_getElem? (i := 2316) (by decide +kernel), List.mem_of_getElem? (i := 2317) (by decide +kernel)⟩
theorem lw_p170 : lw_okq (⟨"IndexedCompilerModel", "goalsOfType", "(IIII)V"⟩, 145) := ⟨⟨by decide +kernel, by decide +kernel⟩, List.mem_of_getElem? (i := 1572) (by decide +kernel), List.mem_of_getElem? (i := 2320) (by decide +kernel), List.mem_of_getElem? (i := 2321) (by decide +kernel)⟩
theorem lw_p171 : lw_okq (⟨"IndexedCompilerModel", "leave", "()V"⟩, 145) := ⟨⟨by decide +kernel, by decide +kernel⟩, List.mem_of_getElem? (i := 1572) (by decide +kernel), List.mem_of_getElem? (i := 2324) (by decide +kernel), List.mem_of_getElem? (i := 2325) (by decide +kernel)⟩
theorem lw_p172 : lw_okq (⟨"IndexedCompilerModel", "goVar", "(I)V"⟩, 145) := ⟨⟨by decide +kernel, by decide +kernel⟩, List.mem_of_getElem? (i := 1572) (by decide +kernel), List.mem_of_getElem? (i := 2328) (by decide +kernel), List.mem_of_getElem? (i := 2329) (by decide +kernel)⟩
theorem lw_p173 : lw_okq (⟨"IndexedCompilerModel", "goAccess", "(II)V"⟩, 145) := ⟨⟨by decide +kernel, by decide +kernel⟩, List.mem_of_getElem? (i := 1572) (by decide +kernel), List.mem_of_getElem? (i := 2332) (by decide +kernel), List.mem_of_getElem? (i := 2333) (by decide +kernel)⟩
theorem lw_p174 : lw_okq (⟨"IndexedCompilerModel", "wantRow", "(I)I"⟩, 145) := ⟨⟨by decide +kernel, by decide +kernel⟩, List.mem_of_getElem? (i := 1572) (by decide +kernel), List.mem_of_getElem? (i := 2336) (by decide +kernel), List.mem_of_getElem? (i := 2337) (by decide +kernel)⟩
theorem lw_p175 : lw_okq (⟨"IndexedCompilerModel", "nodeAtName", "(I)I"⟩, 145) := ⟨⟨by decide +kernel, by decide +kernel⟩, List.mem_of_getElem? (i := 1572) (by decide +kernel), List.mem_of_getElem? (i := 2340) (by decide +kernel), List.mem_of_getElem? (i := 2341) (by decide +kernel)⟩
def lw_privs_11 : List (MethodName × Nat) := [(⟨"IndexedCompilerModel", "pushValue", "(Z)V"⟩, 145), (⟨"IndexedCompilerModel", "pushCopy", "([JIZ)V"⟩, 145), (⟨"IndexedCompilerModel", "name", "(I)V"⟩, 145), (⟨"IndexedCompilerModel", "lookType", "(I)V"⟩, 145), (⟨"IndexedCompilerModel", "goOver", "(III)V"⟩, 145), (⟨"IndexedCompilerModel", "enterNode", "(III)V"⟩, 145), (⟨"IndexedCompilerModel", "goNode", "(II)V"⟩, 145), (⟨"IndexedCompilerModel", "lookPlain", "(II)V"⟩, 145), (⟨"IndexedCompilerModel", "lookValue", "(II)V"⟩, 145), (⟨"IndexedCompilerModel", "wantKind", "(IZ)V"⟩, 145), (⟨"IndexedCompilerModel", "goalsOfType", "(IIII)V"⟩, 145), (⟨"IndexedCompilerModel", "leave", "()V"⟩, 145), (⟨"IndexedCompilerModel", "goVar", "(I)V"⟩, 145), (⟨"IndexedCompilerModel", "goAccess", "(II)V"⟩, 145), (⟨"IndexedCompilerModel", "wantRow", "(I)I"⟩, 145), (⟨"IndexedCompilerModel", "nodeAtName", "(I)I"⟩, 145)]
theorem lw_r11 : ∀ q ∈ lw_privs_11, lw_okq q := List.forall_mem_cons.mpr ⟨lw_p160, List.forall_mem_cons.mpr ⟨lw_p161, List.forall_mem_cons.mpr ⟨lw_p162, List.forall_mem_cons.mpr ⟨lw_p163, List.forall_mem_cons.mpr ⟨lw_p164, List.forall_mem_cons.mpr ⟨lw_p165, List.forall_mem_cons.mpr ⟨lw_p166, List.forall_mem_cons.mpr ⟨lw_p167, List.forall_mem_cons.mpr ⟨lw_p168, List.forall_mem_cons.mpr ⟨lw_p169, List.forall_mem_cons.mpr ⟨lw_p170, List.forall_mem_cons.mpr ⟨lw_p171, List.forall_mem_cons.mpr ⟨lw_p172, List.forall_mem_cons.mpr ⟨lw_p173, List.forall_mem_cons.mpr ⟨lw_p174, List.forall_mem_cons.mpr ⟨lw_p175, fun _ h => absurd h List.not_mem_nil⟩⟩⟩⟩⟩⟩⟩⟩⟩⟩⟩⟩⟩⟩⟩⟩
theorem lw_p176 : lw_okq (⟨"IndexedCompilerModel", "endAccess", "(IIZ)V"⟩, 145) := ⟨⟨by decide +kernel, by decide +kernel⟩, List.mem_of_getElem? (i := 1572) (by decide +kernel), List.mem_of_getElem? (i := 2344) (by decide +kernel), List.mem_of_getElem? (i := 2345) (by decide +kernel)⟩
theorem lw_p177 : lw_okq (⟨"IndexedCompilerModel", "lift", "(I)V"⟩, 145) := ⟨⟨by decide +kernel, by decide +kernel⟩, List.mem_of_getElem? (i := 1572) (by decide +kernel), List.mem_of_getElem? (i := 2348) (by decide +kernel), List.mem_of_getElem? (i := 2349) (by decide +kernel)⟩
theorem lw_p178 : lw_okq (⟨"IndexedCompilerModel", "goCall", "(II)V"⟩, 145) := ⟨⟨by decide +kernel, by decide +kernel⟩, List.mem_of_getElem? (i := 1572) (by decide +kernel), List.mem_of_getElem? (i := 2352) (by decide +kernel), List.mem_of_getElem? (i := 2353) (by decide +kernel)⟩
theorem lw_p179 : lw_okq (⟨"IndexedCompilerModel", "beginCall", "(II)V"⟩, 145) := ⟨⟨by decide +kernel, by decide +kernel⟩, List.mem_of_getElem? (i := 1572) (by decide +kernel), List.mem_of_getElem? (i := 2356) (by decide +kernel), List.mem_of_getElem? (i := 2357) (by decide +kernel)⟩
theorem lw_p180 : lw_okq (⟨"IndexedCompilerModel", "findFunction", "(I)I"⟩, 145) := ⟨⟨by decide +kernel, by decide +kernel⟩, List.mem_of_getElem? (i := 1572) (by decide +kernel), List.mem_of_getElem? (i := 2360) (by decide +kernel), List.mem_of_getElem? (i := 2361) (by decide +kernel)⟩
theorem lw_p181 : lw_okq (⟨"IndexedCompilerModel", "endCallOf", "(II)V"⟩, 145) := ⟨⟨by decide +kernel, by decide +kernel⟩, List.mem_of_getElem? (i := 1572) (by decide +kernel), List.mem_of_getElem? (i := 2364) (by decide +kernel), List.mem_of_getElem? (i := 2365) (by decide +kernel)⟩
theorem lw_p182 : lw_okq (⟨"IndexedCompilerModel", "goOne", "(II)V"⟩, 145) := ⟨⟨by decide +kernel, by decide +kernel⟩, List.mem_of_getElem? (i := 1572) (by decide +kernel), List.mem_of_getElem? (i := 2368) (by decide +kernel), List.mem_of_getElem? (i := 2369) (by decide +kernel)⟩
theorem lw_p183 : lw_okq (⟨"IndexedCompilerModel", "goTwo", "(II)V"⟩, 145) := ⟨⟨by decide +kernel, by decide +kernel⟩, List.mem_of_getElem? (i := 1572) (by decide +kernel), List.mem_of_getElem? (i := 2372) (by decide +kernel), List.mem_of_getElem? (i := 2373) (by decide +kernel)⟩
theorem lw_p184 : lw_okq (⟨"IndexedCompilerModel", "goDivide", "(II)V"⟩, 145) := ⟨⟨by decide +kernel, by decide +kernel⟩, List.mem_of_getElem? (i := 1572) (by decide +kernel), List.mem_of_getElem? (i := 2380) (by decide +kernel), List.mem_of_getElem? (i := 2381) (by decide +kernel)⟩
theorem lw_p185 : lw_okq (⟨"IndexedCompilerModel", "goSequence", "(II)V"⟩, 145) := ⟨⟨by decide +kernel, by decide +kernel⟩, List.mem_of_getElem? (i := 1572) (by decide +kernel), List.mem_of_getElem? (i := 2384) (by decide +kernel), List.mem_of_getElem? (i := 2385) (by decide +kernel)⟩
theorem lw_p186 : lw_okq (⟨"IndexedCompilerModel", "goLet", "(II)V"⟩, 145) := ⟨⟨by decide +kernel, by decide +kernel⟩, List.mem_of_getElem? (i := 1572) (by decide +kernel), List.mem_of_getElem? (i := 2388) (by decide +kernel), List.mem_of_getElem? (i := 2389) (by decide +kernel)⟩
theorem lw_p187 : lw_okq (⟨"IndexedCompilerModel", "goIf", "(II)V"⟩, 145) := ⟨⟨by decide +kernel, by decide +kernel⟩, List.mem_of_getElem? (i := 1572) (by decide +kernel), List.mem_of_getElem? (i := 2392) (by decide +kernel), List.mem_of_getElem? (i := 2393) (by decide +kernel)⟩
theorem lw_p188 : lw_okq (⟨"IndexedCompilerModel", "relationFacts", "(III)V"⟩, 145) := ⟨⟨by decide +kernel, by decide +kernel⟩, List.mem_of_getElem? (i := 1572) (by decide +kernel), List.mem_of_getElem? (i := 2396) (by decide +kernel), List.mem_of_getElem? (i := 2397) (by decide +kernel)⟩
theorem lw_p189 : lw_okq (⟨"IndexedCompilerModel", "endIf", "(II)V"⟩, 145) := ⟨⟨by decide +kernel, by decide +kernel⟩, List.mem_of_getElem? (i := 1572) (by decide +kernel), List.mem_of_getElem? (i := 2403) (by decide +kernel), List.mem_of_getElem? (i := 2404) (by decide +kernel)⟩
theorem lw_p190 : lw_okq (⟨"IndexedCompilerModel", "goTyped", "(II)V"⟩, 145) := ⟨⟨by decide +kernel, by decide +kernel⟩, List.mem_of_getElem? (i := 1572) (by decide +kernel), List.mem_of_getElem? (i := 2407) (by decide +kernel), List.mem_of_getElem? (i := 2408) (by decide +kernel)⟩
theorem lw_p191 : lw_okq (⟨"IndexedCompilerModel", "compile", "(I)V"⟩, 145) := ⟨⟨by decide +kernel, by decide +kernel⟩, List.mem_of_getElem? (i := 1572) (by decide +kernel), List.mem_of_getElem? (i := 2411) (by decide +kernel), List.mem_of_getElem? (i := 2412) (by decide +kernel)⟩
def lw_privs_12 : List (MethodName × Nat) := [(⟨"IndexedCompilerModel", "endAccess", "(IIZ)V"⟩, 145), (⟨"IndexedCompilerModel", "lift", "(I)V"⟩, 145), (⟨"IndexedCompilerModel", "goCall", "(II)V"⟩, 145), (⟨"IndexedCompilerModel", "beginCall", "(II)V"⟩, 145), (⟨"IndexedCompilerModel", "findFunction", "(I)I"⟩, 145), (⟨"IndexedCompilerModel", "endCallOf", "(II)V"⟩, 145), (⟨"IndexedCompilerModel", "goOne", "(II)V"⟩, 145), (⟨"IndexedCompilerModel", "goTwo", "(II)V"⟩, 145), (⟨"IndexedCompilerModel", "goDivide", "(II)V"⟩, 145), (⟨"IndexedCompilerModel", "goSequence", "(II)V"⟩, 145), (⟨"IndexedCompilerModel", "goLet", "(II)V"⟩, 145), (⟨"IndexedCompilerModel", "goIf", "(II)V"⟩, 145), (⟨"IndexedCompilerModel", "relationFacts", "(III)V"⟩, 145), (⟨"IndexedCompilerModel", "endIf", "(II)V"⟩, 145), (⟨"IndexedCompilerModel", "goTyped", "(II)V"⟩, 145), (⟨"IndexedCompilerModel", "compile", "(I)V"⟩, 145)]
theorem lw_r12 : ∀ q ∈ lw_privs_12, lw_okq q := List.forall_mem_cons.mpr ⟨lw_p176, List.forall_mem_cons.mpr ⟨lw_p177, List.forall_mem_cons.mpr ⟨lw_p178, List.forall_mem_cons.mpr ⟨lw_p179, List.forall_mem_cons.mpr ⟨lw_p180, List.forall_mem_cons.mpr ⟨lw_p181, List.forall_mem_cons.mpr ⟨lw_p182, List.forall_mem_cons.mpr ⟨lw_p183, List.forall_mem_cons.mpr ⟨lw_p184, List.forall_mem_cons.mpr ⟨lw_p185, List.forall_mem_cons.mpr ⟨lw_p186, List.forall_mem_cons.mpr ⟨lw_p187, List.forall_mem_cons.mpr ⟨lw_p188, List.forall_mem_cons.mpr ⟨lw_p189, List.forall_mem_cons.mpr ⟨lw_p190, List.forall_mem_cons.mpr ⟨lw_p191, fun _ h => absurd h List.not_mem_nil⟩⟩⟩⟩⟩⟩⟩⟩⟩⟩⟩⟩⟩⟩⟩⟩
theorem lw_p192 : lw_okq (⟨"IndexedCompilerModel", "makeNode", "(II)V"⟩, 145) := ⟨⟨by decide +kernel, by decide +kernel⟩, List.mem_of_getElem? (i := 1572) (by decide +kernel), List.mem_of_getElem? (i := 2415) (by decide +kernel), List.mem_of_getElem? (i := 2416) (by decide +kernel)⟩
theorem lw_p193 : lw_okq (⟨"IndexedCompilerModel", "emit", "(II)V"⟩, 145) := ⟨⟨by decide +kernel, by decide +kernel⟩, List.mem_of_getElem? (i := 1572) (by decide +kernel), List.mem_of_getElem? (i := 2419) (by decide +kernel), List.mem_of_getElem? (i := 2420) (by decide +kernel)⟩
theorem lw_p194 : lw_okq (⟨"IndexedCompilerModel", "localOf", "(I)I"⟩, 145) := ⟨⟨by decide +kernel, by decide +kernel⟩, List.mem_of_getElem? (i := 1572) (by decide +kernel), List.mem_of_getElem? (i := 2423) (by decide +kernel), List.mem_of_getElem? (i := 2424) (by decide +kernel)⟩
theorem lw_p195 : lw_okq (⟨"IndexedCompilerModel", "makeAccess", "(II)V"⟩, 145) := ⟨⟨by decide +kernel, by decide +kernel⟩, List.mem_of_getElem? (i := 1572) (by decide +kernel), List.mem_of_getElem? (i := 2427) (by decide +kernel), List.mem_of_getElem? (i := 2428) (by decide +kernel)⟩
theorem lw_p196 : lw_okq (⟨"IndexedCompilerModel", "within", "(III)Z"⟩, 145) := ⟨⟨by decide +kernel, by decide +kernel⟩, List.mem_of_getElem? (i := 1572) (by decide +kernel), List.mem_of_getElem? (i := 2431) (by decide +kernel), List.mem_of_getElem? (i := 2432) (by decide +kernel)⟩
theorem lw_p197 : lw_okq (⟨"IndexedCompilerModel", "makeSequence", "(II)V"⟩, 145) := ⟨⟨by decide +kernel, by decide +kernel⟩, List.mem_of_getElem? (i := 1572) (by decide +kernel), List.mem_of_getElem? (i := 2435) (by decide +kernel), List.mem_of_getElem? (i := 2436) (by decide +kernel)⟩
theorem lw_p198 : lw_okq (⟨"IndexedCompilerModel", "makeLet", "(II)V"⟩, 145) := ⟨⟨by decide +kernel, by decide +kernel⟩, List.mem_of_getElem? (i := 1572) (by decide +kernel), List.mem_of_getElem? (i := 2439) (by decide +kernel), List.mem_of_getElem? (i := 2440) (by decide +kernel)⟩
theorem lw_p199 : lw_okq (⟨"IndexedCompilerModel", "makeIf", "(II)V"⟩, 145) := ⟨⟨by decide +kernel, by decide +kernel⟩, List.mem_of_getElem? (i := 1572) (by decide +kernel), List.mem_of_getElem? (i := 2443) (by decide +kernel), List.mem_of_getElem? (i := 2444) (by decide +kernel)⟩
theorem lw_p200 : lw_okq (⟨"IndexedCompilerModel", "isRunnable", "(I)Z"⟩, 145) := ⟨⟨by decide +kernel, by decide +kernel⟩, List.mem_of_getElem? (i := 1572) (by decide +kernel), List.mem_of_getElem? (i := 2463) (by decide +kernel), List.mem_of_getElem? (i := 2464) (by decide +kernel)⟩
theorem lw_p201 : lw_okq (⟨"IndexedCompilerModel", "codeAt", "(II)I"⟩, 145) := ⟨⟨by decide +kernel, by decide +kernel⟩, List.mem_of_getElem? (i := 1572) (by decide +kernel), List.mem_of_getElem? (i := 2467) (by decide +kernel), List.mem_of_getElem? (i := 2468) (by decide +kernel)⟩
theorem lw_p202 : lw_okq (⟨"IndexedCompilerModel", "hasNumber", "(II)Z"⟩, 145) := ⟨⟨by decide +kernel, by decide +kernel⟩, List.mem_of_getElem? (i := 1572) (by decide +kernel), List.mem_of_getElem? (i := 2490) (by decide +kernel), List.mem_of_getElem? (i := 2491) (by decide +kernel)⟩
theorem lw_p203 : lw_okq (⟨"IndexedCompilerModel", "isFit", "(I)Z"⟩, 145) := ⟨⟨by decide +kernel, by decide +kernel⟩, List.mem_of_getElem? (i := 1572) (by decide +kernel), List.mem_of_getElem? (i := 2508) (by decide +kernel), List.mem_of_getElem? (i := 2509) (by decide +kernel)⟩
theorem lw_p204 : lw_okq (⟨"IndexedCompilerModel", "holdAll", "(IIIIJ)Z"⟩, 145) := ⟨⟨by decide +kernel, by decide +kernel⟩, List.mem_of_getElem? (i := 1572) (by decide +kernel), List.mem_of_getElem? (i := 2512) (by decide +kernel), List.mem_of_getElem? (i := 2513) (by decide +kernel)⟩
theorem lw_p205 : lw_okq (⟨"IndexedCompilerModel", "reckon", "(IIIJ)J"⟩, 145) := ⟨⟨by decide +kernel, by decide +kernel⟩, List.mem_of_getElem? (i := 1572) (by decide +kernel), List.mem_of_getElem? (i := 2516) (by decide +kernel), List.mem_of_getElem? (i := 2517) (by decide +kernel)⟩
theorem lw_p206 : lw_okq (⟨"IndexedCompilerModel", "beginRun", "(I)V"⟩, 145) := ⟨⟨by decide +kernel, by decide +kernel⟩, List.mem_of_getElem? (i := 1572) (by decide +kernel), List.mem_of_getElem? (i := 2523) (by decide +kernel), List.mem_of_getElem? (i := 2524) (by decide +kernel)⟩
theorem lw_p207 : lw_okq (⟨"IndexedCompilerModel", "step", "(I)I"⟩, 145) := ⟨⟨by decide +kernel, by decide +kernel⟩, List.mem_of_getElem? (i := 1572) (by decide +kernel), List.mem_of_getElem? (i := 2527) (by decide +kernel), List.mem_of_getElem? (i := 2528) (by decide +kernel)⟩
def lw_privs_13 : List (MethodName × Nat) := [(⟨"IndexedCompilerModel", "makeNode", "(II)V"⟩, 145), (⟨"IndexedCompilerModel", "emit", "(II)V"⟩, 145), (⟨"IndexedCompilerModel", "localOf", "(I)I"⟩, 145), (⟨"IndexedCompilerModel", "makeAccess", "(II)V"⟩, 145), (⟨"IndexedCompilerModel", "within", "(III)Z"⟩, 145), (⟨"IndexedCompilerModel", "makeSequence", "(II)V"⟩, 145), (⟨"IndexedCompilerModel", "makeLet", "(II)V"⟩, 145), (⟨"IndexedCompilerModel", "makeIf", "(II)V"⟩, 145), (⟨"IndexedCompilerModel", "isRunnable", "(I)Z"⟩, 145), (⟨"IndexedCompilerModel", "codeAt", "(II)I"⟩, 145), (⟨"IndexedCompilerModel", "hasNumber", "(II)Z"⟩, 145), (⟨"IndexedCompilerModel", "isFit", "(I)Z"⟩, 145), (⟨"IndexedCompilerModel", "holdAll", "(IIIIJ)Z"⟩, 145), (⟨"IndexedCompilerModel", "reckon", "(IIIJ)J"⟩, 145), (⟨"IndexedCompilerModel", "beginRun", "(I)V"⟩, 145), (⟨"IndexedCompilerModel", "step", "(I)I"⟩, 145)]
theorem lw_r13 : ∀ q ∈ lw_privs_13, lw_okq q := List.forall_mem_cons.mpr ⟨lw_p192, List.forall_mem_cons.mpr ⟨lw_p193, List.forall_mem_cons.mpr ⟨lw_p194, List.forall_mem_cons.mpr ⟨lw_p195, List.forall_mem_cons.mpr ⟨lw_p196, List.forall_mem_cons.mpr ⟨lw_p197, List.forall_mem_cons.mpr ⟨lw_p198, List.forall_mem_cons.mpr ⟨lw_p199, List.forall_mem_cons.mpr ⟨lw_p200, List.forall_mem_cons.mpr ⟨lw_p201, List.forall_mem_cons.mpr ⟨lw_p202, List.forall_mem_cons.mpr ⟨lw_p203, List.forall_mem_cons.mpr ⟨lw_p204, List.forall_mem_cons.mpr ⟨lw_p205, List.forall_mem_cons.mpr ⟨lw_p206, List.forall_mem_cons.mpr ⟨lw_p207, fun _ h => absurd h List.not_mem_nil⟩⟩⟩⟩⟩⟩⟩⟩⟩⟩⟩⟩⟩⟩⟩⟩
theorem lw_p208 : lw_okq (⟨"IndexedCompilerModel", "push", "(I)V"⟩, 145) := ⟨⟨by decide +kernel, by decide +kernel⟩, List.mem_of_getElem? (i := 1572) (by decide +kernel), List.mem_of_getElem? (i := 2531) (by decide +kernel), List.mem_of_getElem? (i := 2532) (by decide +kernel)⟩
theorem lw_p209 : lw_okq (⟨"IndexedCompilerModel", "pop", "()I"⟩, 145) := ⟨⟨by decide +kernel, by decide +kernel⟩, List.mem_of_getElem? (i := 1572) (by decide +kernel), List.mem_of_getElem? (i := 2535) (by decide +kernel), List.mem_of_getElem? (i := 2536) (by decide +kernel)⟩
theorem lw_p210 : lw_okq (⟨"IndexedCompilerModel", "reckonTwo", "(I)I"⟩, 145) := ⟨⟨by decide +kernel, by decide +kernel⟩, List.mem_of_getElem? (i := 1572) (by decide +kernel), List.mem_of_getElem? (i := 2539) (by decide +kernel), List.mem_of_getElem? (i := 2540) (by decide +kernel)⟩
theorem lw_p211 : lw_okq (⟨"IndexedCompilerModel", "newRow", "()I"⟩, 145) := ⟨⟨by decide +kernel, by decide +kernel⟩, List.mem_of_getElem? (i := 1572) (by decide +kernel), List.mem_of_getElem? (i := 2544) (by decide +kernel), List.mem_of_getElem? (i := 2545) (by decide +kernel)⟩
theorem lw_p212 : lw_okq (⟨"IndexedCompilerModel", "access", "(I)I"⟩, 145) := ⟨⟨by decide +kernel, by decide +kernel⟩, List.mem_of_getElem? (i := 1572) (by decide +kernel), List.mem_of_getElem? (i := 2548) (by decide +kernel), List.mem_of_getElem? (i := 2549) (by decide +kernel)⟩
theorem lw_p213 : lw_okq (⟨"IndexedCompilerModel", "call", "(I)I"⟩, 145) := ⟨⟨by decide +kernel, by decide +kernel⟩, List.mem_of_getElem? (i := 1572) (by decide +kernel), List.mem_of_getElem? (i := 2552) (by decide +kernel), List.mem_of_getElem? (i := 2553) (by decide +kernel)⟩
def lw_privs_14 : List (MethodName × Nat) := [(⟨"IndexedCompilerModel", "push", "(I)V"⟩, 145), (⟨"IndexedCompilerModel", "pop", "()I"⟩, 145), (⟨"IndexedCompilerModel", "reckonTwo", "(I)I"⟩, 145), (⟨"IndexedCompilerModel", "newRow", "()I"⟩, 145), (⟨"IndexedCompilerModel", "access", "(I)I"⟩, 145), (⟨"IndexedCompilerModel", "call", "(I)I"⟩, 145)]
theorem lw_r14 : ∀ q ∈ lw_privs_14, lw_okq q := List.forall_mem_cons.mpr ⟨lw_p208, List.forall_mem_cons.mpr ⟨lw_p209, List.forall_mem_cons.mpr ⟨lw_p210, List.forall_mem_cons.mpr ⟨lw_p211, List.forall_mem_cons.mpr ⟨lw_p212, List.forall_mem_cons.mpr ⟨lw_p213, fun _ h => absurd h List.not_mem_nil⟩⟩⟩⟩⟩⟩
def lw_privs : List (MethodName × Nat) := lw_privs_1 ++ (lw_privs_2 ++ (lw_privs_3 ++ (lw_privs_4 ++ (lw_privs_5 ++ (lw_privs_6 ++ (lw_privs_7 ++ (lw_privs_8 ++ (lw_privs_9 ++ (lw_privs_10 ++ (lw_privs_11 ++ (lw_privs_12 ++ (lw_privs_13 ++ (lw_privs_14)))))))))))))
def lw_tbl : List Cond := k2_sels lw_privs ++ tables_1
theorem lw_privs_ok : ∀ q ∈ lw_privs, lw_okq q := by
  show ∀ q ∈ lw_privs_1 ++ (lw_privs_2 ++ (lw_privs_3 ++ (lw_privs_4 ++ (lw_privs_5 ++ (lw_privs_6 ++ (lw_privs_7 ++ (lw_privs_8 ++ (lw_privs_9 ++ (lw_privs_10 ++ (lw_privs_11 ++ (lw_privs_12 ++ (lw_privs_13 ++ (lw_privs_14))))))))))))), lw_okq q
  exact List.forall_mem_append.mpr ⟨lw_r1, List.forall_mem_append.mpr ⟨lw_r2, List.forall_mem_append.mpr ⟨lw_r3, List.forall_mem_append.mpr ⟨lw_r4, List.forall_mem_append.mpr ⟨lw_r5, List.forall_mem_append.mpr ⟨lw_r6, List.forall_mem_append.mpr ⟨lw_r7, List.forall_mem_append.mpr ⟨lw_r8, List.forall_mem_append.mpr ⟨lw_r9, List.forall_mem_append.mpr ⟨lw_r10, List.forall_mem_append.mpr ⟨lw_r11, List.forall_mem_append.mpr ⟨lw_r12, List.forall_mem_append.mpr ⟨lw_r13, lw_r14⟩⟩⟩⟩⟩⟩⟩⟩⟩⟩⟩⟩⟩
end
section
/-! A SMALL MACHINE whose runs are Props that Lean computes: a state is a list of locals, a stack, a list of cells by their POSITIONS (0: the script; the others in the order of their making); mm_ words are mine. -/
/-- a position's address: the script's cell b, or the cell that was made as the k-th since the heap had z cells -/
def mm_A (b z : Nat) : Nat → Nat
  | 0 => b
  | k + 1 => z + k
def mm_v (A : Nat → Nat) : Value → Value
  | .ref p => .ref (A p)
  | v => v
def mm_L (A : Nat → Nat) (ls : List (Nat × Value)) : List (Nat × Value) := ls.map (fun q => (q.1, mm_v A q.2))
def mm_S (A : Nat → Nat) (st : List Value) : List Value := st.map (mm_v A)
theorem mm_cat (A : Nat → Nat) (v : Value) : (mm_v A v).category = v.category := by cases v <;> rfl
def mm_get : List (Nat × Value) → Nat → Option Value
  | [], _ => none
  | q :: r, i => if q.1 = i then some q.2 else mm_get r i
theorem mm_get_mem {i : Nat} {v : Value} : ∀ {ls : List (Nat × Value)}, mm_get ls i = some v → (i, v) ∈ ls
  | [], h => by simp [mm_get] at h
  | q :: r, h => by
    unfold mm_get at h
    split at h
    · rename_i hq
      cases h
      subst hq
      exact List.mem_cons_self
    · exact List.mem_cons_of_mem _ (mm_get_mem h)
theorem mm_get_has {A : Nat → Nat} {L : Array Slot} {nL i : Nat} {v : Value} {ls : List (Nat × Value)} (hl : lv_has L nL (mm_L A ls)) (h : mm_get ls i = some v) : L[i]? = some (.val (mm_v A v)) :=
  hl.2.2 (i, mm_v A v) (List.mem_map.mpr ⟨(i, v), mm_get_mem h, rfl⟩)
def mm_set1 (ls : List (Nat × Value)) (i : Nat) (v : Value) : List (Nat × Value) := (i, v) :: ls.filter (fun q => !(q.1 == i) && !(q.1 + 1 == i && q.2.category == 2))
def mm_set2 (ls : List (Nat × Value)) (i : Nat) (v : Value) : List (Nat × Value) := (i, v) :: ls.filter (fun q => !(q.1 == i) && (!(q.1 == i + 1) && !(q.1 + 1 == i && q.2.category == 2)))
theorem mm_filter (A : Nat → Nat) (P : Nat → Nat → Bool) : ∀ ls : List (Nat × Value), (mm_L A ls).filter (fun q => P q.1 q.2.category) = mm_L A (ls.filter (fun q => P q.1 q.2.category))
  | [] => rfl
  | q :: r => by
    have ih := mm_filter A P r
    simp only [mm_L, List.map_cons, List.filter_cons, mm_cat] at ih ⊢
    split
    · rw [List.map_cons, ih]
    · exact ih
theorem mm_set1_L (A : Nat → Nat) (ls : List (Nat × Value)) (i : Nat) (v : Value) : (i, mm_v A v) :: (mm_L A ls).filter (fun q => !(q.1 == i) && !(q.1 + 1 == i && q.2.category == 2)) = mm_L A (mm_set1 ls i v) := by
  have h := mm_filter A (fun a c => !(a == i) && !(a + 1 == i && c == 2)) ls
  simp only [mm_set1, mm_L, List.map_cons] at h ⊢
  rw [h]
theorem mm_set2_L (A : Nat → Nat) (ls : List (Nat × Value)) (i : Nat) (v : Value) : (i, mm_v A v) :: (mm_L A ls).filter (fun q => !(q.1 == i) && (!(q.1 == i + 1) && !(q.1 + 1 == i && q.2.category == 2))) = mm_L A (mm_set2 ls i v) := by
  have h := mm_filter A (fun a c => !(a == i) && (!(a == i + 1) && !(a + 1 == i && c == 2))) ls
  simp only [mm_set2, mm_L, List.map_cons] at h ⊢
  rw [h]
-- the instructions, in groups
def mm_con : Instr → Option (Value × Nat)
  | .iconst n => some (.int (Int32.ofInt n), 1)
  | .bipush n => some (.int (Int8.ofInt n).toInt32, 2)
  | .sipush n => some (.int (Int16.ofInt n).toInt32, 3)
  | .lconst n => some (.long (Int64.ofNat (n : Nat)), 1)
  | .aconst_null => some (.null, 1)
  | _ => none
/-- a load: which local, its length, its kind (0 int, 1 long, 2 a reference) -/
def mm_ld : Instr → Option (Nat × Nat × Nat)
  | .iload_n k => some ((k : Nat), 1, 0)
  | .iload i => some (i, 2, 0)
  | .lload_n k => some ((k : Nat), 1, 1)
  | .lload i => some (i, 2, 1)
  | .aload_n k => some ((k : Nat), 1, 2)
  | .aload i => some (i, 2, 2)
  | _ => none
def mm_sto : Instr → Option (Nat × Nat × Nat)
  | .istore_n k => some ((k : Nat), 1, 0)
  | .istore i => some (i, 2, 0)
  | .lstore_n k => some ((k : Nat), 1, 1)
  | .lstore i => some (i, 2, 1)
  | .astore_n k => some ((k : Nat), 1, 2)
  | .astore i => some (i, 2, 2)
  | _ => none
def mm_kind : Nat → Value → Bool
  | 0, .int _ => true
  | 1, .long _ => true
  | 2, .ref _ => true
  | 2, .null => true
  | _, _ => false
def mm_bin : Instr → Option (Int32 → Int32 → Int32)
  | .iadd => some (fun x y => x + y)
  | .isub => some (fun x y => x - y)
  | .imul => some (fun x y => x * y)
  | .iand => some (fun x y => x &&& y)
  | .ior => some (fun x y => x ||| y)
  | .ixor => some (fun x y => x ^^^ y)
  | .ishl => some (fun x y => x <<< (y &&& 31))
  | .ishr => some (fun x y => x >>> (y &&& 31))
  | .iushr => some (fun x y => (x.toUInt32 >>> (y.toUInt32 &&& Int32.toUInt32 31)).toInt32)
  | _ => none
def mm_binL : Instr → Option (Int64 → Int64 → Int64)
  | .ladd => some (fun x y => x + y)
  | .lsub => some (fun x y => x - y)
  | .lmul => some (fun x y => x * y)
  | .land => some (fun x y => x &&& y)
  | .lor => some (fun x y => x ||| y)
  | .lxor => some (fun x y => x ^^^ y)
  | _ => none
def mm_un : Instr → Value → Option Value
  | .ineg, .int x => some (.int (-x))
  | .i2c, .int x => some (.int (x.toUInt32 % 65536).toInt32)
  | .i2b, .int x => some (.int x.toInt8.toInt32)
  | .i2s, .int x => some (.int x.toInt16.toInt32)
  | .i2l, .int x => some (.long x.toInt64)
  | .l2i, .long x => some (.int x.toInt32)
  | .lneg, .long x => some (.long (-x))
  | _, _ => none
/-- a division: the divisor is not 0 -/
def mm_div : Instr → Option (Int32 → Int32 → Int32)
  | .idiv => some (fun x y => x / y)
  | .irem => some (fun x y => x - x / y * y)
  | _ => none
def mm_divL : Instr → Option (Int64 → Int64 → Int64)
  | .ldiv => some (fun x y => x / y)
  | .lrem => some (fun x y => x - x / y * y)
  | _ => none
def mm_stk : Instr → List Value → Option (List Value)
  | .dup, a :: r => if a.category = 1 then some (a :: a :: r) else none
  | .pop, a :: r => if a.category = 1 then some r else none
  | .dup_x1, a :: b :: r => if a.category = 1 ∧ b.category = 1 then some (a :: b :: a :: r) else none
  | .dup_x2, a :: b :: d :: r => if a.category = 1 ∧ b.category = 1 ∧ d.category = 1 then some (a :: b :: d :: a :: r) else none
  | .dup2, a :: r => if a.category = 2 then some (a :: a :: r) else match r with
    | b :: r => if a.category = 1 ∧ b.category = 1 then some (a :: b :: a :: b :: r) else none
    | [] => none
  | .pop2, a :: r => if a.category = 2 then some r else none
  | .dup2_x1, a :: b :: r => if a.category = 2 ∧ b.category = 1 then some (a :: b :: a :: r) else none
  | .dup2_x2, a :: b :: d :: r => if a.category = 2 ∧ b.category = 1 ∧ d.category = 1 then some (a :: b :: d :: a :: r) else none
  | _, _ => none
/-- a branch on ints: the condition, the offset, the rest -/
def mm_br : Instr → List Value → Option (Prop × Int × List Value)
  | .ifCond .eq o, .int x :: r => some (x = 0, o, r)
  | .ifCond .ne o, .int x :: r => some (¬ x = 0, o, r)
  | .ifCond .lt o, .int x :: r => some (x < 0, o, r)
  | .ifCond .ge o, .int x :: r => some (0 ≤ x, o, r)
  | .ifCond .gt o, .int x :: r => some (0 < x, o, r)
  | .ifCond .le o, .int x :: r => some (x ≤ 0, o, r)
  | .if_icmp .eq o, .int y :: .int x :: r => some (x = y, o, r)
  | .if_icmp .ne o, .int y :: .int x :: r => some (¬ x = y, o, r)
  | .if_icmp .lt o, .int y :: .int x :: r => some (x < y, o, r)
  | .if_icmp .ge o, .int y :: .int x :: r => some (y ≤ x, o, r)
  | .if_icmp .gt o, .int y :: .int x :: r => some (y < x, o, r)
  | .if_icmp .le o, .int y :: .int x :: r => some (x ≤ y, o, r)
  | _, _ => none
section MmPure
variable {p : Program} {l : Launch} {e : Env} {R : Room} {s : State} {m : MethodId} {args : Array Value} {below : List Frame} {meth : Method} {c : Code} {H : Heap} {locs : List Loc} {cells slots : Nat} {Q : State → Prop} {cc : ByteArray} {pc : Nat} {ins : Instr} {L : Array Slot} {nL : Nat} {A : Nat → Nat} {ls : List (Nat × Value)} {rest : List Value}
theorem mm_con_ok (hx : p.tables.exec = Jvm.exec) (hb : c.code = cc) {v : Value} {len : Nat} (h : mm_con ins = some (v, len)) (hdg : decode cc pc = .ok (ins, len))
    (k : W p l e R s m args below meth c H locs cells slots Q (F0 m (pc + len) L (mm_v A v :: rest))) : W p l e R s m args below meth c H locs cells slots Q (F0 m pc L rest) := by
  unfold mm_con at h
  split at h
  · cases h; exact lv_iconst hx hb hdg rfl k
  · cases h; exact lv_bipush hx hb hdg rfl k
  · cases h; exact lv_sipush hx hb hdg rfl k
  · cases h; exact lv_lconst hx hb hdg rfl k
  · cases h; exact lv_null hx hb hdg k
  · cases h
theorem mm_ld_ok (hx : p.tables.exec = Jvm.exec) (hb : c.code = cc) {i len kd : Nat} {v : Value} (h : mm_ld ins = some (i, len, kd)) (hv : L[i]? = some (.val (mm_v A v))) (hk : mm_kind kd v = true) (hdg : decode cc pc = .ok (ins, len))
    (k : W p l e R s m args below meth c H locs cells slots Q (F0 m (pc + len) L (mm_v A v :: rest))) : W p l e R s m args below meth c H locs cells slots Q (F0 m pc L rest) := by
  unfold mm_ld at h
  split at h
  · cases h; unfold mm_kind at hk; split at hk <;> first | (cases hk; done) | (rename_i h1; cases h1; done) | exact lv_iload_n hx hb hdg rfl hv k
  · cases h; unfold mm_kind at hk; split at hk <;> first | (cases hk; done) | (rename_i h1; cases h1; done) | exact lv_iload hx hb hdg hv k
  · cases h; unfold mm_kind at hk; split at hk <;> first | (cases hk; done) | (rename_i h1; cases h1; done) | exact lv_lload_n hx hb hdg rfl hv k
  · cases h; unfold mm_kind at hk; split at hk <;> first | (cases hk; done) | (rename_i h1; cases h1; done) | exact lv_lload hx hb hdg hv k
  · cases h; unfold mm_kind at hk; split at hk <;> first | (cases hk; done) | (rename_i h1; cases h1; done) | exact lv_aload_n hx hb hdg rfl hv k | exact lv_aload_nN hx hb hdg rfl hv k
  · cases h; unfold mm_kind at hk; split at hk <;> first | (cases hk; done) | (rename_i h1; cases h1; done) | exact lv_aload hx hb hdg hv k | exact lv_aloadN hx hb hdg hv k
  · cases h
theorem mm_bin_ok (hx : p.tables.exec = Jvm.exec) (hb : c.code = cc) {f : Int32 → Int32 → Int32} {x y : Int32} (h : mm_bin ins = some f) (hdg : decode cc pc = .ok (ins, 1))
    (k : W p l e R s m args below meth c H locs cells slots Q (F0 m (pc + 1) L (.int (f x y) :: rest))) : W p l e R s m args below meth c H locs cells slots Q (F0 m pc L (.int y :: .int x :: rest)) := by
  unfold mm_bin at h
  split at h
  · cases h; exact lv_iadd hx hb hdg k
  · cases h; exact lv_isub hx hb hdg k
  · cases h; exact lv_imul hx hb hdg k
  · cases h; exact lv_iand hx hb hdg k
  · cases h; exact lv_ior hx hb hdg k
  · cases h; exact lv_ixor hx hb hdg k
  · cases h; exact lv_ishl hx hb hdg k
  · cases h; exact lv_ishr hx hb hdg k
  · cases h; exact lv_iushr hx hb hdg rfl k
  · cases h
theorem mm_binL_ok (hx : p.tables.exec = Jvm.exec) (hb : c.code = cc) {f : Int64 → Int64 → Int64} {x y : Int64} (h : mm_binL ins = some f) (hdg : decode cc pc = .ok (ins, 1))
    (k : W p l e R s m args below meth c H locs cells slots Q (F0 m (pc + 1) L (.long (f x y) :: rest))) : W p l e R s m args below meth c H locs cells slots Q (F0 m pc L (.long y :: .long x :: rest)) := by
  unfold mm_binL at h
  split at h
  · cases h; exact lv_ladd hx hb hdg k
  · cases h; exact lv_lsub hx hb hdg k
  · cases h; exact lv_lmul hx hb hdg k
  · cases h; exact lv_land hx hb hdg k
  · cases h; exact lv_lor hx hb hdg k
  · cases h; exact lv_lxor hx hb hdg k
  · cases h
theorem mm_un_ok (hx : p.tables.exec = Jvm.exec) (hb : c.code = cc) {v w : Value} (h : mm_un ins v = some w) (hdg : decode cc pc = .ok (ins, 1))
    (k : W p l e R s m args below meth c H locs cells slots Q (F0 m (pc + 1) L (mm_v A w :: rest))) : W p l e R s m args below meth c H locs cells slots Q (F0 m pc L (mm_v A v :: rest)) := by
  unfold mm_un at h
  split at h
  · cases h; exact lv_ineg hx hb hdg k
  · cases h; exact lv_i2c hx hb hdg rfl k
  · cases h; exact lv_i2b hx hb hdg rfl k
  · cases h; exact lv_i2s hx hb hdg rfl k
  · cases h; exact lv_i2l hx hb hdg rfl k
  · cases h; exact lv_l2i hx hb hdg rfl k
  · cases h; exact lv_lneg hx hb hdg k
  · cases h
theorem mm_div_ok (hx : p.tables.exec = Jvm.exec) (hb : c.code = cc) {f : Int32 → Int32 → Int32} {x y : Int32} (h : mm_div ins = some f) (hy : ¬ y = 0) (hdg : decode cc pc = .ok (ins, 1))
    (k : W p l e R s m args below meth c H locs cells slots Q (F0 m (pc + 1) L (.int (f x y) :: rest))) : W p l e R s m args below meth c H locs cells slots Q (F0 m pc L (.int y :: .int x :: rest)) := by
  unfold mm_div at h
  split at h
  · cases h; exact lv_idiv hx hb hdg hy k
  · cases h; exact lv_irem hx hb hdg hy k
  · cases h
theorem mm_divL_ok (hx : p.tables.exec = Jvm.exec) (hb : c.code = cc) {f : Int64 → Int64 → Int64} {x y : Int64} (h : mm_divL ins = some f) (hy : ¬ y = 0) (hdg : decode cc pc = .ok (ins, 1))
    (k : W p l e R s m args below meth c H locs cells slots Q (F0 m (pc + 1) L (.long (f x y) :: rest))) : W p l e R s m args below meth c H locs cells slots Q (F0 m pc L (.long y :: .long x :: rest)) := by
  unfold mm_divL at h
  split at h
  · cases h; exact lv_ldiv hx hb hdg hy k
  · cases h; exact lv_lrem hx hb hdg hy k
  · cases h
theorem mm_stk_ok (hx : p.tables.exec = Jvm.exec) (hb : c.code = cc) {st st' : List Value} (h : mm_stk ins st = some st') (hdg : decode cc pc = .ok (ins, 1))
    (k : W p l e R s m args below meth c H locs cells slots Q (F0 m (pc + 1) L (mm_S A st'))) : W p l e R s m args below meth c H locs cells slots Q (F0 m pc L (mm_S A st)) := by
  unfold mm_stk at h
  split at h
  · split at h
    · rename_i h1; cases h; exact lv_dup hx hb hdg (by rw [mm_cat]; exact h1) k
    · cases h
  · split at h
    · rename_i h1; cases h; exact lv_pop hx hb hdg (by rw [mm_cat]; exact h1) k
    · cases h
  · split at h
    · rename_i h1; cases h; exact lv_dup_x1 hx hb hdg (by rw [mm_cat]; exact h1.1) (by rw [mm_cat]; exact h1.2) k
    · cases h
  · split at h
    · rename_i h1; cases h; exact lv_dup_x2 hx hb hdg (by rw [mm_cat]; exact h1.1) (by rw [mm_cat]; exact h1.2.1) (by rw [mm_cat]; exact h1.2.2) k
    · cases h
  · split at h
    · rename_i h1; cases h; exact lv_dup2_2 hx hb hdg (by rw [mm_cat]; exact h1) k
    · split at h
      · split at h
        · rename_i h1; cases h; exact lv_dup2_11 hx hb hdg (by rw [mm_cat]; exact h1.1) (by rw [mm_cat]; exact h1.2) k
        · cases h
      · cases h
  · split at h
    · rename_i h1; cases h; exact lv_pop2_2 hx hb hdg (by rw [mm_cat]; exact h1) k
    · cases h
  · split at h
    · rename_i h1; cases h; exact lv_dup2_x1_2 hx hb hdg (by rw [mm_cat]; exact h1.1) (by rw [mm_cat]; exact h1.2) k
    · cases h
  · split at h
    · rename_i h1; cases h; exact lv_dup2_x2_2 hx hb hdg (by rw [mm_cat]; exact h1.1) (by rw [mm_cat]; exact h1.2.1) (by rw [mm_cat]; exact h1.2.2) k
    · cases h
  · cases h
theorem mm_br_ok (hx : p.tables.exec = Jvm.exec) (hb : c.code = cc) {st st' : List Value} {P : Prop} {o : Int} {tgt : Nat} (h : mm_br ins st = some (P, o, st')) (hdg : decode cc pc = .ok (ins, 3)) (ht : (pc : Int) + o = (tgt : Int))
    (kt : P → W p l e R s m args below meth c H locs cells slots Q (F0 m tgt L (mm_S A st'))) (kf : ¬ P → W p l e R s m args below meth c H locs cells slots Q (F0 m (pc + 3) L (mm_S A st'))) : W p l e R s m args below meth c H locs cells slots Q (F0 m pc L (mm_S A st)) := by
  unfold mm_br at h
  split at h
  · cases h; exact lv_if_eq hx hb hdg ht kt kf
  · cases h; exact lv_if_ne hx hb hdg ht kt (fun q => kf (fun n => n q))
  · cases h; exact lv_if_lt hx hb hdg ht kt kf
  · cases h; exact lv_if_ge hx hb hdg ht kt kf
  · cases h; exact lv_if_gt hx hb hdg ht kt kf
  · cases h; exact lv_if_le hx hb hdg ht kt kf
  · cases h; exact lv_icmp_eq hx hb hdg ht kt kf
  · cases h; exact lv_icmp_ne hx hb hdg ht kt (fun q => kf (fun n => n q))
  · cases h; exact lv_icmp_lt hx hb hdg ht kt kf
  · cases h; exact lv_icmp_ge hx hb hdg ht kt kf
  · cases h; exact lv_icmp_gt hx hb hdg ht kt kf
  · cases h; exact lv_icmp_le hx hb hdg ht kt kf
  · cases h
theorem mm_sto_ok (hx : p.tables.exec = Jvm.exec) (hb : c.code = cc) {i len kd : Nat} {v : Value} (h : mm_sto ins = some (i, len, kd)) (hk : mm_kind kd v = true) (hl : lv_has L nL (mm_L A ls)) (hn : i + 1 < nL ∨ (i < nL ∧ v.category = 1)) (hdg : decode cc pc = .ok (ins, len))
    (k : ∀ L', lv_has L' nL (mm_L A (if v.category = 2 then mm_set2 ls i v else mm_set1 ls i v)) → W p l e R s m args below meth c H locs cells slots Q (F0 m (pc + len) L' rest)) : W p l e R s m args below meth c H locs cells slots Q (F0 m pc L (mm_v A v :: rest)) := by
  have hi : i < nL := hn.elim (fun q => by omega) (fun q => q.1)
  have k1 : ∀ L', lv_has L' nL (mm_L A (mm_set1 ls i v)) → v.category = 1 → W p l e R s m args below meth c H locs cells slots Q (F0 m (pc + len) L' rest) := fun L' q q1 => k L' (by rw [if_neg (by omega)]; exact q)
  have k2 : ∀ L', lv_has L' nL (mm_L A (mm_set2 ls i v)) → v.category = 2 → W p l e R s m args below meth c H locs cells slots Q (F0 m (pc + len) L' rest) := fun L' q q1 => k L' (by rw [if_pos q1]; exact q)
  unfold mm_sto at h
  split at h
  · cases h; unfold mm_kind at hk; split at hk <;> first | (cases hk; done) | (rename_i h1; cases h1; done) | exact lv_istore_n hx hb hdg rfl hl hi (mm_set1_L A ls _ (.int _)) (fun L' q => k1 L' q rfl)
  · cases h; unfold mm_kind at hk; split at hk <;> first | (cases hk; done) | (rename_i h1; cases h1; done) | exact lv_istore hx hb hdg hl hi (mm_set1_L A ls _ (.int _)) (fun L' q => k1 L' q rfl)
  · cases h; unfold mm_kind at hk; split at hk <;> first | (cases hk; done) | (rename_i h1; cases h1; done) | exact lv_lstore_n hx hb hdg rfl hl (hn.elim (fun q => q) (fun q => by have := q.2; simp [Value.category] at this)) (mm_set2_L A ls _ (.long _)) (fun L' q => k2 L' q rfl)
  · cases h; unfold mm_kind at hk; split at hk <;> first | (cases hk; done) | (rename_i h1; cases h1; done) | exact lv_lstore hx hb hdg hl (hn.elim (fun q => q) (fun q => by have := q.2; simp [Value.category] at this)) (mm_set2_L A ls _ (.long _)) (fun L' q => k2 L' q rfl)
  · cases h; unfold mm_kind at hk; split at hk <;> first | (cases hk; done) | (rename_i h1; cases h1; done) | exact lv_astore_n hx hb hdg rfl hl hi (mm_set1_L A ls _ (.ref _)) (fun L' q => k1 L' q rfl) | exact lv_astore_nN hx hb hdg rfl hl hi (mm_set1_L A ls _ .null) (fun L' q => k1 L' q rfl)
  · cases h; unfold mm_kind at hk; split at hk <;> first | (cases hk; done) | (rename_i h1; cases h1; done) | exact lv_astore hx hb hdg hl hi (mm_set1_L A ls _ (.ref _)) (fun L' q => k1 L' q rfl) | exact lv_astoreN hx hb hdg hl hi (mm_set1_L A ls _ .null) (fun L' q => k1 L' q rfl)
  · cases h
end MmPure
end
section
/-! THE CELLS of the small machine: a list g of them; position p + 1 is g's p-th; position 0 is the script. -/
def mm_a (A : Nat → Nat) : vp_A → vp_A
  | (n, .inr (.inr (.inr (.inr f)))) => (n, .inr (.inr (.inr (.inr (fun i => (f i).map A)))))
  | a => a
def mm_e (A : Nat → Nat) (cT : Nat → Nat) : va_E → va_E
  | .inl (t, a) => .inl (cT t, mm_a A a)
  | .inr (ci, fs) => .inr (ci, fs.map (mm_v A))
def mm_W (A : Nat → Nat) (cT : Nat → Nat) : Nat → List va_E → va_W
  | _, [] => []
  | p, e :: r => (A (p + 1), mm_e A cT e) :: mm_W A cT (p + 1) r
theorem mm_W_get (A : Nat → Nat) (cT : Nat → Nat) : ∀ (g : List va_E) (p i : Nat), (mm_W A cT p g)[i]? = (g[i]?).map (fun e => (A (p + i + 1), mm_e A cT e))
  | [], p, i => by simp [mm_W]
  | e :: r, p, 0 => by simp [mm_W]
  | e :: r, p, i + 1 => by
    have := mm_W_get A cT r (p + 1) i
    simp only [mm_W, List.getElem?_cons_succ, this]
    rw [show p + 1 + i + 1 = p + (i + 1) + 1 by omega]
theorem mm_W_set (A : Nat → Nat) (cT : Nat → Nat) (e' : va_E) : ∀ (g : List va_E) (p i : Nat), (mm_W A cT p g).set i (A (p + i + 1), mm_e A cT e') = mm_W A cT p (g.set i e')
  | [], p, i => by simp [mm_W]
  | e :: r, p, 0 => by simp [mm_W]
  | e :: r, p, i + 1 => by
    have := mm_W_set A cT e' r (p + 1) i
    rw [show p + 1 + i + 1 = p + (i + 1) + 1 by omega] at this
    simp only [mm_W, List.set_cons_succ, this]
theorem mm_W_app (A : Nat → Nat) (cT : Nat → Nat) (e' : va_E) : ∀ (g : List va_E) (p : Nat), mm_W A cT p (g ++ [e']) = mm_W A cT p g ++ [(A (p + g.length + 1), mm_e A cT e')]
  | [], p => by simp [mm_W]
  | e :: r, p => by
    have := mm_W_app A cT e' r (p + 1)
    simp only [List.cons_append, mm_W, this, List.length_cons]
    rw [show p + 1 + r.length + 1 = p + (r.length + 1) + 1 by omega]
def mm_T (cT : Nat → Nat) : Nat → List FieldType → List (ClassId × FieldType)
  | _, [] => []
  | t, y :: r => (cT t, y) :: mm_T cT (t + 1) r
theorem mm_T_get (cT : Nat → Nat) : ∀ (l : List FieldType) (t i : Nat), (mm_T cT t l)[i]? = (l[i]?).map (fun y => (cT (t + i), y))
  | [], t, i => by simp [mm_T]
  | y :: r, t, 0 => by simp [mm_T]
  | y :: r, t, i + 1 => by
    have := mm_T_get cT r (t + 1) i
    simp only [mm_T, List.getElem?_cons_succ, this]
    rw [show t + 1 + i = t + (i + 1) by omega]
/-- what a heap is: the cells of g, the script, nothing else has changed since the method's start -/
def mm_R (D : va_G) (cl : List vw_C) (cT : Nat → Nat) (b z Ln : Nat) (xs : Nat → Int32) (s : State) (g : List va_E) (H : Heap) (locs : List Loc) : Prop :=
  H.size = z + g.length ∧ va_P D cl (mm_W (mm_A b z) cT 0 g) H ∧ va_S (fun q => z ≤ q) s.heap H locs ∧ va_X b Ln xs s s.heap ∧ b < z ∧ z ≤ s.heap.size
theorem mm_R.D {D : va_G} {cl : List vw_C} {cT : Nat → Nat} {b z Ln : Nat} {xs : Nat → Int32} {s : State} {g : List va_E} {H : Heap} {locs : List Loc} (_ : mm_R D cl cT b z Ln xs s g H locs) : va_D (fun q => z ≤ q) (mm_W (mm_A b z) cT 0 g) := by
  refine ⟨fun i j p q hi hj he => ?_, fun k q hk => ?_⟩
  · rw [mm_W_get] at hi hj
    obtain ⟨e1, h1, rfl⟩ := Option.map_eq_some_iff.mp hi
    obtain ⟨e2, h2, rfl⟩ := Option.map_eq_some_iff.mp hj
    simp only [mm_A] at he
    omega
  · rw [mm_W_get] at hk
    obtain ⟨e1, h1, rfl⟩ := Option.map_eq_some_iff.mp hk
    simp only [mm_A]
    omega
theorem mm_at {D : va_G} {cl : List vw_C} {cT : Nat → Nat} {b z Ln : Nat} {xs : Nat → Int32} {s : State} {g : List va_E} {H : Heap} {locs : List Loc} (_ : mm_R D cl cT b z Ln xs s g H locs) {q : Nat} {e : va_E} (h : g[q]? = some e) : (mm_W (mm_A b z) cT 0 g)[q]? = some (mm_A b z (q + 1), mm_e (mm_A b z) cT e) := by
  rw [mm_W_get, h]
  simp
theorem mm_R.set {D : va_G} {cl : List vw_C} {cT : Nat → Nat} {b z Ln : Nat} {xs : Nat → Int32} {s : State} {g : List va_E} {H H1 : Heap} {locs locs1 : List Loc} (r : mm_R D cl cT b z Ln xs s g H locs) {q : Nat} {e' : va_E}
    (hP : va_P D cl ((mm_W (mm_A b z) cT 0 g).set q (mm_A b z (q + 1), mm_e (mm_A b z) cT e')) H1) (hS : va_S (fun q => z ≤ q) s.heap H1 locs1) (hz : H1.size = H.size) : mm_R D cl cT b z Ln xs s (g.set q e') H1 locs1 := by
  obtain ⟨h1, -, -, h4, h5, h6⟩ := r
  have hW := mm_W_set (mm_A b z) cT e' g 0 q
  rw [Nat.zero_add] at hW
  rw [hW] at hP
  exact ⟨by rw [hz, h1, List.length_set], hP, hS, h4, h5, h6⟩
theorem mm_R.push {D : va_G} {cl : List vw_C} {cT : Nat → Nat} {b z Ln : Nat} {xs : Nat → Int32} {s : State} {g : List va_E} {H H1 : Heap} {locs : List Loc} (r : mm_R D cl cT b z Ln xs s g H locs) {e' : va_E}
    (hn : va_at D cl (H.size, mm_e (mm_A b z) cT e') H1) (hz : H1.size = H.size + 1) (ho : ∀ q, q < H.size → H1[q]? = H[q]?) : mm_R D cl cT b z Ln xs s (g ++ [e']) H1 locs := by
  obtain ⟨h1, h2, h3, h4, h5, h6⟩ := r
  have hA : mm_A b z (0 + g.length + 1) = H.size := by simp only [mm_A]; omega
  refine ⟨by rw [hz, h1, List.length_append]; rfl, ?_, ⟨by have := h3.1; omega, fun q hq hn => ?_, h3.2.2⟩, h4, h5, h6⟩
  · rw [mm_W_app, hA]
    refine (h2.kept fun k x hx => ho _ (h2 k x hx).lt).app (fun k x hx => ?_)
    have hk : k = 0 := by
      have := (List.getElem?_eq_some_iff.mp hx).1
      simp at this
      omega
    subst hk
    cases hx
    exact hn
  · rw [ho q (by have := h3.1; omega)]
    exact h3.2.1 q hq hn
theorem mm_R.X {D : va_G} {cl : List vw_C} {cT : Nat → Nat} {b z Ln : Nat} {xs : Nat → Int32} {s : State} {g : List va_E} {H : Heap} {locs : List Loc} (r : mm_R D cl cT b z Ln xs s g H locs) : va_X b Ln xs s H := by
  obtain ⟨h1, h2, h3, ⟨scr, q1, q2, q3, q4, q5⟩, h5, h6⟩ := r
  exact ⟨scr, by rw [h3.2.1 b (by omega) (by omega)]; exact q1, q2, q3, q4, q5⟩
end
section
/-! ONE STEP, the part that touches no cell. nx: what must hold of the next state. -/
/-- an instruction's length (a switch's is not told here) -/
def mm_ln (ins : Instr) : Nat := match ins with
  | .bipush _ | .iload _ | .lload _ | .aload _ | .istore _ | .lstore _ | .astore _ | .newarray _ | .ldc _ => 2
  | .sipush _ | .goto _ | .ifCond _ _ | .if_icmp _ _ | .if_acmp _ _ | .ifnull _ | .ifnonnull _ | .iinc _ _ | .getfield _ | .putfield _ | .getstatic _ | .new _ | .anewarray _
  | .invokevirtual _ | .invokespecial _ | .invokestatic _ | .ldc_w _ | .ldc2_w _ => 3
  | _ => 1
theorem mm_con_ln {ins : Instr} {v : Value} {n : Nat} (h : mm_con ins = some (v, n)) : mm_ln ins = n := by
  unfold mm_con at h
  split at h <;> cases h <;> rfl
theorem mm_ld_ln {ins : Instr} {i n kd : Nat} (h : mm_ld ins = some (i, n, kd)) : mm_ln ins = n := by
  unfold mm_ld at h
  split at h <;> cases h <;> rfl
theorem mm_sto_ln {ins : Instr} {i n kd : Nat} (h : mm_sto ins = some (i, n, kd)) : mm_ln ins = n := by
  unfold mm_sto at h
  split at h <;> cases h <;> rfl
theorem mm_bin_ln {ins : Instr} {f : Int32 → Int32 → Int32} (h : mm_bin ins = some f) : mm_ln ins = 1 := by
  unfold mm_bin at h
  split at h <;> cases h <;> rfl
theorem mm_binL_ln {ins : Instr} {f : Int64 → Int64 → Int64} (h : mm_binL ins = some f) : mm_ln ins = 1 := by
  unfold mm_binL at h
  split at h <;> cases h <;> rfl
theorem mm_div_ln {ins : Instr} {f : Int32 → Int32 → Int32} (h : mm_div ins = some f) : mm_ln ins = 1 := by
  unfold mm_div at h
  split at h <;> cases h <;> rfl
theorem mm_divL_ln {ins : Instr} {f : Int64 → Int64 → Int64} (h : mm_divL ins = some f) : mm_ln ins = 1 := by
  unfold mm_divL at h
  split at h <;> cases h <;> rfl
theorem mm_un_ln {ins : Instr} {v w : Value} (h : mm_un ins v = some w) : mm_ln ins = 1 := by
  unfold mm_un at h
  split at h <;> cases h <;> rfl
theorem mm_stk_ln {ins : Instr} {st st' : List Value} (h : mm_stk ins st = some st') : mm_ln ins = 1 := by
  unfold mm_stk at h
  split at h <;> first | (cases h; done) | rfl
theorem mm_br_ln {ins : Instr} {st st' : List Value} {P : Prop} {o : Int} (h : mm_br ins st = some (P, o, st')) : mm_ln ins = 3 := by
  unfold mm_br at h
  split at h <;> cases h <;> rfl
/-- where a branch goes -/
def mm_tgt (pc : Nat) (o : Int) : Option Nat := match (pc : Int) + o with
  | .ofNat t => some t
  | .negSucc _ => none
theorem mm_tgt_ok {pc t : Nat} {o : Int} (h : mm_tgt pc o = some t) : (pc : Int) + o = (t : Int) := by
  unfold mm_tgt at h
  split at h
  · rename_i t' he
    cases h
    exact he
  · cases h
def mm_s1 (nL : Nat) (nx : Nat → List (Nat × Value) → List Value → Prop) (ins : Instr) (pc : Nat) (ls : List (Nat × Value)) (st : List Value) : Option Prop :=
  match mm_con ins with
  | some (v, _) => some (nx (pc + mm_ln ins) ls (v :: st))
  | none =>
  match mm_ld ins with
  | some (i, _, kd) => match mm_get ls i with
    | some v => match mm_kind kd v with
      | true => some (nx (pc + mm_ln ins) ls (v :: st))
      | false => some False
    | none => some False
  | none =>
  match mm_sto ins with
  | some (i, _, kd) => match st with
    | v :: r => match mm_kind kd v with
      | true => match decide (i + v.category ≤ nL) with
        | true => some (nx (pc + mm_ln ins) (if v.category = 2 then mm_set2 ls i v else mm_set1 ls i v) r)
        | false => some False
      | false => some False
    | [] => some False
  | none =>
  match mm_bin ins with
  | some f => match st with
    | .int y :: .int x :: r => some (nx (pc + 1) ls (.int (f x y) :: r))
    | _ => some False
  | none =>
  match mm_br ins st with
  | some (c, o, r) => match mm_tgt pc o with
    | some t => some ((c → nx t ls r) ∧ (¬ c → nx (pc + 3) ls r))
    | none => some False
  | none =>
  match mm_stk ins st with
  | some r => some (nx (pc + 1) ls r)
  | none =>
  match mm_binL ins with
  | some f => match st with
    | .long y :: .long x :: r => some (nx (pc + 1) ls (.long (f x y) :: r))
    | _ => some False
  | none =>
  match mm_div ins with
  | some f => match st with
    | .int y :: .int x :: r => some (¬ y = 0 ∧ nx (pc + 1) ls (.int (f x y) :: r))
    | _ => some False
  | none =>
  match mm_divL ins with
  | some f => match st with
    | .long y :: .long x :: r => some (¬ y = 0 ∧ nx (pc + 1) ls (.long (f x y) :: r))
    | _ => some False
  | none =>
  match ins with
  | .goto o => match mm_tgt pc o with
    | some t => some (nx t ls st)
    | none => some False
  | .iinc i c => match mm_get ls i with
    | some (.int x) => match decide (i < nL) with
      | true => some (nx (pc + 3) (mm_set1 ls i (.int (x + Int32.ofInt c))) st)
      | false => some False
    | _ => some False
  | .ifnull o => match st with
    | .null :: r => match mm_tgt pc o with
      | some t => some (nx t ls r)
      | none => some False
    | .ref _ :: r => some (nx (pc + 3) ls r)
    | _ => some False
  | .ifnonnull o => match st with
    | .ref _ :: r => match mm_tgt pc o with
      | some t => some (nx t ls r)
      | none => some False
    | .null :: r => some (nx (pc + 3) ls r)
    | _ => some False
  | .lcmp => match st with
    | .long y :: .long x :: r => some (nx (pc + 1) ls (.int (lg_cmp x y) :: r))
    | _ => some False
  | _ => match st with
    | v :: r => match mm_un ins v with
      | some w => some (nx (pc + 1) ls (w :: r))
      | none => none
    | [] => none
section MmS1
variable {p : Program} {l : Launch} {e : Env} {R : Room} {s : State} {m : MethodId} {args : Array Value} {below : List Frame} {meth : Method} {c : Code} {H : Heap} {locs : List Loc} {cells slots : Nat} {Q : State → Prop} {cc : ByteArray} {pc : Nat} {ins : Instr} {L : Array Slot} {nL : Nat} {A : Nat → Nat} {ls : List (Nat × Value)} {st : List Value}
set_option maxHeartbeats 1000000 in
theorem mm_s1_ok (hx : p.tables.exec = Jvm.exec) (hb : c.code = cc) {nx : Nat → List (Nat × Value) → List Value → Prop} {X : Prop} (h : mm_s1 nL nx ins pc ls st = some X) (hX : X) (hdg : decode cc pc = .ok (ins, mm_ln ins)) (hl : lv_has L nL (mm_L A ls))
    (k : ∀ pc' ls' st' L', nx pc' ls' st' → lv_has L' nL (mm_L A ls') → W p l e R s m args below meth c H locs cells slots Q (F0 m pc' L' (mm_S A st'))) : W p l e R s m args below meth c H locs cells slots Q (F0 m pc L (mm_S A st)) := by
  unfold mm_s1 at h
  split at h
  · rename_i v n hc
    cases h
    have hn := mm_con_ln hc
    rw [hn] at hdg hX
    exact mm_con_ok (A := A) hx hb hc hdg (k _ _ _ L hX hl)
  split at h
  · rename_i i n kd hc
    have hn := mm_ld_ln hc
    rw [hn] at hdg h
    split at h
    · rename_i v hv
      split at h
      · rename_i hk
        cases h
        exact mm_ld_ok (A := A) hx hb hc (mm_get_has hl hv) hk hdg (k _ _ _ L hX hl)
      · cases h; exact hX.elim
    · cases h; exact hX.elim
  split at h
  · rename_i i n kd hc
    have hn := mm_sto_ln hc
    rw [hn] at hdg h
    split at h
    · rename_i v r
      split at h
      · rename_i hk
        split at h
        · rename_i hd
          cases h
          have hd := of_decide_eq_true hd
          refine mm_sto_ok (A := A) hx hb hc hk hl ?_ hdg (fun L' hl' => k _ _ _ L' hX hl')
          rcases lv_cat v with q | q
          · exact Or.inr ⟨by omega, q⟩
          · exact Or.inl (by omega)
        · cases h; exact hX.elim
      · cases h; exact hX.elim
    · cases h; exact hX.elim
  split at h
  · rename_i f hc
    rw [mm_bin_ln hc] at hdg
    split at h
    · cases h; exact mm_bin_ok hx hb hc hdg (k _ _ _ L hX hl)
    · cases h; exact hX.elim
  split at h
  · rename_i c' o r hc
    rw [mm_br_ln hc] at hdg
    split at h
    · rename_i t ht
      cases h
      exact mm_br_ok (A := A) hx hb hc hdg (mm_tgt_ok ht) (fun q => k _ _ _ L (hX.1 q) hl) (fun q => k _ _ _ L (hX.2 q) hl)
    · cases h; exact hX.elim
  split at h
  · rename_i r hc
    rw [mm_stk_ln hc] at hdg
    cases h; exact mm_stk_ok (A := A) hx hb hc hdg (k _ _ _ L hX hl)
  split at h
  · rename_i f hc
    rw [mm_binL_ln hc] at hdg
    split at h
    · cases h; exact mm_binL_ok hx hb hc hdg (k _ _ _ L hX hl)
    · cases h; exact hX.elim
  split at h
  · rename_i f hc
    rw [mm_div_ln hc] at hdg
    split at h
    · cases h; exact mm_div_ok hx hb hc hX.1 hdg (k _ _ _ L hX.2 hl)
    · cases h; exact hX.elim
  split at h
  · rename_i f hc
    rw [mm_divL_ln hc] at hdg
    split at h
    · cases h; exact mm_divL_ok hx hb hc hX.1 hdg (k _ _ _ L hX.2 hl)
    · cases h; exact hX.elim
  split at h
  · split at h
    · rename_i t ht
      cases h; exact lv_goto hx hb hdg (mm_tgt_ok ht) (k _ _ _ L hX hl)
    · cases h; exact hX.elim
  · split at h
    · rename_i x hv
      split at h
      · rename_i hd
        cases h
        have hm := mm_get_mem hv
        have hm2 : (_, Value.int x) ∈ mm_L A ls := List.mem_map.mpr ⟨_, hm, rfl⟩
        obtain ⟨j, hj⟩ := List.getElem?_of_mem hm2
        exact lv_iinc hx hb hdg hl (k := j) hj rfl (of_decide_eq_true hd) (mm_set1_L A ls _ (.int _)) (fun L' hl' => k _ _ _ L' hX hl')
      · cases h; exact hX.elim
    · cases h; exact hX.elim
  · split at h
    · split at h
      · rename_i t ht
        cases h; exact lv_ifnullN hx hb hdg (mm_tgt_ok ht) (k _ _ _ L hX hl)
      · cases h; exact hX.elim
    · cases h; exact lv_ifnull hx hb hdg (k _ _ _ L hX hl)
    · cases h; exact hX.elim
  · split at h
    · split at h
      · rename_i t ht
        cases h; exact lv_ifnonnull hx hb hdg (mm_tgt_ok ht) (k _ _ _ L hX hl)
      · cases h; exact hX.elim
    · cases h; exact lv_ifnonnullN hx hb hdg (k _ _ _ L hX hl)
    · cases h; exact hX.elim
  · split at h
    · cases h; exact W.lcmp hx hb hdg (k _ _ _ L hX hl)
    · cases h; exact hX.elim
  · split at h
    · split at h
      · rename_i w hc
        rw [mm_un_ln hc] at hdg
        cases h; exact mm_un_ok (A := A) hx hb hc hdg (k _ _ _ L hX hl)
      · cases h
    · cases h
end MmS1
end
section
/-! ONE STEP that touches cells. -/
theorem mm_R.put {D : va_G} {cl : List vw_C} {cT : Nat → Nat} {b z Ln : Nat} {xs : Nat → Int32} {s : State} {g : List va_E} {H H1 : Heap} {locs : List Loc} (r : mm_R D cl cT b z Ln xs s g H locs) {q : Nat} {e0 e' : va_E} (hq : g[q]? = some e0)
    (he : va_at D cl (mm_A b z (q + 1), mm_e (mm_A b z) cT e') H1) (hz : H1.size = H.size) (oq : ∀ x : Nat, x ≠ mm_A b z (q + 1) → H1[x]? = H[x]?) (i : Nat) : mm_R D cl cT b z Ln xs s (g.set q e') H1 (locs ++ [⟨mm_A b z (q + 1), i⟩]) :=
  r.set (r.2.1.set r.D (mm_at r hq) he oq) (r.2.2.1.put hz oq (by show z ≤ mm_A b z (q + 1); simp only [mm_A]; omega)) hz
theorem mm_cell_i (A : Nat → Nat) (cA : ClassId) (n : Nat) (f : Nat → Int32) : vp_cell cA (mm_a A (n, .inl f)) = arrV cA n (fun j => .int (f j)) := rfl
theorem mm_cell_l (A : Nat → Nat) (cA : ClassId) (n : Nat) (f : Nat → Int64) : vp_cell cA (mm_a A (n, .inr (.inl f))) = arrV cA n (fun j => .long (f j)) := rfl
theorem mm_cell_q (A : Nat → Nat) (cA : ClassId) (n : Nat) (f : Nat → Option Nat) : vp_cell cA (mm_a A (n, .inr (.inr (.inr (.inr f))))) = arrV cA n (fun j => va_rf ((f j).map A)) := rfl
section MmCell
variable {p : Program} {l : Launch} {e : Env} {R : Room} {s : State} {m : MethodId} {args : Array Value} {below : List Frame} {meth : Method} {c : Code} {H : Heap} {locs : List Loc} {cells slots : Nat} {Q : State → Prop} {cc : ByteArray} {pc : Nat} {L : Array Slot} {D : va_G} {cl : List vw_C} {cT : Nat → Nat} {b z Ln : Nat} {xs : Nat → Int32} {g : List va_E} {rest : List Value} {tyl : List FieldType} {TB : List Cond}
theorem mm_getf_ok (hx : p.tables.exec = Jvm.exec) (hb : c.code = cc) {own C : String} {T : u_T} {N ci index j q : Nat} {fs : List Value} {v : Value} (hts : ∀ w ∈ TB, w.before args s = true) (hin : ∀ w ∈ u_ws C T N, w ∈ TB) (hown : s.vm.findClass own = some m.cls) (hK : va_K D cl (mm_T cT 0 tyl) s) (hR : mm_R D cl cT b z Ln xs s g H locs)
    (hq : g[q]? = some (.inr (ci, fs))) (hc : cl[ci]? = some (C, T, N)) (hj : j < N) (hlink : Cond.fieldLink own index (T j).1 (T j).2.1 (T j).2.2.1 ∈ TB) (hv : fs[j]? = some v) (hdg : decode cc pc = .ok (.getfield index, 3))
    (k : W p l e R s m args below meth c H locs cells slots Q (F0 m (pc + 3) L (mm_v (mm_A b z) v :: rest))) : W p l e R s m args below meth c H locs cells slots Q (F0 m pc L (.ref (mm_A b z (q + 1)) :: rest)) :=
  va_get (fs := fs.map (mm_v (mm_A b z))) hx hb hts hin hown hK hR.2.1 q (mm_at hR hq) hc j hj (hts _ hlink) (fun _ h => h) (by rw [List.getElem?_map, hv]; rfl) hdg k
theorem mm_putf_ok (hx : p.tables.exec = Jvm.exec) (hb : c.code = cc) {own C : String} {T : u_T} {N ci index j q : Nat} {fs : List Value} {v : Value} {ft : Nat → FieldType} (hts : ∀ w ∈ TB, w.before args s = true) (hin : ∀ w ∈ u_ws C T N, w ∈ TB) (hown : s.vm.findClass own = some m.cls) (hK : va_K D cl (mm_T cT 0 tyl) s) (hR : mm_R D cl cT b z Ln xs s g H locs)
    (hq : g[q]? = some (.inr (ci, fs))) (hc : cl[ci]? = some (C, T, N)) (hj : j < N) (hlink : Cond.fieldLink own index (T j).1 (T j).2.1 (T j).2.2.1 ∈ TB) (hty : ∀ k, k < N → parseFieldDescriptor (T k).2.2.1 = some (ft k)) (hnm : ∀ a, a < N → ∀ b, b < N → a ≠ b → (T a).2.1 ≠ (T b).2.1)
    (hfin : (T j).2.2.2 = false ∨ ((T j).2.2.2 = true ∧ meth.name = "<init>" ∧ (T j).1 = own)) (hn : narrow (ft j) (mm_v (mm_A b z) v) = mm_v (mm_A b z) v) (hfit : fits (ft j) (mm_v (mm_A b z) v) = true) (hl : j < fs.length) (hdg : decode cc pc = .ok (.putfield index, 3))
    (k : ∀ H' i, mm_R D cl cT b z Ln xs s (g.set q (.inr (ci, fs.set j v))) H' (locs ++ [⟨mm_A b z (q + 1), i⟩]) → W p l e R s m args below meth c H' (locs ++ [⟨mm_A b z (q + 1), i⟩]) cells slots Q (F0 m (pc + 3) L rest)) : W p l e R s m args below meth c H locs cells slots Q (F0 m pc L (mm_v (mm_A b z) v :: .ref (mm_A b z (q + 1)) :: rest)) := by
  have hap := va_apart (own := own) hts hin ft hty hnm hK hc
  obtain ⟨r, h1, cell, q1, q2, q3, q4⟩ := hR.2.1 q _ (mm_at hR hq)
  have hr : r = (C, T, N) := Option.some.inj (h1.symm.trans hc)
  subst hr
  obtain ⟨hS, hfc, kC, hkC, hkind⟩ := hK.1 ci _ hc
  obtain ⟨cf, kf, fi, f, hi, hsl⟩ := hS j hj
  have hst := (u_facts hfc hkC (u_lays hts hin hj) hi).1
  have hlen : j < (fs.map (mm_v (mm_A b z))).length := by rw [List.length_map]; exact hl
  have fin : ∀ H' : Heap, H'[mm_A b z (q + 1)]? = some (cell.setSlot (D.2 ci j) (mm_v (mm_A b z) v)) → H'.size = H.size → (∀ x : Nat, x ≠ mm_A b z (q + 1) → H'[x]? = H[x]?) → W p l e R s m args below meth c H' (locs ++ [⟨mm_A b z (q + 1), D.2 ci j⟩]) cells slots Q (F0 m (pc + 3) L rest) := by
    intro H' e1 e2 e3
    refine k H' _ (hR.put hq ?_ e2 e3 _)
    refine ⟨_, hc, t_OB.to (V := updV (vp_V (fs.map (mm_v (mm_A b z)))) j (mm_v (mm_A b z) v)) ⟨_, e1, q2, q3, t_set q4 hap hj _⟩ (fun i _ => ?_)⟩
    rw [vp_updV_set hlen, ← List.map_set]
  have hlay := hts _ (hin _ (u_in_lay hj))
  unfold u_lay at hlay
  rcases hfin with hf | ⟨hf, hin2, hdecl⟩
  · rw [if_neg (by rw [hf]; decide)] at hlay
    have h6 := u_store hfc hkC hkind hlay hi (hty j hj) hn hfit
    refine W.putK hx hb (f := f) ⟨hown, hts _ hlink, ⟨_, _, _, hi⟩, hst⟩ (by rw [q2]; exact h6) q1 q3 (by rw [hsl]; exact k2_hasslot (q4 j hj)) rfl rfl hdg fun H' e1 e2 e3 => ?_
    rw [hsl] at e1 ⊢
    exact fin H' e1 e2 e3
  · rw [if_pos hf] at hlay
    have hcf : m.cls = cf := by
      obtain ⟨_, _, c', _, _, _, -, -, hf', -, -, -, hown2, -⟩ := Cond.laysFinal_spec hlay
      have e1 : c' = cf := by have := hi.symm.trans hf'; simp at this; exact this.1.symm
      rw [hdecl] at hown2
      rw [← e1]; exact Option.some.inj (hown.symm.trans hown2)
    have h6 := u_fits hfc hkC hkind (Or.inr hlay) hi (hty j hj) hn hfit
    refine W.putFinK hx hb hown (hts _ hlink) hi hst hcf hin2 (by rw [q2]; exact h6) q1 q3 (by rw [hsl]; exact k2_hasslot (q4 j hj)) rfl rfl hdg fun H' e1 e2 e3 => ?_
    rw [hsl] at e1 ⊢
    exact fin H' e1 e2 e3
theorem mm_ty (hK : va_K D cl (mm_T cT 0 tyl) s) {t : Nat} {ty : FieldType} (h : tyl[t]? = some ty) : (mm_T cT 0 tyl)[t]? = some (cT t, ty) := by
  rw [mm_T_get, h]
  simp
theorem mm_iast_ok (hx : p.tables.exec = Jvm.exec) (hb : c.code = cc) {q t n : Nat} {f : Nat → Int32} {i x : Int32} (hK : va_K D cl (mm_T cT 0 tyl) s) (hR : mm_R D cl cT b z Ln xs s g H locs) (hq : g[q]? = some (.inl (t, n, .inl f))) (ht : tyl[t]? = some .int) (hin : vp_in i n) (hdg : decode cc pc = .ok (.iastore, 1))
    (k : ∀ H' j, mm_R D cl cT b z Ln xs s (g.set q (.inl (t, n, .inl (upd f i.toNatClampNeg x)))) H' (locs ++ [⟨mm_A b z (q + 1), j⟩]) → W p l e R s m args below meth c H' (locs ++ [⟨mm_A b z (q + 1), j⟩]) cells slots Q (F0 m (pc + 1) L rest)) : W p l e R s m args below meth c H locs cells slots Q (F0 m pc L (.int x :: .int i :: .ref (mm_A b z (q + 1)) :: rest)) := by
  refine W.iast hx hb (hR.2.1 q _ (mm_at hR hq)) ((hK.2 t _ (mm_ty hK ht)).1 n (fun j => .int (f j))) (fun q => by cases q) (by show ¬ (i < 0 ∨ (arrV _ _ _).slots.size ≤ _); rw [arrV_size]; exact hin) rfl rfl hdg fun H1 e z oq => k H1 _ (hR.put hq ?_ z oq _)
  show H1[_]? = some (vp_cell _ _)
  rw [e]
  dsimp only
  rw [mm_cell_i, mm_cell_i, arrV_store]
  congr 2
  funext w
  by_cases hw : w = i.toNatClampNeg
  · subst hw; simp [updV, upd]
  · simp [updV, upd, hw]
theorem mm_zast_ok (hx : p.tables.exec = Jvm.exec) (hb : c.code = cc) {q t n : Nat} {f : Nat → Int32} {i x : Int32} (hK : va_K D cl (mm_T cT 0 tyl) s) (hR : mm_R D cl cT b z Ln xs s g H locs) (hq : g[q]? = some (.inl (t, n, .inl f))) (ht : tyl[t]? = some .boolean) (hin : vp_in i n) (hdg : decode cc pc = .ok (.bastore, 1))
    (k : ∀ H' j, mm_R D cl cT b z Ln xs s (g.set q (.inl (t, n, .inl (upd f i.toNatClampNeg (vp_nar .boolean x))))) H' (locs ++ [⟨mm_A b z (q + 1), j⟩]) → W p l e R s m args below meth c H' (locs ++ [⟨mm_A b z (q + 1), j⟩]) cells slots Q (F0 m (pc + 1) L rest)) : W p l e R s m args below meth c H locs cells slots Q (F0 m pc L (.int x :: .int i :: .ref (mm_A b z (q + 1)) :: rest)) := by
  refine W.zast hx hb (hR.2.1 q _ (mm_at hR hq)) ((hK.2 t _ (mm_ty hK ht)).1 n (fun j => .int (f j))) (fun q => by cases q) (by show ¬ (i < 0 ∨ (arrV _ _ _).slots.size ≤ _); rw [arrV_size]; exact hin) rfl rfl hdg fun H1 e z oq => k H1 _ (hR.put hq ?_ z oq _)
  show H1[_]? = some (vp_cell _ _)
  rw [e]
  dsimp only
  rw [mm_cell_i, mm_cell_i, arrV_store]
  congr 2
  funext w
  by_cases hw : w = i.toNatClampNeg
  · subst hw; simp [updV, upd, vp_nar]; try rfl
  · simp [updV, upd, hw]
theorem mm_cast_ok (hx : p.tables.exec = Jvm.exec) (hb : c.code = cc) {q t n : Nat} {f : Nat → Int32} {i x : Int32} (hK : va_K D cl (mm_T cT 0 tyl) s) (hR : mm_R D cl cT b z Ln xs s g H locs) (hq : g[q]? = some (.inl (t, n, .inl f))) (ht : tyl[t]? = some .char) (hin : vp_in i n) (hdg : decode cc pc = .ok (.castore, 1))
    (k : ∀ H' j, mm_R D cl cT b z Ln xs s (g.set q (.inl (t, n, .inl (upd f i.toNatClampNeg (vp_nar .char x))))) H' (locs ++ [⟨mm_A b z (q + 1), j⟩]) → W p l e R s m args below meth c H' (locs ++ [⟨mm_A b z (q + 1), j⟩]) cells slots Q (F0 m (pc + 1) L rest)) : W p l e R s m args below meth c H locs cells slots Q (F0 m pc L (.int x :: .int i :: .ref (mm_A b z (q + 1)) :: rest)) := by
  refine W.cast hx hb (hR.2.1 q _ (mm_at hR hq)) ((hK.2 t _ (mm_ty hK ht)).1 n (fun j => .int (f j))) (fun q => by cases q) (by show ¬ (i < 0 ∨ (arrV _ _ _).slots.size ≤ _); rw [arrV_size]; exact hin) rfl rfl hdg fun H1 e z oq => k H1 _ (hR.put hq ?_ z oq _)
  show H1[_]? = some (vp_cell _ _)
  rw [e]
  dsimp only
  rw [mm_cell_i, mm_cell_i, arrV_store]
  congr 2
  funext w
  by_cases hw : w = i.toNatClampNeg
  · subst hw; simp [updV, upd, vp_nar]; try rfl
  · simp [updV, upd, hw]
theorem mm_last_ok (hx : p.tables.exec = Jvm.exec) (hb : c.code = cc) {q t n : Nat} {f : Nat → Int64} {i : Int32} {x : Int64} (hK : va_K D cl (mm_T cT 0 tyl) s) (hR : mm_R D cl cT b z Ln xs s g H locs) (hq : g[q]? = some (.inl (t, n, .inr (.inl f)))) (ht : tyl[t]? = some .long) (hin : vp_in i n) (hdg : decode cc pc = .ok (.lastore, 1))
    (k : ∀ H' j, mm_R D cl cT b z Ln xs s (g.set q (.inl (t, n, .inr (.inl (vp_updL f i.toNatClampNeg x))))) H' (locs ++ [⟨mm_A b z (q + 1), j⟩]) → W p l e R s m args below meth c H' (locs ++ [⟨mm_A b z (q + 1), j⟩]) cells slots Q (F0 m (pc + 1) L rest)) : W p l e R s m args below meth c H locs cells slots Q (F0 m pc L (.long x :: .int i :: .ref (mm_A b z (q + 1)) :: rest)) := by
  refine W.last hx hb (hR.2.1 q _ (mm_at hR hq)) ((hK.2 t _ (mm_ty hK ht)).1 n (fun j => .long (f j))) (fun q => by cases q) (by show ¬ (i < 0 ∨ (arrV _ _ _).slots.size ≤ _); rw [arrV_size]; exact hin) rfl rfl hdg fun H1 e z oq => k H1 _ (hR.put hq ?_ z oq _)
  show H1[_]? = some (vp_cell _ _)
  rw [e]
  dsimp only
  rw [mm_cell_l, mm_cell_l, arrV_store]
  congr 2
  funext w
  by_cases hw : w = i.toNatClampNeg
  · subst hw; simp [updV, vp_updL]
  · simp [updV, vp_updL, hw]
theorem mm_aast_ok (hx : p.tables.exec = Jvm.exec) (hb : c.code = cc) {q q2 t n ci : Nat} {r : vw_C} {vs : List Value} {f : Nat → Option Nat} {i : Int32} (hK : va_K D cl (mm_T cT 0 tyl) s) (hR : mm_R D cl cT b z Ln xs s g H locs) (hq : g[q]? = some (.inl (t, n, .inr (.inr (.inr (.inr f)))))) (ht : tyl[t]? = some (.object r.1)) (hv : g[q2]? = some (.inr (ci, vs))) (hc : cl[ci]? = some r) (hin : vp_in i n) (hdg : decode cc pc = .ok (.aastore, 1))
    (k : ∀ H' j, mm_R D cl cT b z Ln xs s (g.set q (.inl (t, n, .inr (.inr (.inr (.inr (va_up f i.toNatClampNeg (some (q2 + 1))))))))) H' (locs ++ [⟨mm_A b z (q + 1), j⟩]) → W p l e R s m args below meth c H' (locs ++ [⟨mm_A b z (q + 1), j⟩]) cells slots Q (F0 m (pc + 1) L rest)) : W p l e R s m args below meth c H locs cells slots Q (F0 m pc L (.ref (mm_A b z (q2 + 1)) :: .int i :: .ref (mm_A b z (q + 1)) :: rest)) := by
  have hlt : i.toNatClampNeg < n := Nat.not_le.mp fun q => hin (Or.inr q)
  have h0 : ¬ i < 0 := fun q => hin (Or.inl q)
  obtain ⟨r', hr', cellV, g1, g2, g3, -⟩ := hR.2.1 q2 _ (mm_at hR hv)
  have hcls := (hK.1 ci r hc).2
  obtain ⟨kA, comp, k1, k2, k3, -⟩ := (hK.2 t _ (mm_ty hK ht)).2
  have hcomp : comp = D.1 ci := Option.some.inj (k3.symm.trans hcls.1)
  subst hcomp
  obtain ⟨kC, hkC, -⟩ := hcls.2
  refine W.aast hx hb (hR.2.1 q _ (mm_at hR hq)) (fun q h => by cases h) (fun h => by cases h) k1 k2 rfl hkC ⟨h0, by show _ < (arrV _ _ _).slots.size; rw [arrV_size]; exact hlt⟩ g1 (fun q h => by rw [g3] at h; cases h) (by rw [g2]; exact hkC) (by rw [g2]; exact va_assign hcls) rfl rfl hdg fun H1 e z oq => k H1 _ (hR.put hq ?_ z oq _)
  show H1[_]? = some (vp_cell _ _)
  rw [e]
  dsimp only
  rw [mm_cell_q, mm_cell_q, arrV_store]
  congr 2
  funext w
  by_cases hw : w = i.toNatClampNeg
  · subst hw; simp [updV, va_up, va_rf]
  · simp [updV, va_up, hw]
theorem mm_new_ok (hx : p.tables.exec = Jvm.exec) (hb : c.code = cc) {own C : String} {T : u_T} {N ci index : Nat} {dv : List Value} {ft : Nat → FieldType} (hts : ∀ w ∈ TB, w.before args s = true) (hin : ∀ w ∈ u_ws C T N, w ∈ TB) (hown : s.vm.findClass own = some m.cls) (hK : va_K D cl (mm_T cT 0 tyl) s) (hR : mm_R D cl cT b z Ln xs s g H locs)
    (hc : cl[ci]? = some (C, T, N)) (hty : ∀ k, k < N → parseFieldDescriptor (T k).2.2.1 = some (ft k)) (hcl : Cond.classLink own index C ∈ TB) (hinst : Cond.instantiable C N ∈ TB) (hini : Cond.initialized C ∈ TB) (hdv : ∀ j, j < N → defaultValue (ft j) = vp_V (dv.map (mm_v (mm_A b z))) j) (hcells : cells + 1 ≤ R.cells) (hslots : slots + N ≤ R.slots) (hdg : decode cc pc = .ok (.new index, 3))
    (k : ∀ H', mm_R D cl cT b z Ln xs s (g ++ [.inr (ci, dv)]) H' locs → W p l e R s m args below meth c H' locs (cells + 1) (slots + N) Q (F0 m (pc + 3) L (.ref (mm_A b z (g.length + 1)) :: rest))) : W p l e R s m args below meth c H locs cells slots Q (F0 m pc L rest) := by
  have hKn := hK.1 ci _ hc
  have hA : mm_A b z (g.length + 1) = H.size := by rw [hR.1]; rfl
  refine W.newcK hx hb hown (hts _ hcl) (hts _ hinst) (hts _ hini) rfl hdg hcells hslots hKn.2.1 rfl fun H1 kC hkC e1 z1 o1 => ?_
  rw [hA] at k
  exact k H1 (hR.push ⟨_, hc, (u_born ft hts hin hKn hkC e1 hty).to hdv⟩ z1 o1)
theorem mm_newa_ok (hx : p.tables.exec = Jvm.exec) (hb : c.code = cc) {at' : ArrayType} {t N : Nat} {a0 : vp_A} {n : Int32} (hts : ∀ w ∈ TB, w.before args s = true) (hK : va_K D cl (mm_T cT 0 tyl) s) (hR : mm_R D cl cT b z Ln xs s g H locs)
    (ht : tyl[t]? = some (newarray.typeOf at')) (harr : Cond.arrayClass (newarray.typeOf at') ∈ TB) (ha : ∀ cA : ClassId, vp_cell cA (mm_a (mm_A b z) a0) = arrV cA N (fun _ => defaultValue (newarray.typeOf at'))) (hn : ¬ n < 0) (hN : n.toNatClampNeg = N) (hbytes : N * componentBytes (newarray.typeOf at') ≤ 536870912) (hcells : cells + 1 ≤ R.cells) (hslots : slots + N ≤ R.slots) (hdg : decode cc pc = .ok (.newarray at', 2))
    (k : ∀ H', mm_R D cl cT b z Ln xs s (g ++ [.inl (t, a0)]) H' locs → W p l e R s m args below meth c H' locs (cells + 1) (slots + N) Q (F0 m (pc + 2) L (.ref (mm_A b z (g.length + 1)) :: rest))) : W p l e R s m args below meth c H locs cells slots Q (F0 m pc L (.int n :: rest)) := by
  have hA : mm_A b z (g.length + 1) = H.size := by rw [hR.1]; rfl
  refine va_newaK hx hb (hts _ harr) rfl hdg rfl hn hN hbytes hcells hslots rfl fun H1 cA e1 z1 o1 hAr hNm => ?_
  rw [hA] at k
  have hcA : cA = cT t := by
    have h := (hK.2 t _ (mm_ty hK ht)).2
    have h2 : s.vm.findClass ("[" ++ (newarray.typeOf at').toString) = some (cT t) := by cases at' <;> exact h
    exact Option.some.inj (hNm.symm.trans h2)
  subst hcA
  refine k H1 (hR.push ?_ z1 o1)
  show H1[H.size]? = some (vp_cell _ _)
  rw [ha]
  exact e1
theorem mm_newq_ok (hx : p.tables.exec = Jvm.exec) (hb : c.code = cc) {own C : String} {index t N : Nat} {n : Int32} (hts : ∀ w ∈ TB, w.before args s = true) (hown : s.vm.findClass own = some m.cls) (hK : va_K D cl (mm_T cT 0 tyl) s) (hR : mm_R D cl cT b z Ln xs s g H locs)
    (ht : tyl[t]? = some (.object C)) (hclink : Cond.classLink own index C ∈ TB) (hover : Cond.arrayOver (.object C) ∈ TB) (hn : ¬ n < 0) (hN : n.toNatClampNeg = N) (hbytes : N * 4 ≤ 536870912) (hcells : cells + 1 ≤ R.cells) (hslots : slots + N ≤ R.slots) (hdg : decode cc pc = .ok (.anewarray index, 3))
    (k : ∀ H', mm_R D cl cT b z Ln xs s (g ++ [.inl (t, N, .inr (.inr (.inr (.inr (fun _ => none)))))]) H' locs → W p l e R s m args below meth c H' locs (cells + 1) (slots + N) Q (F0 m (pc + 3) L (.ref (mm_A b z (g.length + 1)) :: rest))) : W p l e R s m args below meth c H locs cells slots Q (F0 m pc L (.int n :: rest)) := by
  have hA : mm_A b z (g.length + 1) = H.size := by rw [hR.1]; rfl
  subst hN
  refine W.anew hx hb hown (hts _ hclink) (hts _ hover) rfl hdg rfl hn hbytes hcells hslots fun cA kA comp f1 f2 f3 f4 => ?_
  rw [hA] at k
  have hcA : cA = cT t := by
    obtain ⟨kA', comp', -, -, -, h2⟩ := (hK.2 t _ (mm_ty hK ht)).2
    exact Option.some.inj (f1.symm.trans h2)
  subst hcA
  refine k _ (hR.push ?_ (by rw [Array.size_push]) (fun q hq => by rw [Array.getElem?_push, if_neg (Nat.ne_of_lt hq)]))
  show (H.push _)[H.size]? = some (vp_cell (cT t) (mm_a (mm_A b z) (_, .inr (.inr (.inr (.inr _))))))
  rw [Array.getElem?_push_size, mm_cell_q, arrV_new]
  rfl
theorem mm_newqa_ok (hx : p.tables.exec = Jvm.exec) (hb : c.code = cc) {own : String} {y : FieldType} {index t N : Nat} {n : Int32} (hts : ∀ w ∈ TB, w.before args s = true) (hown : s.vm.findClass own = some m.cls) (hK : va_K D cl (mm_T cT 0 tyl) s) (hR : mm_R D cl cT b z Ln xs s g H locs)
    (ht : tyl[t]? = some (.array y)) (hclink : Cond.classLink own index (FieldType.array y).toString ∈ TB) (hover : Cond.arrayOver (.array y) ∈ TB) (hn : ¬ n < 0) (hN : n.toNatClampNeg = N) (hbytes : N * 4 ≤ 536870912) (hcells : cells + 1 ≤ R.cells) (hslots : slots + N ≤ R.slots) (hdg : decode cc pc = .ok (.anewarray index, 3))
    (k : ∀ H', mm_R D cl cT b z Ln xs s (g ++ [.inl (t, N, .inr (.inr (.inr (.inr (fun _ => none)))))]) H' locs → W p l e R s m args below meth c H' locs (cells + 1) (slots + N) Q (F0 m (pc + 3) L (.ref (mm_A b z (g.length + 1)) :: rest))) : W p l e R s m args below meth c H locs cells slots Q (F0 m pc L (.int n :: rest)) := by
  have hA : mm_A b z (g.length + 1) = H.size := by rw [hR.1]; rfl
  subst hN
  refine W.anewA hx hb hown (hts _ hclink) (hts _ hover) rfl hdg rfl hn hbytes hcells hslots fun cA kA comp f1 f2 f3 f4 => ?_
  rw [hA] at k
  have hcA : cA = cT t := by
    have h2 := (hK.2 t _ (mm_ty hK ht)).2
    exact Option.some.inj (f1.symm.trans h2)
  subst hcA
  refine k _ (hR.push ?_ (by rw [Array.size_push]) (fun q hq => by rw [Array.getElem?_push, if_neg (Nat.ne_of_lt hq)]))
  show (H.push _)[H.size]? = some (vp_cell (cT t) (mm_a (mm_A b z) (_, .inr (.inr (.inr (.inr _))))))
  rw [Array.getElem?_push_size, mm_cell_q, arrV_new]
  rfl
end MmCell
end
section
/-! THE TABLES of the small machine, in one bundle; the steps that touch cells, as a function. -/
abbrev mm_P : Type := (Nat → Nat) × (Nat → List (Nat × Instr)) × (Nat → Nat) × (Nat → Option FieldType) × (Nat → Bool) × (Nat → Nat → Nat → Option Nat) × (Nat → Nat → Option Nat) × (Nat → Nat → Option (Nat × Nat)) × (Nat → Nat → FieldType × Bool) × (Nat → Nat → Option (Nat × List Value)) × (Nat → Nat → Option Nat) × (Nat → Nat → Option (Nat × Nat × Nat)) × (Nat → Nat → Option Int32) × (Nat → Nat → Option Int64) × (Nat → Nat → Option (Int × Nat × List Nat)) × (Nat → Option Nat) × Nat × Nat × Nat
/-- a method's class -/
abbrev mm_kc (P : mm_P) : Nat → Nat := P.1
/-- its code -/
abbrev mm_kd (P : mm_P) : Nat → List (Nat × Instr) := P.2.1
/-- its locals -/
abbrev mm_kl (P : mm_P) : Nat → Nat := P.2.2.1
/-- what it returns -/
abbrev mm_kr (P : mm_P) : Nat → Option FieldType := P.2.2.2.1
/-- is it a constructor -/
abbrev mm_ki (P : mm_P) : Nat → Bool := P.2.2.2.2.1
/-- where an exception of a class, thrown by the call at pc, is caught -/
abbrev mm_kh (P : mm_P) : Nat → Nat → Nat → Option Nat := P.2.2.2.2.2.1
/-- where a throw of a new exception begins: its class -/
abbrev mm_xt (P : mm_P) : Nat → Nat → Option Nat := P.2.2.2.2.2.2.1
/-- a field: its class, its place there -/
abbrev mm_fl (P : mm_P) : Nat → Nat → Option (Nat × Nat) := P.2.2.2.2.2.2.2.1
/-- a field's type, and whether it is final -/
abbrev mm_ft (P : mm_P) : Nat → Nat → FieldType × Bool := P.2.2.2.2.2.2.2.2.1
/-- what 'new' makes -/
abbrev mm_nl (P : mm_P) : Nat → Nat → Option (Nat × List Value) := P.2.2.2.2.2.2.2.2.2.1
/-- the type of what 'anewarray' makes -/
abbrev mm_al (P : mm_P) : Nat → Nat → Option Nat := P.2.2.2.2.2.2.2.2.2.2.1
/-- a call: the method, how many values it takes, its kind (0 static, 1 virtual, 2 a constructor, 3 Object's) -/
abbrev mm_ml (P : mm_P) : Nat → Nat → Option (Nat × Nat × Nat) := P.2.2.2.2.2.2.2.2.2.2.2.1
abbrev mm_cI (P : mm_P) : Nat → Nat → Option Int32 := P.2.2.2.2.2.2.2.2.2.2.2.2.1
abbrev mm_cL (P : mm_P) : Nat → Nat → Option Int64 := P.2.2.2.2.2.2.2.2.2.2.2.2.2.1
/-- a tableswitch: its least value, where it goes else, where it goes -/
abbrev mm_sw (P : mm_P) : Nat → Nat → Option (Int × Nat × List Nat) := P.2.2.2.2.2.2.2.2.2.2.2.2.2.2.1
/-- the class of what a row of references holds -/
abbrev mm_ec (P : mm_P) : Nat → Option Nat := P.2.2.2.2.2.2.2.2.2.2.2.2.2.2.2.1
abbrev mm_CM (P : mm_P) : Nat := P.2.2.2.2.2.2.2.2.2.2.2.2.2.2.2.2.1
abbrev mm_SM (P : mm_P) : Nat := P.2.2.2.2.2.2.2.2.2.2.2.2.2.2.2.2.2.1
abbrev mm_nT (P : mm_P) : Nat := P.2.2.2.2.2.2.2.2.2.2.2.2.2.2.2.2.2.2
/-- may a value go into a field of a type: 1 yes, 2 if it is narrow enough, 0 no -/
def mm_fit : FieldType → Value → Nat
  | .int, .int _ => 1
  | .long, .long _ => 1
  | .object _, .ref _ => 1
  | .object _, .null => 1
  | .array _, .ref _ => 1
  | .array _, .null => 1
  | .boolean, .int _ => 2
  | .char, .int _ => 2
  | _, _ => 0
theorem mm_fit_1 {A : Nat → Nat} {ty : FieldType} {v : Value} (h : mm_fit ty v = 1) : narrow ty (mm_v A v) = mm_v A v ∧ fits ty (mm_v A v) = true := by
  unfold mm_fit at h
  split at h <;> first | (cases h; done) | exact ⟨rfl, rfl⟩
theorem mm_fit_2 {A : Nat → Nat} {ty : FieldType} {v : Value} (h : mm_fit ty v = 2) : mm_v A v = v := by
  unfold mm_fit at h
  split at h <;> first | (cases h; done) | rfl
/-- the type's number and the zeros of a new row -/
def mm_nt : ArrayType → Option (Nat × (Nat → vp_A))
  | .int => some (0, fun n => (n, .inl (fun _ => 0)))
  | .long => some (1, fun n => (n, .inr (.inl (fun _ => 0))))
  | .char => some (2, fun n => (n, .inl (fun _ => 0)))
  | .boolean => some (3, fun n => (n, .inl (fun _ => 0)))
  | _ => none
def mm_s2 (P : mm_P) (k : Nat) (Ln : Nat) (xs : Nat → Int32) (nx : Nat → List Value → List va_E → Nat → Prop) (ins : Instr) (pc : Nat) (st : List Value) (g : List va_E) (sl : Nat) : Option Prop :=
  match ins with
  | .getfield i => match st with
    | .ref (q + 1) :: r => match g[q]? with
      | some (.inr (ci, fs)) => match mm_fl P (mm_kc P k) i with
        | some (cj, j) => match decide (ci = cj) with
          | true => match fs[j]? with
            | some v => some (nx (pc + 3) (v :: r) g sl)
            | none => some False
          | false => some False
        | none => some False
      | _ => some False
    | _ => some False
  | .putfield i => match st with
    | v :: .ref (q + 1) :: r => match g[q]? with
      | some (.inr (ci, fs)) => match mm_fl P (mm_kc P k) i with
        | some (cj, j) => match decide (ci = cj ∧ j < fs.length ∧ ((mm_ft P ci j).2 = false ∨ (mm_ki P k = true ∧ ci = mm_kc P k))) with
          | true => match mm_fit (mm_ft P ci j).1 v with
            | 1 => some (nx (pc + 3) r (g.set q (.inr (ci, fs.set j v))) sl)
            | 2 => some ((narrow (mm_ft P ci j).1 v = v ∧ fits (mm_ft P ci j).1 v = true) ∧ nx (pc + 3) r (g.set q (.inr (ci, fs.set j v))) sl)
            | _ => some False
          | false => some False
        | none => some False
      | _ => some False
    | _ => some False
  | .iaload => match st with
    | .int i :: .ref 0 :: r => some (vp_in i Ln ∧ nx (pc + 1) (.int (xs i.toNatClampNeg) :: r) g sl)
    | .int i :: .ref (q + 1) :: r => match g[q]? with
      | some (.inl (0, n, .inl f)) => some (vp_in i n ∧ nx (pc + 1) (.int (f i.toNatClampNeg) :: r) g sl)
      | _ => some False
    | _ => some False
  | .laload => match st with
    | .int i :: .ref (q + 1) :: r => match g[q]? with
      | some (.inl (1, n, .inr (.inl f))) => some (vp_in i n ∧ nx (pc + 1) (.long (f i.toNatClampNeg) :: r) g sl)
      | _ => some False
    | _ => some False
  | .caload => match st with
    | .int i :: .ref (q + 1) :: r => match g[q]? with
      | some (.inl (2, n, .inl f)) => some (vp_in i n ∧ nx (pc + 1) (.int (f i.toNatClampNeg) :: r) g sl)
      | _ => some False
    | _ => some False
  | .baload => match st with
    | .int i :: .ref (q + 1) :: r => match g[q]? with
      | some (.inl (3, n, .inl f)) => some (vp_in i n ∧ nx (pc + 1) (.int (f i.toNatClampNeg) :: r) g sl)
      | _ => some False
    | _ => some False
  | .aaload => match st with
    | .int i :: .ref (q + 1) :: r => match g[q]? with
      | some (.inl (t, n, .inr (.inr (.inr (.inr f))))) => match decide (4 ≤ t ∧ t < mm_nT P) with
        | true => some (vp_in i n ∧ nx (pc + 1) (va_rf (f i.toNatClampNeg) :: r) g sl)
        | false => some False
      | _ => some False
    | _ => some False
  | .iastore => match st with
    | .int x :: .int i :: .ref (q + 1) :: r => match g[q]? with
      | some (.inl (0, n, .inl f)) => some (vp_in i n ∧ nx (pc + 1) r (g.set q (.inl (0, n, .inl (upd f i.toNatClampNeg x)))) sl)
      | _ => some False
    | _ => some False
  | .lastore => match st with
    | .long x :: .int i :: .ref (q + 1) :: r => match g[q]? with
      | some (.inl (1, n, .inr (.inl f))) => some (vp_in i n ∧ nx (pc + 1) r (g.set q (.inl (1, n, .inr (.inl (vp_updL f i.toNatClampNeg x))))) sl)
      | _ => some False
    | _ => some False
  | .castore => match st with
    | .int x :: .int i :: .ref (q + 1) :: r => match g[q]? with
      | some (.inl (2, n, .inl f)) => some (vp_in i n ∧ nx (pc + 1) r (g.set q (.inl (2, n, .inl (upd f i.toNatClampNeg (vp_nar .char x))))) sl)
      | _ => some False
    | _ => some False
  | .bastore => match st with
    | .int x :: .int i :: .ref (q + 1) :: r => match g[q]? with
      | some (.inl (3, n, .inl f)) => some (vp_in i n ∧ nx (pc + 1) r (g.set q (.inl (3, n, .inl (upd f i.toNatClampNeg (vp_nar .boolean x))))) sl)
      | _ => some False
    | _ => some False
  | .aastore => match st with
    | .ref (q2 + 1) :: .int i :: .ref (q + 1) :: r => match g[q]? with
      | some (.inl (t, n, .inr (.inr (.inr (.inr f))))) => match g[q2]? with
        | some (.inr (ci, _)) => match mm_ec P t with
          | some cj => match decide (ci = cj) with
            | true => some (vp_in i n ∧ nx (pc + 1) r (g.set q (.inl (t, n, .inr (.inr (.inr (.inr (va_up f i.toNatClampNeg (some (q2 + 1))))))))) sl)
            | false => some False
          | none => some False
        | _ => some False
      | _ => some False
    | _ => some False
  | .arraylength => match st with
    | .ref 0 :: r => some (nx (pc + 1) (.int (Int32.ofNat Ln) :: r) g sl)
    | .ref (q + 1) :: r => match g[q]? with
      | some (.inl (t, a)) => match decide (t < mm_nT P) with
        | true => some (nx (pc + 1) (.int (Int32.ofNat a.1) :: r) g sl)
        | false => some False
      | _ => some False
    | _ => some False
  | .newarray y => match st with
    | .int x :: r => match mm_nt y with
      | some (t, a0) => some ((¬ x < 0 ∧ x.toNatClampNeg ≤ 1000000 ∧ g.length + 1 ≤ mm_CM P ∧ sl + x.toNatClampNeg ≤ mm_SM P) ∧ nx (pc + 2) (.ref (g.length + 1) :: r) (g ++ [.inl (t, a0 x.toNatClampNeg)]) (sl + x.toNatClampNeg))
      | none => some False
    | _ => some False
  | .anewarray i => match st with
    | .int x :: r => match mm_al P (mm_kc P k) i with
      | some t => some ((¬ x < 0 ∧ x.toNatClampNeg ≤ 1000000 ∧ g.length + 1 ≤ mm_CM P ∧ sl + x.toNatClampNeg ≤ mm_SM P) ∧ nx (pc + 3) (.ref (g.length + 1) :: r) (g ++ [.inl (t, x.toNatClampNeg, .inr (.inr (.inr (.inr (fun _ => none)))))]) (sl + x.toNatClampNeg))
      | none => some False
    | _ => some False
  | .new i => match mm_nl P (mm_kc P k) i with
    | some (ci, dv) => some ((g.length + 1 ≤ mm_CM P ∧ sl + dv.length ≤ mm_SM P) ∧ nx (pc + 3) (.ref (g.length + 1) :: st) (g ++ [.inr (ci, dv)]) (sl + dv.length))
    | none => some False
  | .ldc i => match mm_cI P (mm_kc P k) i with
    | some v => some (nx (pc + 2) (.int v :: st) g sl)
    | none => some False
  | .ldc2_w i => match mm_cL P (mm_kc P k) i with
    | some v => some (nx (pc + 3) (.long v :: st) g sl)
    | none => some False
  | _ => none
/-- the tables tell the truth, so far as cells go. cn: the classes' names -/
def mm_ok2 (P : mm_P) (TB : List Cond) (cl : List vw_C) (tyl : List FieldType) (cn : Nat → String) : Prop :=
  (∀ ci C T N, cl[ci]? = some (C, T, N) → (∀ w ∈ u_ws C T N, w ∈ TB) ∧ (∀ j, j < N → parseFieldDescriptor (T j).2.2.1 = some (mm_ft P ci j).1 ∧ (T j).2.2.2 = (mm_ft P ci j).2 ∧ (T j).1 = C) ∧ (∀ a, a < N → ∀ b, b < N → a ≠ b → (T a).2.1 ≠ (T b).2.1) ∧ (0 < N → cn ci = C))
  ∧ (∀ o i ci j, mm_fl P o i = some (ci, j) → ∃ C T N, cl[ci]? = some (C, T, N) ∧ j < N ∧ Cond.fieldLink (cn o) i (T j).1 (T j).2.1 (T j).2.2.1 ∈ TB)
  ∧ (∀ o i ci dv, mm_nl P o i = some (ci, dv) → ∃ C T N, cl[ci]? = some (C, T, N) ∧ Cond.classLink (cn o) i C ∈ TB ∧ Cond.instantiable C N ∈ TB ∧ Cond.initialized C ∈ TB ∧ dv.length = N ∧ (∀ v ∈ dv, ∀ q, v ≠ .ref q) ∧ ∀ j, j < N → defaultValue (mm_ft P ci j).1 = vp_V dv j)
  ∧ (∀ o i t, mm_al P o i = some t → (∃ C, tyl[t]? = some (.object C) ∧ Cond.classLink (cn o) i C ∈ TB ∧ Cond.arrayOver (.object C) ∈ TB) ∨ (∃ y, tyl[t]? = some (.array y) ∧ Cond.classLink (cn o) i (FieldType.array y).toString ∈ TB ∧ Cond.arrayOver (.array y) ∈ TB))
  ∧ (∀ y t a0, mm_nt y = some (t, a0) → tyl[t]? = some (newarray.typeOf y) ∧ Cond.arrayClass (newarray.typeOf y) ∈ TB)
  ∧ (∀ o i v, mm_cI P o i = some v → Cond.constant (cn o) i v ∈ TB)
  ∧ (∀ o i v, mm_cL P o i = some v → Cond.constantLong (cn o) i v ∈ TB)
  ∧ (tyl.length = mm_nT P ∧ (∀ t, 4 ≤ t → t < mm_nT P → ∃ y, tyl[t]? = some y ∧ y.isReference = true))
  ∧ (∀ t ci, mm_ec P t = some ci → ∃ r : vw_C, tyl[t]? = some (.object r.1) ∧ cl[ci]? = some r)
theorem mm_dv {A : Nat → Nat} {dv : List Value} (h : ∀ v ∈ dv, ∀ q, v ≠ .ref q) : dv.map (mm_v A) = dv := by
  have : ∀ v ∈ dv, mm_v A v = v := fun v hv => by
    cases v <;> first | rfl | exact absurd rfl (h _ hv _)
  exact (List.map_congr_left this).trans (List.map_id' dv)
/-- the counters: what the method has made so far, and that all of it fits -/
def mm_cnt (P : mm_P) (gl0 sl0 cells slots : Nat) (g : List va_E) (sl : Nat) : Prop := cells + gl0 = g.length ∧ slots + sl0 = sl ∧ g.length ≤ mm_CM P ∧ sl ≤ mm_SM P
section MmS2
variable {p : Program} {l : Launch} {e : Env} {R : Room} {s : State} {m : MethodId} {args : Array Value} {below : List Frame} {meth : Method} {c : Code} {H : Heap} {locs : List Loc} {cells slots : Nat} {Q : State → Prop} {cc : ByteArray} {pc : Nat} {ins : Instr} {L : Array Slot} {D : va_G} {cl : List vw_C} {cT : Nat → Nat} {b z Ln : Nat} {xs : Nat → Int32} {g : List va_E} {st : List Value} {tyl : List FieldType} {TB : List Cond} {P : mm_P} {cn : Nat → String} {k sl gl0 sl0 : Nat}
theorem mm_fin {ci j kc : Nat} {ki : Bool} {C own : String} {T : u_T} {fin : Bool} {name : String} (h1 : (T j).2.2.2 = fin) (h2 : (T j).1 = C) (hi : ki = true → name = "<init>") (hc : ci = kc → C = own) (h : fin = false ∨ (ki = true ∧ ci = kc)) : (T j).2.2.2 = false ∨ ((T j).2.2.2 = true ∧ name = "<init>" ∧ (T j).1 = own) := by
  subst h1
  rcases h with h | ⟨h3, h4⟩
  · exact Or.inl h
  · cases hf : (T j).2.2.2 with
    | false => exact Or.inl rfl
    | true => exact Or.inr ⟨rfl, hi h3, h2.trans (hc h4)⟩
set_option maxHeartbeats 2000000 in
theorem mm_s2_ok (ok : mm_ok2 P TB cl tyl cn) (hx : p.tables.exec = Jvm.exec) (hb : c.code = cc) (hts : ∀ w ∈ TB, w.before args s = true) (hown : s.vm.findClass (cn (mm_kc P k)) = some m.cls) (hname : mm_ki P k = true → meth.name = "<init>") (hK : va_K D cl (mm_T cT 0 tyl) s)
    {nx : Nat → List Value → List va_E → Nat → Prop} {X : Prop} (h : mm_s2 P k Ln xs nx ins pc st g sl = some X) (hX : X) (hdg : decode cc pc = .ok (ins, mm_ln ins)) (hR : mm_R D cl cT b z Ln xs s g H locs) (hcnt : mm_cnt P gl0 sl0 cells slots g sl) (hCM : mm_CM P ≤ R.cells + gl0) (hSM : mm_SM P ≤ R.slots + sl0)
    (kk : ∀ pc' st' g' sl' H' locs' cells' slots', nx pc' st' g' sl' → mm_R D cl cT b z Ln xs s g' H' locs' → mm_cnt P gl0 sl0 cells' slots' g' sl' → W p l e R s m args below meth c H' locs' cells' slots' Q (F0 m pc' L (mm_S (mm_A b z) st'))) : W p l e R s m args below meth c H locs cells slots Q (F0 m pc L (mm_S (mm_A b z) st)) := by
  obtain ⟨okC, okF, okN, okA, okT, okI, okL, ⟨okn, okR⟩, okE⟩ := ok
  obtain ⟨hcells, hslots, hcap1, hcap2⟩ := id hcnt
  have hset : ∀ (q : Nat) (e' : va_E), mm_cnt P gl0 sl0 cells slots (g.set q e') sl := fun q e' => ⟨by rw [List.length_set]; exact hcells, hslots, by rw [List.length_set]; exact hcap1, hcap2⟩
  unfold mm_s2 at h
  split at h
  · split at h
    · split at h
      · rename_i ci fs hq
        split at h
        · rename_i cj j hf
          split at h
          · rename_i hd
            have hd := of_decide_eq_true hd
            subst hd
            split at h
            · rename_i v hv
              cases h
              obtain ⟨C, T, N, hc, hj, hl⟩ := okF _ _ _ _ hf
              exact mm_getf_ok hx hb hts (okC _ _ _ _ hc).1 hown hK hR hq hc hj hl hv hdg (kk _ _ _ _ _ _ _ _ hX hR hcnt)
            · cases h; exact hX.elim
          · cases h; exact hX.elim
        · cases h; exact hX.elim
      · cases h; exact hX.elim
    · cases h; exact hX.elim
  · split at h
    · split at h
      · rename_i ci fs hq
        split at h
        · rename_i cj j hf
          split at h
          · rename_i hd
            obtain ⟨hd1, hd2, hd3⟩ := of_decide_eq_true hd
            subst hd1
            obtain ⟨C, T, N, hc, hj, hl⟩ := okF _ _ _ _ hf
            obtain ⟨o1, o2, o3, o4⟩ := okC _ _ _ _ hc
            have hfin := mm_fin (own := cn (mm_kc P k)) (o2 _ hj).2.1 (o2 _ hj).2.2 hname (fun q => by rw [← q]; exact (o4 (by omega)).symm) hd3
            split at h
            · rename_i hft
              cases h
              have hft := mm_fit_1 (A := mm_A b z) hft
              exact mm_putf_ok (ft := fun i => (mm_ft P ci i).1) hx hb hts o1 hown hK hR hq hc hj hl (fun i hi => (o2 i hi).1) o3 hfin hft.1 hft.2 hd2 hdg (fun H' i r => kk _ _ _ _ _ _ _ _ hX r (hset _ _))
            · rename_i hft
              cases h
              have hft := mm_fit_2 (A := mm_A b z) hft
              exact mm_putf_ok (ft := fun i => (mm_ft P ci i).1) hx hb hts o1 hown hK hR hq hc hj hl (fun i hi => (o2 i hi).1) o3 hfin (by rw [hft]; exact hX.1.1) (by rw [hft]; exact hX.1.2) hd2 hdg (fun H' i r => kk _ _ _ _ _ _ _ _ hX.2 r (hset _ _))
            · cases h; exact hX.elim
          · cases h; exact hX.elim
        · cases h; exact hX.elim
      · cases h; exact hX.elim
    · cases h; exact hX.elim
  · split at h
    · cases h
      exact va_sld (A := fun q => z ≤ q) hx hb hR.2.2.2.1 (by have := hR.2.2.2.2.1; have := hR.2.2.2.2.2; omega) (by have := hR.2.2.2.2.1; show ¬ z ≤ b; omega) hR.2.2.1 hX.1 hdg (kk _ _ _ _ _ _ _ _ hX.2 hR hcnt)
    · split at h
      · rename_i hq
        cases h
        exact va_iald hx hb hK hR.2.1 _ 0 (mm_at hR hq) (mm_ty hK (okT .int _ _ rfl).1) hX.1 hdg (kk _ _ _ _ _ _ _ _ hX.2 hR hcnt)
      · cases h; exact hX.elim
    · cases h; exact hX.elim
  · split at h
    · split at h
      · rename_i hq
        cases h
        exact va_lald hx hb hK hR.2.1 _ 1 (mm_at hR hq) (mm_ty hK (okT .long _ _ rfl).1) hX.1 hdg (kk _ _ _ _ _ _ _ _ hX.2 hR hcnt)
      · cases h; exact hX.elim
    · cases h; exact hX.elim
  · split at h
    · split at h
      · rename_i hq
        cases h
        exact va_cald hx hb hK hR.2.1 _ 2 (mm_at hR hq) (mm_ty hK (okT .char _ _ rfl).1) hX.1 hdg (kk _ _ _ _ _ _ _ _ hX.2 hR hcnt)
      · cases h; exact hX.elim
    · cases h; exact hX.elim
  · split at h
    · split at h
      · rename_i hq
        cases h
        exact va_zald hx hb hK hR.2.1 _ 3 (mm_at hR hq) (mm_ty hK (okT .boolean _ _ rfl).1) hX.1 hdg (kk _ _ _ _ _ _ _ _ hX.2 hR hcnt)
      · cases h; exact hX.elim
    · cases h; exact hX.elim
  · split at h
    · split at h
      · rename_i t n f hq
        split at h
        · rename_i hd
          obtain ⟨hd1, hd2⟩ := of_decide_eq_true hd
          cases h
          obtain ⟨y, hy, hr⟩ := okR _ hd1 hd2
          have hlt : _ < n := Nat.not_le.mp fun q => hX.1 (Or.inr q)
          refine W.aald (v := mm_v (mm_A b z) (va_rf (f _))) (ty := y) hx hb (hR.2.1 _ _ (mm_at hR hq)) ((hK.2 t _ (mm_ty hK hy)).1 n (fun j => va_rf ((f j).map (mm_A b z)))) hr (fun q => by cases q) (by show ¬ (_ < 0 ∨ (arrV _ _ _).slots.size ≤ _); rw [arrV_size]; exact hX.1) ?_ rfl rfl hdg (kk _ _ _ _ _ _ _ _ hX.2 hR hcnt)
          show (arrV (cT t) n (fun j => va_rf ((f j).map (mm_A b z)))).slots[_]? = _
          rw [arrV_read _ _ hlt]
          cases f _ <;> rfl
        · cases h; exact hX.elim
      · cases h; exact hX.elim
    · cases h; exact hX.elim
  · split at h
    · split at h
      · rename_i hq
        cases h
        exact mm_iast_ok hx hb hK hR hq (okT .int _ _ rfl).1 hX.1 hdg (fun H' i r => kk _ _ _ _ _ _ _ _ hX.2 r (hset _ _))
      · cases h; exact hX.elim
    · cases h; exact hX.elim
  · split at h
    · split at h
      · rename_i hq
        cases h
        exact mm_last_ok hx hb hK hR hq (okT .long _ _ rfl).1 hX.1 hdg (fun H' i r => kk _ _ _ _ _ _ _ _ hX.2 r (hset _ _))
      · cases h; exact hX.elim
    · cases h; exact hX.elim
  · split at h
    · split at h
      · rename_i hq
        cases h
        exact mm_cast_ok hx hb hK hR hq (okT .char _ _ rfl).1 hX.1 hdg (fun H' i r => kk _ _ _ _ _ _ _ _ hX.2 r (hset _ _))
      · cases h; exact hX.elim
    · cases h; exact hX.elim
  · split at h
    · split at h
      · rename_i hq
        cases h
        exact mm_zast_ok hx hb hK hR hq (okT .boolean _ _ rfl).1 hX.1 hdg (fun H' i r => kk _ _ _ _ _ _ _ _ hX.2 r (hset _ _))
      · cases h; exact hX.elim
    · cases h; exact hX.elim
  · split at h
    · split at h
      · rename_i t n f hq
        split at h
        · rename_i ci fs hq2
          split at h
          · rename_i cj he
            split at h
            · rename_i hd
              have hd := of_decide_eq_true hd
              subst hd
              cases h
              obtain ⟨r, hr1, hr2⟩ := okE _ _ he
              exact mm_aast_ok hx hb hK hR hq hr1 hq2 hr2 hX.1 hdg (fun H' i r => kk _ _ _ _ _ _ _ _ hX.2 r (hset _ _))
            · cases h; exact hX.elim
          · cases h; exact hX.elim
        · cases h; exact hX.elim
      · cases h; exact hX.elim
    · cases h; exact hX.elim
  · split at h
    · cases h
      exact va_slen (A := fun q => z ≤ q) (b := b) hx hb hR.2.2.2.1 (by have := hR.2.2.2.2.1; have := hR.2.2.2.2.2; omega) (by have := hR.2.2.2.2.1; show ¬ z ≤ b; omega) hR.2.2.1 hdg (kk _ _ _ _ _ _ _ _ hX hR hcnt)
    · split at h
      · rename_i t a hq
        split at h
        · rename_i hd
          have hd := of_decide_eq_true hd
          cases h
          obtain ⟨y, hy⟩ : ∃ y, tyl[t]? = some y := ⟨tyl[t]'(by rw [okn]; exact hd), List.getElem?_eq_getElem (by rw [okn]; exact hd)⟩
          refine va_alen hx hb hK hR.2.1 _ t (mm_at hR hq) (mm_ty hK hy) ?_ hdg (kk _ _ _ _ _ _ _ _ hX hR hcnt)
          obtain ⟨n, f | f | f | f | f⟩ := a <;> rfl
        · cases h; exact hX.elim
      · cases h; exact hX.elim
    · cases h; exact hX.elim
  · rename_i y
    split at h
    · rename_i x r
      split at h
      · rename_i t a0 hn
        cases h
        obtain ⟨⟨x1, x2, x3, x4⟩, x5⟩ := hX
        obtain ⟨t1, t2⟩ := okT _ _ _ hn
        refine mm_newa_ok hx hb hts hK hR t1 t2 (a0 := a0 x.toNatClampNeg) ?_ x1 rfl ?_ (by omega) (by omega) hdg (fun H' r => kk _ _ _ _ _ _ _ _ x5 r ⟨by rw [List.length_append]; show cells + 1 + gl0 = g.length + 1; omega, by omega, by rw [List.length_append]; show g.length + 1 ≤ mm_CM P; omega, by omega⟩)
        · intro cA
          unfold mm_nt at hn
          split at hn <;> first | (cases hn; done) | (cases hn; rfl)
        · have : componentBytes (newarray.typeOf y) ≤ 8 := by cases y <;> decide
          calc x.toNatClampNeg * componentBytes (newarray.typeOf y) ≤ 1000000 * 8 := Nat.mul_le_mul x2 this
            _ ≤ 536870912 := by decide
      · cases h; exact hX.elim
    · cases h; exact hX.elim
  · split at h
    · split at h
      · rename_i t hn
        cases h
        obtain ⟨⟨x1, x2, x3, x4⟩, x5⟩ := hX
        rcases okA _ _ _ hn with ⟨C, t1, t2, t3⟩ | ⟨y, t1, t2, t3⟩
        · exact mm_newq_ok hx hb hts hown hK hR t1 t2 t3 x1 rfl (by omega) (by omega) (by omega) hdg (fun H' r => kk _ _ _ _ _ _ _ _ x5 r ⟨by rw [List.length_append]; show cells + 1 + gl0 = g.length + 1; omega, by omega, by rw [List.length_append]; show g.length + 1 ≤ mm_CM P; omega, by omega⟩)
        · exact mm_newqa_ok hx hb hts hown hK hR t1 t2 t3 x1 rfl (by omega) (by omega) (by omega) hdg (fun H' r => kk _ _ _ _ _ _ _ _ x5 r ⟨by rw [List.length_append]; show cells + 1 + gl0 = g.length + 1; omega, by omega, by rw [List.length_append]; show g.length + 1 ≤ mm_CM P; omega, by omega⟩)
      · cases h; exact hX.elim
    · cases h; exact hX.elim
  · split at h
    · rename_i ci dv hn
      cases h
      obtain ⟨⟨x1, x2⟩, x3⟩ := hX
      obtain ⟨C, T, N, n1, n2, n3, n4, n5, n6, n7⟩ := okN _ _ _ _ hn
      obtain ⟨o1, o2, o3, o4⟩ := okC _ _ _ _ n1
      subst n5
      exact mm_new_ok (ft := fun j => (mm_ft P ci j).1) hx hb hts o1 hown hK hR n1 (fun j hj => (o2 j hj).1) n2 n3 n4 (by rw [mm_dv n6]; exact n7) (by omega) (by omega) hdg (fun H' r => kk _ _ _ _ _ _ _ _ x3 r ⟨by rw [List.length_append]; show cells + 1 + gl0 = g.length + 1; omega, by omega, by rw [List.length_append]; show g.length + 1 ≤ mm_CM P; omega, by omega⟩)
    · cases h; exact hX.elim
  · split at h
    · rename_i v hn
      cases h
      exact lv_ldc hx hb hown (hts _ (okI _ _ _ hn)) hdg (kk _ _ _ _ _ _ _ _ hX hR hcnt)
    · cases h; exact hX.elim
  · split at h
    · rename_i v hn
      cases h
      exact lv_ldc2 hx hb hown (hts _ (okL _ _ _ hn)) hdg (kk _ _ _ _ _ _ _ _ hX hR hcnt)
    · cases h; exact hX.elim
  · cases h
end MmS2
end
section
/-! AN EXCEPTION IS CAUGHT, its class's entry resolved before or not. -/
section MmCatch
variable {e : Env} {f : JFrame} {a : Addr}
theorem mm_go_class {E : CtlPost} {d : Bool} {acts : List Action} {s : State} {Q : Handler → Pre} {x : ExceptionTableEntry} {t : List ExceptionTableEntry} {c : ClassId} {vm' : Vm} {cell : Cell} (hx : covers x f.pc = true) (h0 : x.catchType ≠ 0)
    (hg : (Jvm.resolveClass f.method.cls x.catchType).Gives e.toSetting s.vm (.ok c) vm') (hsz : vm'.classes.size ≤ s.vm.classes.size) (hcell : s.heap[a]? = some cell) (hobj : ∀ k, cell.vm ≠ .statics k) (hk : ∃ k, vm'.classes[cell.cls]? = some k) (hc : ∃ k, vm'.classes[c]? = some k) :
    wp (findHandler.go f a (x :: t)) Q E e d acts s ↔ if vm'.assignable cell.cls c = true then Q (.found x.handlerPc) d acts (s.setVm vm') else wp (findHandler.go f a t) Q E e d acts (s.setVm vm') := by
  simp only [covers] at hx
  obtain ⟨ha, ht⟩ := hg.op (op := VmOp.resolveClass f.method.cls x.catchType) rfl
  cases hfit : vm'.assignable cell.cls c <;> simp [findHandler.go, hx, h0, ha, ht, hsz, hcell, hobj, hk, hc, hfit, VmOp.dirties, VmOp.acts]
theorem mm_step_catch {s : State} {r : List Frame} {pc : Nat} {vm' : Vm} (hfind : ∀ (Q : Handler → Pre) (E : CtlPost) (d : Bool) (acts : List Action), wp (findHandler f a) Q E e d acts s ↔ Q (.found pc) d acts (s.setVm vm')) :
    (stepThrowing e s a (.java f :: r)).Is ((s.setVm vm').setFrames (.java { f with pc := pc, stack := [.ref a] } :: r)) [] := by
  simp only [stepThrowing, searchFrame, vmDo]
  generalize hr : Sem.go _ e false [] s = res
  obtain ⟨as, rfl, ha⟩ := Sem.eq_ok_of hr (a := Handler.found pc) (s' := s.setVm vm') (acts' := []) (by simp [hfind _ _ _ _])
  exact ⟨rfl, ha⟩
/-- the first row of a table that covers pc and whose class is ci's; rows of other classes are passed by -/
def mm_hit (cc : Nat → Option Nat) (pc ci : Nat) : List (Nat × Nat × Nat × Nat) → Option Nat
  | [] => none
  | x :: r => if x.1 ≤ pc ∧ pc < x.2.1 then (match cc x.2.2.2 with
    | some cj => if cj = ci then some x.2.2.1 else mm_hit cc pc ci r
    | none => none) else mm_hit cc pc ci r
theorem mm_finds {s0 : State} {cc : Nat → Option Nat} {dC : Nat → ClassId} {ci : Nat} {pcH : Nat} {cell : Cell} (hpl : e.platform.magicAccessors = ({} : Platform).magicAccessors)
    (hcc : ∀ ct cj, cc ct = some cj → ct ≠ 0 ∧ s0.vm.ClassLinks e.platform f.method.cls ct (dC cj) ∧ (∃ k, s0.vm.classes[dC cj]? = some k) ∧ (s0.vm.assignable (dC ci) (dC cj) = true ↔ cj = ci)) (hcls : cell.cls = dC ci) (hci : ∃ k, s0.vm.classes[dC ci]? = some k) (hobj : ∀ k, cell.vm ≠ .statics k) :
    ∀ (hs : List ExceptionTableEntry) (s : State), s0.WarmedH s.vm → s.heap[a]? = some cell → mm_hit cc f.pc ci (hs.map (fun h => (h.startPc, h.endPc, h.handlerPc, h.catchType))) = some pcH →
      ∃ vm', s0.WarmedH vm' ∧ ∀ (Q : Handler → Pre) (E : CtlPost) (d : Bool) (acts : List Action), wp (findHandler.go f a hs) Q E e d acts s ↔ Q (.found pcH) d acts (s.setVm vm')
  | [], s, _, _, h => by simp [mm_hit] at h
  | x :: t, s, hW, hcell, h => by
    simp only [List.map_cons, mm_hit] at h
    by_cases hx : x.startPc ≤ f.pc ∧ f.pc < x.endPc
    · rw [if_pos hx] at h
      have hcov : covers x f.pc = true := by simp [covers, hx.1, hx.2]
      cases hcj : cc x.catchType with
      | none => rw [hcj] at h; cases h
      | some cj =>
        rw [hcj] at h
        dsimp only at h
        obtain ⟨h0, hl, hkj, has⟩ := hcc _ _ hcj
        obtain ⟨hg, hW1, hr1⟩ := State.classEntry (e := e) hW hl
        have hsz : (s.vm.noted f.method.cls x.catchType (.cls (dC cj))).classes.size ≤ s.vm.classes.size := by no_record
        generalize s.vm.noted f.method.cls x.catchType (.cls (dC cj)) = vm1 at hg hW1 hr1 hsz
        obtain ⟨k1, hk1⟩ := hci
        obtain ⟨k2, hk2⟩ := hkj
        obtain ⟨k1', hk1', -⟩ := hW1.alike.2.2 _ _ hk1
        obtain ⟨k2', hk2', -⟩ := hW1.alike.2.2 _ _ hk2
        have hgo := fun (Q : Handler → Pre) (E : CtlPost) (d : Bool) (acts : List Action) => mm_go_class (Q := Q) (E := E) (d := d) (acts := acts) (t := t) hcov h0 hg hsz hcell hobj ⟨k1', by rw [hcls]; exact hk1'⟩ ⟨k2', hk2'⟩
        have hasg : vm1.assignable cell.cls (dC cj) = s0.vm.assignable (dC ci) (dC cj) := by rw [hcls]; exact hW1.alike.assignable _ _
        by_cases hj : cj = ci
        · rw [if_pos hj] at h
          cases h
          refine ⟨vm1, hW1, fun Q E d acts => (hgo Q E d acts).trans ?_⟩
          rw [if_pos (by rw [hasg]; exact has.mpr hj)]
        · simp only [if_neg hj] at h
          obtain ⟨vm2, hW2, hq⟩ := mm_finds hpl hcc hcls ⟨k1, hk1⟩ hobj t (s.setVm vm1) hW1 hcell h
          refine ⟨vm2, hW2, fun Q E d acts => (hgo Q E d acts).trans ?_⟩
          rw [if_neg (by rw [hasg]; exact fun q => hj (has.mp q))]
          exact hq Q E d acts
    · rw [if_neg hx] at h
      obtain ⟨vm2, hW2, hq⟩ := mm_finds hpl hcc hcls hci hobj t s hW hcell h
      refine ⟨vm2, hW2, fun Q E d acts => ?_⟩
      rw [W.findHandler_go_skip (by simp only [covers]; by_cases q1 : x.startPc ≤ f.pc <;> by_cases q2 : f.pc < x.endPc <;> simp [q1, q2]; exact hx ⟨q1, q2⟩)]
      exact hq Q E d acts
end MmCatch
section MmCatchAt
variable {p : Program} {l : Launch} {e : Env} {R : Room} {s : State} {m : MethodId} {args : Array Value} {below : List Frame} {meth : Method} {c : Code} {T : State} {locs : List Loc} {cells slots : Nat}
theorem mm_caught (X : Stand p l e R s m args below meth c T locs cells slots) {a : Addr} {g : JFrame} (hg : g.method = m) {cc : Nat → Option Nat} {dC : Nat → ClassId} {ci pcH : Nat} {cell : Cell} (hcell : T.heap[a]? = some cell) (hcls : cell.cls = dC ci) (hobj : ∀ k, cell.vm ≠ .statics k) (hci : ∃ k, s.vm.classes[dC ci]? = some k)
    (hcc : ∀ ct cj, cc ct = some cj → ct ≠ 0 ∧ s.vm.ClassLinks e.platform m.cls ct (dC cj) ∧ (∃ k, s.vm.classes[dC cj]? = some k) ∧ (s.vm.assignable (dC ci) (dC cj) = true ↔ cj = ci)) (hhit : mm_hit cc g.pc ci (c.exceptionTable.toList.map (fun h => (h.startPc, h.endPc, h.handlerPc, h.catchType))) = some pcH) :
    ∃ vm', Stand p l e R s m args below meth c (T.setVm vm') locs cells slots ∧ ∀ target, Steps p.tables e below ((T.setVm vm').setTop { g with pc := pcH, stack := [.ref a] }) target → Steps p.tables e below ((T.setTop g).pushFrame (.throwing a)) target := by
  have hpl : e.platform.magicAccessors = ({} : Platform).magicAccessors := by rw [X.admits.platform]
  subst hg
  have hvm : ((T.setTop g).pushFrame (.throwing a)).vm = T.vm := Stand.throwing_vm T g a
  have hhp : ((T.setTop g).pushFrame (.throwing a)).heap = T.heap := Stand.throwing_heap T g a
  obtain ⟨vm', hW', hq⟩ := mm_finds (f := g) (a := a) hpl hcc hcls hci hobj c.exceptionTable.toList ((T.setTop g).pushFrame (.throwing a)) (by rw [hvm]; exact X.warmed) (by rw [hhp]; exact hcell) hhit
  refine ⟨vm', X.noted hW', fun target hrest => ?_⟩
  have h := X.here
  obtain ⟨hgo, hw⟩ := h.throwing (g := g) a
  refine Steps.head hgo hw ?_
  have hfind : ∀ (Q : Handler → Pre) (E : CtlPost) (d : Bool) (acts : List Action), wp (findHandler g a) Q E e d acts ((T.setTop g).pushFrame (.throwing a)) ↔ Q (.found pcH) d acts (((T.setTop g).pushFrame (.throwing a)).setVm vm') := fun Q E d acts => by
    rw [W.findHandler_eq (meth := meth) (code := c) (by rw [hvm]; exact X.method') X.code]
    exact hq Q E d acts
  rw [stepThread_throwing (frames_entered h.top _), (mm_step_catch (s := (T.setTop g).pushFrame (.throwing a)) hfind).1]
  obtain ⟨g₀, hg0⟩ := Option.isSome_iff_exists.mp h.top
  obtain ⟨r, hr⟩ := State.topJava?_eq_some.mp hg0
  have hr' : (T.setVm vm').frames = .java g₀ :: r := hr
  rw [State.setTop_of_frames _ hr'] at hrest
  have hst : (((T.setTop g).pushFrame (.throwing a)).setVm vm').setFrames (.java { g with pc := pcH, stack := [.ref a] } :: T.frames.tail) = (T.setVm vm').setFrames (.java { g with pc := pcH, stack := [.ref a] } :: r) := by
    have hcomm : ∀ (B : State) (x : List Frame), (B.setFrames x).setVm vm' = (B.setVm vm').setFrames x := fun _ _ => rfl
    rw [hr, State.setTop_of_frames _ hr, State.pushFrame, hcomm, hcomm, State.setFrames_setFrames, State.setFrames_setFrames]
    rfl
  rw [hst]
  exact hrest
end MmCatchAt
end
section
/-! AN EXCEPTION's CONSTRUCTOR, with what it leaves of the heap: its own cell alone is changed. -/
section MmMade
variable {p : Program} {l : Launch} {e : Env} {R : Room} {s : State} {m₀ : MethodId} {args : Array Value} {below : List Frame} {meth : Method} {c : Code} {V : State} {locs : List Loc} {cells slots : Nat}
set_option maxHeartbeats 1000000 in
theorem mm_made (X : Stand p l e R s m₀ args below meth c V locs cells slots) (hexec : p.tables.exec = Jvm.exec) (htr : e.platform.stackTraces = false) {own cls : String} {names : List String} {ic : Nat}
    (hown : s.vm.findClass own = some m₀.cls) (hcls : Bundle.fit cls = true) (hnames : ∀ n ∈ names, Bundle.fit n = true) (h : ∀ a ∈ Bundle.ownAtoms own ic cls names, a.before args s = true) (hlocs : ∀ x ∈ locs, ∀ cell, s.heap[x.base]? = some cell → cell.vm.isStatics = false)
    {a : Addr} {cX : ClassId} {kX : Class} (hfoundX : s.vm.findClass cls = some cX) (hkX : s.vm.classes[cX]? = some kX) (hcell : V.heap[a]? = some (freshCell cX kX)) (hnew : s.heap.size ≤ a) {msg : Value} (hmsg : msg.isRef = true)
    {g : JFrame} (hg : g.method = m₀) (hsize : g.locals.size = c.maxLocals) {rest : List Value} (hstack : g.stack = msg :: .ref a :: rest) (hd6 : decode c.code g.pc = .ok (.invokespecial ic, 3))
    (hRframes : names.length + 3 < R.frames) (hRlocals : 2 * g.monitorRoom + (rest.map fun v => v.category).sum + (13 * (names.length + 1) + 42) ≤ R.locals) :
    ∃ (vm' : Vm) (ce : Cell) (lc : List Loc), ce.cls = cX ∧ ce.vm = .none ∧ (∀ x ∈ lc, x.base = a) ∧ Stand p l e R s m₀ args below meth c ((V.setVm vm').setCell a ce) (locs ++ lc) cells slots ∧
      ∀ target, Steps p.tables e below (((V.setVm vm').setCell a ce).setTop { g with pc := g.pc + 3, stack := rest }) target → Steps p.tables e below (V.setTop g) target := by
  have howns : e.platform.frameOwnsMonitors = true := by rw [X.admits.platform]
  have hfin : e.platform.finalization = false := by rw [X.admits.platform]
  have hpl : e.platform.magicAccessors = ({} : Platform).magicAccessors := by rw [X.admits.platform]
  have h' : ∀ x, x ∈ Bundle.ownAtoms own ic cls names → x.holds args s none s [] = true := fun x hx => h x hx
  obtain ⟨T, Z0, LT, -, Y⟩ := ThrowableC.of_atoms (args := args) howns hfin hpl (fun x hx => h x (by simp [Bundle.ownAtoms, hx]))
  obtain ⟨Z, M, LZ, LM, hnZ⟩ := Init0T.ofS_atoms (args := args) hpl LT Y (fun x hx => h x (by simp [Bundle.ownAtoms, hx]))
  obtain ⟨P1, Ps, hlen, L1, hL, hP1m, hlink1, hlink⟩ := Bundle.chainS (args := args) hpl hnZ names cls hcls hnames (fun x hx => h x (by simp [Bundle.ownAtoms, hx]))
  have hfound : s.vm.findClass cls = some P1.m.cls := findClass_of_methodNamed hP1m
  cases Option.some.inj (hfoundX.symm.trans hfound)
  obtain ⟨c1, kX', hc1, hk, hord, -, -, hn6⟩ := Cond.instantiable_spec (h' (.instantiable cls 6) (by simp [Bundle.ownAtoms]))
  cases Option.some.inj (hc1.symm.trans hfound)
  cases Option.some.inj (hkX.symm.trans hk)
  have sel : ∀ (x : MethodName) (mx : MethodId), Cond.selects cls x x ∈ Bundle.ownAtoms own ic cls names → s.methodNamed? x = some mx → (x.cls ≠ "java/lang/invoke/MethodHandle" ∧ x.cls ≠ "java/lang/invoke/VarHandle") → selectMethod e.platform s.vm P1.m.cls mx = .method mx := by
    intro x mx hx hn hy
    obtain ⟨c2, r2, m2, q1, q2, q3, q4, -⟩ := Cond.selects_spec (h' _ hx)
    cases Option.some.inj (q1.symm.trans hfound)
    cases Option.some.inj (q2.symm.trans (State.methodFound?_of_named hn hy))
    cases Option.some.inj (q3.symm.trans hn)
    rw [Launch.admits_selectMethod X.admits]; exact q4
  obtain ⟨cellS0, hcS0, hiss⟩ := Y.statics
  obtain ⟨u0, hu0⟩ := Cond.staticRefV Y.unassigned LT.unassignedStatic LT.statics hcS0 hiss (h' (.isRef (.static Bundle.tN "UNASSIGNED_STACK" Bundle.steD)) (by simp [Bundle.ownAtoms]))
  obtain ⟨sen, hsen⟩ := Cond.staticRefV Y.sentinel LT.sentinelStatic LT.statics hcS0 hiss (h' (.isRef (.static Bundle.tN "SUPPRESSED_SENTINEL" Bundle.listD)) (by simp [Bundle.ownAtoms]))
  obtain ⟨ci198, i198, fB, hk198, hg198, ha198, hsB, -, hnB, htB, hffB⟩ := Cond.ownField (t := .object "java/lang/Object") Y.found LT.cls (by decide +kernel) (h' (.fieldLink Bundle.tN 198 Bundle.tN "backtrace" "Ljava/lang/Object;") (by simp [Bundle.ownAtoms])) (h' (.lays Bundle.tN Bundle.tN "backtrace" "Ljava/lang/Object;") (by simp [Bundle.ownAtoms])) e.platform hpl
  obtain ⟨cellS, hcS', heS, -, hkeep⟩ := X.same.2.2.2.2.2 T.aS cellS0 hcS0
  have hcellS : V.heap[T.aS]? = some cellS := hcS'
  have hout' : ∀ i, (⟨T.aS, i⟩ : Loc) ∉ locs := fun i hmem => by
    have := hlocs _ hmem cellS0 hcS0
    rw [hiss] at this; cases this
  have hknownS : cellS.vm ≠ .unknown := by
    rw [heS]; intro hu
    rw [show cellS0.vm = .unknown from hu] at hiss
    cases hiss
  have hneS : T.aS ≠ a := Nat.ne_of_lt (Nat.lt_of_lt_of_le (Array.getElem?_eq_some_iff.mp hcS0).1 hnew)
  obtain ⟨iM, hffM⟩ := Y.msg
  obtain ⟨tyC, dC, hdC, hdnC⟩ := Cond.laysAt hfound hk Y.cause (h' (.lays cls Bundle.tN "cause" "Ljava/lang/Throwable;") (by simp [Bundle.ownAtoms]))
  obtain ⟨tyS, dS, hdS, hdnS⟩ := Cond.laysAt hfound hk Y.stack (h' (.lays cls Bundle.tN "stackTrace" Bundle.steD) (by simp [Bundle.ownAtoms]))
  obtain ⟨tyP, dP, hdP, hdnP⟩ := Cond.laysAt hfound hk Y.supp (h' (.lays cls Bundle.tN "suppressedExceptions" Bundle.listD) (by simp [Bundle.ownAtoms]))
  obtain ⟨tyM, dM, hdM, hdnM⟩ := Cond.laysAt hfound hk hffM (h' (.lays cls Bundle.tN "detailMessage" "Ljava/lang/String;") (by simp [Bundle.ownAtoms]))
  obtain ⟨tyB, dB, hdB, hdnB⟩ := Cond.laysAt hfound hk hffB (h' (.lays cls Bundle.tN "backtrace" "Ljava/lang/Object;") (by simp [Bundle.ownAtoms]))
  have bC := Cond.laysApart hdB hdC hdnB hdnC (by rw [hnB, Y.causeName]; decide)
  have bS := Cond.laysApart hdB hdS hdnB hdnS (by rw [hnB, Y.stackName]; decide)
  have bP := Cond.laysApart hdB hdP hdnB hdnP (by rw [hnB, Y.suppName]; decide)
  have hskip : SkipFacts T e.platform s (fun u => u) u0 ((preparedCellV T.toThrowableT (freshCell P1.m.cls kX) a u0 sen).withEntry V.cur) :=
    ⟨{ ci198 := ci198, i198 := i198, fBack := fB }, ⟨hk198, hg198, ha198, hsB⟩, by
      have := fresh_default (c := P1.m.cls) tyB
      rw [htB] at this
      simpa [preparedCellV, Cell.setSlot, Cell.withEntry, Array.getElem?_setIfInBounds, bC, bS, bP, bC.symm, bS.symm, bP.symm, defaultValue] using this, fun _ _ => rfl⟩
  obtain ⟨tm, methC, cdC, kC, vm₁, hnC, -, -, -, -, -, -, -, hW₁, st1⟩ := Steps.initColdS (tb := p.tables) (e := e) (below := below) (s := s) (U := V) X.here hexec X.warmed hpl hown (t := Bundle.initS cls) rfl rfl (Bundle.fit_spec hcls).2
    (h' (.methodLink own ic (Bundle.initS cls)) (by simp [Bundle.ownAtoms])) (h (.instanceMethod (Bundle.initS cls)) (by cases names <;> simp [Bundle.ownAtoms, Bundle.chainSAtoms, Bundle.passSAtoms])) (bytes := Bundle.six) (maxL := 2) (h (.code (Bundle.initS cls) Bundle.six 2 none) (by cases names <;> simp [Bundle.ownAtoms, Bundle.chainSAtoms, Bundle.passSAtoms]))
    (f := g) hg (a := a) (msg := msg) (rest := rest) hstack hd6
  cases Option.some.inj (hnC.symm.trans hP1m)
  have X₁ := X.noted hW₁
  obtain ⟨vm₂, X₂, st2⟩ := X₁.ctorMessageOffV hexec (g := { g with stack := rest }) hg hsize T LT Z LZ M LM (P1 :: Ps)
    (fun P hP => by rcases List.mem_cons.mp hP with rfl | hP; exact L1; exact hL P hP) ⟨hlink1, hlink⟩ (u0 := u0) (sen := sen) (self := a) hmsg (cell := freshCell P1.m.cls kX) (cellS := cellS)
    hcell (fun _ => by simp) (by simp) rfl rfl (sel _ _ (by simp [Bundle.ownAtoms]) Y.fill0 (by decide)) (sel _ _ (by simp [Bundle.ownAtoms]) Y.fill (by decide)) hcellS hneS hknownS (by rw [hkeep _ (hout' _)]; exact hu0) (by rw [hkeep _ (hout' _)]; exact hsen)
    (Takes.of_laid hk hord tyC (by rw [Y.causeType]; rfl)) (Takes.of_laid hk hord tyS (by rw [Y.stackType]; exact fits_refV_array _ u0)) (Takes.of_laid hk hord tyP (by rw [Y.suppType]; exact fits_refV_object _ sen))
    (Takes.of_laid hk hord tyM (by rw [Y.msgType]; exact fits_refV_object _ ⟨msg, hmsg⟩)) Y.objLocals hskip htr [] hd6
    (by simp only [List.length_cons, hlen]; omega) (by simp only [List.length_cons, hlen]; exact hRlocals)
  refine ⟨vm₂, _, _, ?_, ?_, ?_, X₂, fun target ht => st1 _ (fun acts => ?_)⟩
  · rfl
  · rfl
  · intro x hx
    simp only [List.mem_cons, List.not_mem_nil, or_false] at hx
    rcases hx with rfl | rfl | rfl | rfl | rfl <;> rfl
  · rw [doInvoke_state]
    exact st2 _ ht
end MmMade
end
section
/-! WHAT HOLDS AT THE LAW's START s0 HOLDS AT EVERY METHOD's START s: the tables are only warmer, the cells that were there are as they were. -/
def mm_B (s0 : State) (z : Nat) (s : State) : Prop := s0.WarmedH s.vm ∧ s0.heap.size = z ∧ ∀ q, q < z → s.heap[q]? = s0.heap[q]?
section MmBase
variable {s0 s : State} {z : Nat} {a0 args : Array Value}
theorem mm_B.good (B : mm_B s0 z s) {w : Cond} (hg : goodWord w = true) (h : w.before a0 s0 = true) : w.before args s = true := word_at B.1 (good_of_word hg) h
theorem mm_B.castable (B : mm_B s0 z s) {x y : String} (h : (Cond.castable x y).before a0 s0 = true) : (Cond.castable x y).before args s = true := by
  have h1 : (Cond.castable x y).before a0 (s0.setVm s.vm) = true := Cond.before_shiftedFace (State.Shifted.of_warmed B.1) _ rfl h
  exact h1
theorem mm_B.declares (B : mm_B s0 z s) {x : MethodName} (h : (Cond.declares x).before a0 s0 = true) : (Cond.declares x).before args s = true := by
  have h1 : (Cond.declares x).before a0 (s0.setVm s.vm) = true := Cond.before_shiftedFace (State.Shifted.of_warmed B.1) _ rfl h
  exact h1
theorem mm_B.laysStatic (B : mm_B s0 z s) {C n d : String} (h : (Cond.laysStatic C n d).before a0 s0 = true) : (Cond.laysStatic C n d).before args s = true := by
  have h1 : (Cond.laysStatic C n d).before a0 (s0.setVm s.vm) = true := Cond.laysStatic_setVm B.1.alike h
  obtain ⟨c, k, i, f, a, cell, q1, q2, q3, q4, q5, q6, q7, q8, q9⟩ := Cond.laysStatic_spec h1
  have q5' : s0.heap[a]? = some cell := q5
  have q5 : s.heap[a]? = some cell := by
    rw [B.2.2 a (by rw [← B.2.1]; exact (Array.getElem?_eq_some_iff.mp q5').1)]; exact q5'
  have q1 : s.vm.findClass C = some c := q1
  have q2 : s.fieldFound? C n d = some (c, k, i, f) := q2
  simp [Cond.before, Cond.holds, Cond.value, q1, q2, q3, q4, q5, q6, q7, q8, q9]
theorem mm_B.isRefStatic (B : mm_B s0 z s) {C n d : String} (hl : (Cond.laysStatic C n d).before a0 s0 = true) (h : (Cond.isRef (.static C n d)).before a0 s0 = true) : (Cond.isRef (.static C n d)).before args s = true := by
  have hv : ∃ v, (Term.static C n d).eval a0 s0 none [] s0 = some v ∧ (v = .null ∨ ∃ q, v = .ref q) := by
    simp only [Cond.before, Cond.holds, Cond.value] at h
    cases hv : (Term.static C n d).eval a0 s0 none [] s0 with
    | none => simp [hv] at h
    | some v => exact ⟨v, rfl, by cases v <;> simp [hv] at h <;> simp⟩
  obtain ⟨v, hv, hr⟩ := hv
  obtain ⟨c, k, i, f, a, cell, q1, q2, q3, q4, q5, q6, q7, q8, q9⟩ := Cond.laysStatic_spec hl
  obtain ⟨-, a', cell', ha', hcell', hun, hslot⟩ := Term.static_spec q2 hv
  cases q4.symm.trans ha'
  cases q5.symm.trans hcell'
  have q5' : s.heap[a]? = some cell := by
    rw [B.2.2 a (by rw [← B.2.1]; exact (Array.getElem?_eq_some_iff.mp q5).1)]; exact q5
  obtain ⟨k', hi', he⟩ := State.fieldFound?_setVm (vm' := s.vm) B.1.alike q2
  have hi' : s.fieldFound? C n d = some (c, k', i, f) := hi'
  have hst' : k'.statics = some a := by rw [he]; exact q4
  have : (Term.static C n d).eval args s none [] s = some v := by
    simp [Term.eval, State.fieldNamed?, hi', q3, hst', q5', q6, hslot]
  rcases hr with rfl | ⟨q, rfl⟩ <;> simp [Cond.before, Cond.holds, Cond.value, this]
theorem mm_B.over (B : mm_B s0 z s) {C : String} (h : (Cond.arrayOver (.object C)).before a0 s0 = true) : (Cond.arrayOver (.object C)).before args s = true :=
  va_AO.use (va_AO.moved B.1.alike (va_AO.of h))
theorem mm_B.string (B : mm_B s0 z s) {own tx : String} {i : Nat} (h : (Cond.stringRef own i tx).before a0 s0 = true) : ∃ a, vk_R own i tx a s := by
  have hc : ∃ cur, s0.vm.findClass own = some cur := by
    have h1 := h
    simp only [Cond.before, Cond.holds, Cond.value] at h1
    cases hc : s0.vm.findClass own with
    | none => simp [hc] at h1
    | some cur => exact ⟨cur, rfl⟩
  obtain ⟨cur, hc⟩ := hc
  obtain ⟨k, cf, i', a, -, -, -, -, -, he⟩ := Cond.stringRef_spec hc h
  exact ⟨a, vk_R.warm B.1 (vk_R.of h he)⟩
theorem mm_B.refl (hz : s0.heap.size = z) : mm_B s0 z s0 := ⟨State.WarmedH.refl s0, hz, fun _ _ => rfl⟩
end MmBase
theorem mm_B.overA {s0 s : State} {z : Nat} {a0 args : Array Value} (B : mm_B s0 z s) {y : FieldType} (h : (Cond.arrayOver (.array y)).before a0 s0 = true) : (Cond.arrayOver (.array y)).before args s = true := by
  obtain ⟨comp, c, k, h1, h2, h3, h4, h5⟩ := arrayOverA_spec h
  have hvm := B.1.alike
  obtain ⟨k', hk', he⟩ := hvm.2.2 _ _ h3
  have hi : (s.vm.classes.findIdx? fun (x : Class) => match x.kind with | .array component _ => component == comp | _ => false) = some c := by
    rw [hvm.findIdx?_eq _ (fun _ => rfl)]; exact h2
  have hkind : k'.kind = .array comp (.array y) := by rw [he]; exact h4
  have f1 : s.vm.findClass (FieldType.array y).toString = some comp := by rw [hvm.findClass]; exact h1
  have f2 : s.vm.findClass ("[" ++ (FieldType.array y).toString) = some c := by rw [hvm.findClass]; exact h5
  unfold Cond.before Cond.holds
  simp only [Cond.value]
  rw [f1, Option.bind_some]
  refine (congrArg (fun o : Option Nat => (o.bind (fun c => (s.vm.classes[c]?).map fun (k : Class) => match k.kind with | .array _ ty => decide (ty = FieldType.array y) && decide (s.vm.findClass ("[" ++ (FieldType.array y).toString) = some c) | _ => false) == some true)) hi).trans ?_
  simp [hk', hkind, f2]
theorem mm_B.nest {s0 s : State} {z : Nat} {a0 args : Array Value} (B : mm_B s0 z s) {a : String} {i : Nat} {x : MethodName} {h : String} (hw : (Cond.methodLinkNest a i x h).before a0 s0 = true) : (Cond.methodLinkNest a i x h).before args s = true :=
  va_Nw.use rfl (va_Nw.warmM B.1 (va_Nw.of rfl hw))
def mm_gw (w : Cond) : Bool := goodWord w || match w with
  | .castable _ _ => true
  | .declares _ => true
  | .laysStatic _ _ _ => true
  | .arrayOver (.object _) => true
  | .arrayOver (.array _) => true
  | .methodLinkNest _ _ _ _ => true
  | _ => false
theorem mm_B.word {s0 s : State} {z : Nat} {a0 args : Array Value} (B : mm_B s0 z s) {w : Cond} (hg : mm_gw w = true) (h : w.before a0 s0 = true) : w.before args s = true := by
  unfold mm_gw at hg
  rcases Bool.or_eq_true _ _ |>.mp hg with h1 | h1
  · exact B.good h1 h
  · split at h1
    · exact B.castable h
    · exact B.declares h
    · exact B.laysStatic h
    · exact B.over h
    · exact B.overA h
    · exact B.nest h
    · cases h1
end
section
/-! THE SMALL MACHINE: a method's run is a Prop. -/
abbrev mm_O : Type := Option Value ⊕ (Nat × Nat)
abbrev mm_K : Type := mm_O → List va_E → Nat → Prop
def mm_look : List (Nat × Instr) → Nat → Option Instr
  | [], _ => none
  | q :: r, pc => if q.1 = pc then some q.2 else mm_look r pc
theorem mm_look_mem {pc : Nat} {ins : Instr} : ∀ {l : List (Nat × Instr)}, mm_look l pc = some ins → (pc, ins) ∈ l
  | [], h => by simp [mm_look] at h
  | q :: r, h => by
    unfold mm_look at h
    split at h
    · rename_i hq
      cases h
      subst hq
      exact List.mem_cons_self
    · exact List.mem_cons_of_mem _ (mm_look_mem h)
/-- so many values off the stack, in the order of a call's -/
def mm_take : Nat → List Value → List Value → Option (List Value × List Value)
  | 0, as, st => some (as, st)
  | _ + 1, _, [] => none
  | n + 1, as, v :: st => mm_take n (v :: as) st
theorem mm_take_ok : ∀ (n : Nat) (as st as' r : List Value), mm_take n as st = some (as', r) → ∃ bs, as' = bs ++ as ∧ bs.length = n ∧ st = bs.reverse ++ r
  | 0, as, st, as', r, h => by
    simp only [mm_take, Option.some.injEq, Prod.mk.injEq] at h
    exact ⟨[], by simp [h.1], rfl, by simp [h.2]⟩
  | n + 1, as, [], as', r, h => by simp [mm_take] at h
  | n + 1, as, v :: st, as', r, h => by
    obtain ⟨bs, h1, h2, h3⟩ := mm_take_ok n (v :: as) st as' r h
    exact ⟨bs ++ [v], by simp [h1], by simp [h2], by simp [h3]⟩
def mm_cats (st : List Value) : Nat := (st.map fun v => v.category).sum
theorem mm_cats_S (A : Nat → Nat) (st : List Value) : ((mm_S A st).map fun v => v.category).sum = mm_cats st := by
  simp only [mm_S, mm_cats, List.map_map]
  congr 1
  exact List.map_congr_left (fun v _ => mm_cat A v)
/-- does the receiver fit a call: its class is the method's -/
def mm_recv (P : mm_P) (k' : Nat) (as : List Value) (g : List va_E) : Bool := match as with
  | .ref (q + 1) :: _ => match g[q]? with
    | some (.inr (ci, _)) => decide (ci = mm_kc P k')
    | _ => false
  | _ => false
def mm_isref : List Value → Bool
  | .ref _ :: _ => true
  | _ => false
abbrev mm_Call : Type := Nat → List Value → List va_E → Nat → mm_K → Prop
/-- what is done behind a call -/
def mm_back (P : mm_P) (k : Nat) (nx : Nat → List Value → List va_E → Nat → Prop) (Q : mm_K) (pc : Nat) (r : List Value) : mm_K := fun o g sl => match o with
  | .inl v => nx (pc + 3) (v.toList ++ r) g sl
  | .inr x => match mm_kh P k pc x.1 with
    | some h => h ≠ 999999 ∧ nx h [.ref x.2] g sl
    | none => Q (.inr x) g sl
def mm_s3 (P : mm_P) (call : mm_Call) (k : Nat) (nx : Nat → List Value → List va_E → Nat → Prop) (Q : mm_K) (ins : Instr) (pc : Nat) (st : List Value) (g : List va_E) (sl : Nat) : Prop :=
  match ins with
  | .ireturn => match st with
    | [.int x] => match mm_kr P k with
      | some .int => Q (.inl (some (.int x))) g sl
      | some ty => narrow ty (.int x) = .int x ∧ Q (.inl (some (.int x))) g sl
      | none => False
    | _ => False
  | .lreturn => match st with
    | [.long x] => match mm_kr P k with
      | some .long => Q (.inl (some (.long x))) g sl
      | _ => False
    | _ => False
  | .areturn => match st with
    | [v] => match mm_kind 2 v with
      | true => match mm_kr P k with
        | some (.object _) => Q (.inl (some v)) g sl
        | some (.array _) => Q (.inl (some v)) g sl
        | _ => False
      | false => False
    | _ => False
  | .return_ => match st with
    | [] => match mm_kr P k with
      | none => Q (.inl none) g sl
      | some _ => False
    | _ => False
  | .invokestatic i => match mm_ml P (mm_kc P k) i with
    | some (k', na, 0) => match mm_take na [] st with
      | some (as, r) => match decide (mm_cats r + mm_kl P k' + 11 ≤ 64 ∧ mm_cats as ≤ mm_kl P k') with
        | true => call k' as g sl (mm_back P k nx Q pc r)
        | false => False
      | none => False
    | some (k', na, 5) => match mm_take na [] st with
      | some (as, r) => match decide (mm_cats r + mm_kl P k' + 11 ≤ 64 ∧ mm_cats as ≤ mm_kl P k') with
        | true => call k' as g sl (mm_back P k nx Q pc r)
        | false => False
      | none => False
    | some (_, _, 4) => match st with
      | .int n :: .int dp :: .ref (q2 + 1) :: .int sp :: .ref (q1 + 1) :: r => match g[q1]? with
        | some (.inl (1, n1, .inr (.inl f1))) => match g[q2]? with
          | some (.inl (1, n2, .inr (.inl f2))) => match decide (mm_cats r ≤ 24) with
            | true => (¬ sp < 0 ∧ ¬ dp < 0 ∧ ¬ n < 0 ∧ sp.toNatClampNeg + n.toNatClampNeg ≤ n1 ∧ dp.toNatClampNeg + n.toNatClampNeg ≤ n2) ∧ nx (pc + 3) r (g.set q2 (.inl (1, n2, .inr (.inl (va_cpy f1 f2 sp.toNatClampNeg dp.toNatClampNeg n.toNatClampNeg))))) sl
            | false => False
          | _ => False
        | _ => False
      | _ => False
    | _ => False
  | .invokevirtual i => match mm_ml P (mm_kc P k) i with
    | some (k', na, 1) => match mm_take na [] st with
      | some (as, r) => match decide (mm_cats r + mm_kl P k' + 11 ≤ 64 ∧ mm_cats as ≤ mm_kl P k') && mm_recv P k' as g with
        | true => call k' as g sl (mm_back P k nx Q pc r)
        | false => False
      | none => False
    | _ => False
  | .invokespecial i => match mm_ml P (mm_kc P k) i with
    | some (k', na, 2) => match mm_take na [] st with
      | some (as, r) => match decide (mm_cats r + mm_kl P k' + 11 ≤ 64 ∧ mm_cats as ≤ mm_kl P k') && mm_isref as with
        | true => call k' as g sl (mm_back P k nx Q pc r)
        | false => False
      | none => False
    | some (_, _, 3) => match st with
      | .ref _ :: r => match decide (mm_cats r + 12 ≤ 64) with
        | true => nx (pc + 3) r g sl
        | false => False
      | _ => False
    | _ => False
  | _ => False
def mm_w (P : mm_P) (Ln : Nat) (xs : Nat → Int32) (call : mm_Call) (k : Nat) : Nat → Nat → List (Nat × Value) → List Value → List va_E → Nat → mm_K → Prop
  | 0, _, _, _, _, _, _ => False
  | n + 1, pc, ls, st, g, sl, Q =>
    match mm_xt P k pc with
    | some ci => (g.length + 1 ≤ mm_CM P ∧ sl + 6 ≤ mm_SM P ∧ mm_cats st ≤ 8) ∧ Q (.inr (ci, g.length + 1)) (g ++ [.inr (ci, [])]) (sl + 6)
    | none =>
    match mm_sw P k pc with
    | some (lo, dt, ts) => match st with
      | .int x :: r => ((x.toInt < lo ∨ lo + (ts.length : Int) - 1 < x.toInt) → mm_w P Ln xs call k n dt ls r g sl Q) ∧ ∀ (i t : Nat), ts[i]? = some t → x.toInt = lo + (i : Int) → mm_w P Ln xs call k n t ls r g sl Q
      | _ => False
    | none =>
    match mm_look (mm_kd P k) pc with
    | none => False
    | some ins =>
    match mm_s1 (mm_kl P k) (fun pc ls st => mm_w P Ln xs call k n pc ls st g sl Q) ins pc ls st with
    | some X => X
    | none =>
    match mm_s2 P k Ln xs (fun pc st g sl => mm_w P Ln xs call k n pc ls st g sl Q) ins pc st g sl with
    | some X => X
    | none => mm_s3 P call k (fun pc st g sl => mm_w P Ln xs call k n pc ls st g sl Q) Q ins pc st g sl
def mm_call (P : mm_P) (Ln : Nat) (xs : Nat → Int32) : Nat → mm_Call
  | 0 => fun _ _ _ _ _ => False
  | d + 1 => fun k as g sl Q => ∃ n, mm_w P Ln xs (mm_call P Ln xs d) k n 0 (lv_args 0 as) [] g sl Q
end
section
/-! INTO A CALL AND OUT OF IT. -/
def mm_out (b z : Nat) (xX : Nat → Prop) (g : List va_E) (oc : mm_O) (o : Outcome) : Prop := match oc with
  | .inl v => o = .returned (v.map (mm_v (mm_A b z)))
  | .inr x => o = .threw (mm_A b z x.2) ∧ xX x.1 ∧ ∃ q, x.2 = q + 1 ∧ g[q]? = some (.inr (x.1, []))
def mm_end (P : mm_P) (D : va_G) (cl : List vw_C) (cT : Nat → Nat) (b z Ln : Nat) (xs : Nat → Int32) (xX : Nat → Prop) (s : State) (below : List Frame) (gl0 sl0 : Nat) (Q : mm_K) : State → Prop := fun t =>
  ∃ (o : Outcome) (oc : mm_O) (g' : List va_E) (sl' : Nat) (lc : List Loc) (ce ss : Nat), t.status = .running ∧ Ended t below o ∧ s.WarmedH t.vm ∧ s.sameButNew ({ t with vm := s.vm } : State) lc ce ss ∧ mm_R D cl cT b z Ln xs s g' t.heap lc ∧ mm_cnt P gl0 sl0 ce ss g' sl' ∧ Q oc g' sl' ∧ mm_out b z xX g' oc o
theorem mm_args (A : Nat → Nat) : ∀ (as : List Value) (i : Nat), lv_args i (mm_S A as) = mm_L A (lv_args i as)
  | [], i => rfl
  | v :: r, i => by
    have := mm_args A r (if v.category = 2 then i + 2 else i + 1)
    simp only [mm_S, List.map_cons, lv_args, mm_cat, mm_L] at this ⊢
    rw [this]
theorem mm_slots (A : Nat → Nat) : ∀ (as : List Value), (lg_sl (mm_S A as)).length = mm_cats as
  | [] => rfl
  | v :: r => by
    have := mm_slots A r
    simp only [mm_S, List.map_cons, lg_sl, List.flatMap_cons, List.length_append, mm_cats, List.sum_cons, mm_cat] at this ⊢
    rw [this]
    rcases lv_cat v with h | h <;> simp [h]
theorem mm_R.start {D : va_G} {cl : List vw_C} {cT : Nat → Nat} {b z Ln : Nat} {xs : Nat → Int32} {s s' : State} {g : List va_E} {H : Heap} {locs : List Loc} (r : mm_R D cl cT b z Ln xs s g H locs) (hH : s'.heap = H) (hvm : s.vm.Alike s'.vm) : mm_R D cl cT b z Ln xs s' g H [] := by
  obtain ⟨h1, h2, h3, h4, h5, h6⟩ := id r
  refine ⟨h1, h2, by rw [hH]; exact va_S.rf, ?_, h5, by rw [hH]; omega⟩
  rw [hH]
  exact va_X.moved hvm r.X
theorem mm_R.after {D : va_G} {cl : List vw_C} {cT : Nat → Nat} {b z Ln : Nat} {xs : Nat → Int32} {s s' : State} {g g' : List va_E} {H H' : Heap} {locs lc : List Loc} (r : mm_R D cl cT b z Ln xs s g H locs) (hH : s'.heap = H) (r' : mm_R D cl cT b z Ln xs s' g' H' lc) : mm_R D cl cT b z Ln xs s g' H' (locs ++ lc) := by
  obtain ⟨h1, h2, h3, h4, h5, h6⟩ := r
  obtain ⟨k1, k2, k3, k4, k5, k6⟩ := r'
  rw [hH] at k3
  refine ⟨k1, k2, ⟨Nat.le_trans h3.1 k3.1, fun q hq hn => ?_, fun l hl => ?_⟩, h4, h5, h6⟩
  · rw [k3.2.1 q (by have := h3.1; omega) hn]
    exact h3.2.1 q hq hn
  · rcases List.mem_append.mp hl with q | q
    · exact h3.2.2 l q
    · exact k3.2.2 l q
section MmEnter
variable {p : Program} {l : Launch} {e : Env} {R : Room} {s : State} {m : MethodId} {args : Array Value} {below : List Frame} {meth : Method} {c : Code} {T : State} {locs : List Loc} {cells slots : Nat} {D : va_G} {cl : List vw_C} {cT : Nat → Nat} {b z Ln : Nat} {xs : Nat → Int32} {P : mm_P} {gl0 sl0 sl : Nat} {xX : Nat → Prop} {gq : List va_E}
theorem mm_enter (X : Stand p l e R s m args below meth c T locs cells slots) {g : JFrame} (hg : g.method = m) (hsize : g.locals.size = c.maxLocals) {ig : Instr} (hdg : decode c.code g.pc = .ok (ig, 3)) (hmr : g.monitorRoom = 0)
    {mk : MethodId} {methk : Method} {ck : Code} (as : List Value) (hmk : T.vm.method? mk = some methk) (hck : methk.code = some ck) (hlk : methk.locks = false) (hpk : T.plainMethod mk) {R' : Room} (hframes : R'.frames + 1 ≤ R.frames) (hlocals : (g.stack.map fun v => v.category).sum + (ck.maxLocals + 11) + R'.locals ≤ R.locals) (hcells : cells + R'.cells ≤ R.cells) (hslots : slots + R'.slots ≤ R.slots)
    (hR : mm_R D cl cT b z Ln xs s gq T.heap locs) (hcat : mm_cats as ≤ ck.maxLocals) {Q' : mm_K} (hcnt : mm_cnt P gl0 sl0 cells slots gq sl)
    (hW : ∀ L, lv_has L ck.maxLocals (mm_L (mm_A b z) (lv_args 0 as)) → mm_R D cl cT b z Ln xs (T.calling g mk (mm_S (mm_A b z) as).toArray) gq T.heap [] → W p l e R' (T.calling g mk (mm_S (mm_A b z) as).toArray) mk (mm_S (mm_A b z) as).toArray (.java g :: below) methk ck T.heap [] 0 0 (mm_end P D cl cT b z Ln xs xX (T.calling g mk (mm_S (mm_A b z) as).toArray) (.java g :: below) gq.length sl Q') (F0 mk 0 L [])) :
    ∃ (oc : mm_O) (g' : List va_E) (sl' : Nat) (T' : State) (lc : List Loc) (ce ss : Nat), Stand p l e R s m args below meth c T' (locs ++ lc) (cells + ce) (slots + ss) ∧ mm_R D cl cT b z Ln xs s g' T'.heap (locs ++ lc) ∧ mm_cnt P gl0 sl0 (cells + ce) (slots + ss) g' sl' ∧ Q' oc g' sl' ∧
      match oc with
      | .inl v => ∀ acts, Steps p.tables e below (doInvoke e (T.setTop g) acts mk (mm_S (mm_A b z) as).toArray).1 (T'.setTop { g with pc := g.pc + 3, stack := (v.map (mm_v (mm_A b z))).toList ++ g.stack })
      | .inr x => xX x.1 ∧ (∃ q, x.2 = q + 1 ∧ g'[q]? = some (.inr (x.1, []))) ∧ ∀ acts, Steps p.tables e below (doInvoke e (T.setTop g) acts mk (mm_S (mm_A b z) as).toArray).1 ((T'.setTop g).pushFrame (.throwing (mm_A b z x.2))) := by
  obtain ⟨Y, hin⟩ := X.into hg hsize hdg (mm_S (mm_A b z) as).toArray (R' := R') hmk hck hlk hpk hframes (by rw [hmr]; omega) hcells hslots
  have hl := lv_entry (mm_S (mm_A b z) as) (n := ck.maxLocals) (by rw [mm_slots]; exact hcat)
  rw [mm_args] at hl
  rw [lg_entry_eq] at Y hin
  generalize (lg_sl (mm_S (mm_A b z) as) ++ List.replicate (ck.maxLocals - (lg_sl (mm_S (mm_A b z) as)).length) Slot.unset).toArray = L at hl Y hin
  have hheap : (T.calling g mk (mm_S (mm_A b z) as).toArray).heap = T.heap := by
    simp [State.calling, State.pushFrame, State.setFrames, State.setTop, State.modifyTopJava]
  have hvm : (T.calling g mk (mm_S (mm_A b z) as).toArray).vm = T.vm := by
    simp [State.calling, State.pushFrame, State.setFrames, State.setTop, State.modifyTopJava]
  have hUh : ((T.setTop g).pushFrame (.java (F0 mk 0 L []))).heap = T.heap := by
    simp [State.pushFrame, State.setFrames, State.setTop, State.modifyTopJava]
  have hal : s.vm.Alike (T.calling g mk (mm_S (mm_A b z) as).toArray).vm := by rw [hvm]; exact X.warmed.alike
  obtain ⟨t, hst, o, oc, g', sl', lc, ce, ss, -, hended, hWe, hsame, hR', hcnt', hQ, hout⟩ := hW L hl (hR.start hheap hal) _ hUh Y
  have hRa := hR.after hheap hR'
  obtain ⟨c1, c2, c3, c4⟩ := hcnt
  obtain ⟨d1, d2, d3, d4⟩ := hcnt'
  have hcn : mm_cnt P gl0 sl0 (cells + ce) (slots + ss) g' sl' := ⟨by omega, by omega, d3, d4⟩
  have hst := Steps.weaken (mid := [.java g]) hst
  cases oc with
  | inl v =>
    have ho : o = .returned (v.map (mm_v (mm_A b z))) := hout
    subst ho
    obtain ⟨T', X', -, -, ht⟩ := X.outOf hg hdg hended hWe hsame
    have hh : T'.heap = t.heap := by rw [ht]; simp [State.setTop, State.modifyTopJava]
    refine ⟨.inl v, g', sl', T', lc, ce, ss, X', by rw [hh]; exact hRa, hcn, hQ, fun acts => ?_⟩
    rw [hin acts, ← ht]
    exact hst
  | inr x =>
    obtain ⟨ho, hx, hq⟩ : o = .threw (mm_A b z x.2) ∧ xX x.1 ∧ ∃ q, x.2 = q + 1 ∧ g'[q]? = some (.inr (x.1, [])) := hout
    subst ho
    obtain ⟨T', X', -, -, ht⟩ := X.outOfThrown hg hended hWe hsame
    have hh : T'.heap = t.heap := by rw [ht, Stand.throwing_heap]
    refine ⟨.inr x, g', sl', T', lc, ce, ss, X', by rw [hh]; exact hRa, hcn, hQ, hx, hq, fun acts => ?_⟩
    rw [hin acts, ← ht]
    exact hst
end MmEnter
end
section
/-! THE SMALL MACHINE TELLS THE TRUTH of the great one. -/
/-- the word of a method's code -/
def mm_kw (P : mm_P) (ky : Nat → MethodName) (kb : Nat → ByteArray) (hs : Nat → List (Nat × Nat × Nat × Nat)) (TB : List Cond) (k : Nat) : Prop :=
  (Cond.code (ky k) (kb k) (mm_kl P k) (mm_kr P k) ∈ TB ∧ hs k = []) ∨ Cond.codeWith (ky k) (kb k) (mm_kl P k) (mm_kr P k) (hs k) ∈ TB
/-- the tables tell the truth, so far as code, calls, throws and catches go -/
def mm_ok3 (P : mm_P) (TB : List Cond) (SB : List (String × Nat × String)) (cl : List vw_C) (cn : Nat → String) (ky : Nat → MethodName) (kb : Nat → ByteArray) (hs : Nat → List (Nat × Nat × Nat × Nat)) (xc : Nat → Nat → Option Nat) (xX : Nat → Prop) : Prop :=
  (∀ k q, q ∈ mm_kd P k → decode (kb k) q.1 = .ok (q.2, mm_ln q.2))
  ∧ (∀ k pc lo dt ts, mm_sw P k pc = some (lo, dt, ts) → ∃ (dflt : Int) (offs : Array Int) (len : Nat), decode (kb k) pc = .ok (.tableswitch dflt lo (lo + (ts.length : Int) - 1) offs, len) ∧ (pc : Int) + dflt = (dt : Int) ∧ ∀ i t : Nat, ts[i]? = some t → ∃ off, offs[i]? = some off ∧ (pc : Int) + off = (t : Int))
  ∧ (∀ o i k' na kd, mm_ml P o i = some (k', na, kd) → kd ≠ 3 → kd ≠ 4 → mm_kw P ky kb hs TB k' ∧ (kd = 5 ∨ Cond.methodLink (cn o) i (ky k') ∈ TB) ∧ Cond.initialized (ky k').cls ∈ TB ∧ ((ky k').cls ≠ "java/lang/invoke/MethodHandle" ∧ (ky k').cls ≠ "java/lang/invoke/VarHandle") ∧ plainFor (ky k') = true ∧ cn (mm_kc P k') = (ky k').cls ∧ (mm_ki P k' = true → (ky k').name = "<init>")
      ∧ (kd = 5 → ∃ host, Cond.methodLinkNest (cn o) i (ky k') host ∈ TB)
      ∧ (kd = 0 ∨ kd = 5 → Cond.static (ky k') ∈ TB ∧ (parseMethodDescriptor (ky k').desc).map (fun d => d.parameters.length) = some na)
      ∧ (kd = 1 → Cond.instanceMethod (ky k') ∈ TB ∧ Cond.selects (ky k').cls (ky k') (ky k') ∈ TB ∧ (parseMethodDescriptor (ky k').desc).map (fun d => d.parameters.length + 1) = some na ∧ ∃ T N, cl[mm_kc P k']? = some ((ky k').cls, T, N))
      ∧ (kd = 2 → Cond.instanceMethod (ky k') ∈ TB ∧ (ky k').name = "<init>" ∧ mm_kr P k' = none ∧ Cond.code (ky k') (kb k') (mm_kl P k') none ∈ TB ∧ (parseMethodDescriptor (ky k').desc).map (fun d => d.parameters.length + 1) = some na))
  ∧ (∀ o i k' na, mm_ml P o i = some (k', na, 3) → Cond.methodLink (cn o) i Lib.objectInit ∈ TB ∧ Cond.instanceMethod Lib.objectInit ∈ TB ∧ Cond.code Lib.objectInit ⟨#[0xb1]⟩ 1 none ∈ TB)
  ∧ (∀ o i k' na, mm_ml P o i = some (k', na, 4) → Cond.methodLink (cn o) i arraycopyName ∈ TB ∧ Cond.native arraycopyName ∈ TB ∧ Cond.static arraycopyName ∈ TB ∧ Cond.initialized "java/lang/System" ∈ TB)
  ∧ (∀ k pc ci, mm_xt P k pc = some ci → xX ci ∧ (∀ x ∈ hs k, ¬ (x.1 ≤ pc + 9 ∧ pc + 9 < x.2.1)) ∧ ∃ (X : String) (T : u_T) (i si ic : Nat) (tx : String) (names : List String), cl[ci]? = some (X, T, 0)
      ∧ decode (kb k) pc = .ok (.new i, 3) ∧ decode (kb k) (pc + 3) = .ok (.dup, 1) ∧ decode (kb k) (pc + 4) = .ok (.ldc si, 2) ∧ decode (kb k) (pc + 6) = .ok (.invokespecial ic, 3) ∧ decode (kb k) (pc + 9) = .ok (.athrow, 1)
      ∧ Cond.classLink (cn (mm_kc P k)) i X ∈ TB ∧ Cond.instantiable X 6 ∈ TB ∧ Cond.initialized X ∈ TB ∧ (cn (mm_kc P k), si, tx) ∈ SB ∧ Bundle.fit X = true ∧ (∀ n ∈ names, Bundle.fit n = true) ∧ names.length = 2
      ∧ ∀ w ∈ Bundle.ownAtoms (cn (mm_kc P k)) ic X names, w ∈ TB ∨ w = .isRef (.static Bundle.tN "UNASSIGNED_STACK" Bundle.steD) ∨ w = .isRef (.static Bundle.tN "SUPPRESSED_SENTINEL" Bundle.listD))
  ∧ (∀ k pc ci, xX ci → (∀ h, mm_kh P k pc ci = some h → h ≠ 999999 → mm_hit (xc k) pc ci (hs k) = some h) ∧ (mm_kh P k pc ci = none → ∀ x ∈ hs k, ¬ (x.1 ≤ pc ∧ pc < x.2.1)))
  ∧ (∀ k ct cj, xc k ct = some cj → ct ≠ 0 ∧ xX cj ∧ ∃ X T, cl[cj]? = some (X, T, 0) ∧ Cond.classLink (cn (mm_kc P k)) ct X ∈ TB)
/-- what holds at the law's start -/
def mm_s0 (TB : List Cond) (SB : List (String × Nat × String)) (cl : List vw_C) (tyl : List FieldType) (D : va_G) (cT : Nat → Nat) (xX : Nat → Prop) (a0 : Array Value) (s0 : State) : Prop :=
  (∀ w ∈ TB, mm_gw w = true ∧ w.before a0 s0 = true) ∧ (∀ q ∈ SB, (Cond.stringRef q.1 q.2.1 q.2.2).before a0 s0 = true)
  ∧ ((Cond.laysStatic Bundle.tN "UNASSIGNED_STACK" Bundle.steD).before a0 s0 = true ∧ (Cond.isRef (.static Bundle.tN "UNASSIGNED_STACK" Bundle.steD)).before a0 s0 = true ∧ (Cond.laysStatic Bundle.tN "SUPPRESSED_SENTINEL" Bundle.listD).before a0 s0 = true ∧ (Cond.isRef (.static Bundle.tN "SUPPRESSED_SENTINEL" Bundle.listD)).before a0 s0 = true)
  ∧ va_K D cl (mm_T cT 0 tyl) s0 ∧ ∀ ci cj, xX ci → xX cj → (s0.vm.assignable (D.1 ci) (D.1 cj) = true ↔ cj = ci)
/-- what holds of a method that is walked -/
def mm_C (P : mm_P) (cn : Nat → String) (kb : Nat → ByteArray) (hs : Nat → List (Nat × Nat × Nat × Nat)) (s0 : State) (z : Nat) (k : Nat) (p : Program) (s : State) (m : MethodId) (meth : Method) (c : Code) : Prop :=
  p.tables.exec = Jvm.exec ∧ c.code = kb k ∧ c.maxLocals = mm_kl P k ∧ meth.sig.returnType = mm_kr P k ∧ meth.locks = false ∧ s.vm.findClass (cn (mm_kc P k)) = some m.cls ∧ (mm_ki P k = true → meth.name = "<init>")
  ∧ c.exceptionTable.toList.map (fun h => (h.startPc, h.endPc, h.handlerPc, h.catchType)) = hs k ∧ mm_B s0 z s
theorem mm_mono {p : Program} {l : Launch} {e : Env} {R : Room} {s : State} {m : MethodId} {args : Array Value} {below : List Frame} {meth : Method} {c : Code} {H : Heap} {locs : List Loc} {cells slots : Nat} {Q Q' : State → Prop} {g : JFrame} (h : ∀ t, Q t → Q' t) (w : W p l e R s m args below meth c H locs cells slots Q g) : W p l e R s m args below meth c H locs cells slots Q' g := fun T hT X => by
  obtain ⟨t, a, b⟩ := w T hT X
  exact ⟨t, a, h t b⟩
/-- what a return leaves -/
theorem mm_ret_end {P : mm_P} {D : va_G} {cl : List vw_C} {cT : Nat → Nat} {b z Ln : Nat} {xs : Nat → Int32} {xX : Nat → Prop} {s : State} {below : List Frame} {gl0 sl0 sl cells slots : Nat} {Q : mm_K} {g : List va_E} {H : Heap} {locs : List Loc} {args : Array Value} {v : Option Value} {t : State} (hR : mm_R D cl cT b z Ln xs s g H locs) (hcnt : mm_cnt P gl0 sl0 cells slots g sl) (hQ : Q (.inl v) g sl)
    (h : MQ below (fun _ _ o t => o = .returned (v.map (mm_v (mm_A b z))) ∧ t.heap = H) args s cells slots (fun q => z ≤ q) t) : mm_end P D cl cT b z Ln xs xX s below gl0 sl0 Q t := by
  obtain ⟨o, h1, h2, ⟨h3, h4⟩, lc, ⟨-, hW, hs⟩, hf⟩ := h
  obtain ⟨r1, r2, r3, r4, r5, r6⟩ := hR
  refine ⟨o, .inl v, g, sl, lc, cells, slots, h1, h2, hW, hs, ?_, hcnt, hQ, h3⟩
  rw [h4]
  exact ⟨r1, r2, ⟨r3.1, r3.2.1, hf⟩, r4, r5, r6⟩
theorem mm_kw_ok {P : mm_P} {ky : Nat → MethodName} {kb : Nat → ByteArray} {hs : Nat → List (Nat × Nat × Nat × Nat)} {TB : List Cond} {k : Nat} {args : Array Value} {s : State} (hts : ∀ w ∈ TB, w.before args s = true) (h : mm_kw P ky kb hs TB k) :
    ∃ mk meth c, s.methodNamed? (ky k) = some mk ∧ s.vm.method? mk = some meth ∧ meth.code = some c ∧ c.code = kb k ∧ c.maxLocals = mm_kl P k ∧ meth.sig.returnType = mm_kr P k ∧ meth.locks = false ∧ c.exceptionTable.toList.map (fun h => (h.startPc, h.endPc, h.handlerPc, h.catchType)) = hs k ∧ parseMethodDescriptor (ky k).desc = some meth.sig := by
  rcases h with ⟨h, h0⟩ | h
  · obtain ⟨mk, hn⟩ := Cond.code_named (hts _ h)
    obtain ⟨meth, c, h1, h2, h3, h4, h5, h6, h7, h8⟩ := Cond.code_spec hn (hts _ h)
    refine ⟨mk, meth, c, hn, h1, h2, h3, h4, h5, h6, ?_, h8⟩
    have : c.exceptionTable.size = 0 := by simpa [Array.isEmpty] using h7
    have : c.exceptionTable.toList = [] := List.eq_nil_of_length_eq_zero (by simpa using this)
    rw [this, h0]; rfl
  · obtain ⟨mk, meth, c, hn, h1, h2, h3, h4, h5, h6, h7, h8⟩ := Cond.codeWith_spec (hts _ h)
    exact ⟨mk, meth, c, hn, h1, h2, h3, h4, h6, h7, h5, h8⟩
end
section
section MmThrow
variable {p : Program} {l : Launch} {e : Env} {R : Room} {s : State} {m : MethodId} {args : Array Value} {below : List Frame} {meth : Method} {c : Code} {H : Heap} {locs : List Loc} {cells slots : Nat} {D : va_G} {cl : List vw_C} {cT : Nat → Nat} {b z Ln : Nat} {xs : Nat → Int32} {P : mm_P} {gl0 sl0 sl : Nat} {xX : Nat → Prop} {g : List va_E}
variable {TB : List Cond} {SB : List (String × Nat × String)} {tyl : List FieldType} {cn : Nat → String} {ky : Nat → MethodName} {kb : Nat → ByteArray} {hs : Nat → List (Nat × Nat × Nat × Nat)} {xc : Nat → Nat → Option Nat} {s0 : State} {a0 : Array Value} {k pc ci : Nat} {L : Array Slot} {st : List Value} {Q : mm_K} {ls : List (Nat × Value)}
theorem mm_statics {s : State} {D : va_G} {cl : List vw_C} {cT : Nat → Nat} {b z Ln : Nat} {xs : Nat → Int32} {g : List va_E} {H : Heap} {locs : List Loc} (r : mm_R D cl cT b z Ln xs s g H locs) (g0 : List va_E) (hs : va_P D cl (mm_W (mm_A b z) cT 0 g0) s.heap) (hz : s.heap.size = z + g0.length) : ∀ x ∈ locs, ∀ cell, s.heap[x.base]? = some cell → cell.vm.isStatics = false := by
  intro x hx cell hc
  have h1 := r.2.2.1.2.2 x hx
  have h2 := (Array.getElem?_eq_some_iff.mp hc).1
  obtain ⟨i, hi⟩ : ∃ i, x.base = z + i := ⟨x.base - z, (Nat.add_sub_cancel' (h1 : z ≤ x.base)).symm⟩
  have hlt : i < g0.length := by
    have h4 : z + i < z + g0.length := by rw [← hi, ← hz]; exact h2
    exact Nat.lt_of_add_lt_add_left h4
  have h3 := hs i _ (by rw [mm_W_get, List.getElem?_eq_getElem hlt]; rfl)
  have hA : mm_A b z (0 + i + 1) = x.base := by rw [hi]; simp [mm_A]
  rw [hA] at h3
  cases he : g0[i] with
  | inl q =>
    obtain ⟨t, a⟩ := q
    rw [he] at h3
    have h3 : s.heap[x.base]? = some (vp_cell (cT t) (mm_a (mm_A b z) a)) := h3
    rw [hc] at h3
    cases h3
    obtain ⟨n, f | f | f | f | f⟩ := a <;> rfl
  | inr q =>
    obtain ⟨cj, fs⟩ := q
    rw [he] at h3
    obtain ⟨rr, -, cell', q1, q2, q3, -⟩ := h3
    have q1 : s.heap[x.base]? = some cell' := q1
    rw [hc] at q1
    cases q1
    rw [q3]; rfl
set_option maxHeartbeats 1000000 in
theorem mm_throw_ok (ok : mm_ok3 P TB SB cl cn ky kb hs xc xX) (h0 : mm_s0 TB SB cl tyl D cT xX a0 s0) (htr : e.platform.stackTraces = false) (C : mm_C P cn kb hs s0 z k p s m meth c) (hR : mm_R D cl cT b z Ln xs s g H locs) (g0 : List va_E) (hg0 : va_P D cl (mm_W (mm_A b z) cT 0 g0) s.heap) (hz0 : s.heap.size = z + g0.length) (hl : lv_has L (mm_kl P k) (mm_L (mm_A b z) ls))
    (hx : mm_xt P k pc = some ci) (hroom : g.length + 1 ≤ mm_CM P ∧ sl + 6 ≤ mm_SM P ∧ mm_cats st ≤ 8) (hQ : Q (.inr (ci, g.length + 1)) (g ++ [.inr (ci, [])]) (sl + 6)) (hcnt : mm_cnt P gl0 sl0 cells slots g sl) (hCM : mm_CM P ≤ R.cells + gl0) (hSM : mm_SM P ≤ R.slots + sl0) (hfr : 8 ≤ R.frames) (hlo : 200 ≤ R.locals) :
    W p l e R s m args below meth c H locs cells slots (mm_end P D cl cT b z Ln xs xX s below gl0 sl0 Q) (F0 m pc L (mm_S (mm_A b z) st)) := by
  obtain ⟨hexec, hb, hml, hrt, hlocks, hown, hname, hhs, B⟩ := C
  obtain ⟨g1, g2, ⟨g3, g4, g5, g6⟩, g7, g8⟩ := h0
  have hts : ∀ w ∈ TB, w.before args s = true := fun w hw => B.word (g1 w hw).1 (g1 w hw).2
  obtain ⟨-, -, -, -, -, okX, -, -⟩ := ok
  obtain ⟨hxX, hnot, X, T, i, si, ic, tx, names, hc, d0, d3, d4, d6, d9, w1, w2, w3, w4, w5, w6, w7, w8⟩ := okX _ _ _ hx
  obtain ⟨c1, c2, c3, c4⟩ := hcnt
  have hKn := (va_K.moved B.1.alike g7).1 ci _ hc
  have hA : mm_A b z (g.length + 1) = H.size := by rw [hR.1]; rfl
  have hown8 : ∀ w ∈ Bundle.ownAtoms (cn (mm_kc P k)) ic X names, w.before args s = true := by
    intro w hw
    rcases w8 w hw with h | h | h
    · exact hts w h
    · rw [h]; exact B.isRefStatic g3 g4
    · rw [h]; exact B.isRefStatic g5 g6
  refine W.newcK hexec hb hown (hts _ w1) (hts _ w2) (hts _ w3) rfl d0 (by omega) (by omega) hKn.2.1 rfl fun H1 kC hkC e1 z1 o1 => ?_
  have hR1 : mm_R D cl cT b z Ln xs s (g ++ [.inr (ci, [])]) H1 locs := hR.push ⟨_, hc, _, e1, rfl, rfl, fun j hj => absurd hj (Nat.not_lt_zero j)⟩ z1 o1
  refine lv_dup hexec hb d3 rfl ?_
  obtain ⟨sa, hsa⟩ := B.string (g2 _ w4)
  refine va_ldcS hexec hb hown hsa d4 ?_
  intro T1 hT1 X1
  have hsz : H.size < H1.size := by omega
  obtain ⟨vm', ce, lc, k1, k2, k3, X2, st2⟩ := mm_made X1 hexec htr hown w5 w6 hown8 (mm_statics hR g0 hg0 hz0) (a := H.size) hKn.2.1 hkC (by rw [hT1]; exact e1) (by have := hR.2.2.1.1; exact this) (msg := .ref sa) rfl (g := F0 m (pc + 3 + 1 + 2) L (.ref sa :: .ref H.size :: .ref H.size :: mm_S (mm_A b z) st)) rfl (by rw [hml]; exact hl.1) rfl (by rw [hb]; exact d6) (by rw [w7]; omega)
    (by rw [w7]; show 2 * 0 + (1 + ((mm_S (mm_A b z) st).map fun v => v.category).sum) + _ ≤ _; rw [mm_cats_S]; omega)
  have hnocov : ∀ x ∈ c.exceptionTable.toList, covers x (pc + 9) = false := by
    intro x hx'
    have hm : (x.startPc, x.endPc, x.handlerPc, x.catchType) ∈ hs k := by rw [← hhs]; exact List.mem_map.mpr ⟨x, hx', rfl⟩
    have := hnot _ hm
    simp only [covers]
    by_cases q1 : x.startPc ≤ pc + 9 <;> by_cases q2 : pc + 9 < x.endPc <;> simp [q1, q2]
    exact this ⟨q1, q2⟩
  obtain ⟨hwalk, hrun, hended, hWU, hsame⟩ := X2.athrowLeaves hexec (g := F0 m (pc + 9) L (.ref H.size :: mm_S (mm_A b z) st)) rfl rfl rfl hnocov rfl (by rw [hb]; exact d9) hlocks
  refine ⟨_, st2 _ hwalk, .threw H.size, .inr (ci, g.length + 1), g ++ [.inr (ci, [])], sl + 6, locs ++ lc, cells + 1, slots + 6, hrun, hended, hWU, hsame, ?_, ⟨by rw [List.length_append]; show cells + 1 + gl0 = g.length + 1; omega, by omega, by rw [List.length_append]; show g.length + 1 ≤ _; omega, by omega⟩, hQ, by show Outcome.threw _ = .threw (mm_A b z (g.length + 1)); rw [hA], hxX, g.length, rfl, by simp⟩
  have hheap : (((T1.setVm vm').setCell H.size ce).setFrames (.throwing H.size :: below)).heap = H1.setIfInBounds H.size ce := by
    show ((T1.setVm vm').setCell H.size ce).heap = _
    simp [State.setCell, hT1]
  rw [hheap]
  have hq : (g ++ [Sum.inr (ci, [])] : List va_E)[g.length]? = some (.inr (ci, [])) := by simp
  obtain ⟨r1, r2, r3, r4, r5, r6⟩ := hR1
  have hD : va_D (fun q => z ≤ q) (mm_W (mm_A b z) cT 0 (g ++ [.inr (ci, [])])) := mm_R.D ⟨r1, r2, r3, r4, r5, r6⟩
  have hp : (mm_W (mm_A b z) cT 0 (g ++ [Sum.inr (ci, [])]))[g.length]? = some (H.size, .inr (ci, [])) := by
    rw [mm_at ⟨r1, r2, r3, r4, r5, r6⟩ hq, hA]; rfl
  have hoq : ∀ x : Nat, x ≠ H.size → (H1.setIfInBounds H.size ce)[x]? = H1[x]? := fun x hx' => Array.getElem?_setIfInBounds_ne (fun q => hx' q.symm)
  have hP2 := r2.set hD hp (e := .inr (ci, [])) (H1 := H1.setIfInBounds H.size ce) ⟨_, hc, ce, by rw [Array.getElem?_setIfInBounds_self_of_lt hsz], k1, k2, fun j hj => absurd hj (Nat.not_lt_zero j)⟩ hoq
  have hset : (mm_W (mm_A b z) cT 0 (g ++ [Sum.inr (ci, [])])).set g.length (H.size, .inr (ci, [])) = mm_W (mm_A b z) cT 0 (g ++ [.inr (ci, [])]) := by
    apply List.ext_getElem?
    intro j
    by_cases hj : g.length = j
    · subst hj
      rw [List.getElem?_set_self (by have := (List.getElem?_eq_some_iff.mp hp).1; exact this), hp]
    · rw [List.getElem?_set_ne hj]
  rw [hset] at hP2
  refine ⟨by rw [Array.size_setIfInBounds]; exact r1, hP2, ⟨by rw [Array.size_setIfInBounds]; exact r3.1, fun q hq1 hq2 => ?_, fun x hx' => ?_⟩, r4, r5, r6⟩
  · rw [hoq q (fun h => hq2 (by show z ≤ q; rw [h, hR.1]; omega))]
    exact r3.2.1 q hq1 hq2
  · rcases List.mem_append.mp hx' with q | q
    · exact r3.2.2 x q
    · show z ≤ x.base
      rw [k3 x q, hR.1]; omega
end MmThrow
end
section
section MmCalls
variable {p : Program} {l : Launch} {e : Env} {R : Room} {s : State} {m : MethodId} {args : Array Value} {below : List Frame} {meth : Method} {c : Code} {H : Heap} {locs : List Loc} {cells slots : Nat} {D : va_G} {cl : List vw_C} {cT : Nat → Nat} {b z Ln : Nat} {xs : Nat → Int32} {P : mm_P} {gl0 sl0 sl : Nat} {xX : Nat → Prop} {g : List va_E}
variable {TB : List Cond} {SB : List (String × Nat × String)} {tyl : List FieldType} {cn : Nat → String} {ky : Nat → MethodName} {kb : Nat → ByteArray} {hs : Nat → List (Nat × Nat × Nat × Nat)} {xc : Nat → Nat → Option Nat} {s0 : State} {a0 : Array Value} {k pc : Nat} {L : Array Slot} {Q : mm_K} {ls : List (Nat × Value)}
/-- what is known of calls: they are sound, in so much room -/
def mm_HC (P : mm_P) (l : Launch) (D : va_G) (cl : List vw_C) (cT : Nat → Nat) (b z Ln : Nat) (xs : Nat → Int32) (xX : Nat → Prop) (cn : Nat → String) (kb : Nat → ByteArray) (hs : Nat → List (Nat × Nat × Nat × Nat)) (s0 : State) (d : Nat) (call : mm_Call) : Prop :=
  ∀ k' as g sl Q', call k' as g sl Q' → ∀ {p : Program} {e : Env} {s : State} {m : MethodId} {args : Array Value} {below : List Frame} {meth : Method} {c : Code} {R : Room} {H : Heap} {L : Array Slot}, e.platform.stackTraces = false → mm_C P cn kb hs s0 z k' p s m meth c → s.heap = H → mm_R D cl cT b z Ln xs s g H [] → lv_has L (mm_kl P k') (mm_L (mm_A b z) (lv_args 0 as)) → g.length ≤ mm_CM P → sl ≤ mm_SM P → mm_CM P ≤ R.cells + g.length → mm_SM P ≤ R.slots + sl → 8 + d ≤ R.frames → 200 + 64 * d ≤ R.locals →
    W p l e R s m args below meth c H [] 0 0 (mm_end P D cl cT b z Ln xs xX s below g.length sl Q') (F0 m 0 L [])
set_option maxHeartbeats 1000000 in
/-- a call that stands: into the method, and on -/
theorem mm_go {d : Nat} {call : mm_Call} (HC : mm_HC P l D cl cT b z Ln xs xX cn kb hs s0 d call) (ok : mm_ok3 P TB SB cl cn ky kb hs xc xX) (h0 : mm_s0 TB SB cl tyl D cT xX a0 s0) (htr : e.platform.stackTraces = false) (C : mm_C P cn kb hs s0 z k p s m meth c) {T : State} (X : Stand p l e R s m args below meth c T locs cells slots) (hR : mm_R D cl cT b z Ln xs s g T.heap locs) (hl : lv_has L (mm_kl P k) (mm_L (mm_A b z) ls))
    (hcnt : mm_cnt P gl0 sl0 cells slots g sl) (hCM : mm_CM P ≤ R.cells + gl0) (hSM : mm_SM P ≤ R.slots + sl0) (hfr : 8 + (d + 1) ≤ R.frames) (hlo : 200 + 64 * (d + 1) ≤ R.locals)
    {k' : Nat} {as r : List Value} {ig : Instr} (hdg : decode c.code pc = .ok (ig, 3)) (hroom : mm_cats r + mm_kl P k' + 11 ≤ 64 ∧ mm_cats as ≤ mm_kl P k') (hkw : mm_kw P ky kb hs TB k') (hpf : plainFor (ky k') = true) (hcn : cn (mm_kc P k') = (ky k').cls) (hki : mm_ki P k' = true → (ky k').name = "<init>")
    {mk : MethodId} (hmk : s.methodNamed? (ky k') = some mk) {nx : Nat → List Value → List va_E → Nat → Prop} (hcall : call k' as g sl (mm_back P k nx Q pc r))
    (kk : ∀ pc' st' g' sl' H' locs' cells' slots', nx pc' st' g' sl' → mm_R D cl cT b z Ln xs s g' H' locs' → mm_cnt P gl0 sl0 cells' slots' g' sl' → W p l e R s m args below meth c H' locs' cells' slots' (mm_end P D cl cT b z Ln xs xX s below gl0 sl0 Q) (F0 m pc' L (mm_S (mm_A b z) st'))) :
    ∃ t, (∀ acts, Steps p.tables e below (doInvoke e (T.setTop (F0 m pc L (mm_S (mm_A b z) r))) acts mk (mm_S (mm_A b z) as).toArray).1 t) ∧ mm_end P D cl cT b z Ln xs xX s below gl0 sl0 Q t := by
  obtain ⟨hexec, hb, hml, hrt, hlocks, hown, hname, hhs, B⟩ := C
  obtain ⟨g1, g2, -, g7, g8⟩ := h0
  have hts : ∀ w ∈ TB, w.before args s = true := fun w hw => B.word (g1 w hw).1 (g1 w hw).2
  obtain ⟨mk', methk, ck, hn, hm, hcode, hbytes, hmaxl, hret, hlk, hhsk, hsig⟩ := mm_kw_ok hts hkw
  cases Option.some.inj (hmk.symm.trans hn)
  have halT : s.vm.Alike T.vm := X.warmed.alike
  have hmkT : T.vm.method? mk = some methk := by rw [halT.method?]; exact hm
  have hnT : T.methodNamed? (ky k') = some mk := X.named hn
  have hpk : T.plainMethod mk := State.plainMethod.of_named hpf hnT hmkT
  obtain ⟨c1, c2, c3, c4⟩ := id hcnt
  obtain ⟨-, -, -, -, -, -, okH, okc⟩ := ok
  obtain ⟨oc, g', sl', T', lc, ce, ss, X', hR', hcnt', hQ', hfin⟩ := mm_enter (P := P) (gl0 := gl0) (sl0 := sl0) (xX := xX) X (g := F0 m pc L (mm_S (mm_A b z) r)) rfl (by rw [hml]; exact hl.1) hdg rfl as hmkT hcode hlk hpk (R' := { frames := R.frames - 1, cells := R.cells - cells, slots := R.slots - slots, locals := R.locals - 64 }) (by show R.frames - 1 + 1 ≤ R.frames; omega)
    (by show ((mm_S (mm_A b z) r).map fun v => v.category).sum + (ck.maxLocals + 11) + (R.locals - 64) ≤ R.locals; rw [mm_cats_S, hmaxl]; omega) (by show cells + (R.cells - cells) ≤ R.cells; omega) (by show slots + (R.slots - slots) ≤ R.slots; omega) hR (by rw [hmaxl]; exact hroom.2) (Q' := mm_back P k nx Q pc r) hcnt (by
      intro L' hl' hRs
      have hheap : (T.calling (F0 m pc L (mm_S (mm_A b z) r)) mk (mm_S (mm_A b z) as).toArray).heap = T.heap := by
        simp [State.calling, State.pushFrame, State.setFrames, State.setTop, State.modifyTopJava]
      have hvm : (T.calling (F0 m pc L (mm_S (mm_A b z) r)) mk (mm_S (mm_A b z) as).toArray).vm = T.vm := by
        simp [State.calling, State.pushFrame, State.setFrames, State.setTop, State.modifyTopJava]
      refine HC _ _ _ _ _ hcall htr ⟨hexec, hbytes, hmaxl, hret, hlk, ?_, fun q => ?_, hhsk, ?_⟩ hheap hRs (by rw [← hmaxl]; exact hl') c3 c4 (by show _ ≤ R.cells - cells + g.length; omega) (by show _ ≤ R.slots - slots + sl; omega) (by show 8 + d ≤ R.frames - 1; omega) (by show 200 + 64 * d ≤ R.locals - 64; omega)
      · rw [hcn, hvm, halT.findClass]; exact findClass_of_methodNamed hn
      · rw [(name_of_methodNamed hn hm).1]; exact hki q
      · refine ⟨by rw [hvm]; exact State.WarmedH.trans B.1 X.warmed, B.2.1, fun q hq => ?_⟩
        rw [hheap, hR.2.2.1.2.1 q (by have := hR.2.2.2.2.2; omega) (by omega)]
        exact B.2.2 q hq)
  cases oc with
  | inl v =>
    have hnx : nx (pc + 3) (v.toList ++ r) g' sl' := hQ'
    obtain ⟨t, hst, hend⟩ := kk _ _ _ _ _ _ _ _ hnx hR' hcnt' T' rfl X'
    refine ⟨t, fun acts => (hfin acts).trans ?_, hend⟩
    have : mm_S (mm_A b z) (v.toList ++ r) = (v.map (mm_v (mm_A b z))).toList ++ mm_S (mm_A b z) r := by cases v <;> simp [mm_S]
    rw [this] at hst
    exact hst
  | inr x =>
    obtain ⟨hx, ⟨q, hq1, hq2⟩, hst⟩ := hfin
    have hQ'' : (match mm_kh P k pc x.1 with
      | some h => h ≠ 999999 ∧ nx h [.ref x.2] g' sl'
      | none => Q (.inr x) g' sl') := hQ'
    cases hkh : mm_kh P k pc x.1 with
    | none =>
      rw [hkh] at hQ''
      have hout : ∀ y ∈ c.exceptionTable.toList, covers y pc = false := by
        intro y hy
        have hmem : (y.startPc, y.endPc, y.handlerPc, y.catchType) ∈ hs k := by rw [← hhs]; exact List.mem_map.mpr ⟨y, hy, rfl⟩
        have := (okH k pc x.1 hx).2 hkh _ hmem
        simp only [covers]
        by_cases q1 : y.startPc ≤ pc <;> by_cases q2 : pc < y.endPc <;> simp [q1, q2]
        exact this ⟨q1, q2⟩
      obtain ⟨hwalk, hrun, hended, hWU, hsame⟩ := X'.leaveThrown (mm_A b z x.2) (g := F0 m pc L (mm_S (mm_A b z) r)) rfl rfl rfl hout hlocks
      exact ⟨_, fun acts => (hst acts).trans hwalk, .threw (mm_A b z x.2), .inr x, g', sl', locs ++ lc, cells + ce, slots + ss, hrun, hended, hWU, hsame, hR', hcnt', hQ'', rfl, hx, q, hq1, hq2⟩
    | some h =>
      rw [hkh] at hQ''
      have hhit := (okH k pc x.1 hx).1 h hkh hQ''.1
      have hK := va_K.moved B.1.alike g7
      obtain ⟨rr, hrr, cell, e1, e2, e3, -⟩ := hR'.2.1 q _ (mm_at hR' hq2)
      rw [← hq1] at e1
      have hpl : e.platform.magicAccessors = ({} : Platform).magicAccessors := by rw [X.admits.platform]
      obtain ⟨vm', X3, st3⟩ := mm_caught X' (a := mm_A b z x.2) (g := F0 m pc L (mm_S (mm_A b z) r)) rfl (cc := xc k) (dC := D.1) (ci := x.1) (pcH := h) e1 e2 (fun k' hk' => by rw [e3] at hk'; cases hk') (by obtain ⟨-, -, kk', hkk, -⟩ := hK.1 x.1 _ hrr; exact ⟨kk', hkk⟩)
        (by
          intro ct cj hct
          obtain ⟨n1, n2, Xn, Tn, n3, n4⟩ := okc _ _ _ hct
          obtain ⟨-, hfc, kk', hkk, -⟩ := hK.1 cj _ n3
          obtain ⟨c', hc', hlk'⟩ := Cond.classLink_spec hown (hts _ n4) e.platform hpl
          cases Option.some.inj (hc'.symm.trans hfc)
          refine ⟨n1, hlk', ⟨kk', hkk⟩, ?_⟩
          rw [B.1.alike.assignable]
          exact g8 _ _ hx n2)
        (by rw [hhs]; exact hhit)
      obtain ⟨t, hst4, hend⟩ := kk _ _ _ _ _ _ _ _ hQ''.2 hR' hcnt' (T'.setVm vm') rfl X3
      exact ⟨t, fun acts => (hst acts).trans (st3 _ hst4), hend⟩
end MmCalls
end
section
section MmSound
variable {l : Launch} {D : va_G} {cl : List vw_C} {cT : Nat → Nat} {b z Ln : Nat} {xs : Nat → Int32} {P : mm_P} {xX : Nat → Prop}
variable {TB : List Cond} {SB : List (String × Nat × String)} {tyl : List FieldType} {cn : Nat → String} {ky : Nat → MethodName} {kb : Nat → ByteArray} {hs : Nat → List (Nat × Nat × Nat × Nat)} {xc : Nat → Nat → Option Nat} {s0 : State} {a0 : Array Value} {k : Nat}
set_option maxHeartbeats 2000000 in
theorem mm_sound_n {d : Nat} {call : mm_Call} (HC : mm_HC P l D cl cT b z Ln xs xX cn kb hs s0 d call) (ok2 : mm_ok2 P TB cl tyl cn) (ok : mm_ok3 P TB SB cl cn ky kb hs xc xX) (h0 : mm_s0 TB SB cl tyl D cT xX a0 s0) {p : Program} {e : Env} {s : State} {m : MethodId} {args : Array Value} {below : List Frame} {meth : Method} {c : Code} {R : Room} {gl0 sl0 : Nat} (htr : e.platform.stackTraces = false) (C : mm_C P cn kb hs s0 z k p s m meth c)
    (g0 : List va_E) (hg0 : va_P D cl (mm_W (mm_A b z) cT 0 g0) s.heap) (hz0 : s.heap.size = z + g0.length) (hgl : g0.length = gl0) (hCM : mm_CM P ≤ R.cells + gl0) (hSM : mm_SM P ≤ R.slots + sl0) (hfr : 8 + (d + 1) ≤ R.frames) (hlo : 200 + 64 * (d + 1) ≤ R.locals) {Q : mm_K} :
    ∀ (n pc : Nat) (ls : List (Nat × Value)) (st : List Value) (g : List va_E) (sl : Nat), mm_w P Ln xs call k n pc ls st g sl Q → ∀ (H : Heap) (L : Array Slot) (locs : List Loc) (cells slots : Nat), mm_R D cl cT b z Ln xs s g H locs → lv_has L (mm_kl P k) (mm_L (mm_A b z) ls) → mm_cnt P gl0 sl0 cells slots g sl →
      W p l e R s m args below meth c H locs cells slots (mm_end P D cl cT b z Ln xs xX s below gl0 sl0 Q) (F0 m pc L (mm_S (mm_A b z) st))
  | 0, _, _, _, _, _, h => by exact absurd h (by simp [mm_w])
  | n + 1, pc, ls, st, g, sl, h => by
    intro H L locs cells slots hR hl hcnt
    have ih := mm_sound_n HC ok2 ok h0 htr C g0 hg0 hz0 hgl hCM hSM hfr hlo (args := args) (below := below) (Q := Q) n
    obtain ⟨hexec, hb, hml, hrt, hlocks, hown, hname, hhs, B⟩ := id C
    have hts : ∀ w ∈ TB, w.before args s = true := fun w hw => B.word (h0.1 w hw).1 (h0.1 w hw).2
    have hK := va_K.moved B.1.alike h0.2.2.2.1
    have kk : ∀ pc' st' g' sl' H' locs' cells' slots', mm_w P Ln xs call k n pc' ls st' g' sl' Q → mm_R D cl cT b z Ln xs s g' H' locs' → mm_cnt P gl0 sl0 cells' slots' g' sl' → W p l e R s m args below meth c H' locs' cells' slots' (mm_end P D cl cT b z Ln xs xX s below gl0 sl0 Q) (F0 m pc' L (mm_S (mm_A b z) st')) := fun pc' st' g' sl' H' locs' cells' slots' hw hr hc => ih pc' ls st' g' sl' hw _ _ _ _ _ hr hl hc
    unfold mm_w at h
    split at h
    · rename_i ci hx
      exact mm_throw_ok ok h0 htr C hR g0 hg0 hz0 hl hx h.1 h.2 hcnt hCM hSM (by omega) (by omega)
    split at h
    · rename_i lo dt ts hsw
      obtain ⟨dflt, offs, len, d1, d2, d3⟩ := ok.2.1 _ _ _ _ _ hsw
      split at h
      · rename_i x r
        by_cases hout : x.toInt < lo ∨ lo + (ts.length : Int) - 1 < x.toInt
        · exact lv_tableOut hexec hb d1 hout d2 (kk _ _ _ _ _ _ _ _ (h.1 hout) hR hcnt)
        · have h1 : ¬ x.toInt < lo := fun q => hout (Or.inl q)
          have h2 : ¬ lo + (ts.length : Int) - 1 < x.toInt := fun q => hout (Or.inr q)
          have hi : (x.toInt - lo).toNat < ts.length := by omega
          obtain ⟨off, o1, o2⟩ := d3 _ _ (List.getElem?_eq_getElem hi)
          exact lv_tableIn hexec hb d1 h1 h2 o1 o2 (kk _ _ _ _ _ _ _ _ (h.2 _ _ (List.getElem?_eq_getElem hi) (by omega)) hR hcnt)
      · exact h.elim
    split at h
    · exact h.elim
    · rename_i ins hlook
      have hdg := ok.1 _ _ (mm_look_mem hlook)
      dsimp only at hdg
      split at h
      · rename_i X hs1
        exact mm_s1_ok hexec hb hs1 h hdg hl (fun pc' ls' st' L' hw hl' => ih pc' ls' st' g sl hw _ _ _ _ _ hR hl' hcnt)
      rename_i hn1
      clear hn1
      split at h
      · rename_i X hs2
        exact mm_s2_ok ok2 hexec hb hts hown hname hK hs2 h hdg hR hcnt hCM hSM kk
      · rename_i hn2
        clear hn2
        have hfree : ∀ q ∈ locs, (fun q => z ≤ q) q.base := hR.2.2.1.2.2
        unfold mm_s3 at h
        split at h
        · split at h
          · rename_i x
            split at h
            · rename_i hk
              exact mm_mono (Q := MQ below (fun _ _ o t => o = .returned ((some (.int x) : Option Value).map (mm_v (mm_A b z))) ∧ t.heap = H) args s cells slots (fun q => z ≤ q)) (fun t => mm_ret_end hR hcnt h) (W.iret (v := x) hexec hb (hrt.trans hk) (fun t ht _ => ⟨rfl, ht⟩) hfree hdg hlocks)
            · rename_i ty _ hk
              exact mm_mono (Q := MQ below (fun _ _ o t => o = .returned ((some (.int x) : Option Value).map (mm_v (mm_A b z))) ∧ t.heap = H) args s cells slots (fun q => z ≤ q)) (fun t => mm_ret_end hR hcnt h.2) (W.zret (v := x) hexec hb (hrt.trans hk) h.1 (fun t ht _ => ⟨rfl, ht⟩) hfree hdg hlocks)
            · exact h.elim
          · exact h.elim
        · split at h
          · rename_i x
            split at h
            · rename_i hk
              exact mm_mono (Q := MQ below (fun _ _ o t => o = .returned ((some (.long x) : Option Value).map (mm_v (mm_A b z))) ∧ t.heap = H) args s cells slots (fun q => z ≤ q)) (fun t => mm_ret_end hR hcnt h) (W.lret (v := x) hexec hb (hrt.trans hk) (fun t ht _ => ⟨rfl, ht⟩) hfree hdg hlocks)
            · exact h.elim
          · exact h.elim
        · split at h
          · rename_i v
            split at h
            · rename_i hv
              have hv' : mm_v (mm_A b z) v = .null ∨ ∃ a, mm_v (mm_A b z) v = .ref a := by
                unfold mm_kind at hv
                split at hv <;> first | (cases hv; done) | (rename_i h1; cases h1; done) | exact Or.inr ⟨_, rfl⟩ | exact Or.inl rfl
              split at h
              · rename_i nn hk
                exact mm_mono (Q := MQ below (fun _ _ o t => o = .returned ((some v : Option Value).map (mm_v (mm_A b z))) ∧ t.heap = H) args s cells slots (fun q => z ≤ q)) (fun t => mm_ret_end hR hcnt h) (W.aret (v := mm_v (mm_A b z) v) hexec hb (hrt.trans hk) (Or.inl ⟨_, rfl⟩) hv' (fun t ht _ => ⟨rfl, ht⟩) hfree hdg hlocks)
              · rename_i nn hk
                exact mm_mono (Q := MQ below (fun _ _ o t => o = .returned ((some v : Option Value).map (mm_v (mm_A b z))) ∧ t.heap = H) args s cells slots (fun q => z ≤ q)) (fun t => mm_ret_end hR hcnt h) (W.aret (v := mm_v (mm_A b z) v) hexec hb (hrt.trans hk) (Or.inr ⟨_, rfl⟩) hv' (fun t ht _ => ⟨rfl, ht⟩) hfree hdg hlocks)
              · exact h.elim
            · exact h.elim
          · exact h.elim
        · split at h
          · split at h
            · rename_i hk
              exact mm_mono (Q := MQ below (fun _ _ o t => o = .returned ((none : Option Value).map (mm_v (mm_A b z))) ∧ t.heap = H) args s cells slots (fun q => z ≤ q)) (fun t => mm_ret_end (v := none) hR hcnt h) (W.vret hexec hb (hrt.trans hk) (fun t ht _ => ⟨rfl, ht⟩) hfree hdg hlocks)
            · exact h.elim
          · exact h.elim
        · split at h
          · rename_i i k' na hml'
            obtain ⟨o1, o2, o3, o4, o5, o6, o7, -, o8, -, -⟩ := ok.2.2.1 _ _ _ _ _ hml' (by decide) (by decide)
            have o2 := o2.resolve_left (by decide)
            obtain ⟨o9, o10⟩ := o8 (Or.inl rfl)
            split at h
            · rename_i as r htk
              split at h
              · rename_i hd
                obtain ⟨bs, hbs, hlen, hst⟩ := mm_take_ok _ _ _ _ _ htk
                rw [List.append_nil] at hbs
                subst hbs
                subst hst
                intro T hT X
                subst hT
                obtain ⟨mk, methk, ck, hn, hm, -, -, -, -, -, -, hsig⟩ := mm_kw_ok hts o1
                obtain ⟨kP, hkP, -⟩ := className_of_methodNamed hn
                have hpar : (mm_S (mm_A b z) as).length = methk.sig.parameters.length := by
                  rw [hsig] at o10
                  have := Option.some.inj o10
                  rw [mm_S, List.length_map, hlen]
                  exact this.symm
                obtain ⟨vm1, X1, st1⟩ := X.invokestatic hexec hown (hts _ o2) hn hm (Cond.static_spec hn hm (hts _ o9)) hkP (Cond.initialized_spec (findClass_of_methodNamed hn) hkP (hts _ o3)) o4 (g := F0 m pc L (mm_S (mm_A b z) (as.reverse ++ r))) rfl (argsL := mm_S (mm_A b z) as) (rest := mm_S (mm_A b z) r) hpar (by simp [mm_S]) (by rw [hb]; exact hdg)
                obtain ⟨t, ht, hend⟩ := mm_go HC ok h0 htr C X1 hR hl hcnt hCM hSM hfr hlo (by rw [hb]; exact hdg) (of_decide_eq_true hd) o1 o5 o6 o7 hn h kk
                exact ⟨t, st1 _ ht, hend⟩
              · exact h.elim
            · exact h.elim
          · rename_i i k' na hml'
            obtain ⟨o1, -, o3, o4, o5, o6, o7, on, o8, -, -⟩ := ok.2.2.1 _ _ _ _ _ hml' (by decide) (by decide)
            obtain ⟨host, o2⟩ := on rfl
            obtain ⟨o9, o10⟩ := o8 (Or.inr rfl)
            split at h
            · rename_i as r htk
              split at h
              · rename_i hd
                obtain ⟨bs, hbs, hlen, hst⟩ := mm_take_ok _ _ _ _ _ htk
                rw [List.append_nil] at hbs
                subst hbs
                subst hst
                intro T hT X
                subst hT
                obtain ⟨mk, methk, ck, hn, hm, -, -, -, -, -, -, hsig⟩ := mm_kw_ok hts o1
                obtain ⟨kP, hkP, -⟩ := className_of_methodNamed hn
                have hpar : (mm_S (mm_A b z) as).length = methk.sig.parameters.length := by
                  rw [hsig] at o10
                  have := Option.some.inj o10
                  rw [mm_S, List.length_map, hlen]
                  exact this.symm
                obtain ⟨vm1, X1, st1⟩ := X.invokestaticNest hexec hown (hts _ o2) hn hm (Cond.static_spec hn hm (hts _ o9)) hkP (Cond.initialized_spec (findClass_of_methodNamed hn) hkP (hts _ o3)) o4 (g := F0 m pc L (mm_S (mm_A b z) (as.reverse ++ r))) rfl (argsL := mm_S (mm_A b z) as) (rest := mm_S (mm_A b z) r) hpar (by simp [mm_S]) (by rw [hb]; exact hdg)
                obtain ⟨t, ht, hend⟩ := mm_go HC ok h0 htr C X1 hR hl hcnt hCM hSM hfr hlo (by rw [hb]; exact hdg) (of_decide_eq_true hd) o1 o5 o6 o7 hn h kk
                exact ⟨t, st1 _ ht, hend⟩
              · exact h.elim
            · exact h.elim
          · rename_i i k' na hml'
            obtain ⟨o1, o2, o3, o4⟩ := ok.2.2.2.2.1 _ _ _ _ hml'
            split at h
            · rename_i n' dp q2 sp q1 r
              split at h
              · rename_i n1 f1 hq1
                split at h
                · rename_i n2 f2 hq2
                  split at h
                  · rename_i hd
                    have hd := of_decide_eq_true hd
                    obtain ⟨⟨x1, x2, x3, x4, x5⟩, x6⟩ := h
                    have hty := mm_ty hK (ok2.2.2.2.2.1 .long _ _ rfl).1
                    have hnat : nativeFrameWords "java/lang/System" "arraycopy" 5 ≤ 100 := by decide +kernel
                    have hloc : ((mm_S (mm_A b z) r).map fun v => v.category).sum + (nativeFrameWords "java/lang/System" "arraycopy" 5 + 11) ≤ R.locals := by
                      rw [mm_cats_S]; omega
                    have hfr1 : 1 ≤ R.frames := by omega
                    refine va_copyl (A := fun q => z ≤ q) (H0 := H) hexec hb (by rw [hml]; exact hl.1.symm) hown (hts _ o1) (hts _ o2) (hts _ o3) (hts _ o4) hK hR.2.1 hR.D ⟨Nat.le_refl _, fun _ _ _ => rfl, hR.2.2.1.2.2⟩ q1 q2 1 1 (mm_at hR hq1) (mm_at hR hq2) hty hty rfl x1 x2 x3 x4 x5 (fun _ _ => rfl) hfr1 hloc hdg fun H1 locs1 hP1 hD1 hS1 => ?_
                    intro T hT X
                    have hup := X.heapSize
                    rw [hT] at hup
                    obtain ⟨c1, c2, c3, c4⟩ := hcnt
                    have hsz : H1.size = H.size := by have := hS1.1; have := hR.1; omega
                    have hS2 : va_S (fun q => z ≤ q) s.heap H1 locs1 := ⟨Nat.le_trans hR.2.2.1.1 hS1.1, fun q hq hn => by rw [hS1.2.1 q (by have := hR.2.2.1.1; omega) hn]; exact hR.2.2.1.2.1 q hq hn, hS1.2.2⟩
                    exact kk _ _ _ _ _ _ _ _ x6 (hR.set (e' := .inl (1, n2, .inr (.inl (va_cpy f1 f2 sp.toNatClampNeg dp.toNatClampNeg n'.toNatClampNeg)))) hP1 hS2 hsz) ⟨by rw [List.length_set]; exact c1, c2, by rw [List.length_set]; exact c3, c4⟩ T hT X
                  · exact h.elim
                · exact h.elim
              · exact h.elim
            · exact h.elim
          · exact h.elim
        · split at h
          · rename_i i k' na hml'
            obtain ⟨o1, o2, o3, o4, o5, o6, o7, -, -, o8, -⟩ := ok.2.2.1 _ _ _ _ _ hml' (by decide) (by decide)
            have o2 := o2.resolve_left (by decide)
            obtain ⟨o9, o10, o11, Tc, Nc, o12⟩ := o8 rfl
            split at h
            · rename_i as r htk
              split at h
              · rename_i hd
                obtain ⟨hd1, hd2⟩ := Bool.and_eq_true _ _ |>.mp hd
                obtain ⟨bs, hbs, hlen, hst⟩ := mm_take_ok _ _ _ _ _ htk
                rw [List.append_nil] at hbs
                subst hbs
                subst hst
                intro T hT X
                subst hT
                obtain ⟨mk, methk, ck, hn, hm, -, -, -, -, -, -, hsig⟩ := mm_kw_ok hts o1
                unfold mm_recv at hd2
                split at hd2
                · rename_i q as'
                  split at hd2
                  · rename_i ci fs hq
                    have hci := of_decide_eq_true hd2
                    subst hci
                    obtain ⟨rr, hrr, cell, e1, e2, e3, -⟩ := hR.2.1 q _ (mm_at hR hq)
                    obtain ⟨mk', methk', hn', hm', hst', hab'⟩ := Cond.instanceMethod_spec (hts _ o9)
                    cases Option.some.inj (hn.symm.trans hn')
                    cases Option.some.inj (hm.symm.trans hm')
                    obtain ⟨c2, r2, m2, q1, q2, q3, q4, kP, hkP, hkPi⟩ := Cond.selects_spec (hts _ o10)
                    have hcls : cell.cls = c2 := by
                      have := (hK.1 _ _ o12).2.1
                      rw [e2]
                      exact Option.some.inj (this.symm.trans q1)
                    cases Option.some.inj ((State.methodFound?_of_named hn o4).symm.trans q2)
                    cases Option.some.inj (hn.symm.trans q3)
                    have hpar : (mm_S (mm_A b z) as').length = methk.sig.parameters.length := by
                      rw [hsig] at o11
                      have := Option.some.inj o11
                      dsimp only at this
                      rw [mm_S, List.length_map]
                      simp at hlen
                      omega
                    obtain ⟨vm1, X1, st1⟩ := X.invokevirtual hexec hown (hts _ o2) hn hm hst' hkP hkPi o4 (a := mm_A b z (q + 1)) (cell := cell) e1 (fun x hx' => by rw [e3] at hx'; cases hx') (by rw [Launch.admits_selectMethod X.admits, hcls]; exact q4) hm hab' hkP hkPi (g := F0 m pc L (mm_S (mm_A b z) ((Value.ref (q + 1) :: as').reverse ++ r))) rfl (argsL := mm_S (mm_A b z) as') (rest := mm_S (mm_A b z) r) hpar (by simp [mm_S, mm_v]) (by rw [hb]; exact hdg)
                    obtain ⟨t, ht, hend⟩ := mm_go HC ok h0 htr C X1 hR hl hcnt hCM hSM hfr hlo (by rw [hb]; exact hdg) (of_decide_eq_true hd1) o1 o5 o6 o7 hn h kk
                    exact ⟨t, st1 _ ht, hend⟩
                  · cases hd2
                · cases hd2
              · exact h.elim
            · exact h.elim
          · exact h.elim
        · split at h
          · rename_i i k' na hml'
            obtain ⟨o1, o2, o3, o4, o5, o6, o7, -, -, -, o8⟩ := ok.2.2.1 _ _ _ _ _ hml' (by decide) (by decide)
            have o2 := o2.resolve_left (by decide)
            obtain ⟨o9, o10, o11, o12, o13⟩ := o8 rfl
            split at h
            · rename_i as r htk
              split at h
              · rename_i hd
                obtain ⟨hd1, hd2⟩ := Bool.and_eq_true _ _ |>.mp hd
                obtain ⟨bs, hbs, hlen, hst⟩ := mm_take_ok _ _ _ _ _ htk
                rw [List.append_nil] at hbs
                subst hbs
                subst hst
                intro T hT X
                subst hT
                unfold mm_isref at hd2
                split at hd2
                · rename_i q as'
                  have hcode := o12
                  have hpar : ∀ sig, parseMethodDescriptor (ky k').desc = some sig → (mm_S (mm_A b z) as').length = sig.parameters.length := by
                    intro sig hsig
                    rw [hsig] at o13
                    have := Option.some.inj o13
                    dsimp only at this
                    rw [mm_S, List.length_map]
                    simp at hlen
                    omega
                  have hpl : e.platform.magicAccessors = ({} : Platform).magicAccessors := by rw [X.admits.platform]
                  obtain ⟨mk, methM, cM, kP, vm1, hn, hm, -, -, -, -, -, -, hW1, st1⟩ := Steps.initColdArgs (e := e) X.here hexec X.warmed hpl hown o10 o4 (hts _ o2) (hts _ o9) (hts _ hcode) (f := F0 m pc L (mm_S (mm_A b z) ((Value.ref q :: as').reverse ++ r))) rfl (a := mm_A b z q) (argsL := mm_S (mm_A b z) as') (rest := mm_S (mm_A b z) r) hpar (by simp [mm_S, mm_v]) (by rw [hb]; exact hdg)
                  have X1 := X.noted hW1
                  obtain ⟨t, ht, hend⟩ := mm_go HC ok h0 htr C X1 hR hl hcnt hCM hSM hfr hlo (by rw [hb]; exact hdg) (of_decide_eq_true hd1) o1 o5 o6 o7 hn h kk
                  exact ⟨t, st1 _ ht, hend⟩
                · cases hd2
              · exact h.elim
            · exact h.elim
          · rename_i i k' na hml'
            obtain ⟨o1, o2, o3⟩ := ok.2.2.2.1 _ _ _ _ hml'
            split at h
            · rename_i q r
              split at h
              · rename_i hd
                have hd := of_decide_eq_true hd
                exact W.objInit hexec hb hown (hts _ o1) (hts _ o2) (hts _ o3) rfl (by rw [hml]; exact hl.1) rfl hdg (by omega) (by show 2 * 0 + ((mm_S (mm_A b z) r).map fun v => v.category).sum + 12 ≤ R.locals; rw [mm_cats_S]; omega) (kk _ _ _ _ _ _ _ _ h hR hcnt)
              · exact h.elim
            · exact h.elim
          · exact h.elim
        · exact h.elim
theorem mm_sound (ok2 : mm_ok2 P TB cl tyl cn) (ok : mm_ok3 P TB SB cl cn ky kb hs xc xX) (h0 : mm_s0 TB SB cl tyl D cT xX a0 s0) : ∀ d, mm_HC P l D cl cT b z Ln xs xX cn kb hs s0 d (mm_call P Ln xs d)
  | 0 => fun _ _ _ _ _ h => False.elim h
  | d + 1 => by
    intro k' as g sl Q' h p e s m args below meth c R H L htr C hH hR hl hg hs' hCM hSM hfr hlo
    obtain ⟨n, hn⟩ := h
    have hP : va_P D cl (mm_W (mm_A b z) cT 0 g) s.heap := by rw [hH]; exact hR.2.1
    have hz : s.heap.size = z + g.length := by rw [hH]; exact hR.1
    exact mm_sound_n (mm_sound ok2 ok h0 d) ok2 ok h0 htr C g hP hz rfl hCM hSM (by omega) (by omega) n 0 _ _ _ _ hn _ _ _ _ _ hR hl ⟨Nat.zero_add _, Nat.zero_add _, hg, hs'⟩
end MmSound
/-- lookups, and the handlers of a method, as functions -/
def mm_fd {α : Type} : List (Nat × α) → Nat → Option α
  | [], _ => none
  | q :: r, i => if q.1 = i then some q.2 else mm_fd r i
theorem mm_fd_mem {α : Type} {i : Nat} {v : α} : ∀ {l : List (Nat × α)}, mm_fd l i = some v → (i, v) ∈ l
  | [], h => by simp [mm_fd] at h
  | q :: r, h => by
    unfold mm_fd at h
    split at h
    · rename_i hq
      cases h
      subst hq
      exact List.mem_cons_self
    · exact List.mem_cons_of_mem _ (mm_fd_mem h)
def mm_khf (hs : Nat → List (Nat × Nat × Nat × Nat)) (xc : Nat → Nat → Option Nat) (k pc ci : Nat) : Option Nat :=
  if (hs k).any (fun x => decide (x.1 ≤ pc ∧ pc < x.2.1)) = true then (match mm_hit (xc k) pc ci (hs k) with | some h => some h | none => some 999999) else none
theorem mm_khf_ok (hs : Nat → List (Nat × Nat × Nat × Nat)) (xc : Nat → Nat → Option Nat) (k pc ci : Nat) : (∀ h, mm_khf hs xc k pc ci = some h → h ≠ 999999 → mm_hit (xc k) pc ci (hs k) = some h) ∧ (mm_khf hs xc k pc ci = none → ∀ x ∈ hs k, ¬ (x.1 ≤ pc ∧ pc < x.2.1)) := by
  unfold mm_khf
  constructor
  · intro h hh hn
    split at hh
    · split at hh
      · rename_i h' hq; cases hh; exact hq
      · cases hh; exact absurd rfl hn
    · cases hh
  · intro hh x hx hc
    split at hh
    · split at hh <;> cases hh
    · rename_i hany
      exact hany (List.any_eq_true.mpr ⟨x, hx, decide_eq_true hc⟩)
end
section
/-! CHECKS of table rows that the kernel can decide, and what they give. -/
def mm_swc (bs : ByteArray) (pc : Nat) (v : Int × Nat × List Nat) : Bool := match decode bs pc with
  | .ok (.tableswitch dflt lo hi offs, _) => decide (lo = v.1 ∧ hi = v.1 + (v.2.2.length : Int) - 1 ∧ (pc : Int) + dflt = (v.2.1 : Int) ∧ offs.toList.map (fun o => (pc : Int) + o) = v.2.2.map (fun t : Nat => (t : Int)))
  | _ => false
theorem mm_swc_ok {bs : ByteArray} {pc : Nat} {lo : Int} {dt : Nat} {ts : List Nat} (h : mm_swc bs pc (lo, dt, ts) = true) : ∃ (dflt : Int) (offs : Array Int) (len : Nat), decode bs pc = .ok (.tableswitch dflt lo (lo + (ts.length : Int) - 1) offs, len) ∧ (pc : Int) + dflt = (dt : Int) ∧ ∀ i t : Nat, ts[i]? = some t → ∃ off, offs[i]? = some off ∧ (pc : Int) + off = (t : Int) := by
  unfold mm_swc at h
  split at h
  · rename_i dflt lo' hi offs len hd
    obtain ⟨h1, h2, h3, h4⟩ := of_decide_eq_true h
    dsimp only at h1 h2 h3 h4
    subst h1
    subst h2
    refine ⟨dflt, offs, len, hd, h3, fun i t ht => ?_⟩
    have h5 : (offs.toList.map (fun o => (pc : Int) + o))[i]? = some (t : Int) := by rw [h4, List.getElem?_map, ht]; rfl
    rw [List.getElem?_map] at h5
    obtain ⟨off, o1, o2⟩ := Option.map_eq_some_iff.mp h5
    exact ⟨off, by rw [← Array.getElem?_toList]; exact o1, o2⟩
  · cases h
/-- two keys -/
def mm_fd2 {α : Type} (l : List (List (Nat × α))) (o i : Nat) : Option α := match l[o]? with
  | some r => mm_fd r i
  | none => none
theorem mm_fd2_mem {α : Type} {l : List (List (Nat × α))} {o i : Nat} {v : α} (h : mm_fd2 l o i = some v) : ∃ r, l[o]? = some r ∧ (i, v) ∈ r := by
  unfold mm_fd2 at h
  split at h
  · rename_i r hr
    exact ⟨r, hr, mm_fd_mem h⟩
  · cases h
/-- all rows of a table by two keys pass a check -/
def mm_all2 {α : Type} (c : Nat → Nat → α → Bool) : Nat → List (List (Nat × α)) → Bool
  | _, [] => true
  | o, r :: l => r.all (fun q => c o q.1 q.2) && mm_all2 c (o + 1) l
theorem mm_all2_ok {α : Type} {c : Nat → Nat → α → Bool} : ∀ {l : List (List (Nat × α))} {n : Nat}, mm_all2 c n l = true → ∀ {o i : Nat} {v : α}, mm_fd2 l o i = some v → c (n + o) i v = true
  | [], n, _, o, i, v, hv => by simp [mm_fd2] at hv
  | r :: l, n, h, o, i, v, hv => by
    simp only [mm_all2, Bool.and_eq_true] at h
    obtain ⟨r', hr, hm⟩ := mm_fd2_mem hv
    cases o with
    | zero =>
      cases hr
      have := List.all_eq_true.mp h.1 _ hm
      simpa using this
    | succ o =>
      have hv' : mm_fd2 l o i = some v := by
        unfold mm_fd2 at hv ⊢
        rw [List.getElem?_cons_succ] at hv
        exact hv
      have := mm_all2_ok h.2 hv'
      rw [show n + (o + 1) = n + 1 + o by omega]
      exact this
theorem mm_nth {TB : List Cond} {p : Nat} {w : Cond} (h : decide (TB[p]? = some w) = true) : w ∈ TB := List.mem_of_getElem? (of_decide_eq_true h)
/-- a field's row: (class, place, the word's number) -/
def mm_flc (TB : List Cond) (cl : List vw_C) (cn : Nat → String) (o i : Nat) (v : Nat × Nat × Nat) : Bool := match cl[v.1]? with
  | some (_, T, N) => decide (v.2.1 < N) && decide (TB[v.2.2]? = some (Cond.fieldLink (cn o) i (T v.2.1).1 (T v.2.1).2.1 (T v.2.1).2.2.1))
  | none => false
/-- a row of 'new': (class, defaults, the words' numbers) -/
def mm_nlc (TB : List Cond) (cl : List vw_C) (cn : Nat → String) (ft : Nat → Nat → FieldType × Bool) (o i : Nat) (v : (Nat × List Value) × Nat × Nat × Nat) : Bool := match cl[v.1.1]? with
  | some (C, _, N) => decide (TB[v.2.1]? = some (Cond.classLink (cn o) i C)) && decide (TB[v.2.2.1]? = some (Cond.instantiable C N)) && decide (TB[v.2.2.2]? = some (Cond.initialized C)) && decide (v.1.2.length = N) && v.1.2.all (fun x => match x with | .ref _ => false | _ => true) && (List.range N).all (fun j => decide (defaultValue (ft v.1.1 j).1 = vp_V v.1.2 j))
  | none => false
def mm_alc (TB : List Cond) (tyl : List FieldType) (cn : Nat → String) (o i : Nat) (v : Nat × Nat × Nat) : Bool := match tyl[v.1]? with
  | some (.object C) => decide (TB[v.2.1]? = some (Cond.classLink (cn o) i C)) && decide (TB[v.2.2]? = some (Cond.arrayOver (.object C)))
  | some (.array y) => decide (TB[v.2.1]? = some (Cond.classLink (cn o) i (FieldType.array y).toString)) && decide (TB[v.2.2]? = some (Cond.arrayOver (.array y)))
  | _ => false
theorem mm_flc_ok {TB : List Cond} {cl : List vw_C} {cn : Nat → String} {o i : Nat} {v : Nat × Nat × Nat} (h : mm_flc TB cl cn o i v = true) : ∃ C T N, cl[v.1]? = some (C, T, N) ∧ v.2.1 < N ∧ Cond.fieldLink (cn o) i (T v.2.1).1 (T v.2.1).2.1 (T v.2.1).2.2.1 ∈ TB := by
  unfold mm_flc at h
  split at h
  · rename_i C T N hc
    simp only [Bool.and_eq_true] at h
    exact ⟨C, T, N, hc, of_decide_eq_true h.1, mm_nth h.2⟩
  · cases h
theorem mm_nlc_ok {TB : List Cond} {cl : List vw_C} {cn : Nat → String} {ft : Nat → Nat → FieldType × Bool} {o i : Nat} {v : (Nat × List Value) × Nat × Nat × Nat} (h : mm_nlc TB cl cn ft o i v = true) : ∃ C T N, cl[v.1.1]? = some (C, T, N) ∧ Cond.classLink (cn o) i C ∈ TB ∧ Cond.instantiable C N ∈ TB ∧ Cond.initialized C ∈ TB ∧ v.1.2.length = N ∧ (∀ x ∈ v.1.2, ∀ q, x ≠ .ref q) ∧ ∀ j, j < N → defaultValue (ft v.1.1 j).1 = vp_V v.1.2 j := by
  unfold mm_nlc at h
  split at h
  · rename_i C T N hc
    simp only [Bool.and_eq_true] at h
    obtain ⟨⟨⟨⟨⟨h1, h2⟩, h3⟩, h4⟩, h5⟩, h6⟩ := h
    refine ⟨C, T, N, hc, mm_nth h1, mm_nth h2, mm_nth h3, of_decide_eq_true h4, fun x hx q hq => ?_, fun j hj => of_decide_eq_true (List.all_eq_true.mp h6 j (List.mem_range.mpr hj))⟩
    have := List.all_eq_true.mp h5 x hx
    rw [hq] at this
    cases this
  · cases h
theorem mm_alc_ok {TB : List Cond} {tyl : List FieldType} {cn : Nat → String} {o i : Nat} {v : Nat × Nat × Nat} (h : mm_alc TB tyl cn o i v = true) : (∃ C, tyl[v.1]? = some (.object C) ∧ Cond.classLink (cn o) i C ∈ TB ∧ Cond.arrayOver (.object C) ∈ TB) ∨ (∃ y, tyl[v.1]? = some (.array y) ∧ Cond.classLink (cn o) i (FieldType.array y).toString ∈ TB ∧ Cond.arrayOver (.array y) ∈ TB) := by
  unfold mm_alc at h
  split at h
  · rename_i C hc
    simp only [Bool.and_eq_true] at h
    exact Or.inl ⟨C, hc, mm_nth h.1, mm_nth h.2⟩
  · rename_i y hc
    simp only [Bool.and_eq_true] at h
    exact Or.inr ⟨y, hc, mm_nth h.1, mm_nth h.2⟩
  · cases h
/-- a call's row: ((method, values, kind), numbers of words: link, initialized, static or instance, selects, code) -/
def mm_mlc (TB : List Cond) (cl : List vw_C) (cn : Nat → String) (ky : Nat → MethodName) (kb : Nat → ByteArray) (kl : Nat → Nat) (kr : Nat → Option FieldType) (ki : Nat → Bool) (kc : Nat → Nat) (hs : Nat → List (Nat × Nat × Nat × Nat)) (o i : Nat) (v : (Nat × Nat × Nat) × Nat × Nat × Nat × Nat × Nat) : Bool :=
  match v with
  | ((k', na, kd), p, pi, pa, pb, pcd) =>
    match kd with
    | 3 => decide (TB[p]? = some (Cond.methodLink (cn o) i Lib.objectInit)) && decide (TB[pa]? = some (Cond.instanceMethod Lib.objectInit)) && decide (TB[pcd]? = some (Cond.code Lib.objectInit ⟨#[0xb1]⟩ 1 none))
    | 4 => decide (TB[p]? = some (Cond.methodLink (cn o) i arraycopyName)) && decide (TB[pi]? = some (Cond.initialized "java/lang/System")) && decide (TB[pa]? = some (Cond.static arraycopyName)) && decide (TB[pb]? = some (Cond.native arraycopyName))
    | kd => (decide (TB[pcd]? = some (Cond.code (ky k') (kb k') (kl k') (kr k')) ∧ hs k' = []) || decide (TB[pcd]? = some (Cond.codeWith (ky k') (kb k') (kl k') (kr k') (hs k')))) && decide (TB[pi]? = some (Cond.initialized (ky k').cls)) && decide ((ky k').cls ≠ "java/lang/invoke/MethodHandle" ∧ (ky k').cls ≠ "java/lang/invoke/VarHandle") && plainFor (ky k') && decide (cn (kc k') = (ky k').cls) && decide (ki k' = true → (ky k').name = "<init>")
      && (match kd with
        | 0 => decide (TB[p]? = some (Cond.methodLink (cn o) i (ky k'))) && decide (TB[pa]? = some (Cond.static (ky k'))) && decide ((parseMethodDescriptor (ky k').desc).map (fun d => d.parameters.length) = some na)
        | 5 => (match TB[p]? with | some (.methodLinkNest a j x _) => decide (a = cn o ∧ j = i ∧ x = ky k') | _ => false) && decide (TB[pa]? = some (Cond.static (ky k'))) && decide ((parseMethodDescriptor (ky k').desc).map (fun d => d.parameters.length) = some na)
        | 1 => decide (TB[p]? = some (Cond.methodLink (cn o) i (ky k'))) && decide (TB[pa]? = some (Cond.instanceMethod (ky k'))) && decide (TB[pb]? = some (Cond.selects (ky k').cls (ky k') (ky k'))) && decide ((parseMethodDescriptor (ky k').desc).map (fun d => d.parameters.length + 1) = some na) && (match cl[kc k']? with | some (C, _, _) => decide (C = (ky k').cls) | none => false)
        | 2 => decide (TB[p]? = some (Cond.methodLink (cn o) i (ky k'))) && decide (TB[pa]? = some (Cond.instanceMethod (ky k'))) && decide ((ky k').name = "<init>") && decide (kr k' = none) && decide (TB[pcd]? = some (Cond.code (ky k') (kb k') (kl k') none)) && decide ((parseMethodDescriptor (ky k').desc).map (fun d => d.parameters.length + 1) = some na)
        | _ => false)
theorem mm_mlc_3 {TB : List Cond} {cl : List vw_C} {cn : Nat → String} {ky : Nat → MethodName} {kb : Nat → ByteArray} {kl : Nat → Nat} {kr : Nat → Option FieldType} {ki : Nat → Bool} {kc : Nat → Nat} {hs : Nat → List (Nat × Nat × Nat × Nat)} {o i k' na : Nat} {w : Nat × Nat × Nat × Nat × Nat} (h : mm_mlc TB cl cn ky kb kl kr ki kc hs o i ((k', na, 3), w) = true) : Cond.methodLink (cn o) i Lib.objectInit ∈ TB ∧ Cond.instanceMethod Lib.objectInit ∈ TB ∧ Cond.code Lib.objectInit ⟨#[0xb1]⟩ 1 none ∈ TB := by
  obtain ⟨p, pi, pa, pb, pcd⟩ := w
  simp only [mm_mlc, Bool.and_eq_true] at h
  exact ⟨mm_nth h.1.1, mm_nth h.1.2, mm_nth h.2⟩
theorem mm_mlc_4 {TB : List Cond} {cl : List vw_C} {cn : Nat → String} {ky : Nat → MethodName} {kb : Nat → ByteArray} {kl : Nat → Nat} {kr : Nat → Option FieldType} {ki : Nat → Bool} {kc : Nat → Nat} {hs : Nat → List (Nat × Nat × Nat × Nat)} {o i k' na : Nat} {w : Nat × Nat × Nat × Nat × Nat} (h : mm_mlc TB cl cn ky kb kl kr ki kc hs o i ((k', na, 4), w) = true) : Cond.methodLink (cn o) i arraycopyName ∈ TB ∧ Cond.native arraycopyName ∈ TB ∧ Cond.static arraycopyName ∈ TB ∧ Cond.initialized "java/lang/System" ∈ TB := by
  obtain ⟨p, pi, pa, pb, pcd⟩ := w
  simp only [mm_mlc, Bool.and_eq_true] at h
  exact ⟨mm_nth h.1.1.1, mm_nth h.2, mm_nth h.1.2, mm_nth h.1.1.2⟩
theorem mm_mlc_ok {TB : List Cond} {cl : List vw_C} {cn : Nat → String} {ky : Nat → MethodName} {kb : Nat → ByteArray} {P : mm_P} {hs : Nat → List (Nat × Nat × Nat × Nat)} {o i k' na kd : Nat} {w : Nat × Nat × Nat × Nat × Nat} (h : mm_mlc TB cl cn ky kb (mm_kl P) (mm_kr P) (mm_ki P) (mm_kc P) hs o i ((k', na, kd), w) = true) (h3 : kd ≠ 3) (h4 : kd ≠ 4) :
    mm_kw P ky kb hs TB k' ∧ (kd = 5 ∨ Cond.methodLink (cn o) i (ky k') ∈ TB) ∧ Cond.initialized (ky k').cls ∈ TB ∧ ((ky k').cls ≠ "java/lang/invoke/MethodHandle" ∧ (ky k').cls ≠ "java/lang/invoke/VarHandle") ∧ plainFor (ky k') = true ∧ cn (mm_kc P k') = (ky k').cls ∧ (mm_ki P k' = true → (ky k').name = "<init>")
      ∧ (kd = 5 → ∃ host, Cond.methodLinkNest (cn o) i (ky k') host ∈ TB)
      ∧ (kd = 0 ∨ kd = 5 → Cond.static (ky k') ∈ TB ∧ (parseMethodDescriptor (ky k').desc).map (fun d => d.parameters.length) = some na)
      ∧ (kd = 1 → Cond.instanceMethod (ky k') ∈ TB ∧ Cond.selects (ky k').cls (ky k') (ky k') ∈ TB ∧ (parseMethodDescriptor (ky k').desc).map (fun d => d.parameters.length + 1) = some na ∧ ∃ T N, cl[mm_kc P k']? = some ((ky k').cls, T, N))
      ∧ (kd = 2 → Cond.instanceMethod (ky k') ∈ TB ∧ (ky k').name = "<init>" ∧ mm_kr P k' = none ∧ Cond.code (ky k') (kb k') (mm_kl P k') none ∈ TB ∧ (parseMethodDescriptor (ky k').desc).map (fun d => d.parameters.length + 1) = some na) := by
  obtain ⟨p, pi, pa, pb, pcd⟩ := w
  unfold mm_mlc at h
  dsimp only at h
  split at h
  · exact absurd rfl h3
  · exact absurd rfl h4
  · simp only [Bool.and_eq_true] at h
    obtain ⟨⟨⟨⟨⟨⟨q1, q2⟩, q3⟩, q4⟩, q5⟩, q6⟩, q7⟩ := h
    have k1 : mm_kw P ky kb hs TB k' := by
      rcases Bool.or_eq_true _ _ |>.mp q1 with r | r
      · have r := of_decide_eq_true r
        exact Or.inl ⟨List.mem_of_getElem? r.1, r.2⟩
      · exact Or.inr (mm_nth r)
    have base : ∀ {A B C D E : Prop}, A → B → C → D → E → mm_kw P ky kb hs TB k' ∧ A ∧ Cond.initialized (ky k').cls ∈ TB ∧ ((ky k').cls ≠ "java/lang/invoke/MethodHandle" ∧ (ky k').cls ≠ "java/lang/invoke/VarHandle") ∧ plainFor (ky k') = true ∧ cn (mm_kc P k') = (ky k').cls ∧ (mm_ki P k' = true → (ky k').name = "<init>") ∧ B ∧ C ∧ D ∧ E :=
      fun a b c d e => ⟨k1, a, mm_nth q2, of_decide_eq_true q3, q4, of_decide_eq_true q5, of_decide_eq_true q6, b, c, d, e⟩
    split at q7
    · simp only [Bool.and_eq_true] at q7
      exact base (Or.inr (mm_nth q7.1.1)) (fun q => by omega) (fun _ => ⟨mm_nth q7.1.2, of_decide_eq_true q7.2⟩) (fun q => by omega) (fun q => by omega)
    · simp only [Bool.and_eq_true] at q7
      refine base (Or.inl rfl) (fun _ => ?_) (fun _ => ⟨mm_nth q7.1.2, of_decide_eq_true q7.2⟩) (fun q => by omega) (fun q => by omega)
      have q8 := q7.1.1
      split at q8
      · rename_i a j x host hp
        obtain ⟨r1, r2, r3⟩ := of_decide_eq_true q8
        subst r1; subst r2; subst r3
        exact ⟨host, List.mem_of_getElem? hp⟩
      · cases q8
    · simp only [Bool.and_eq_true] at q7
      obtain ⟨⟨⟨⟨r1, r2⟩, r3⟩, r4⟩, r5⟩ := q7
      refine base (Or.inr (mm_nth r1)) (fun q => by omega) (fun q => by omega) (fun _ => ⟨mm_nth r2, mm_nth r3, of_decide_eq_true r4, ?_⟩) (fun q => by omega)
      split at r5
      · rename_i C T N hc
        exact ⟨T, N, by rw [hc, of_decide_eq_true r5]⟩
      · cases r5
    · simp only [Bool.and_eq_true] at q7
      obtain ⟨⟨⟨⟨⟨r1, r2⟩, r3⟩, r4⟩, r5⟩, r6⟩ := q7
      exact base (Or.inr (mm_nth r1)) (fun q => by omega) (fun q => by omega) (fun q => by omega) (fun _ => ⟨mm_nth r2, of_decide_eq_true r3, of_decide_eq_true r4, mm_nth r5, of_decide_eq_true r6⟩)
    · cases q7
/-- a throw's row -/
def mm_xtc (TB : List Cond) (SB : List (String × Nat × String)) (cl : List vw_C) (cn : Nat → String) (kb : Nat → ByteArray) (kc : Nat → Nat) (hs : Nat → List (Nat × Nat × Nat × Nat)) (names : List String) (k pc : Nat) (v : Nat × (Nat × Nat × Nat × String) × Nat × Nat × Nat) : Bool := match v with
  | (ci, (i, si, ic, tx), p1, p2, p3) => match cl[ci]? with
    | some (X, _, 0) => decide (ci = 13 ∨ ci = 14) && (hs k).all (fun x => decide (¬ (x.1 ≤ pc + 9 ∧ pc + 9 < x.2.1))) && decide (decode (kb k) pc = .ok (.new i, 3)) && decide (decode (kb k) (pc + 3) = .ok (.dup, 1)) && decide (decode (kb k) (pc + 4) = .ok (.ldc si, 2)) && decide (decode (kb k) (pc + 6) = .ok (.invokespecial ic, 3)) && decide (decode (kb k) (pc + 9) = .ok (.athrow, 1))
      && decide (TB[p1]? = some (Cond.classLink (cn (kc k)) i X)) && decide (TB[p2]? = some (Cond.instantiable X 6)) && decide (TB[p3]? = some (Cond.initialized X)) && decide ((cn (kc k), si, tx) ∈ SB) && Bundle.fit X
    | _ => false
end
section
/-! THE TABLES, by wip/gen.py out of the Statement: classes and fields. -/
def tb_T0 : u_T := fun k => match k with
  | 0 => ("IndexedCompiler", "line", "LIndexedCompiler$Line;", true)
  | 1 => ("IndexedCompiler", "reader", "LIndexedCompiler$Reader;", true)
  | 2 => ("IndexedCompiler", "trees", "[LIndexedCompiler$Tree;", true)
  | 3 => ("IndexedCompiler", "checker", "LIndexedCompiler$Checker;", true)
  | 4 => ("IndexedCompiler", "coder", "LIndexedCompiler$Coder;", true)
  | 5 => ("IndexedCompiler", "slots", "LIndexedCompiler$Slots;", true)
  | 6 => ("IndexedCompiler", "machine", "LIndexedCompiler$Machine;", true)
  | 7 => ("IndexedCompiler", "desk", "LIndexedCompiler$Ground;", true)
  | 8 => ("IndexedCompiler", "asked", "LIndexedCompiler$Expression;", true)
  | 9 => ("IndexedCompiler", "functions", "I", false)
  | 10 => ("IndexedCompiler", "lastPlace", "I", false)
  | _ => ("IndexedCompiler", "checked", "Z", false)
def tb_F0 : List (FieldType × Bool) := [((.object "IndexedCompiler$Line"), true), ((.object "IndexedCompiler$Reader"), true), ((.array (.object "IndexedCompiler$Tree")), true), ((.object "IndexedCompiler$Checker"), true), ((.object "IndexedCompiler$Coder"), true), ((.object "IndexedCompiler$Slots"), true), ((.object "IndexedCompiler$Machine"), true), ((.object "IndexedCompiler$Ground"), true), ((.object "IndexedCompiler$Expression"), true), (.int, false), (.int, false), (.boolean, false)]
def tb_T1 : u_T := fun k => match k with
  | 0 => ("IndexedCompiler$Line", "signs", "[C", true)
  | 1 => ("IndexedCompiler$Line", "length", "I", false)
  | 2 => ("IndexedCompiler$Line", "kinds", "[I", true)
  | 3 => ("IndexedCompiler$Line", "places", "[I", true)
  | 4 => ("IndexedCompiler$Line", "worths", "[I", true)
  | 5 => ("IndexedCompiler$Line", "many", "I", false)
  | 6 => ("IndexedCompiler$Line", "next", "I", false)
  | 7 => ("IndexedCompiler$Line", "kind", "I", false)
  | 8 => ("IndexedCompiler$Line", "at", "I", false)
  | _ => ("IndexedCompiler$Line", "worth", "I", false)
def tb_F1 : List (FieldType × Bool) := [((.array .char), true), (.int, false), ((.array .int), true), ((.array .int), true), ((.array .int), true), (.int, false), (.int, false), (.int, false), (.int, false), (.int, false)]
def tb_T2 : u_T := fun k => match k with
  | 0 => ("IndexedCompiler$Reader", "line", "LIndexedCompiler$Line;", false)
  | 1 => ("IndexedCompiler$Reader", "tree", "LIndexedCompiler$Tree;", false)
  | _ => ("IndexedCompiler$Reader", "wrongAt", "I", false)
def tb_F2 : List (FieldType × Bool) := [((.object "IndexedCompiler$Line"), false), ((.object "IndexedCompiler$Tree"), false), (.int, false)]
def tb_T3 : u_T := fun k => match k with
  | 0 => ("IndexedCompiler$Solver", "rows", "[J", false)
  | 1 => ("IndexedCompiler$Solver", "others", "[J", false)
  | 2 => ("IndexedCompiler$Solver", "work", "[J", true)
  | 3 => ("IndexedCompiler$Solver", "kept", "I", false)
  | 4 => ("IndexedCompiler$Solver", "width", "I", false)
  | 5 => ("IndexedCompiler$Solver", "tooMuch", "Z", false)
  | _ => ("IndexedCompiler$Solver", "isFalse", "Z", false)
def tb_F3 : List (FieldType × Bool) := [((.array .long), false), ((.array .long), false), ((.array .long), true), (.int, false), (.int, false), (.boolean, false), (.boolean, false)]
def tb_T4 : u_T := fun k => match k with
  | 0 => ("IndexedCompiler$Expression", "numbers", "[J", true)
  | _ => ("IndexedCompiler$Expression", "row", "Z", false)
def tb_F4 : List (FieldType × Bool) := [((.array .long), true), (.boolean, false)]
def tb_T5 : u_T := fun k => match k with
  | 0 => ("IndexedCompiler$Ground", "solver", "LIndexedCompiler$Solver;", true)
  | 1 => ("IndexedCompiler$Ground", "factRows", "[J", true)
  | 2 => ("IndexedCompiler$Ground", "mostFacts", "I", true)
  | 3 => ("IndexedCompiler$Ground", "goalRows", "[I", true)
  | 4 => ("IndexedCompiler$Ground", "mostGoals", "I", true)
  | 5 => ("IndexedCompiler$Ground", "pending", "[LIndexedCompiler$Expression;", true)
  | 6 => ("IndexedCompiler$Ground", "pendings", "I", false)
  | 7 => ("IndexedCompiler$Ground", "facts", "I", false)
  | 8 => ("IndexedCompiler$Ground", "variables", "I", false)
  | 9 => ("IndexedCompiler$Ground", "goals", "I", false)
  | 10 => ("IndexedCompiler$Ground", "proved", "I", false)
  | 11 => ("IndexedCompiler$Ground", "allNeededProved", "Z", false)
  | 12 => ("IndexedCompiler$Ground", "fault", "I", false)
  | _ => ("IndexedCompiler$Ground", "faultPlace", "I", false)
def tb_F5 : List (FieldType × Bool) := [((.object "IndexedCompiler$Solver"), true), ((.array .long), true), (.int, true), ((.array .int), true), (.int, true), ((.array (.object "IndexedCompiler$Expression")), true), (.int, false), (.int, false), (.int, false), (.int, false), (.int, false), (.boolean, false), (.int, false), (.int, false)]
def tb_T6 : u_T := fun k => match k with
  | 0 => ("IndexedCompiler$Checker", "ground", "LIndexedCompiler$Ground;", true)
  | 1 => ("IndexedCompiler$Checker", "trees", "[LIndexedCompiler$Tree;", false)
  | 2 => ("IndexedCompiler$Checker", "tree", "LIndexedCompiler$Tree;", false)
  | 3 => ("IndexedCompiler$Checker", "functions", "I", false)
  | 4 => ("IndexedCompiler$Checker", "function", "I", false)
  | 5 => ("IndexedCompiler$Checker", "pool", "[LIndexedCompiler$Expression;", true)
  | 6 => ("IndexedCompiler$Checker", "taken", "I", false)
  | 7 => ("IndexedCompiler$Checker", "shapes", "[LIndexedCompiler$Shape;", true)
  | 8 => ("IndexedCompiler$Checker", "shapesTaken", "I", false)
  | 9 => ("IndexedCompiler$Checker", "words", "[I", true)
  | 10 => ("IndexedCompiler$Checker", "meanings", "[LIndexedCompiler$Expression;", true)
  | 11 => ("IndexedCompiler$Checker", "names", "I", false)
  | 12 => ("IndexedCompiler$Checker", "accesses", "I", false)
  | 13 => ("IndexedCompiler$Checker", "free", "I", false)
  | _ => ("IndexedCompiler$Checker", "accepted", "Z", false)
def tb_F6 : List (FieldType × Bool) := [((.object "IndexedCompiler$Ground"), true), ((.array (.object "IndexedCompiler$Tree")), false), ((.object "IndexedCompiler$Tree"), false), (.int, false), (.int, false), ((.array (.object "IndexedCompiler$Expression")), true), (.int, false), ((.array (.object "IndexedCompiler$Shape")), true), (.int, false), ((.array .int), true), ((.array (.object "IndexedCompiler$Expression")), true), (.int, false), (.int, false), (.int, false), (.boolean, false)]
def tb_T7 : u_T := fun k => match k with
  | 0 => ("IndexedCompiler$Coder", "codes", "[[I", true)
  | 1 => ("IndexedCompiler$Coder", "lengths", "[I", true)
  | 2 => ("IndexedCompiler$Coder", "parameters", "[I", true)
  | 3 => ("IndexedCompiler$Coder", "answersRow", "[Z", true)
  | 4 => ("IndexedCompiler$Coder", "tree", "LIndexedCompiler$Tree;", false)
  | 5 => ("IndexedCompiler$Coder", "code", "[I", false)
  | _ => ("IndexedCompiler$Coder", "length", "I", false)
def tb_F7 : List (FieldType × Bool) := [((.array (.array .int)), true), ((.array .int), true), ((.array .int), true), ((.array .boolean), true), ((.object "IndexedCompiler$Tree"), false), ((.array .int), false), (.int, false)]
def tb_T8 : u_T := fun k => match k with
  | 0 => ("IndexedCompiler$Slots", "isRow", "[Z", true)
  | 1 => ("IndexedCompiler$Slots", "sizes", "[I", true)
  | 2 => ("IndexedCompiler$Slots", "cells", "[I", true)
  | _ => ("IndexedCompiler$Slots", "values", "[I", true)
def tb_F8 : List (FieldType × Bool) := [((.array .boolean), true), ((.array .int), true), ((.array .int), true), ((.array .int), true)]
def tb_T9 : u_T := fun k => match k with
  | 0 => ("IndexedCompiler$Machine", "cells", "[I", true)
  | 1 => ("IndexedCompiler$Machine", "stack", "[I", true)
  | 2 => ("IndexedCompiler$Machine", "locals", "[I", true)
  | 3 => ("IndexedCompiler$Machine", "backTo", "[I", true)
  | 4 => ("IndexedCompiler$Machine", "backIn", "[I", true)
  | 5 => ("IndexedCompiler$Machine", "prints", "[I", true)
  | 6 => ("IndexedCompiler$Machine", "reports", "[I", true)
  | 7 => ("IndexedCompiler$Machine", "height", "I", false)
  | 8 => ("IndexedCompiler$Machine", "depth", "I", false)
  | 9 => ("IndexedCompiler$Machine", "function", "I", false)
  | 10 => ("IndexedCompiler$Machine", "next", "I", false)
  | 11 => ("IndexedCompiler$Machine", "how", "I", false)
  | 12 => ("IndexedCompiler$Machine", "answerRow", "I", false)
  | _ => ("IndexedCompiler$Machine", "coder", "LIndexedCompiler$Coder;", false)
def tb_F9 : List (FieldType × Bool) := [((.array .int), true), ((.array .int), true), ((.array .int), true), ((.array .int), true), ((.array .int), true), ((.array .int), true), ((.array .int), true), (.int, false), (.int, false), (.int, false), (.int, false), (.int, false), (.int, false), ((.object "IndexedCompiler$Coder"), false)]
def tb_T10 : u_T := fun k => match k with
  | 0 => ("IndexedCompiler$Tree", "nodes", "[I", true)
  | 1 => ("IndexedCompiler$Tree", "size", "I", false)
  | 2 => ("IndexedCompiler$Tree", "named", "I", false)
  | 3 => ("IndexedCompiler$Tree", "namedAt", "I", false)
  | 4 => ("IndexedCompiler$Tree", "indexNames", "I", false)
  | 5 => ("IndexedCompiler$Tree", "indexCount", "I", false)
  | 6 => ("IndexedCompiler$Tree", "props", "I", false)
  | 7 => ("IndexedCompiler$Tree", "parameters", "I", false)
  | 8 => ("IndexedCompiler$Tree", "parameterCount", "I", false)
  | 9 => ("IndexedCompiler$Tree", "result", "I", false)
  | _ => ("IndexedCompiler$Tree", "steps", "I", false)
def tb_F10 : List (FieldType × Bool) := [((.array .int), true), (.int, false), (.int, false), (.int, false), (.int, false), (.int, false), (.int, false), (.int, false), (.int, false), (.int, false), (.int, false)]
def tb_T11 : u_T := fun k => match k with
  | 0 => ("IndexedCompiler$Shape", "sort", "I", false)
  | 1 => ("IndexedCompiler$Shape", "index", "LIndexedCompiler$Expression;", true)
  | 2 => ("IndexedCompiler$Shape", "props", "I", false)
  | 3 => ("IndexedCompiler$Shape", "relations", "[I", true)
  | _ => ("IndexedCompiler$Shape", "gaps", "[LIndexedCompiler$Expression;", true)
def tb_F11 : List (FieldType × Bool) := [(.int, false), ((.object "IndexedCompiler$Expression"), true), (.int, false), ((.array .int), true), ((.array (.object "IndexedCompiler$Expression")), true)]
def tb_T12 : u_T := fun k => match k with
  | 0 => ("IndexedCompilerModel", "thrown", "I", false)
  | 1 => ("IndexedCompilerModel", "line", "[C", true)
  | 2 => ("IndexedCompilerModel", "lineSize", "I", false)
  | 3 => ("IndexedCompilerModel", "tokenKind", "[I", true)
  | 4 => ("IndexedCompilerModel", "tokenAt", "[I", true)
  | 5 => ("IndexedCompilerModel", "tokenCode", "[I", true)
  | 6 => ("IndexedCompilerModel", "token", "I", false)
  | 7 => ("IndexedCompilerModel", "faultPlace", "I", false)
  | 8 => ("IndexedCompilerModel", "isWrong", "Z", false)
  | 9 => ("IndexedCompilerModel", "wrongAt", "I", false)
  | 10 => ("IndexedCompilerModel", "functions", "I", false)
  | 11 => ("IndexedCompilerModel", "functionName", "[I", true)
  | 12 => ("IndexedCompilerModel", "indexNames", "[I", true)
  | 13 => ("IndexedCompilerModel", "indexMany", "[I", true)
  | 14 => ("IndexedCompilerModel", "ownProps", "[I", true)
  | 15 => ("IndexedCompilerModel", "ownMany", "[I", true)
  | 16 => ("IndexedCompilerModel", "paramNames", "[I", true)
  | 17 => ("IndexedCompilerModel", "paramTypes", "[I", true)
  | 18 => ("IndexedCompilerModel", "paramMany", "[I", true)
  | 19 => ("IndexedCompilerModel", "resultType", "[I", true)
  | 20 => ("IndexedCompilerModel", "body", "[I", true)
  | 21 => ("IndexedCompilerModel", "nodes", "I", false)
  | 22 => ("IndexedCompilerModel", "nodeKind", "[I", true)
  | 23 => ("IndexedCompilerModel", "nodeA", "[I", true)
  | 24 => ("IndexedCompilerModel", "nodeB", "[I", true)
  | 25 => ("IndexedCompilerModel", "nodeC", "[I", true)
  | 26 => ("IndexedCompilerModel", "nodeD", "[I", true)
  | 27 => ("IndexedCompilerModel", "nodeE", "[I", true)
  | 28 => ("IndexedCompilerModel", "nodeAt", "[I", true)
  | 29 => ("IndexedCompilerModel", "nodeFree", "[Z", true)
  | 30 => ("IndexedCompilerModel", "terms", "I", false)
  | 31 => ("IndexedCompilerModel", "termTimes", "[I", true)
  | 32 => ("IndexedCompilerModel", "termName", "[I", true)
  | 33 => ("IndexedCompilerModel", "termAt", "[I", true)
  | 34 => ("IndexedCompilerModel", "indexes", "I", false)
  | 35 => ("IndexedCompilerModel", "indexFirst", "[I", true)
  | 36 => ("IndexedCompilerModel", "indexTerms", "[I", true)
  | 37 => ("IndexedCompilerModel", "indexAt", "[I", true)
  | 38 => ("IndexedCompilerModel", "props", "I", false)
  | 39 => ("IndexedCompilerModel", "propLeft", "[I", true)
  | 40 => ("IndexedCompilerModel", "propRelation", "[I", true)
  | 41 => ("IndexedCompilerModel", "propRight", "[I", true)
  | 42 => ("IndexedCompilerModel", "types", "I", false)
  | 43 => ("IndexedCompilerModel", "typeKind", "[I", true)
  | 44 => ("IndexedCompilerModel", "typeIndex", "[I", true)
  | 45 => ("IndexedCompilerModel", "typeName", "[I", true)
  | 46 => ("IndexedCompilerModel", "typeProps", "[I", true)
  | 47 => ("IndexedCompilerModel", "typeMany", "[I", true)
  | 48 => ("IndexedCompilerModel", "args", "I", false)
  | 49 => ("IndexedCompilerModel", "argNodes", "[I", true)
  | 50 => ("IndexedCompilerModel", "sameAt", "I", false)
  | 51 => ("IndexedCompilerModel", "frames", "I", false)
  | 52 => ("IndexedCompilerModel", "frameKind", "[I", true)
  | 53 => ("IndexedCompilerModel", "frameState", "[I", true)
  | 54 => ("IndexedCompilerModel", "frameDeep", "[I", true)
  | 55 => ("IndexedCompilerModel", "frameNode", "[I", true)
  | 56 => ("IndexedCompilerModel", "frameOther", "[I", true)
  | 57 => ("IndexedCompilerModel", "frameThird", "[I", true)
  | 58 => ("IndexedCompilerModel", "frameFourth", "[I", true)
  | 59 => ("IndexedCompilerModel", "frameAt", "[I", true)
  | 60 => ("IndexedCompilerModel", "frameArgs", "[I", true)
  | 61 => ("IndexedCompilerModel", "given", "I", false)
  | 62 => ("IndexedCompilerModel", "goals", "I", false)
  | 63 => ("IndexedCompilerModel", "proved", "I", false)
  | 64 => ("IndexedCompilerModel", "accesses", "I", false)
  | 65 => ("IndexedCompilerModel", "freeOnes", "I", false)
  | 66 => ("IndexedCompilerModel", "faultFunction", "I", false)
  | 67 => ("IndexedCompilerModel", "isAccepted", "Z", false)
  | 68 => ("IndexedCompilerModel", "goalFunction", "[I", true)
  | 69 => ("IndexedCompilerModel", "goalAt", "[I", true)
  | 70 => ("IndexedCompilerModel", "goalSort", "[I", true)
  | 71 => ("IndexedCompilerModel", "goalProved", "[Z", true)
  | 72 => ("IndexedCompilerModel", "goalFacts", "[I", true)
  | 73 => ("IndexedCompilerModel", "goalVariables", "[I", true)
  | 74 => ("IndexedCompilerModel", "fault", "I", false)
  | 75 => ("IndexedCompilerModel", "checking", "I", false)
  | 76 => ("IndexedCompilerModel", "variables", "I", false)
  | 77 => ("IndexedCompilerModel", "facts", "I", false)
  | 78 => ("IndexedCompilerModel", "factRows", "[J", true)
  | 79 => ("IndexedCompilerModel", "named", "I", false)
  | 80 => ("IndexedCompilerModel", "envName", "[I", true)
  | 81 => ("IndexedCompilerModel", "envSort", "[I", true)
  | 82 => ("IndexedCompilerModel", "envRows", "[J", true)
  | 83 => ("IndexedCompilerModel", "top", "I", false)
  | 84 => ("IndexedCompilerModel", "valueRows", "[J", true)
  | 85 => ("IndexedCompilerModel", "valueIsRow", "[Z", true)
  | 86 => ("IndexedCompilerModel", "one", "[J", true)
  | 87 => ("IndexedCompilerModel", "left", "[J", true)
  | 88 => ("IndexedCompilerModel", "right", "[J", true)
  | 89 => ("IndexedCompilerModel", "goal", "[J", true)
  | 90 => ("IndexedCompilerModel", "envFrom", "I", false)
  | 91 => ("IndexedCompilerModel", "iName", "I", false)
  | 92 => ("IndexedCompilerModel", "iAt", "I", false)
  | 93 => ("IndexedCompilerModel", "iTimes", "J", false)
  | 94 => ("IndexedCompilerModel", "envTo", "I", false)
  | 95 => ("IndexedCompilerModel", "callPlace", "I", false)
  | 96 => ("IndexedCompilerModel", "rows", "I", false)
  | 97 => ("IndexedCompilerModel", "rowsAt", "[J", true)
  | 98 => ("IndexedCompilerModel", "fresh", "I", false)
  | 99 => ("IndexedCompilerModel", "freshAt", "[J", true)
  | 100 => ("IndexedCompilerModel", "tight", "[J", true)
  | 101 => ("IndexedCompilerModel", "isFalse", "Z", false)
  | 102 => ("IndexedCompilerModel", "steps", "I", false)
  | 103 => ("IndexedCompilerModel", "stepNode", "[I", true)
  | 104 => ("IndexedCompilerModel", "stepState", "[I", true)
  | 105 => ("IndexedCompilerModel", "stepHow", "[I", true)
  | 106 => ("IndexedCompilerModel", "stepType", "[I", true)
  | 107 => ("IndexedCompilerModel", "stepTop", "[I", true)
  | 108 => ("IndexedCompilerModel", "stepVariables", "[I", true)
  | 109 => ("IndexedCompilerModel", "stepFacts", "[I", true)
  | 110 => ("IndexedCompilerModel", "stepOther", "[I", true)
  | 111 => ("IndexedCompilerModel", "stepNamed", "[I", true)
  | 112 => ("IndexedCompilerModel", "lookNamed", "I", false)
  | 113 => ("IndexedCompilerModel", "told", "I", false)
  | 114 => ("IndexedCompilerModel", "codeMany", "[I", true)
  | 115 => ("IndexedCompilerModel", "codes", "[I", true)
  | 116 => ("IndexedCompilerModel", "numbers", "[I", true)
  | 117 => ("IndexedCompilerModel", "codeFree", "[Z", true)
  | 118 => ("IndexedCompilerModel", "compiled", "I", false)
  | 119 => ("IndexedCompilerModel", "locals", "I", false)
  | 120 => ("IndexedCompilerModel", "localName", "[I", true)
  | 121 => ("IndexedCompilerModel", "slotIsRow", "[Z", true)
  | 122 => ("IndexedCompilerModel", "slots", "[I", true)
  | 123 => ("IndexedCompilerModel", "slotRows", "[I", true)
  | 124 => ("IndexedCompilerModel", "values", "[I", true)
  | 125 => ("IndexedCompilerModel", "cells", "[I", true)
  | 126 => ("IndexedCompilerModel", "taken", "I", false)
  | 127 => ("IndexedCompilerModel", "pile", "[I", true)
  | 128 => ("IndexedCompilerModel", "piled", "I", false)
  | 129 => ("IndexedCompilerModel", "calls", "I", false)
  | 130 => ("IndexedCompilerModel", "callFunction", "[I", true)
  | 131 => ("IndexedCompilerModel", "callNext", "[I", true)
  | 132 => ("IndexedCompilerModel", "callLocals", "[I", true)
  | 133 => ("IndexedCompilerModel", "prints", "[I", true)
  | 134 => ("IndexedCompilerModel", "printedMany", "I", false)
  | 135 => ("IndexedCompilerModel", "ended", "I", false)
  | 136 => ("IndexedCompilerModel", "answered", "I", false)
  | 137 => ("IndexedCompilerModel", "answerRow", "I", false)
  | 138 => ("IndexedCompilerModel", "made", "I", false)
  | 139 => ("IndexedCompilerModel", "checks", "I", false)
  | 140 => ("IndexedCompilerModel", "reached", "I", false)
  | 141 => ("IndexedCompilerModel", "deepest", "I", false)
  | 142 => ("IndexedCompilerModel", "paramCell", "[I", true)
  | 143 => ("IndexedCompilerModel", "deskFacts", "I", false)
  | _ => ("IndexedCompilerModel", "deskRows", "[J", true)
def tb_F12 : List (FieldType × Bool) := [(.int, false), ((.array .char), true), (.int, false), ((.array .int), true), ((.array .int), true), ((.array .int), true), (.int, false), (.int, false), (.boolean, false), (.int, false), (.int, false), ((.array .int), true), ((.array .int), true), ((.array .int), true), ((.array .int), true), ((.array .int), true), ((.array .int), true), ((.array .int), true), ((.array .int), true), ((.array .int), true), ((.array .int), true), (.int, false), ((.array .int), true), ((.array .int), true), ((.array .int), true), ((.array .int), true), ((.array .int), true), ((.array .int), true), ((.array .int), true), ((.array .boolean), true), (.int, false), ((.array .int), true), ((.array .int), true), ((.array .int), true), (.int, false), ((.array .int), true), ((.array .int), true), ((.array .int), true), (.int, false), ((.array .int), true), ((.array .int), true), ((.array .int), true), (.int, false), ((.array .int), true), ((.array .int), true), ((.array .int), true), ((.array .int), true), ((.array .int), true), (.int, false), ((.array .int), true), (.int, false), (.int, false), ((.array .int), true), ((.array .int), true), ((.array .int), true), ((.array .int), true), ((.array .int), true), ((.array .int), true), ((.array .int), true), ((.array .int), true), ((.array .int), true), (.int, false), (.int, false), (.int, false), (.int, false), (.int, false), (.int, false), (.boolean, false), ((.array .int), true), ((.array .int), true), ((.array .int), true), ((.array .boolean), true), ((.array .int), true), ((.array .int), true), (.int, false), (.int, false), (.int, false), (.int, false), ((.array .long), true), (.int, false), ((.array .int), true), ((.array .int), true), ((.array .long), true), (.int, false), ((.array .long), true), ((.array .boolean), true), ((.array .long), true), ((.array .long), true), ((.array .long), true), ((.array .long), true), (.int, false), (.int, false), (.int, false), (.long, false), (.int, false), (.int, false), (.int, false), ((.array .long), true), (.int, false), ((.array .long), true), ((.array .long), true), (.boolean, false), (.int, false), ((.array .int), true), ((.array .int), true), ((.array .int), true), ((.array .int), true), ((.array .int), true), ((.array .int), true), ((.array .int), true), ((.array .int), true), ((.array .int), true), (.int, false), (.int, false), ((.array .int), true), ((.array .int), true), ((.array .int), true), ((.array .boolean), true), (.int, false), (.int, false), ((.array .int), true), ((.array .boolean), true), ((.array .int), true), ((.array .int), true), ((.array .int), true), ((.array .int), true), (.int, false), ((.array .int), true), (.int, false), (.int, false), ((.array .int), true), ((.array .int), true), ((.array .int), true), ((.array .int), true), (.int, false), (.int, false), (.int, false), (.int, false), (.int, false), (.int, false), (.int, false), (.int, false), ((.array .int), true), (.int, false), ((.array .long), true)]
def tb_TX : u_T := fun _ => ("", "", "", false)
def tb_cl : List vw_C := [("IndexedCompiler", tb_T0, 12), ("IndexedCompiler$Line", tb_T1, 10), ("IndexedCompiler$Reader", tb_T2, 3), ("IndexedCompiler$Solver", tb_T3, 7), ("IndexedCompiler$Expression", tb_T4, 2), ("IndexedCompiler$Ground", tb_T5, 14), ("IndexedCompiler$Checker", tb_T6, 15), ("IndexedCompiler$Coder", tb_T7, 7), ("IndexedCompiler$Slots", tb_T8, 4), ("IndexedCompiler$Machine", tb_T9, 14), ("IndexedCompiler$Tree", tb_T10, 11), ("IndexedCompiler$Shape", tb_T11, 5), ("IndexedCompilerModel", tb_T12, 145), ("java/lang/IllegalStateException", tb_TX, 0), ("java/lang/IllegalArgumentException", tb_TX, 0)]
def tb_names : List String := ["IndexedCompiler", "IndexedCompiler$Line", "IndexedCompiler$Reader", "IndexedCompiler$Solver", "IndexedCompiler$Expression", "IndexedCompiler$Ground", "IndexedCompiler$Checker", "IndexedCompiler$Coder", "IndexedCompiler$Slots", "IndexedCompiler$Machine", "IndexedCompiler$Tree", "IndexedCompiler$Shape", "IndexedCompilerModel", "java/lang/IllegalStateException", "java/lang/IllegalArgumentException", "IndexedCompilerLaw", "java/lang/Math", "java/util/Arrays"]
def tb_cn (o : Nat) : String := (tb_names[o]?).getD ""
def tb_tyl : List FieldType := [.int, .long, .char, .boolean, (.object "IndexedCompiler$Tree"), (.object "IndexedCompiler$Expression"), (.object "IndexedCompiler$Shape"), (.array .int)]
def tb_FF : List (List (FieldType × Bool)) := [tb_F0, tb_F1, tb_F2, tb_F3, tb_F4, tb_F5, tb_F6, tb_F7, tb_F8, tb_F9, tb_F10, tb_F11, tb_F12]
def tb_ft (ci j : Nat) : FieldType × Bool := (((tb_FF[ci]?).getD [])[j]?).getD (.int, false)
def tb_Q0 : List (Nat × Cond) := [(227, Cond.initialized "java/lang/Throwable"),
  (228, Cond.initialized "java/lang/Exception"),
  (229, Cond.initialized "java/lang/RuntimeException"),
  (230, Cond.initialized "java/lang/IllegalStateException"),
  (240, Cond.initialized "java/lang/IllegalArgumentException"),
  (841, Cond.instantiable "java/lang/IllegalStateException" (6 : Nat)),
  (842, Cond.castable "java/lang/IllegalStateException" "java/lang/IllegalStateException"),
  (843, Cond.declares ({ cls := "java/lang/RuntimeException", name := "<init>", desc := "()V" } : Jvm.MethodName)),
  (844, Cond.declares ({ cls := "java/lang/RuntimeException", name := "<init>", desc := "(Ljava/lang/String;)V" } : Jvm.MethodName)),
  (845, Cond.declares ({ cls := "java/lang/Exception", name := "<init>", desc := "()V" } : Jvm.MethodName)),
  (846, Cond.declares ({ cls := "java/lang/Exception", name := "<init>", desc := "(Ljava/lang/String;)V" } : Jvm.MethodName)),
  (847, Cond.declares ({ cls := "java/lang/Throwable", name := "<init>", desc := "()V" } : Jvm.MethodName)),
  (848, Cond.declares ({ cls := "java/lang/Throwable", name := "<init>", desc := "(Ljava/lang/String;)V" } : Jvm.MethodName)),
  (849, Cond.selects "java/lang/IllegalStateException" ({ cls := "java/lang/Throwable", name := "fillInStackTrace", desc := "(I)Ljava/lang/Throwable;" } : Jvm.MethodName) ({ cls := "java/lang/Throwable", name := "fillInStackTrace", desc := "(I)Ljava/lang/Throwable;" } : Jvm.MethodName)),
  (850, Cond.selects "java/lang/IllegalStateException" ({ cls := "java/lang/Throwable", name := "fillInStackTrace", desc := "()Ljava/lang/Throwable;" } : Jvm.MethodName) ({ cls := "java/lang/Throwable", name := "fillInStackTrace", desc := "()Ljava/lang/Throwable;" } : Jvm.MethodName)),
  (851, Cond.lays "java/lang/IllegalStateException" "java/lang/Throwable" "cause" "Ljava/lang/Throwable;"),
  (852, Cond.lays "java/lang/Throwable" "java/lang/Throwable" "cause" "Ljava/lang/Throwable;"),
  (853, Cond.lays "java/lang/IllegalStateException" "java/lang/Throwable" "stackTrace" "[Ljava/lang/StackTraceElement;"),
  (854, Cond.lays "java/lang/Throwable" "java/lang/Throwable" "stackTrace" "[Ljava/lang/StackTraceElement;"),
  (855, Cond.lays "java/lang/IllegalStateException" "java/lang/Throwable" "suppressedExceptions" "Ljava/util/List;"),
  (856, Cond.lays "java/lang/Throwable" "java/lang/Throwable" "suppressedExceptions" "Ljava/util/List;"),
  (857, Cond.lays "java/lang/IllegalStateException" "java/lang/Throwable" "detailMessage" "Ljava/lang/String;"),
  (858, Cond.lays "java/lang/Throwable" "java/lang/Throwable" "detailMessage" "Ljava/lang/String;"),
  (859, Cond.lays "java/lang/IllegalStateException" "java/lang/Throwable" "backtrace" "Ljava/lang/Object;"),
  (860, Cond.lays "java/lang/Throwable" "java/lang/Throwable" "backtrace" "Ljava/lang/Object;"),
  (861, Cond.fieldLink "java/lang/Throwable" (198 : Nat) "java/lang/Throwable" "backtrace" "Ljava/lang/Object;"),
  (862, Cond.superclass "java/lang/Throwable" "java/lang/Object"),
  (863, Cond.instanceMethod ({ cls := "java/lang/Throwable", name := "<init>", desc := "()V" } : Jvm.MethodName)),
  (864, Cond.code ({ cls := "java/lang/Throwable", name := "<init>", desc := "()V" } : Jvm.MethodName) prog_25_method_1_code (1 : Nat) (Option.none : Option Jvm.ClassFile.FieldType)),
  (865, Cond.methodLink "java/lang/Throwable" (1 : Nat) ({ cls := "java/lang/Object", name := "<init>", desc := "()V" } : Jvm.MethodName)),
  (866, Cond.fieldLink "java/lang/Throwable" (13 : Nat) "java/lang/Throwable" "UNASSIGNED_STACK" "[Ljava/lang/StackTraceElement;"),
  (867, Cond.laysStatic "java/lang/Throwable" "UNASSIGNED_STACK" "[Ljava/lang/StackTraceElement;"),
  (868, Cond.fieldLink "java/lang/Throwable" (20 : Nat) "java/lang/Throwable" "SUPPRESSED_SENTINEL" "Ljava/util/List;"),
  (869, Cond.laysStatic "java/lang/Throwable" "SUPPRESSED_SENTINEL" "Ljava/util/List;"),
  (870, Cond.methodLink "java/lang/Throwable" (27 : Nat) ({ cls := "java/lang/Throwable", name := "fillInStackTrace", desc := "()Ljava/lang/Throwable;" } : Jvm.MethodName)),
  (871, Cond.instanceMethod ({ cls := "java/lang/Throwable", name := "fillInStackTrace", desc := "()Ljava/lang/Throwable;" } : Jvm.MethodName)),
  (873, Cond.selects "java/lang/IllegalArgumentException" ({ cls := "java/lang/Throwable", name := "fillInStackTrace", desc := "()Ljava/lang/Throwable;" } : Jvm.MethodName) ({ cls := "java/lang/Throwable", name := "fillInStackTrace", desc := "()Ljava/lang/Throwable;" } : Jvm.MethodName)),
  (874, Cond.codeSync ({ cls := "java/lang/Throwable", name := "fillInStackTrace", desc := "()Ljava/lang/Throwable;" } : Jvm.MethodName) prog_25_method_18_code (1 : Nat) (Option.some (Jvm.ClassFile.FieldType.object "java/lang/Throwable"))),
  (875, Cond.methodLink "java/lang/Throwable" (202 : Nat) ({ cls := "java/lang/Throwable", name := "fillInStackTrace", desc := "(I)Ljava/lang/Throwable;" } : Jvm.MethodName)),
  (877, Cond.instanceMethod ({ cls := "java/lang/Throwable", name := "fillInStackTrace", desc := "(I)Ljava/lang/Throwable;" } : Jvm.MethodName))]
def tb_Q1 : List (Nat × Cond) := [(878, Cond.instantiable "java/lang/Throwable" (6 : Nat)),
  (879, Cond.native ({ cls := "java/lang/Throwable", name := "fillInStackTrace", desc := "(I)Ljava/lang/Throwable;" } : Jvm.MethodName)),
  (881, Cond.methodLink "IndexedCompiler$Reader" (188 : Nat) ({ cls := "java/lang/IllegalStateException", name := "<init>", desc := "(Ljava/lang/String;)V" } : Jvm.MethodName)),
  (882, Cond.instanceMethod ({ cls := "java/lang/IllegalStateException", name := "<init>", desc := "(Ljava/lang/String;)V" } : Jvm.MethodName)),
  (883, Cond.code ({ cls := "java/lang/IllegalStateException", name := "<init>", desc := "(Ljava/lang/String;)V" } : Jvm.MethodName) prog_18_method_2_code (2 : Nat) (Option.none : Option Jvm.ClassFile.FieldType)),
  (884, Cond.methodLink "java/lang/IllegalStateException" (7 : Nat) ({ cls := "java/lang/RuntimeException", name := "<init>", desc := "(Ljava/lang/String;)V" } : Jvm.MethodName)),
  (885, Cond.instanceMethod ({ cls := "java/lang/RuntimeException", name := "<init>", desc := "(Ljava/lang/String;)V" } : Jvm.MethodName)),
  (886, Cond.code ({ cls := "java/lang/RuntimeException", name := "<init>", desc := "(Ljava/lang/String;)V" } : Jvm.MethodName) prog_20_method_2_code (2 : Nat) (Option.none : Option Jvm.ClassFile.FieldType)),
  (887, Cond.methodLink "java/lang/RuntimeException" (7 : Nat) ({ cls := "java/lang/Exception", name := "<init>", desc := "(Ljava/lang/String;)V" } : Jvm.MethodName)),
  (888, Cond.instanceMethod ({ cls := "java/lang/Exception", name := "<init>", desc := "(Ljava/lang/String;)V" } : Jvm.MethodName)),
  (889, Cond.code ({ cls := "java/lang/Exception", name := "<init>", desc := "(Ljava/lang/String;)V" } : Jvm.MethodName) prog_16_method_2_code (2 : Nat) (Option.none : Option Jvm.ClassFile.FieldType)),
  (890, Cond.methodLink "java/lang/Exception" (7 : Nat) ({ cls := "java/lang/Throwable", name := "<init>", desc := "(Ljava/lang/String;)V" } : Jvm.MethodName)),
  (891, Cond.instanceMethod ({ cls := "java/lang/Throwable", name := "<init>", desc := "(Ljava/lang/String;)V" } : Jvm.MethodName)),
  (892, Cond.code ({ cls := "java/lang/Throwable", name := "<init>", desc := "(Ljava/lang/String;)V" } : Jvm.MethodName) prog_25_method_2_code (2 : Nat) (Option.none : Option Jvm.ClassFile.FieldType)),
  (893, Cond.fieldLink "java/lang/Throwable" (198 : Nat) "java/lang/Throwable" "backtrace" "Ljava/lang/Object;"),
  (894, Cond.fieldLink "java/lang/Throwable" (31 : Nat) "java/lang/Throwable" "detailMessage" "Ljava/lang/String;"),
  (895, Cond.fieldLink "java/lang/Throwable" (7 : Nat) "java/lang/Throwable" "cause" "Ljava/lang/Throwable;"),
  (896, Cond.fieldLink "java/lang/Throwable" (17 : Nat) "java/lang/Throwable" "stackTrace" "[Ljava/lang/StackTraceElement;"),
  (897, Cond.fieldLink "java/lang/Throwable" (24 : Nat) "java/lang/Throwable" "suppressedExceptions" "Ljava/util/List;"),
  (902, Cond.lays "java/lang/IllegalStateException" "java/lang/Throwable" "depth" "I"),
  (905, Cond.superclass "java/lang/IllegalStateException" "java/lang/RuntimeException"),
  (1091, Cond.methodLink "IndexedCompiler$Ground" (75 : Nat) ({ cls := "java/lang/IllegalStateException", name := "<init>", desc := "(Ljava/lang/String;)V" } : Jvm.MethodName)),
  (1463, Cond.methodLink "IndexedCompiler" (95 : Nat) ({ cls := "java/lang/IllegalStateException", name := "<init>", desc := "(Ljava/lang/String;)V" } : Jvm.MethodName)),
  (1477, Cond.instantiable "java/lang/IllegalArgumentException" (6 : Nat)),
  (1478, Cond.castable "java/lang/IllegalArgumentException" "java/lang/IllegalArgumentException"),
  (1479, Cond.selects "java/lang/IllegalArgumentException" ({ cls := "java/lang/Throwable", name := "fillInStackTrace", desc := "(I)Ljava/lang/Throwable;" } : Jvm.MethodName) ({ cls := "java/lang/Throwable", name := "fillInStackTrace", desc := "(I)Ljava/lang/Throwable;" } : Jvm.MethodName)),
  (1480, Cond.lays "java/lang/IllegalArgumentException" "java/lang/Throwable" "cause" "Ljava/lang/Throwable;"),
  (1481, Cond.lays "java/lang/IllegalArgumentException" "java/lang/Throwable" "stackTrace" "[Ljava/lang/StackTraceElement;"),
  (1482, Cond.lays "java/lang/IllegalArgumentException" "java/lang/Throwable" "suppressedExceptions" "Ljava/util/List;"),
  (1483, Cond.lays "java/lang/IllegalArgumentException" "java/lang/Throwable" "detailMessage" "Ljava/lang/String;"),
  (1484, Cond.lays "java/lang/IllegalArgumentException" "java/lang/Throwable" "backtrace" "Ljava/lang/Object;"),
  (1486, Cond.methodLink "IndexedCompiler" (133 : Nat) ({ cls := "java/lang/IllegalArgumentException", name := "<init>", desc := "(Ljava/lang/String;)V" } : Jvm.MethodName)),
  (1487, Cond.instanceMethod ({ cls := "java/lang/IllegalArgumentException", name := "<init>", desc := "(Ljava/lang/String;)V" } : Jvm.MethodName)),
  (1488, Cond.code ({ cls := "java/lang/IllegalArgumentException", name := "<init>", desc := "(Ljava/lang/String;)V" } : Jvm.MethodName) prog_17_method_2_code (2 : Nat) (Option.none : Option Jvm.ClassFile.FieldType)),
  (1489, Cond.methodLink "java/lang/IllegalArgumentException" (7 : Nat) ({ cls := "java/lang/RuntimeException", name := "<init>", desc := "(Ljava/lang/String;)V" } : Jvm.MethodName)),
  (1490, Cond.lays "java/lang/IllegalArgumentException" "java/lang/Throwable" "depth" "I"),
  (1491, Cond.superclass "java/lang/IllegalArgumentException" "java/lang/RuntimeException"),
  (8, .selects "java/lang/Throwable" ⟨"java/lang/Throwable", "fillInStackTrace", "(I)Ljava/lang/Throwable;"⟩ ⟨"java/lang/Throwable", "fillInStackTrace", "(I)Ljava/lang/Throwable;"⟩),
  (247, Cond.instanceMethod ({ cls := "java/lang/Object", name := "<init>", desc := "()V" } : Jvm.MethodName)),
  (248, Cond.code ({ cls := "java/lang/Object", name := "<init>", desc := "()V" } : Jvm.MethodName) object_method_1_code (1 : Nat) (Option.none : Option Jvm.ClassFile.FieldType))]
def tb_Q2 : List (Nat × Cond) := [(592, .laysFinal "IndexedCompiler" "IndexedCompiler" "line" "LIndexedCompiler$Line;"),
  (594, .laysFinal "IndexedCompiler" "IndexedCompiler" "reader" "LIndexedCompiler$Reader;"),
  (596, .laysFinal "IndexedCompiler" "IndexedCompiler" "trees" "[LIndexedCompiler$Tree;"),
  (598, .laysFinal "IndexedCompiler" "IndexedCompiler" "checker" "LIndexedCompiler$Checker;"),
  (600, .laysFinal "IndexedCompiler" "IndexedCompiler" "coder" "LIndexedCompiler$Coder;"),
  (602, .laysFinal "IndexedCompiler" "IndexedCompiler" "slots" "LIndexedCompiler$Slots;"),
  (604, .laysFinal "IndexedCompiler" "IndexedCompiler" "machine" "LIndexedCompiler$Machine;"),
  (606, .laysFinal "IndexedCompiler" "IndexedCompiler" "desk" "LIndexedCompiler$Ground;"),
  (608, .laysFinal "IndexedCompiler" "IndexedCompiler" "asked" "LIndexedCompiler$Expression;"),
  (610, .lays "IndexedCompiler" "IndexedCompiler" "functions" "I"),
  (612, .lays "IndexedCompiler" "IndexedCompiler" "lastPlace" "I"),
  (614, .lays "IndexedCompiler" "IndexedCompiler" "checked" "Z"),
  (269, .laysFinal "IndexedCompiler$Line" "IndexedCompiler$Line" "signs" "[C"),
  (271, .lays "IndexedCompiler$Line" "IndexedCompiler$Line" "length" "I"),
  (273, .laysFinal "IndexedCompiler$Line" "IndexedCompiler$Line" "kinds" "[I"),
  (275, .laysFinal "IndexedCompiler$Line" "IndexedCompiler$Line" "places" "[I"),
  (277, .laysFinal "IndexedCompiler$Line" "IndexedCompiler$Line" "worths" "[I"),
  (279, .lays "IndexedCompiler$Line" "IndexedCompiler$Line" "many" "I"),
  (281, .lays "IndexedCompiler$Line" "IndexedCompiler$Line" "next" "I"),
  (283, .lays "IndexedCompiler$Line" "IndexedCompiler$Line" "kind" "I"),
  (285, .lays "IndexedCompiler$Line" "IndexedCompiler$Line" "at" "I"),
  (287, .lays "IndexedCompiler$Line" "IndexedCompiler$Line" "worth" "I"),
  (302, .lays "IndexedCompiler$Reader" "IndexedCompiler$Reader" "line" "LIndexedCompiler$Line;"),
  (304, .lays "IndexedCompiler$Reader" "IndexedCompiler$Reader" "tree" "LIndexedCompiler$Tree;"),
  (306, .lays "IndexedCompiler$Reader" "IndexedCompiler$Reader" "wrongAt" "I"),
  (336, .lays "IndexedCompiler$Solver" "IndexedCompiler$Solver" "rows" "[J"),
  (338, .lays "IndexedCompiler$Solver" "IndexedCompiler$Solver" "others" "[J"),
  (340, .laysFinal "IndexedCompiler$Solver" "IndexedCompiler$Solver" "work" "[J"),
  (342, .lays "IndexedCompiler$Solver" "IndexedCompiler$Solver" "kept" "I"),
  (344, .lays "IndexedCompiler$Solver" "IndexedCompiler$Solver" "width" "I"),
  (346, .lays "IndexedCompiler$Solver" "IndexedCompiler$Solver" "tooMuch" "Z"),
  (348, .lays "IndexedCompiler$Solver" "IndexedCompiler$Solver" "isFalse" "Z"),
  (368, .laysFinal "IndexedCompiler$Expression" "IndexedCompiler$Expression" "numbers" "[J"),
  (370, .lays "IndexedCompiler$Expression" "IndexedCompiler$Expression" "row" "Z"),
  (396, .laysFinal "IndexedCompiler$Ground" "IndexedCompiler$Ground" "solver" "LIndexedCompiler$Solver;"),
  (398, .laysFinal "IndexedCompiler$Ground" "IndexedCompiler$Ground" "factRows" "[J"),
  (400, .laysFinal "IndexedCompiler$Ground" "IndexedCompiler$Ground" "mostFacts" "I"),
  (402, .laysFinal "IndexedCompiler$Ground" "IndexedCompiler$Ground" "goalRows" "[I"),
  (404, .laysFinal "IndexedCompiler$Ground" "IndexedCompiler$Ground" "mostGoals" "I"),
  (406, .laysFinal "IndexedCompiler$Ground" "IndexedCompiler$Ground" "pending" "[LIndexedCompiler$Expression;")]
def tb_Q3 : List (Nat × Cond) := [(408, .lays "IndexedCompiler$Ground" "IndexedCompiler$Ground" "pendings" "I"),
  (410, .lays "IndexedCompiler$Ground" "IndexedCompiler$Ground" "facts" "I"),
  (412, .lays "IndexedCompiler$Ground" "IndexedCompiler$Ground" "variables" "I"),
  (414, .lays "IndexedCompiler$Ground" "IndexedCompiler$Ground" "goals" "I"),
  (416, .lays "IndexedCompiler$Ground" "IndexedCompiler$Ground" "proved" "I"),
  (418, .lays "IndexedCompiler$Ground" "IndexedCompiler$Ground" "allNeededProved" "Z"),
  (420, .lays "IndexedCompiler$Ground" "IndexedCompiler$Ground" "fault" "I"),
  (422, .lays "IndexedCompiler$Ground" "IndexedCompiler$Ground" "faultPlace" "I"),
  (444, .laysFinal "IndexedCompiler$Checker" "IndexedCompiler$Checker" "ground" "LIndexedCompiler$Ground;"),
  (446, .lays "IndexedCompiler$Checker" "IndexedCompiler$Checker" "trees" "[LIndexedCompiler$Tree;"),
  (448, .lays "IndexedCompiler$Checker" "IndexedCompiler$Checker" "tree" "LIndexedCompiler$Tree;"),
  (450, .lays "IndexedCompiler$Checker" "IndexedCompiler$Checker" "functions" "I"),
  (452, .lays "IndexedCompiler$Checker" "IndexedCompiler$Checker" "function" "I"),
  (454, .laysFinal "IndexedCompiler$Checker" "IndexedCompiler$Checker" "pool" "[LIndexedCompiler$Expression;"),
  (456, .lays "IndexedCompiler$Checker" "IndexedCompiler$Checker" "taken" "I"),
  (458, .laysFinal "IndexedCompiler$Checker" "IndexedCompiler$Checker" "shapes" "[LIndexedCompiler$Shape;"),
  (460, .lays "IndexedCompiler$Checker" "IndexedCompiler$Checker" "shapesTaken" "I"),
  (462, .laysFinal "IndexedCompiler$Checker" "IndexedCompiler$Checker" "words" "[I"),
  (464, .laysFinal "IndexedCompiler$Checker" "IndexedCompiler$Checker" "meanings" "[LIndexedCompiler$Expression;"),
  (466, .lays "IndexedCompiler$Checker" "IndexedCompiler$Checker" "names" "I"),
  (468, .lays "IndexedCompiler$Checker" "IndexedCompiler$Checker" "accesses" "I"),
  (470, .lays "IndexedCompiler$Checker" "IndexedCompiler$Checker" "free" "I"),
  (472, .lays "IndexedCompiler$Checker" "IndexedCompiler$Checker" "accepted" "Z"),
  (492, .laysFinal "IndexedCompiler$Coder" "IndexedCompiler$Coder" "codes" "[[I"),
  (494, .laysFinal "IndexedCompiler$Coder" "IndexedCompiler$Coder" "lengths" "[I"),
  (496, .laysFinal "IndexedCompiler$Coder" "IndexedCompiler$Coder" "parameters" "[I"),
  (498, .laysFinal "IndexedCompiler$Coder" "IndexedCompiler$Coder" "answersRow" "[Z"),
  (500, .lays "IndexedCompiler$Coder" "IndexedCompiler$Coder" "tree" "LIndexedCompiler$Tree;"),
  (502, .lays "IndexedCompiler$Coder" "IndexedCompiler$Coder" "code" "[I"),
  (504, .lays "IndexedCompiler$Coder" "IndexedCompiler$Coder" "length" "I"),
  (518, .laysFinal "IndexedCompiler$Slots" "IndexedCompiler$Slots" "isRow" "[Z"),
  (520, .laysFinal "IndexedCompiler$Slots" "IndexedCompiler$Slots" "sizes" "[I"),
  (522, .laysFinal "IndexedCompiler$Slots" "IndexedCompiler$Slots" "cells" "[I"),
  (524, .laysFinal "IndexedCompiler$Slots" "IndexedCompiler$Slots" "values" "[I"),
  (547, .laysFinal "IndexedCompiler$Machine" "IndexedCompiler$Machine" "cells" "[I"),
  (549, .laysFinal "IndexedCompiler$Machine" "IndexedCompiler$Machine" "stack" "[I"),
  (551, .laysFinal "IndexedCompiler$Machine" "IndexedCompiler$Machine" "locals" "[I"),
  (553, .laysFinal "IndexedCompiler$Machine" "IndexedCompiler$Machine" "backTo" "[I"),
  (555, .laysFinal "IndexedCompiler$Machine" "IndexedCompiler$Machine" "backIn" "[I"),
  (557, .laysFinal "IndexedCompiler$Machine" "IndexedCompiler$Machine" "prints" "[I")]
def tb_Q4 : List (Nat × Cond) := [(559, .laysFinal "IndexedCompiler$Machine" "IndexedCompiler$Machine" "reports" "[I"),
  (561, .lays "IndexedCompiler$Machine" "IndexedCompiler$Machine" "height" "I"),
  (563, .lays "IndexedCompiler$Machine" "IndexedCompiler$Machine" "depth" "I"),
  (565, .lays "IndexedCompiler$Machine" "IndexedCompiler$Machine" "function" "I"),
  (567, .lays "IndexedCompiler$Machine" "IndexedCompiler$Machine" "next" "I"),
  (569, .lays "IndexedCompiler$Machine" "IndexedCompiler$Machine" "how" "I"),
  (571, .lays "IndexedCompiler$Machine" "IndexedCompiler$Machine" "answerRow" "I"),
  (573, .lays "IndexedCompiler$Machine" "IndexedCompiler$Machine" "coder" "LIndexedCompiler$Coder;"),
  (675, .laysFinal "IndexedCompiler$Tree" "IndexedCompiler$Tree" "nodes" "[I"),
  (677, .lays "IndexedCompiler$Tree" "IndexedCompiler$Tree" "size" "I"),
  (679, .lays "IndexedCompiler$Tree" "IndexedCompiler$Tree" "named" "I"),
  (681, .lays "IndexedCompiler$Tree" "IndexedCompiler$Tree" "namedAt" "I"),
  (683, .lays "IndexedCompiler$Tree" "IndexedCompiler$Tree" "indexNames" "I"),
  (685, .lays "IndexedCompiler$Tree" "IndexedCompiler$Tree" "indexCount" "I"),
  (687, .lays "IndexedCompiler$Tree" "IndexedCompiler$Tree" "props" "I"),
  (689, .lays "IndexedCompiler$Tree" "IndexedCompiler$Tree" "parameters" "I"),
  (691, .lays "IndexedCompiler$Tree" "IndexedCompiler$Tree" "parameterCount" "I"),
  (693, .lays "IndexedCompiler$Tree" "IndexedCompiler$Tree" "result" "I"),
  (695, .lays "IndexedCompiler$Tree" "IndexedCompiler$Tree" "steps" "I"),
  (1109, .lays "IndexedCompiler$Shape" "IndexedCompiler$Shape" "sort" "I"),
  (1111, .laysFinal "IndexedCompiler$Shape" "IndexedCompiler$Shape" "index" "LIndexedCompiler$Expression;"),
  (1113, .lays "IndexedCompiler$Shape" "IndexedCompiler$Shape" "props" "I"),
  (1115, .laysFinal "IndexedCompiler$Shape" "IndexedCompiler$Shape" "relations" "[I"),
  (1117, .laysFinal "IndexedCompiler$Shape" "IndexedCompiler$Shape" "gaps" "[LIndexedCompiler$Expression;"),
  (1936, .lays "IndexedCompilerModel" "IndexedCompilerModel" "thrown" "I"),
  (1938, .laysFinal "IndexedCompilerModel" "IndexedCompilerModel" "line" "[C"),
  (1940, .lays "IndexedCompilerModel" "IndexedCompilerModel" "lineSize" "I"),
  (1942, .laysFinal "IndexedCompilerModel" "IndexedCompilerModel" "tokenKind" "[I"),
  (1944, .laysFinal "IndexedCompilerModel" "IndexedCompilerModel" "tokenAt" "[I"),
  (1946, .laysFinal "IndexedCompilerModel" "IndexedCompilerModel" "tokenCode" "[I"),
  (1948, .lays "IndexedCompilerModel" "IndexedCompilerModel" "token" "I"),
  (1950, .lays "IndexedCompilerModel" "IndexedCompilerModel" "faultPlace" "I"),
  (1952, .lays "IndexedCompilerModel" "IndexedCompilerModel" "isWrong" "Z"),
  (1954, .lays "IndexedCompilerModel" "IndexedCompilerModel" "wrongAt" "I"),
  (1956, .lays "IndexedCompilerModel" "IndexedCompilerModel" "functions" "I"),
  (1958, .laysFinal "IndexedCompilerModel" "IndexedCompilerModel" "functionName" "[I"),
  (1960, .laysFinal "IndexedCompilerModel" "IndexedCompilerModel" "indexNames" "[I"),
  (1962, .laysFinal "IndexedCompilerModel" "IndexedCompilerModel" "indexMany" "[I"),
  (1964, .laysFinal "IndexedCompilerModel" "IndexedCompilerModel" "ownProps" "[I"),
  (1966, .laysFinal "IndexedCompilerModel" "IndexedCompilerModel" "ownMany" "[I")]
def tb_Q5 : List (Nat × Cond) := [(1968, .laysFinal "IndexedCompilerModel" "IndexedCompilerModel" "paramNames" "[I"),
  (1970, .laysFinal "IndexedCompilerModel" "IndexedCompilerModel" "paramTypes" "[I"),
  (1972, .laysFinal "IndexedCompilerModel" "IndexedCompilerModel" "paramMany" "[I"),
  (1974, .laysFinal "IndexedCompilerModel" "IndexedCompilerModel" "resultType" "[I"),
  (1976, .laysFinal "IndexedCompilerModel" "IndexedCompilerModel" "body" "[I"),
  (1978, .lays "IndexedCompilerModel" "IndexedCompilerModel" "nodes" "I"),
  (1980, .laysFinal "IndexedCompilerModel" "IndexedCompilerModel" "nodeKind" "[I"),
  (1982, .laysFinal "IndexedCompilerModel" "IndexedCompilerModel" "nodeA" "[I"),
  (1984, .laysFinal "IndexedCompilerModel" "IndexedCompilerModel" "nodeB" "[I"),
  (1986, .laysFinal "IndexedCompilerModel" "IndexedCompilerModel" "nodeC" "[I"),
  (1988, .laysFinal "IndexedCompilerModel" "IndexedCompilerModel" "nodeD" "[I"),
  (1990, .laysFinal "IndexedCompilerModel" "IndexedCompilerModel" "nodeE" "[I"),
  (1992, .laysFinal "IndexedCompilerModel" "IndexedCompilerModel" "nodeAt" "[I"),
  (1994, .laysFinal "IndexedCompilerModel" "IndexedCompilerModel" "nodeFree" "[Z"),
  (1996, .lays "IndexedCompilerModel" "IndexedCompilerModel" "terms" "I"),
  (1998, .laysFinal "IndexedCompilerModel" "IndexedCompilerModel" "termTimes" "[I"),
  (2000, .laysFinal "IndexedCompilerModel" "IndexedCompilerModel" "termName" "[I"),
  (2002, .laysFinal "IndexedCompilerModel" "IndexedCompilerModel" "termAt" "[I"),
  (2004, .lays "IndexedCompilerModel" "IndexedCompilerModel" "indexes" "I"),
  (2006, .laysFinal "IndexedCompilerModel" "IndexedCompilerModel" "indexFirst" "[I"),
  (2008, .laysFinal "IndexedCompilerModel" "IndexedCompilerModel" "indexTerms" "[I"),
  (2010, .laysFinal "IndexedCompilerModel" "IndexedCompilerModel" "indexAt" "[I"),
  (2012, .lays "IndexedCompilerModel" "IndexedCompilerModel" "props" "I"),
  (2014, .laysFinal "IndexedCompilerModel" "IndexedCompilerModel" "propLeft" "[I"),
  (2016, .laysFinal "IndexedCompilerModel" "IndexedCompilerModel" "propRelation" "[I"),
  (2018, .laysFinal "IndexedCompilerModel" "IndexedCompilerModel" "propRight" "[I"),
  (2020, .lays "IndexedCompilerModel" "IndexedCompilerModel" "types" "I"),
  (2022, .laysFinal "IndexedCompilerModel" "IndexedCompilerModel" "typeKind" "[I"),
  (2024, .laysFinal "IndexedCompilerModel" "IndexedCompilerModel" "typeIndex" "[I"),
  (2026, .laysFinal "IndexedCompilerModel" "IndexedCompilerModel" "typeName" "[I"),
  (2028, .laysFinal "IndexedCompilerModel" "IndexedCompilerModel" "typeProps" "[I"),
  (2030, .laysFinal "IndexedCompilerModel" "IndexedCompilerModel" "typeMany" "[I"),
  (2032, .lays "IndexedCompilerModel" "IndexedCompilerModel" "args" "I"),
  (2034, .laysFinal "IndexedCompilerModel" "IndexedCompilerModel" "argNodes" "[I"),
  (2036, .lays "IndexedCompilerModel" "IndexedCompilerModel" "sameAt" "I"),
  (2038, .lays "IndexedCompilerModel" "IndexedCompilerModel" "frames" "I"),
  (2040, .laysFinal "IndexedCompilerModel" "IndexedCompilerModel" "frameKind" "[I"),
  (2042, .laysFinal "IndexedCompilerModel" "IndexedCompilerModel" "frameState" "[I"),
  (2044, .laysFinal "IndexedCompilerModel" "IndexedCompilerModel" "frameDeep" "[I"),
  (2046, .laysFinal "IndexedCompilerModel" "IndexedCompilerModel" "frameNode" "[I")]
def tb_Q6 : List (Nat × Cond) := [(2048, .laysFinal "IndexedCompilerModel" "IndexedCompilerModel" "frameOther" "[I"),
  (2050, .laysFinal "IndexedCompilerModel" "IndexedCompilerModel" "frameThird" "[I"),
  (2052, .laysFinal "IndexedCompilerModel" "IndexedCompilerModel" "frameFourth" "[I"),
  (2054, .laysFinal "IndexedCompilerModel" "IndexedCompilerModel" "frameAt" "[I"),
  (2056, .laysFinal "IndexedCompilerModel" "IndexedCompilerModel" "frameArgs" "[I"),
  (2058, .lays "IndexedCompilerModel" "IndexedCompilerModel" "given" "I"),
  (2060, .lays "IndexedCompilerModel" "IndexedCompilerModel" "goals" "I"),
  (2062, .lays "IndexedCompilerModel" "IndexedCompilerModel" "proved" "I"),
  (2064, .lays "IndexedCompilerModel" "IndexedCompilerModel" "accesses" "I"),
  (2066, .lays "IndexedCompilerModel" "IndexedCompilerModel" "freeOnes" "I"),
  (2068, .lays "IndexedCompilerModel" "IndexedCompilerModel" "faultFunction" "I"),
  (2070, .lays "IndexedCompilerModel" "IndexedCompilerModel" "isAccepted" "Z"),
  (2072, .laysFinal "IndexedCompilerModel" "IndexedCompilerModel" "goalFunction" "[I"),
  (2074, .laysFinal "IndexedCompilerModel" "IndexedCompilerModel" "goalAt" "[I"),
  (2076, .laysFinal "IndexedCompilerModel" "IndexedCompilerModel" "goalSort" "[I"),
  (2078, .laysFinal "IndexedCompilerModel" "IndexedCompilerModel" "goalProved" "[Z"),
  (2080, .laysFinal "IndexedCompilerModel" "IndexedCompilerModel" "goalFacts" "[I"),
  (2082, .laysFinal "IndexedCompilerModel" "IndexedCompilerModel" "goalVariables" "[I"),
  (2084, .lays "IndexedCompilerModel" "IndexedCompilerModel" "fault" "I"),
  (2086, .lays "IndexedCompilerModel" "IndexedCompilerModel" "checking" "I"),
  (2088, .lays "IndexedCompilerModel" "IndexedCompilerModel" "variables" "I"),
  (2090, .lays "IndexedCompilerModel" "IndexedCompilerModel" "facts" "I"),
  (2092, .laysFinal "IndexedCompilerModel" "IndexedCompilerModel" "factRows" "[J"),
  (2094, .lays "IndexedCompilerModel" "IndexedCompilerModel" "named" "I"),
  (2096, .laysFinal "IndexedCompilerModel" "IndexedCompilerModel" "envName" "[I"),
  (2098, .laysFinal "IndexedCompilerModel" "IndexedCompilerModel" "envSort" "[I"),
  (2100, .laysFinal "IndexedCompilerModel" "IndexedCompilerModel" "envRows" "[J"),
  (2102, .lays "IndexedCompilerModel" "IndexedCompilerModel" "top" "I"),
  (2104, .laysFinal "IndexedCompilerModel" "IndexedCompilerModel" "valueRows" "[J"),
  (2106, .laysFinal "IndexedCompilerModel" "IndexedCompilerModel" "valueIsRow" "[Z"),
  (2108, .laysFinal "IndexedCompilerModel" "IndexedCompilerModel" "one" "[J"),
  (2110, .laysFinal "IndexedCompilerModel" "IndexedCompilerModel" "left" "[J"),
  (2112, .laysFinal "IndexedCompilerModel" "IndexedCompilerModel" "right" "[J"),
  (2114, .laysFinal "IndexedCompilerModel" "IndexedCompilerModel" "goal" "[J"),
  (2116, .lays "IndexedCompilerModel" "IndexedCompilerModel" "envFrom" "I"),
  (2118, .lays "IndexedCompilerModel" "IndexedCompilerModel" "iName" "I"),
  (2120, .lays "IndexedCompilerModel" "IndexedCompilerModel" "iAt" "I"),
  (2122, .lays "IndexedCompilerModel" "IndexedCompilerModel" "iTimes" "J"),
  (2124, .lays "IndexedCompilerModel" "IndexedCompilerModel" "envTo" "I"),
  (2126, .lays "IndexedCompilerModel" "IndexedCompilerModel" "callPlace" "I")]
def tb_Q7 : List (Nat × Cond) := [(2128, .lays "IndexedCompilerModel" "IndexedCompilerModel" "rows" "I"),
  (2130, .laysFinal "IndexedCompilerModel" "IndexedCompilerModel" "rowsAt" "[J"),
  (2132, .lays "IndexedCompilerModel" "IndexedCompilerModel" "fresh" "I"),
  (2134, .laysFinal "IndexedCompilerModel" "IndexedCompilerModel" "freshAt" "[J"),
  (2136, .laysFinal "IndexedCompilerModel" "IndexedCompilerModel" "tight" "[J"),
  (2138, .lays "IndexedCompilerModel" "IndexedCompilerModel" "isFalse" "Z"),
  (2140, .lays "IndexedCompilerModel" "IndexedCompilerModel" "steps" "I"),
  (2142, .laysFinal "IndexedCompilerModel" "IndexedCompilerModel" "stepNode" "[I"),
  (2144, .laysFinal "IndexedCompilerModel" "IndexedCompilerModel" "stepState" "[I"),
  (2146, .laysFinal "IndexedCompilerModel" "IndexedCompilerModel" "stepHow" "[I"),
  (2148, .laysFinal "IndexedCompilerModel" "IndexedCompilerModel" "stepType" "[I"),
  (2150, .laysFinal "IndexedCompilerModel" "IndexedCompilerModel" "stepTop" "[I"),
  (2152, .laysFinal "IndexedCompilerModel" "IndexedCompilerModel" "stepVariables" "[I"),
  (2154, .laysFinal "IndexedCompilerModel" "IndexedCompilerModel" "stepFacts" "[I"),
  (2156, .laysFinal "IndexedCompilerModel" "IndexedCompilerModel" "stepOther" "[I"),
  (2158, .laysFinal "IndexedCompilerModel" "IndexedCompilerModel" "stepNamed" "[I"),
  (2160, .lays "IndexedCompilerModel" "IndexedCompilerModel" "lookNamed" "I"),
  (2162, .lays "IndexedCompilerModel" "IndexedCompilerModel" "told" "I"),
  (2164, .laysFinal "IndexedCompilerModel" "IndexedCompilerModel" "codeMany" "[I"),
  (2166, .laysFinal "IndexedCompilerModel" "IndexedCompilerModel" "codes" "[I"),
  (2168, .laysFinal "IndexedCompilerModel" "IndexedCompilerModel" "numbers" "[I"),
  (2170, .laysFinal "IndexedCompilerModel" "IndexedCompilerModel" "codeFree" "[Z"),
  (2172, .lays "IndexedCompilerModel" "IndexedCompilerModel" "compiled" "I"),
  (2174, .lays "IndexedCompilerModel" "IndexedCompilerModel" "locals" "I"),
  (2176, .laysFinal "IndexedCompilerModel" "IndexedCompilerModel" "localName" "[I"),
  (2178, .laysFinal "IndexedCompilerModel" "IndexedCompilerModel" "slotIsRow" "[Z"),
  (2180, .laysFinal "IndexedCompilerModel" "IndexedCompilerModel" "slots" "[I"),
  (2182, .laysFinal "IndexedCompilerModel" "IndexedCompilerModel" "slotRows" "[I"),
  (2184, .laysFinal "IndexedCompilerModel" "IndexedCompilerModel" "values" "[I"),
  (2186, .laysFinal "IndexedCompilerModel" "IndexedCompilerModel" "cells" "[I"),
  (2188, .lays "IndexedCompilerModel" "IndexedCompilerModel" "taken" "I"),
  (2190, .laysFinal "IndexedCompilerModel" "IndexedCompilerModel" "pile" "[I"),
  (2192, .lays "IndexedCompilerModel" "IndexedCompilerModel" "piled" "I"),
  (2194, .lays "IndexedCompilerModel" "IndexedCompilerModel" "calls" "I"),
  (2196, .laysFinal "IndexedCompilerModel" "IndexedCompilerModel" "callFunction" "[I"),
  (2198, .laysFinal "IndexedCompilerModel" "IndexedCompilerModel" "callNext" "[I"),
  (2200, .laysFinal "IndexedCompilerModel" "IndexedCompilerModel" "callLocals" "[I"),
  (2202, .laysFinal "IndexedCompilerModel" "IndexedCompilerModel" "prints" "[I"),
  (2204, .lays "IndexedCompilerModel" "IndexedCompilerModel" "printedMany" "I"),
  (2206, .lays "IndexedCompilerModel" "IndexedCompilerModel" "ended" "I")]
def tb_Q8 : List (Nat × Cond) := [(2208, .lays "IndexedCompilerModel" "IndexedCompilerModel" "answered" "I"),
  (2210, .lays "IndexedCompilerModel" "IndexedCompilerModel" "answerRow" "I"),
  (2212, .lays "IndexedCompilerModel" "IndexedCompilerModel" "made" "I"),
  (2214, .lays "IndexedCompilerModel" "IndexedCompilerModel" "checks" "I"),
  (2216, .lays "IndexedCompilerModel" "IndexedCompilerModel" "reached" "I"),
  (2218, .lays "IndexedCompilerModel" "IndexedCompilerModel" "deepest" "I"),
  (2220, .laysFinal "IndexedCompilerModel" "IndexedCompilerModel" "paramCell" "[I"),
  (2222, .lays "IndexedCompilerModel" "IndexedCompilerModel" "deskFacts" "I"),
  (2224, .laysFinal "IndexedCompilerModel" "IndexedCompilerModel" "deskRows" "[J"),
  (291, .arrayClass .int),
  (351, .arrayClass .long),
  (290, .arrayClass .char),
  (507, .arrayClass .boolean),
  (241, .classLink "IndexedCompilerLaw" 8 "IndexedCompiler"),
  (242, .instantiable "IndexedCompiler" 12),
  (215, .initialized "IndexedCompiler"),
  (243, .methodLink "IndexedCompilerLaw" 60 ⟨"IndexedCompiler", "<init>", "()V"⟩),
  (244, .instanceMethod ⟨"IndexedCompiler", "<init>", "()V"⟩),
  (1785, .classLink "IndexedCompilerLaw" 61 "IndexedCompilerModel"),
  (1786, .instantiable "IndexedCompilerModel" 145),
  (226, .initialized "IndexedCompilerModel"),
  (1787, .methodLink "IndexedCompilerLaw" 63 ⟨"IndexedCompilerModel", "<init>", "()V"⟩),
  (1788, .instanceMethod ⟨"IndexedCompilerModel", "<init>", "()V"⟩),
  (1450, .methodLink "IndexedCompilerLaw" 64 ⟨"IndexedCompilerLaw", "type", "(LIndexedCompiler;IIIII[J)I"⟩),
  (214, .initialized "IndexedCompilerLaw"),
  (1451, .static ⟨"IndexedCompilerLaw", "type", "(LIndexedCompiler;IIIII[J)I"⟩),
  (2231, .methodLink "IndexedCompilerLaw" 69 ⟨"IndexedCompilerModel", "type", "(IIIII)I"⟩),
  (2232, .instanceMethod ⟨"IndexedCompilerModel", "type", "(IIIII)I"⟩),
  (2233, .selects "IndexedCompilerModel" ⟨"IndexedCompilerModel", "type", "(IIIII)I"⟩ ⟨"IndexedCompilerModel", "type", "(IIIII)I"⟩),
  (2227, .methodLink "IndexedCompilerLaw" 70 ⟨"IndexedCompilerModel", "thrown", "()I"⟩),
  (2228, .instanceMethod ⟨"IndexedCompilerModel", "thrown", "()I"⟩),
  (2229, .selects "IndexedCompilerModel" ⟨"IndexedCompilerModel", "thrown", "()I"⟩ ⟨"IndexedCompilerModel", "thrown", "()I"⟩),
  (617, .methodLink "IndexedCompilerLaw" 74 ⟨"IndexedCompiler", "erase", "()I"⟩),
  (618, .instanceMethod ⟨"IndexedCompiler", "erase", "()I"⟩),
  (619, .selects "IndexedCompiler" ⟨"IndexedCompiler", "erase", "()I"⟩ ⟨"IndexedCompiler", "erase", "()I"⟩),
  (2243, .methodLink "IndexedCompilerLaw" 77 ⟨"IndexedCompilerModel", "erase", "()I"⟩),
  (2244, .instanceMethod ⟨"IndexedCompilerModel", "erase", "()I"⟩),
  (2245, .selects "IndexedCompilerModel" ⟨"IndexedCompilerModel", "erase", "()I"⟩ ⟨"IndexedCompilerModel", "erase", "()I"⟩),
  (621, .methodLink "IndexedCompilerLaw" 78 ⟨"IndexedCompiler", "define", "()I"⟩),
  (622, .instanceMethod ⟨"IndexedCompiler", "define", "()I"⟩)]
def tb_Q9 : List (Nat × Cond) := [(623, .selects "IndexedCompiler" ⟨"IndexedCompiler", "define", "()I"⟩ ⟨"IndexedCompiler", "define", "()I"⟩),
  (2247, .methodLink "IndexedCompilerLaw" 81 ⟨"IndexedCompilerModel", "define", "()I"⟩),
  (2248, .instanceMethod ⟨"IndexedCompilerModel", "define", "()I"⟩),
  (2249, .selects "IndexedCompilerModel" ⟨"IndexedCompilerModel", "define", "()I"⟩ ⟨"IndexedCompilerModel", "define", "()I"⟩),
  (1052, .methodLink "IndexedCompilerLaw" 82 ⟨"IndexedCompiler", "clear", "()I"⟩),
  (1053, .instanceMethod ⟨"IndexedCompiler", "clear", "()I"⟩),
  (1054, .selects "IndexedCompiler" ⟨"IndexedCompiler", "clear", "()I"⟩ ⟨"IndexedCompiler", "clear", "()I"⟩),
  (2401, .methodLink "IndexedCompilerLaw" 85 ⟨"IndexedCompilerModel", "clear", "()I"⟩),
  (2402, .instanceMethod ⟨"IndexedCompilerModel", "clear", "()I"⟩),
  (2403, .selects "IndexedCompilerModel" ⟨"IndexedCompilerModel", "clear", "()I"⟩ ⟨"IndexedCompilerModel", "clear", "()I"⟩),
  (1056, .methodLink "IndexedCompilerLaw" 86 ⟨"IndexedCompiler", "check", "()I"⟩),
  (1057, .instanceMethod ⟨"IndexedCompiler", "check", "()I"⟩),
  (1058, .selects "IndexedCompiler" ⟨"IndexedCompiler", "check", "()I"⟩ ⟨"IndexedCompiler", "check", "()I"⟩),
  (2409, .methodLink "IndexedCompilerLaw" 89 ⟨"IndexedCompilerModel", "check", "()I"⟩),
  (2410, .instanceMethod ⟨"IndexedCompilerModel", "check", "()I"⟩),
  (2411, .selects "IndexedCompilerModel" ⟨"IndexedCompilerModel", "check", "()I"⟩ ⟨"IndexedCompilerModel", "check", "()I"⟩),
  (1422, .methodLink "IndexedCompilerLaw" 90 ⟨"IndexedCompiler", "place", "()I"⟩),
  (1423, .instanceMethod ⟨"IndexedCompiler", "place", "()I"⟩),
  (1424, .selects "IndexedCompiler" ⟨"IndexedCompiler", "place", "()I"⟩ ⟨"IndexedCompiler", "place", "()I"⟩),
  (2405, .methodLink "IndexedCompilerLaw" 93 ⟨"IndexedCompilerModel", "place", "()I"⟩),
  (2406, .instanceMethod ⟨"IndexedCompilerModel", "place", "()I"⟩),
  (2407, .selects "IndexedCompilerModel" ⟨"IndexedCompilerModel", "place", "()I"⟩ ⟨"IndexedCompilerModel", "place", "()I"⟩),
  (1468, .methodLink "IndexedCompilerLaw" 94 ⟨"IndexedCompilerLaw", "count", "(LIndexedCompiler;I[J)I"⟩),
  (1469, .static ⟨"IndexedCompilerLaw", "count", "(LIndexedCompiler;I[J)I"⟩),
  (2660, .methodLink "IndexedCompilerLaw" 97 ⟨"IndexedCompilerModel", "count", "(I)I"⟩),
  (2661, .instanceMethod ⟨"IndexedCompilerModel", "count", "(I)I"⟩),
  (2662, .selects "IndexedCompilerModel" ⟨"IndexedCompilerModel", "count", "(I)I"⟩ ⟨"IndexedCompilerModel", "count", "(I)I"⟩),
  (1496, .methodLink "IndexedCompilerLaw" 98 ⟨"IndexedCompilerLaw", "goal", "(LIndexedCompiler;II[J)I"⟩),
  (1497, .static ⟨"IndexedCompilerLaw", "goal", "(LIndexedCompiler;II[J)I"⟩),
  (2668, .methodLink "IndexedCompilerLaw" 101 ⟨"IndexedCompilerModel", "goal", "(II)I"⟩),
  (2669, .instanceMethod ⟨"IndexedCompilerModel", "goal", "(II)I"⟩),
  (2670, .selects "IndexedCompilerModel" ⟨"IndexedCompilerModel", "goal", "(II)I"⟩ ⟨"IndexedCompilerModel", "goal", "(II)I"⟩),
  (1512, .methodLink "IndexedCompilerLaw" 102 ⟨"IndexedCompilerLaw", "code", "(LIndexedCompiler;III[J)I"⟩),
  (1513, .static ⟨"IndexedCompilerLaw", "code", "(LIndexedCompiler;III[J)I"⟩),
  (2672, .methodLink "IndexedCompilerLaw" 105 ⟨"IndexedCompilerModel", "code", "(III)I"⟩),
  (2673, .instanceMethod ⟨"IndexedCompilerModel", "code", "(III)I"⟩),
  (2674, .selects "IndexedCompilerModel" ⟨"IndexedCompilerModel", "code", "(III)I"⟩ ⟨"IndexedCompilerModel", "code", "(III)I"⟩),
  (1529, .methodLink "IndexedCompilerLaw" 106 ⟨"IndexedCompilerLaw", "set", "(LIndexedCompiler;II)I"⟩),
  (1530, .static ⟨"IndexedCompilerLaw", "set", "(LIndexedCompiler;II)I"⟩),
  (2684, .methodLink "IndexedCompilerLaw" 109 ⟨"IndexedCompilerModel", "set", "(II)V"⟩)]
def tb_Q10 : List (Nat × Cond) := [(2685, .instanceMethod ⟨"IndexedCompilerModel", "set", "(II)V"⟩),
  (2686, .selects "IndexedCompilerModel" ⟨"IndexedCompilerModel", "set", "(II)V"⟩ ⟨"IndexedCompilerModel", "set", "(II)V"⟩),
  (1550, .methodLink "IndexedCompilerLaw" 110 ⟨"IndexedCompilerLaw", "make", "(LIndexedCompiler;II)I"⟩),
  (1551, .static ⟨"IndexedCompilerLaw", "make", "(LIndexedCompiler;II)I"⟩),
  (2694, .methodLink "IndexedCompilerLaw" 112 ⟨"IndexedCompilerModel", "make", "(II)V"⟩),
  (2695, .instanceMethod ⟨"IndexedCompilerModel", "make", "(II)V"⟩),
  (2696, .selects "IndexedCompilerModel" ⟨"IndexedCompilerModel", "make", "(II)V"⟩ ⟨"IndexedCompilerModel", "make", "(II)V"⟩),
  (1562, .methodLink "IndexedCompilerLaw" 113 ⟨"IndexedCompilerLaw", "put", "(LIndexedCompiler;III)I"⟩),
  (1563, .static ⟨"IndexedCompilerLaw", "put", "(LIndexedCompiler;III)I"⟩),
  (2699, .methodLink "IndexedCompilerLaw" 116 ⟨"IndexedCompilerModel", "put", "(III)V"⟩),
  (2700, .instanceMethod ⟨"IndexedCompilerModel", "put", "(III)V"⟩),
  (2701, .selects "IndexedCompilerModel" ⟨"IndexedCompilerModel", "put", "(III)V"⟩ ⟨"IndexedCompilerModel", "put", "(III)V"⟩),
  (1583, .methodLink "IndexedCompilerLaw" 117 ⟨"IndexedCompilerLaw", "get", "(LIndexedCompiler;II[J)I"⟩),
  (1584, .static ⟨"IndexedCompilerLaw", "get", "(LIndexedCompiler;II[J)I"⟩),
  (2707, .methodLink "IndexedCompilerLaw" 119 ⟨"IndexedCompilerModel", "get", "(II)I"⟩),
  (2708, .instanceMethod ⟨"IndexedCompilerModel", "get", "(II)I"⟩),
  (2709, .selects "IndexedCompilerModel" ⟨"IndexedCompilerModel", "get", "(II)I"⟩ ⟨"IndexedCompilerModel", "get", "(II)I"⟩),
  (1599, .methodLink "IndexedCompilerLaw" 120 ⟨"IndexedCompilerLaw", "value", "(LIndexedCompiler;II[J)I"⟩),
  (1600, .static ⟨"IndexedCompilerLaw", "value", "(LIndexedCompiler;II[J)I"⟩),
  (2711, .methodLink "IndexedCompilerLaw" 122 ⟨"IndexedCompilerModel", "value", "(II)I"⟩),
  (2712, .instanceMethod ⟨"IndexedCompilerModel", "value", "(II)I"⟩),
  (2713, .selects "IndexedCompilerModel" ⟨"IndexedCompilerModel", "value", "(II)I"⟩ ⟨"IndexedCompilerModel", "value", "(II)I"⟩),
  (1611, .methodLink "IndexedCompilerLaw" 123 ⟨"IndexedCompilerLaw", "run", "(LIndexedCompiler;III[J)I"⟩),
  (1612, .static ⟨"IndexedCompilerLaw", "run", "(LIndexedCompiler;III[J)I"⟩),
  (2716, .methodLink "IndexedCompilerLaw" 125 ⟨"IndexedCompilerModel", "run", "(III)I"⟩),
  (2717, .instanceMethod ⟨"IndexedCompilerModel", "run", "(III)I"⟩),
  (2718, .selects "IndexedCompilerModel" ⟨"IndexedCompilerModel", "run", "(III)I"⟩ ⟨"IndexedCompilerModel", "run", "(III)I"⟩),
  (1741, .methodLink "IndexedCompilerLaw" 126 ⟨"IndexedCompilerLaw", "told", "(LIndexedCompiler;I[J)I"⟩),
  (1742, .static ⟨"IndexedCompilerLaw", "told", "(LIndexedCompiler;I[J)I"⟩),
  (2770, .methodLink "IndexedCompilerLaw" 128 ⟨"IndexedCompilerModel", "told", "(I)I"⟩),
  (2771, .instanceMethod ⟨"IndexedCompilerModel", "told", "(I)I"⟩),
  (2772, .selects "IndexedCompilerModel" ⟨"IndexedCompilerModel", "told", "(I)I"⟩ ⟨"IndexedCompilerModel", "told", "(I)I"⟩),
  (1426, .methodLink "IndexedCompilerLaw" 129 ⟨"IndexedCompiler", "printed", "(IZ)I"⟩),
  (1427, .instanceMethod ⟨"IndexedCompiler", "printed", "(IZ)I"⟩),
  (1428, .selects "IndexedCompiler" ⟨"IndexedCompiler", "printed", "(IZ)I"⟩ ⟨"IndexedCompiler", "printed", "(IZ)I"⟩),
  (2775, .methodLink "IndexedCompilerLaw" 133 ⟨"IndexedCompilerModel", "printed", "(IZ)I"⟩),
  (2776, .instanceMethod ⟨"IndexedCompilerModel", "printed", "(IZ)I"⟩),
  (2777, .selects "IndexedCompilerModel" ⟨"IndexedCompilerModel", "printed", "(IZ)I"⟩ ⟨"IndexedCompilerModel", "printed", "(IZ)I"⟩),
  (1753, .methodLink "IndexedCompilerLaw" 134 ⟨"IndexedCompilerLaw", "fact", "(LIndexedCompiler;IIII[J)I"⟩),
  (1754, .static ⟨"IndexedCompilerLaw", "fact", "(LIndexedCompiler;IIII[J)I"⟩)]
def tb_Q11 : List (Nat × Cond) := [(2780, .methodLink "IndexedCompilerLaw" 137 ⟨"IndexedCompilerModel", "fact", "(IIII)I"⟩),
  (2781, .instanceMethod ⟨"IndexedCompilerModel", "fact", "(IIII)I"⟩),
  (2782, .selects "IndexedCompilerModel" ⟨"IndexedCompilerModel", "fact", "(IIII)I"⟩ ⟨"IndexedCompilerModel", "fact", "(IIII)I"⟩),
  (1774, .methodLink "IndexedCompilerLaw" 138 ⟨"IndexedCompilerLaw", "ask", "(LIndexedCompiler;IIII[J)I"⟩),
  (1775, .static ⟨"IndexedCompilerLaw", "ask", "(LIndexedCompiler;IIII[J)I"⟩),
  (2792, .methodLink "IndexedCompilerLaw" 140 ⟨"IndexedCompilerModel", "ask", "(IIII)Z"⟩),
  (2793, .instanceMethod ⟨"IndexedCompilerModel", "ask", "(IIII)Z"⟩),
  (2794, .selects "IndexedCompilerModel" ⟨"IndexedCompilerModel", "ask", "(IIII)Z"⟩ ⟨"IndexedCompilerModel", "ask", "(IIII)Z"⟩),
  (1446, .methodLink "IndexedCompilerLaw" 141 ⟨"IndexedCompiler", "forget", "()I"⟩),
  (1447, .instanceMethod ⟨"IndexedCompiler", "forget", "()I"⟩),
  (1448, .selects "IndexedCompiler" ⟨"IndexedCompiler", "forget", "()I"⟩ ⟨"IndexedCompiler", "forget", "()I"⟩),
  (2796, .methodLink "IndexedCompilerLaw" 144 ⟨"IndexedCompilerModel", "forget", "()I"⟩),
  (2797, .instanceMethod ⟨"IndexedCompilerModel", "forget", "()I"⟩),
  (2798, .selects "IndexedCompilerModel" ⟨"IndexedCompilerModel", "forget", "()I"⟩ ⟨"IndexedCompilerModel", "forget", "()I"⟩),
  (1452, .codeWith ⟨"IndexedCompilerLaw", "type", "(LIndexedCompiler;IIIII[J)I"⟩ method_3_code 8 (some .int) [(0, 16, 19, 13)]),
  (1454, .methodLink "IndexedCompilerLaw" 7 ⟨"IndexedCompiler", "type", "(IIIII)I"⟩),
  (1455, .instanceMethod ⟨"IndexedCompiler", "type", "(IIIII)I"⟩),
  (1456, .selects "IndexedCompiler" ⟨"IndexedCompiler", "type", "(IIIII)I"⟩ ⟨"IndexedCompiler", "type", "(IIIII)I"⟩),
  (1470, .codeWith ⟨"IndexedCompilerLaw", "count", "(LIndexedCompiler;I[J)I"⟩ method_4_code 4 (some .int) [(0, 9, 12, 19)]),
  (1472, .methodLink "IndexedCompilerLaw" 15 ⟨"IndexedCompiler", "count", "(I)I"⟩),
  (1473, .instanceMethod ⟨"IndexedCompiler", "count", "(I)I"⟩),
  (1474, .selects "IndexedCompiler" ⟨"IndexedCompiler", "count", "(I)I"⟩ ⟨"IndexedCompiler", "count", "(I)I"⟩),
  (1498, .codeWith ⟨"IndexedCompilerLaw", "goal", "(LIndexedCompiler;II[J)I"⟩ method_5_code 5 (some .int) [(0, 10, 13, 19), (0, 10, 17, 13)]),
  (1499, .methodLink "IndexedCompilerLaw" 21 ⟨"IndexedCompiler", "goal", "(II)I"⟩),
  (1500, .instanceMethod ⟨"IndexedCompiler", "goal", "(II)I"⟩),
  (1501, .selects "IndexedCompiler" ⟨"IndexedCompiler", "goal", "(II)I"⟩ ⟨"IndexedCompiler", "goal", "(II)I"⟩),
  (1514, .codeWith ⟨"IndexedCompilerLaw", "code", "(LIndexedCompiler;III[J)I"⟩ method_6_code 6 (some .int) [(0, 12, 15, 19), (0, 12, 19, 13)]),
  (1515, .methodLink "IndexedCompilerLaw" 25 ⟨"IndexedCompiler", "code", "(III)I"⟩),
  (1516, .instanceMethod ⟨"IndexedCompiler", "code", "(III)I"⟩),
  (1517, .selects "IndexedCompiler" ⟨"IndexedCompiler", "code", "(III)I"⟩ ⟨"IndexedCompiler", "code", "(III)I"⟩),
  (1531, .codeWith ⟨"IndexedCompilerLaw", "set", "(LIndexedCompiler;II)I"⟩ method_7_code 4 (some .int) [(0, 6, 9, 19)]),
  (1532, .methodLink "IndexedCompilerLaw" 29 ⟨"IndexedCompiler", "set", "(II)V"⟩),
  (1533, .instanceMethod ⟨"IndexedCompiler", "set", "(II)V"⟩),
  (1534, .selects "IndexedCompiler" ⟨"IndexedCompiler", "set", "(II)V"⟩ ⟨"IndexedCompiler", "set", "(II)V"⟩),
  (1552, .codeWith ⟨"IndexedCompilerLaw", "make", "(LIndexedCompiler;II)I"⟩ method_8_code 4 (some .int) [(0, 6, 9, 19)]),
  (1553, .methodLink "IndexedCompilerLaw" 33 ⟨"IndexedCompiler", "make", "(II)V"⟩),
  (1554, .instanceMethod ⟨"IndexedCompiler", "make", "(II)V"⟩),
  (1555, .selects "IndexedCompiler" ⟨"IndexedCompiler", "make", "(II)V"⟩ ⟨"IndexedCompiler", "make", "(II)V"⟩),
  (1564, .codeWith ⟨"IndexedCompilerLaw", "put", "(LIndexedCompiler;III)I"⟩ method_9_code 5 (some .int) [(0, 7, 10, 19), (0, 7, 14, 13)]),
  (1565, .methodLink "IndexedCompilerLaw" 36 ⟨"IndexedCompiler", "put", "(III)V"⟩)]
def tb_Q12 : List (Nat × Cond) := [(1566, .instanceMethod ⟨"IndexedCompiler", "put", "(III)V"⟩),
  (1567, .selects "IndexedCompiler" ⟨"IndexedCompiler", "put", "(III)V"⟩ ⟨"IndexedCompiler", "put", "(III)V"⟩),
  (1585, .codeWith ⟨"IndexedCompilerLaw", "get", "(LIndexedCompiler;II[J)I"⟩ method_10_code 5 (some .int) [(0, 10, 13, 19), (0, 10, 17, 13)]),
  (1586, .methodLink "IndexedCompilerLaw" 40 ⟨"IndexedCompiler", "get", "(II)I"⟩),
  (1587, .instanceMethod ⟨"IndexedCompiler", "get", "(II)I"⟩),
  (1588, .selects "IndexedCompiler" ⟨"IndexedCompiler", "get", "(II)I"⟩ ⟨"IndexedCompiler", "get", "(II)I"⟩),
  (1601, .codeWith ⟨"IndexedCompilerLaw", "value", "(LIndexedCompiler;II[J)I"⟩ method_11_code 5 (some .int) [(0, 10, 13, 19)]),
  (1602, .methodLink "IndexedCompilerLaw" 43 ⟨"IndexedCompiler", "value", "(II)I"⟩),
  (1603, .instanceMethod ⟨"IndexedCompiler", "value", "(II)I"⟩),
  (1604, .selects "IndexedCompiler" ⟨"IndexedCompiler", "value", "(II)I"⟩ ⟨"IndexedCompiler", "value", "(II)I"⟩),
  (1613, .codeWith ⟨"IndexedCompilerLaw", "run", "(LIndexedCompiler;III[J)I"⟩ method_12_code 6 (some .int) [(0, 12, 15, 19), (0, 12, 19, 13)]),
  (1614, .methodLink "IndexedCompilerLaw" 46 ⟨"IndexedCompiler", "run", "(III)I"⟩),
  (1615, .instanceMethod ⟨"IndexedCompiler", "run", "(III)I"⟩),
  (1616, .selects "IndexedCompiler" ⟨"IndexedCompiler", "run", "(III)I"⟩ ⟨"IndexedCompiler", "run", "(III)I"⟩),
  (1743, .codeWith ⟨"IndexedCompilerLaw", "told", "(LIndexedCompiler;I[J)I"⟩ method_13_code 4 (some .int) [(0, 9, 12, 19)]),
  (1744, .methodLink "IndexedCompilerLaw" 49 ⟨"IndexedCompiler", "told", "(I)I"⟩),
  (1745, .instanceMethod ⟨"IndexedCompiler", "told", "(I)I"⟩),
  (1746, .selects "IndexedCompiler" ⟨"IndexedCompiler", "told", "(I)I"⟩ ⟨"IndexedCompiler", "told", "(I)I"⟩),
  (1755, .codeWith ⟨"IndexedCompilerLaw", "fact", "(LIndexedCompiler;IIII[J)I"⟩ method_14_code 7 (some .int) [(0, 14, 17, 19), (0, 14, 21, 13)]),
  (1756, .methodLink "IndexedCompilerLaw" 52 ⟨"IndexedCompiler", "fact", "(IIII)I"⟩),
  (1757, .instanceMethod ⟨"IndexedCompiler", "fact", "(IIII)I"⟩),
  (1758, .selects "IndexedCompiler" ⟨"IndexedCompiler", "fact", "(IIII)I"⟩ ⟨"IndexedCompiler", "fact", "(IIII)I"⟩),
  (1776, .codeWith ⟨"IndexedCompilerLaw", "ask", "(LIndexedCompiler;IIII[J)I"⟩ method_15_code 7 (some .int) [(0, 21, 24, 19)]),
  (1777, .methodLink "IndexedCompilerLaw" 56 ⟨"IndexedCompiler", "ask", "(IIII)Z"⟩),
  (1778, .instanceMethod ⟨"IndexedCompiler", "ask", "(IIII)Z"⟩),
  (1779, .selects "IndexedCompiler" ⟨"IndexedCompiler", "ask", "(IIII)Z"⟩ ⟨"IndexedCompiler", "ask", "(IIII)Z"⟩),
  (1789, .code ⟨"IndexedCompilerModel", "<init>", "()V"⟩ prog_14_method_1_code 1 none),
  (1790, .methodLink "IndexedCompilerModel" 1 Lib.objectInit),
  (1792, .fieldLink "IndexedCompilerModel" 7 "IndexedCompilerModel" "line" "[C"),
  (1794, .fieldLink "IndexedCompilerModel" 13 "IndexedCompilerModel" "tokenKind" "[I"),
  (1795, .fieldLink "IndexedCompilerModel" 17 "IndexedCompilerModel" "tokenAt" "[I"),
  (1796, .fieldLink "IndexedCompilerModel" 20 "IndexedCompilerModel" "tokenCode" "[I"),
  (1798, .fieldLink "IndexedCompilerModel" 23 "IndexedCompilerModel" "faultPlace" "I"),
  (1802, .fieldLink "IndexedCompilerModel" 27 "IndexedCompilerModel" "functionName" "[I"),
  (1803, .fieldLink "IndexedCompilerModel" 30 "IndexedCompilerModel" "indexNames" "[I"),
  (1804, .fieldLink "IndexedCompilerModel" 33 "IndexedCompilerModel" "indexMany" "[I"),
  (1805, .fieldLink "IndexedCompilerModel" 36 "IndexedCompilerModel" "ownProps" "[I"),
  (1806, .fieldLink "IndexedCompilerModel" 39 "IndexedCompilerModel" "ownMany" "[I"),
  (1807, .fieldLink "IndexedCompilerModel" 42 "IndexedCompilerModel" "paramNames" "[I"),
  (1808, .fieldLink "IndexedCompilerModel" 45 "IndexedCompilerModel" "paramTypes" "[I")]
def tb_Q13 : List (Nat × Cond) := [(1809, .fieldLink "IndexedCompilerModel" 48 "IndexedCompilerModel" "paramMany" "[I"),
  (1810, .fieldLink "IndexedCompilerModel" 51 "IndexedCompilerModel" "resultType" "[I"),
  (1811, .fieldLink "IndexedCompilerModel" 54 "IndexedCompilerModel" "body" "[I"),
  (1813, .fieldLink "IndexedCompilerModel" 57 "IndexedCompilerModel" "nodeKind" "[I"),
  (1814, .fieldLink "IndexedCompilerModel" 60 "IndexedCompilerModel" "nodeA" "[I"),
  (1815, .fieldLink "IndexedCompilerModel" 63 "IndexedCompilerModel" "nodeB" "[I"),
  (1816, .fieldLink "IndexedCompilerModel" 66 "IndexedCompilerModel" "nodeC" "[I"),
  (1817, .fieldLink "IndexedCompilerModel" 69 "IndexedCompilerModel" "nodeD" "[I"),
  (1818, .fieldLink "IndexedCompilerModel" 72 "IndexedCompilerModel" "nodeE" "[I"),
  (1819, .fieldLink "IndexedCompilerModel" 75 "IndexedCompilerModel" "nodeAt" "[I"),
  (1820, .fieldLink "IndexedCompilerModel" 78 "IndexedCompilerModel" "nodeFree" "[Z"),
  (1822, .fieldLink "IndexedCompilerModel" 82 "IndexedCompilerModel" "termTimes" "[I"),
  (1823, .fieldLink "IndexedCompilerModel" 85 "IndexedCompilerModel" "termName" "[I"),
  (1824, .fieldLink "IndexedCompilerModel" 88 "IndexedCompilerModel" "termAt" "[I"),
  (1826, .fieldLink "IndexedCompilerModel" 91 "IndexedCompilerModel" "indexFirst" "[I"),
  (1827, .fieldLink "IndexedCompilerModel" 94 "IndexedCompilerModel" "indexTerms" "[I"),
  (1828, .fieldLink "IndexedCompilerModel" 97 "IndexedCompilerModel" "indexAt" "[I"),
  (1830, .fieldLink "IndexedCompilerModel" 100 "IndexedCompilerModel" "propLeft" "[I"),
  (1831, .fieldLink "IndexedCompilerModel" 103 "IndexedCompilerModel" "propRelation" "[I"),
  (1832, .fieldLink "IndexedCompilerModel" 106 "IndexedCompilerModel" "propRight" "[I"),
  (1834, .fieldLink "IndexedCompilerModel" 109 "IndexedCompilerModel" "typeKind" "[I"),
  (1835, .fieldLink "IndexedCompilerModel" 112 "IndexedCompilerModel" "typeIndex" "[I"),
  (1836, .fieldLink "IndexedCompilerModel" 115 "IndexedCompilerModel" "typeName" "[I"),
  (1837, .fieldLink "IndexedCompilerModel" 118 "IndexedCompilerModel" "typeProps" "[I"),
  (1838, .fieldLink "IndexedCompilerModel" 121 "IndexedCompilerModel" "typeMany" "[I"),
  (1840, .fieldLink "IndexedCompilerModel" 124 "IndexedCompilerModel" "argNodes" "[I"),
  (1843, .fieldLink "IndexedCompilerModel" 127 "IndexedCompilerModel" "frameKind" "[I"),
  (1844, .fieldLink "IndexedCompilerModel" 130 "IndexedCompilerModel" "frameState" "[I"),
  (1845, .fieldLink "IndexedCompilerModel" 133 "IndexedCompilerModel" "frameDeep" "[I"),
  (1846, .fieldLink "IndexedCompilerModel" 136 "IndexedCompilerModel" "frameNode" "[I"),
  (1847, .fieldLink "IndexedCompilerModel" 139 "IndexedCompilerModel" "frameOther" "[I"),
  (1848, .fieldLink "IndexedCompilerModel" 142 "IndexedCompilerModel" "frameThird" "[I"),
  (1849, .fieldLink "IndexedCompilerModel" 145 "IndexedCompilerModel" "frameFourth" "[I"),
  (1850, .fieldLink "IndexedCompilerModel" 148 "IndexedCompilerModel" "frameAt" "[I"),
  (1851, .fieldLink "IndexedCompilerModel" 151 "IndexedCompilerModel" "frameArgs" "[I"),
  (1857, .fieldLink "IndexedCompilerModel" 154 "IndexedCompilerModel" "faultFunction" "I"),
  (1859, .fieldLink "IndexedCompilerModel" 157 "IndexedCompilerModel" "goalFunction" "[I"),
  (1860, .fieldLink "IndexedCompilerModel" 160 "IndexedCompilerModel" "goalAt" "[I"),
  (1861, .fieldLink "IndexedCompilerModel" 163 "IndexedCompilerModel" "goalSort" "[I"),
  (1862, .fieldLink "IndexedCompilerModel" 166 "IndexedCompilerModel" "goalProved" "[Z")]
def tb_Q14 : List (Nat × Cond) := [(1863, .fieldLink "IndexedCompilerModel" 169 "IndexedCompilerModel" "goalFacts" "[I"),
  (1864, .fieldLink "IndexedCompilerModel" 172 "IndexedCompilerModel" "goalVariables" "[I"),
  (1869, .fieldLink "IndexedCompilerModel" 175 "IndexedCompilerModel" "factRows" "[J"),
  (1871, .fieldLink "IndexedCompilerModel" 179 "IndexedCompilerModel" "envName" "[I"),
  (1872, .fieldLink "IndexedCompilerModel" 182 "IndexedCompilerModel" "envSort" "[I"),
  (1873, .fieldLink "IndexedCompilerModel" 185 "IndexedCompilerModel" "envRows" "[J"),
  (1875, .fieldLink "IndexedCompilerModel" 188 "IndexedCompilerModel" "valueRows" "[J"),
  (1876, .fieldLink "IndexedCompilerModel" 191 "IndexedCompilerModel" "valueIsRow" "[Z"),
  (1877, .fieldLink "IndexedCompilerModel" 194 "IndexedCompilerModel" "one" "[J"),
  (1878, .fieldLink "IndexedCompilerModel" 197 "IndexedCompilerModel" "left" "[J"),
  (1879, .fieldLink "IndexedCompilerModel" 200 "IndexedCompilerModel" "right" "[J"),
  (1880, .fieldLink "IndexedCompilerModel" 203 "IndexedCompilerModel" "goal" "[J"),
  (1885, .fieldLink "IndexedCompilerModel" 206 "IndexedCompilerModel" "envTo" "I"),
  (1886, .fieldLink "IndexedCompilerModel" 209 "IndexedCompilerModel" "callPlace" "I"),
  (1888, .fieldLink "IndexedCompilerModel" 212 "IndexedCompilerModel" "rowsAt" "[J"),
  (1890, .fieldLink "IndexedCompilerModel" 215 "IndexedCompilerModel" "freshAt" "[J"),
  (1891, .fieldLink "IndexedCompilerModel" 218 "IndexedCompilerModel" "tight" "[J"),
  (1894, .fieldLink "IndexedCompilerModel" 221 "IndexedCompilerModel" "stepNode" "[I"),
  (1895, .fieldLink "IndexedCompilerModel" 224 "IndexedCompilerModel" "stepState" "[I"),
  (1896, .fieldLink "IndexedCompilerModel" 227 "IndexedCompilerModel" "stepHow" "[I"),
  (1897, .fieldLink "IndexedCompilerModel" 230 "IndexedCompilerModel" "stepType" "[I"),
  (1898, .fieldLink "IndexedCompilerModel" 233 "IndexedCompilerModel" "stepTop" "[I"),
  (1899, .fieldLink "IndexedCompilerModel" 236 "IndexedCompilerModel" "stepVariables" "[I"),
  (1900, .fieldLink "IndexedCompilerModel" 239 "IndexedCompilerModel" "stepFacts" "[I"),
  (1901, .fieldLink "IndexedCompilerModel" 242 "IndexedCompilerModel" "stepOther" "[I"),
  (1902, .fieldLink "IndexedCompilerModel" 245 "IndexedCompilerModel" "stepNamed" "[I"),
  (1905, .fieldLink "IndexedCompilerModel" 248 "IndexedCompilerModel" "codeMany" "[I"),
  (1906, .fieldLink "IndexedCompilerModel" 251 "IndexedCompilerModel" "codes" "[I"),
  (1907, .fieldLink "IndexedCompilerModel" 254 "IndexedCompilerModel" "numbers" "[I"),
  (1908, .fieldLink "IndexedCompilerModel" 257 "IndexedCompilerModel" "codeFree" "[Z"),
  (1911, .fieldLink "IndexedCompilerModel" 260 "IndexedCompilerModel" "localName" "[I"),
  (1912, .fieldLink "IndexedCompilerModel" 263 "IndexedCompilerModel" "slotIsRow" "[Z"),
  (1913, .fieldLink "IndexedCompilerModel" 266 "IndexedCompilerModel" "slots" "[I"),
  (1914, .fieldLink "IndexedCompilerModel" 269 "IndexedCompilerModel" "slotRows" "[I"),
  (1915, .fieldLink "IndexedCompilerModel" 272 "IndexedCompilerModel" "values" "[I"),
  (1916, .fieldLink "IndexedCompilerModel" 275 "IndexedCompilerModel" "cells" "[I"),
  (1918, .fieldLink "IndexedCompilerModel" 278 "IndexedCompilerModel" "pile" "[I"),
  (1921, .fieldLink "IndexedCompilerModel" 281 "IndexedCompilerModel" "callFunction" "[I"),
  (1922, .fieldLink "IndexedCompilerModel" 284 "IndexedCompilerModel" "callNext" "[I"),
  (1923, .fieldLink "IndexedCompilerModel" 287 "IndexedCompilerModel" "callLocals" "[I")]
def tb_Q15 : List (Nat × Cond) := [(1924, .fieldLink "IndexedCompilerModel" 290 "IndexedCompilerModel" "prints" "[I"),
  (1928, .fieldLink "IndexedCompilerModel" 293 "IndexedCompilerModel" "answerRow" "I"),
  (1933, .fieldLink "IndexedCompilerModel" 296 "IndexedCompilerModel" "paramCell" "[I"),
  (1935, .fieldLink "IndexedCompilerModel" 299 "IndexedCompilerModel" "deskRows" "[J"),
  (2230, .code ⟨"IndexedCompilerModel", "thrown", "()I"⟩ prog_14_method_2_code 1 (some .int)),
  (1791, .fieldLink "IndexedCompilerModel" 302 "IndexedCompilerModel" "thrown" "I"),
  (2242, .code ⟨"IndexedCompilerModel", "refused", "(I)Z"⟩ prog_14_method_3_code 2 (some .boolean)),
  (2667, .code ⟨"IndexedCompilerModel", "isIn", "(JJJ)Z"⟩ prog_14_method_4_code 6 (some .boolean)),
  (2238, .code ⟨"IndexedCompilerModel", "put", "(II)V"⟩ prog_14_method_5_code 4 none),
  (1793, .fieldLink "IndexedCompilerModel" 305 "IndexedCompilerModel" "lineSize" "I"),
  (2234, .code ⟨"IndexedCompilerModel", "type", "(IIIII)I"⟩ prog_14_method_6_code 10 (some .int)),
  (2235, .methodLink "IndexedCompilerModel" 308 ⟨"IndexedCompilerModel", "put", "(II)V"⟩),
  (2237, .instanceMethod ⟨"IndexedCompilerModel", "put", "(II)V"⟩),
  (107, .selects "IndexedCompilerModel" ⟨"IndexedCompilerModel", "put", "(II)V"⟩ ⟨"IndexedCompilerModel", "put", "(II)V"⟩),
  (2239, .methodLink "IndexedCompilerModel" 312 ⟨"IndexedCompilerModel", "refused", "(I)Z"⟩),
  (2241, .instanceMethod ⟨"IndexedCompilerModel", "refused", "(I)Z"⟩),
  (108, .selects "IndexedCompilerModel" ⟨"IndexedCompilerModel", "refused", "(I)Z"⟩ ⟨"IndexedCompilerModel", "refused", "(I)Z"⟩),
  (2246, .code ⟨"IndexedCompilerModel", "erase", "()I"⟩ prog_14_method_7_code 2 (some .int)),
  (2258, .code ⟨"IndexedCompilerModel", "tokens", "()V"⟩ prog_14_method_12_code 7 none),
  (1797, .fieldLink "IndexedCompilerModel" 330 "IndexedCompilerModel" "token" "I"),
  (1799, .fieldLink "IndexedCompilerModel" 333 "IndexedCompilerModel" "isWrong" "Z"),
  (2283, .code ⟨"IndexedCompilerModel", "wrong", "()V"⟩ prog_14_method_14_code 1 none),
  (1800, .fieldLink "IndexedCompilerModel" 339 "IndexedCompilerModel" "wrongAt" "I"),
  (2300, .code ⟨"IndexedCompilerModel", "isMarkHere", "(I)Z"⟩ prog_14_method_15_code 2 (some .boolean)),
  (2279, .code ⟨"IndexedCompilerModel", "isWordHere", "(I)Z"⟩ prog_14_method_16_code 2 (some .boolean)),
  (2291, .code ⟨"IndexedCompilerModel", "isNameHere", "()Z"⟩ prog_14_method_17_code 1 (some .boolean)),
  (2336, .code ⟨"IndexedCompilerModel", "wantMark", "(I)V"⟩ prog_14_method_18_code 2 none),
  (2297, .methodLink "IndexedCompilerModel" 345 ⟨"IndexedCompilerModel", "isMarkHere", "(I)Z"⟩),
  (2299, .instanceMethod ⟨"IndexedCompilerModel", "isMarkHere", "(I)Z"⟩),
  (117, .selects "IndexedCompilerModel" ⟨"IndexedCompilerModel", "isMarkHere", "(I)Z"⟩ ⟨"IndexedCompilerModel", "isMarkHere", "(I)Z"⟩),
  (2280, .methodLink "IndexedCompilerModel" 348 ⟨"IndexedCompilerModel", "wrong", "()V"⟩),
  (2282, .instanceMethod ⟨"IndexedCompilerModel", "wrong", "()V"⟩),
  (114, .selects "IndexedCompilerModel" ⟨"IndexedCompilerModel", "wrong", "()V"⟩ ⟨"IndexedCompilerModel", "wrong", "()V"⟩),
  (2275, .code ⟨"IndexedCompilerModel", "wantWord", "(I)V"⟩ prog_14_method_19_code 2 none),
  (2276, .methodLink "IndexedCompilerModel" 351 ⟨"IndexedCompilerModel", "isWordHere", "(I)Z"⟩),
  (2278, .instanceMethod ⟨"IndexedCompilerModel", "isWordHere", "(I)Z"⟩),
  (113, .selects "IndexedCompilerModel" ⟨"IndexedCompilerModel", "isWordHere", "(I)Z"⟩ ⟨"IndexedCompilerModel", "isWordHere", "(I)Z"⟩),
  (2287, .code ⟨"IndexedCompilerModel", "wantName", "()I"⟩ prog_14_method_20_code 1 (some .int)),
  (2288, .methodLink "IndexedCompilerModel" 354 ⟨"IndexedCompilerModel", "isNameHere", "()Z"⟩),
  (2290, .instanceMethod ⟨"IndexedCompilerModel", "isNameHere", "()Z"⟩)]
def tb_Q16 : List (Nat × Cond) := [(116, .selects "IndexedCompilerModel" ⟨"IndexedCompilerModel", "isNameHere", "()Z"⟩ ⟨"IndexedCompilerModel", "isNameHere", "()Z"⟩),
  (2254, .code ⟨"IndexedCompilerModel", "readFunction", "(I)Z"⟩ prog_14_method_32_code 4 (some .boolean)),
  (2255, .methodLink "IndexedCompilerModel" 409 ⟨"IndexedCompilerModel", "tokens", "()V"⟩),
  (2257, .instanceMethod ⟨"IndexedCompilerModel", "tokens", "()V"⟩),
  (110, .selects "IndexedCompilerModel" ⟨"IndexedCompilerModel", "tokens", "()V"⟩ ⟨"IndexedCompilerModel", "tokens", "()V"⟩),
  (1812, .fieldLink "IndexedCompilerModel" 358 "IndexedCompilerModel" "nodes" "I"),
  (1821, .fieldLink "IndexedCompilerModel" 368 "IndexedCompilerModel" "terms" "I"),
  (1825, .fieldLink "IndexedCompilerModel" 371 "IndexedCompilerModel" "indexes" "I"),
  (1829, .fieldLink "IndexedCompilerModel" 384 "IndexedCompilerModel" "props" "I"),
  (1833, .fieldLink "IndexedCompilerModel" 387 "IndexedCompilerModel" "types" "I"),
  (1839, .fieldLink "IndexedCompilerModel" 412 "IndexedCompilerModel" "args" "I"),
  (1841, .fieldLink "IndexedCompilerModel" 396 "IndexedCompilerModel" "sameAt" "I"),
  (2272, .methodLink "IndexedCompilerModel" 415 ⟨"IndexedCompilerModel", "wantWord", "(I)V"⟩),
  (2274, .instanceMethod ⟨"IndexedCompilerModel", "wantWord", "(I)V"⟩),
  (112, .selects "IndexedCompilerModel" ⟨"IndexedCompilerModel", "wantWord", "(I)V"⟩ ⟨"IndexedCompilerModel", "wantWord", "(I)V"⟩),
  (2284, .methodLink "IndexedCompilerModel" 364 ⟨"IndexedCompilerModel", "wantName", "()I"⟩),
  (2286, .instanceMethod ⟨"IndexedCompilerModel", "wantName", "()I"⟩),
  (115, .selects "IndexedCompilerModel" ⟨"IndexedCompilerModel", "wantName", "()I"⟩ ⟨"IndexedCompilerModel", "wantName", "()I"⟩),
  (2333, .methodLink "IndexedCompilerModel" 390 ⟨"IndexedCompilerModel", "wantMark", "(I)V"⟩),
  (2335, .instanceMethod ⟨"IndexedCompilerModel", "wantMark", "(I)V"⟩),
  (126, .selects "IndexedCompilerModel" ⟨"IndexedCompilerModel", "wantMark", "(I)V"⟩ ⟨"IndexedCompilerModel", "wantMark", "(I)V"⟩),
  (2250, .code ⟨"IndexedCompilerModel", "define", "()I"⟩ prog_14_method_45_code 2 (some .int)),
  (1801, .fieldLink "IndexedCompilerModel" 470 "IndexedCompilerModel" "functions" "I"),
  (2251, .methodLink "IndexedCompilerModel" 473 ⟨"IndexedCompilerModel", "readFunction", "(I)Z"⟩),
  (2253, .instanceMethod ⟨"IndexedCompilerModel", "readFunction", "(I)Z"⟩),
  (109, .selects "IndexedCompilerModel" ⟨"IndexedCompilerModel", "readFunction", "(I)Z"⟩ ⟨"IndexedCompilerModel", "readFunction", "(I)Z"⟩),
  (2397, .methodLink "IndexedCompilerModel" 476 ⟨"IndexedCompilerModel", "uncheck", "()V"⟩),
  (2399, .instanceMethod ⟨"IndexedCompilerModel", "uncheck", "()V"⟩),
  (142, .selects "IndexedCompilerModel" ⟨"IndexedCompilerModel", "uncheck", "()V"⟩ ⟨"IndexedCompilerModel", "uncheck", "()V"⟩),
  (2404, .code ⟨"IndexedCompilerModel", "clear", "()I"⟩ prog_14_method_46_code 2 (some .int)),
  (2400, .code ⟨"IndexedCompilerModel", "uncheck", "()V"⟩ prog_14_method_47_code 1 none),
  (1853, .fieldLink "IndexedCompilerModel" 479 "IndexedCompilerModel" "goals" "I"),
  (1854, .fieldLink "IndexedCompilerModel" 482 "IndexedCompilerModel" "proved" "I"),
  (1855, .fieldLink "IndexedCompilerModel" 485 "IndexedCompilerModel" "accesses" "I"),
  (1856, .fieldLink "IndexedCompilerModel" 488 "IndexedCompilerModel" "freeOnes" "I"),
  (1858, .fieldLink "IndexedCompilerModel" 491 "IndexedCompilerModel" "isAccepted" "Z"),
  (2408, .code ⟨"IndexedCompilerModel", "place", "()I"⟩ prog_14_method_48_code 1 (some .int)),
  (2412, .code ⟨"IndexedCompilerModel", "check", "()I"⟩ prog_14_method_101_code 2 (some .int)),
  (1865, .fieldLink "IndexedCompilerModel" 494 "IndexedCompilerModel" "fault" "I"),
  (1870, .fieldLink "IndexedCompilerModel" 520 "IndexedCompilerModel" "named" "I")]
def tb_Q17 : List (Nat × Cond) := [(1903, .fieldLink "IndexedCompilerModel" 619 "IndexedCompilerModel" "lookNamed" "I"),
  (2663, .code ⟨"IndexedCompilerModel", "count", "(I)I"⟩ prog_14_method_102_code 2 (some .int)),
  (2664, .constantLong "IndexedCompilerModel" 734 (5)),
  (2665, .methodLink "IndexedCompilerModel" 736 ⟨"IndexedCompilerModel", "isIn", "(JJJ)Z"⟩),
  (2666, .static ⟨"IndexedCompilerModel", "isIn", "(JJJ)Z"⟩),
  (2671, .code ⟨"IndexedCompilerModel", "goal", "(II)I"⟩ prog_14_method_103_code 3 (some .int)),
  (2675, .code ⟨"IndexedCompilerModel", "code", "(III)I"⟩ prog_14_method_115_code 5 (some .int)),
  (2676, .methodLink "IndexedCompilerModel" 771 ⟨"IndexedCompilerModel", "isRunnable", "(I)Z"⟩),
  (2678, .instanceMethod ⟨"IndexedCompilerModel", "isRunnable", "(I)Z"⟩),
  (200, .selects "IndexedCompilerModel" ⟨"IndexedCompilerModel", "isRunnable", "(I)Z"⟩ ⟨"IndexedCompilerModel", "isRunnable", "(I)Z"⟩),
  (2679, .code ⟨"IndexedCompilerModel", "isRunnable", "(I)Z"⟩ prog_14_method_113_code 2 (some .boolean)),
  (2693, .code ⟨"IndexedCompilerModel", "isNumber", "(I)Z"⟩ prog_14_method_116_code 1 (some .boolean)),
  (2475, .constantLong "IndexedCompilerModel" 593 (-1000000000)),
  (2474, .constantLong "IndexedCompilerModel" 591 (1000000000)),
  (2690, .code ⟨"IndexedCompilerModel", "isSlot", "(I)Z"⟩ prog_14_method_117_code 1 (some .boolean)),
  (2687, .code ⟨"IndexedCompilerModel", "set", "(II)V"⟩ prog_14_method_118_code 3 none),
  (2688, .methodLink "IndexedCompilerModel" 778 ⟨"IndexedCompilerModel", "isSlot", "(I)Z"⟩),
  (2689, .static ⟨"IndexedCompilerModel", "isSlot", "(I)Z"⟩),
  (2691, .methodLink "IndexedCompilerModel" 781 ⟨"IndexedCompilerModel", "isNumber", "(I)Z"⟩),
  (2692, .static ⟨"IndexedCompilerModel", "isNumber", "(I)Z"⟩),
  (2697, .code ⟨"IndexedCompilerModel", "make", "(II)V"⟩ prog_14_method_119_code 4 none),
  (2698, .constantLong "IndexedCompilerModel" 784 (40)),
  (2706, .code ⟨"IndexedCompilerModel", "hasNumber", "(II)Z"⟩ prog_14_method_120_code 3 (some .boolean)),
  (2702, .code ⟨"IndexedCompilerModel", "put", "(III)V"⟩ prog_14_method_121_code 5 none),
  (2703, .methodLink "IndexedCompilerModel" 786 ⟨"IndexedCompilerModel", "hasNumber", "(II)Z"⟩),
  (2705, .instanceMethod ⟨"IndexedCompilerModel", "hasNumber", "(II)Z"⟩),
  (202, .selects "IndexedCompilerModel" ⟨"IndexedCompilerModel", "hasNumber", "(II)Z"⟩ ⟨"IndexedCompilerModel", "hasNumber", "(II)Z"⟩),
  (2710, .code ⟨"IndexedCompilerModel", "get", "(II)I"⟩ prog_14_method_122_code 4 (some .int)),
  (2714, .code ⟨"IndexedCompilerModel", "value", "(II)I"⟩ prog_14_method_123_code 4 (some .int)),
  (2715, .constantLong "IndexedCompilerModel" 789 (3)),
  (2719, .code ⟨"IndexedCompilerModel", "run", "(III)I"⟩ prog_14_method_136_code 7 (some .int)),
  (2720, .constantLong "IndexedCompilerModel" 853 (20000)),
  (1929, .fieldLink "IndexedCompilerModel" 818 "IndexedCompilerModel" "made" "I"),
  (1926, .fieldLink "IndexedCompilerModel" 864 "IndexedCompilerModel" "ended" "I"),
  (1927, .fieldLink "IndexedCompilerModel" 815 "IndexedCompilerModel" "answered" "I"),
  (2773, .code ⟨"IndexedCompilerModel", "told", "(I)I"⟩ prog_14_method_137_code 2 (some .int)),
  (2774, .constantLong "IndexedCompilerModel" 867 (7)),
  (1930, .fieldLink "IndexedCompilerModel" 821 "IndexedCompilerModel" "checks" "I"),
  (1931, .fieldLink "IndexedCompilerModel" 824 "IndexedCompilerModel" "reached" "I"),
  (1925, .fieldLink "IndexedCompilerModel" 812 "IndexedCompilerModel" "printedMany" "I")]
def tb_Q18 : List (Nat × Cond) := [(1932, .fieldLink "IndexedCompilerModel" 827 "IndexedCompilerModel" "deepest" "I"),
  (1917, .fieldLink "IndexedCompilerModel" 803 "IndexedCompilerModel" "taken" "I"),
  (2778, .code ⟨"IndexedCompilerModel", "printed", "(IZ)I"⟩ prog_14_method_138_code 3 (some .int)),
  (2779, .methodLink "IndexedCompilerModel" 869 ⟨"java/lang/Math", "min", "(II)I"⟩),
  (221, .initialized "java/lang/Math"),
  (630, .static ⟨"java/lang/Math", "min", "(II)I"⟩),
  (2786, .code ⟨"IndexedCompilerModel", "isDesk", "(IIII)Z"⟩ prog_14_method_139_code 4 (some .boolean)),
  (2787, .constantLong "IndexedCompilerModel" 871 (-1000)),
  (2788, .constantLong "IndexedCompilerModel" 873 (1000)),
  (2449, .constantLong "IndexedCompilerModel" 511 (-1000000)),
  (2448, .constantLong "IndexedCompilerModel" 509 (1000000)),
  (2791, .code ⟨"IndexedCompilerModel", "putDesk", "([JIIIII)V"⟩ prog_14_method_140_code 7 none),
  (2783, .code ⟨"IndexedCompilerModel", "fact", "(IIII)I"⟩ prog_14_method_141_code 5 (some .int)),
  (2784, .methodLink "IndexedCompilerModel" 875 ⟨"IndexedCompilerModel", "isDesk", "(IIII)Z"⟩),
  (2785, .static ⟨"IndexedCompilerModel", "isDesk", "(IIII)Z"⟩),
  (1934, .fieldLink "IndexedCompilerModel" 879 "IndexedCompilerModel" "deskFacts" "I"),
  (2789, .methodLink "IndexedCompilerModel" 882 ⟨"IndexedCompilerModel", "putDesk", "([JIIIII)V"⟩),
  (2790, .static ⟨"IndexedCompilerModel", "putDesk", "([JIIIII)V"⟩),
  (2795, .code ⟨"IndexedCompilerModel", "ask", "(IIII)Z"⟩ prog_14_method_142_code 5 (some .boolean)),
  (2462, .methodLink "IndexedCompilerModel" 579 ⟨"IndexedCompilerModel", "isProved", "([JI)Z"⟩),
  (2464, .instanceMethod ⟨"IndexedCompilerModel", "isProved", "([JI)Z"⟩),
  (154, .selects "IndexedCompilerModel" ⟨"IndexedCompilerModel", "isProved", "([JI)Z"⟩ ⟨"IndexedCompilerModel", "isProved", "([JI)Z"⟩),
  (2799, .code ⟨"IndexedCompilerModel", "forget", "()I"⟩ prog_14_method_143_code 2 (some .int)),
  (2472, .code ⟨"IndexedCompilerModel", "gcd", "(JJ)J"⟩ prog_14_method_68_code 10 (some .long)),
  (2469, .code ⟨"IndexedCompilerModel", "keep", "()Z"⟩ prog_14_method_69_code 6 (some .boolean)),
  (2470, .methodLink "IndexedCompilerModel" 582 ⟨"IndexedCompilerModel", "gcd", "(JJ)J"⟩),
  (2471, .static ⟨"IndexedCompilerModel", "gcd", "(JJ)J"⟩),
  (2473, .methodLink "IndexedCompilerModel" 586 ⟨"java/lang/Math", "floorDiv", "(JJ)J"⟩),
  (1282, .static ⟨"java/lang/Math", "floorDiv", "(JJ)J"⟩),
  (1892, .fieldLink "IndexedCompilerModel" 595 "IndexedCompilerModel" "isFalse" "Z"),
  (1889, .fieldLink "IndexedCompilerModel" 598 "IndexedCompilerModel" "fresh" "I"),
  (2476, .methodLink "IndexedCompilerModel" 601 ⟨"java/lang/Math", "min", "(JJ)J"⟩),
  (1287, .static ⟨"java/lang/Math", "min", "(JJ)J"⟩),
  (2484, .code ⟨"IndexedCompilerModel", "without", "(I)Z"⟩ prog_14_method_70_code 9 (some .boolean)),
  (1887, .fieldLink "IndexedCompilerModel" 604 "IndexedCompilerModel" "rows" "I"),
  (2466, .methodLink "IndexedCompilerModel" 607 ⟨"IndexedCompilerModel", "keep", "()Z"⟩),
  (2468, .instanceMethod ⟨"IndexedCompilerModel", "keep", "()Z"⟩),
  (155, .selects "IndexedCompilerModel" ⟨"IndexedCompilerModel", "keep", "()Z"⟩ ⟨"IndexedCompilerModel", "keep", "()Z"⟩),
  (2480, .code ⟨"IndexedCompilerModel", "takeFresh", "()V"⟩ prog_14_method_71_code 2 none),
  (2465, .code ⟨"IndexedCompilerModel", "isProved", "([JI)Z"⟩ prog_14_method_72_code 5 (some .boolean))]
def tb_Q19 : List (Nat × Cond) := [(2477, .methodLink "IndexedCompilerModel" 610 ⟨"IndexedCompilerModel", "takeFresh", "()V"⟩),
  (2479, .instanceMethod ⟨"IndexedCompilerModel", "takeFresh", "()V"⟩),
  (156, .selects "IndexedCompilerModel" ⟨"IndexedCompilerModel", "takeFresh", "()V"⟩ ⟨"IndexedCompilerModel", "takeFresh", "()V"⟩),
  (2481, .methodLink "IndexedCompilerModel" 613 ⟨"IndexedCompilerModel", "without", "(I)Z"⟩),
  (2483, .instanceMethod ⟨"IndexedCompilerModel", "without", "(I)Z"⟩),
  (157, .selects "IndexedCompilerModel" ⟨"IndexedCompilerModel", "without", "(I)Z"⟩ ⟨"IndexedCompilerModel", "without", "(I)Z"⟩),
  (245, .code ⟨"IndexedCompiler", "<init>", "()V"⟩ prog_1_method_1_code 1 none),
  (246, .methodLink "IndexedCompiler" 1 Lib.objectInit),
  (249, .classLink "IndexedCompiler" 7 "IndexedCompiler$Line"),
  (250, .instantiable "IndexedCompiler$Line" 10),
  (216, .initialized "IndexedCompiler$Line"),
  (251, .methodLink "IndexedCompiler" 9 ⟨"IndexedCompiler$Line", "<init>", "()V"⟩),
  (252, .instanceMethod ⟨"IndexedCompiler$Line", "<init>", "()V"⟩),
  (580, .fieldLink "IndexedCompiler" 10 "IndexedCompiler" "line" "LIndexedCompiler$Line;"),
  (292, .classLink "IndexedCompiler" 16 "IndexedCompiler$Reader"),
  (293, .instantiable "IndexedCompiler$Reader" 3),
  (217, .initialized "IndexedCompiler$Reader"),
  (294, .methodLink "IndexedCompiler" 18 ⟨"IndexedCompiler$Reader", "<init>", "()V"⟩),
  (295, .instanceMethod ⟨"IndexedCompiler$Reader", "<init>", "()V"⟩),
  (581, .fieldLink "IndexedCompiler" 19 "IndexedCompiler" "reader" "LIndexedCompiler$Reader;"),
  (309, .classLink "IndexedCompiler" 23 "IndexedCompiler$Tree"),
  (310, .arrayOver (.object "IndexedCompiler$Tree")),
  (582, .fieldLink "IndexedCompiler" 25 "IndexedCompiler" "trees" "[LIndexedCompiler$Tree;"),
  (311, .classLink "IndexedCompiler" 29 "IndexedCompiler$Checker"),
  (312, .instantiable "IndexedCompiler$Checker" 15),
  (218, .initialized "IndexedCompiler$Checker"),
  (313, .methodLink "IndexedCompiler" 31 ⟨"IndexedCompiler$Checker", "<init>", "()V"⟩),
  (314, .instanceMethod ⟨"IndexedCompiler$Checker", "<init>", "()V"⟩),
  (583, .fieldLink "IndexedCompiler" 32 "IndexedCompiler" "checker" "LIndexedCompiler$Checker;"),
  (475, .classLink "IndexedCompiler" 36 "IndexedCompiler$Coder"),
  (476, .instantiable "IndexedCompiler$Coder" 7),
  (223, .initialized "IndexedCompiler$Coder"),
  (477, .methodLink "IndexedCompiler" 38 ⟨"IndexedCompiler$Coder", "<init>", "()V"⟩),
  (478, .instanceMethod ⟨"IndexedCompiler$Coder", "<init>", "()V"⟩),
  (584, .fieldLink "IndexedCompiler" 39 "IndexedCompiler" "coder" "LIndexedCompiler$Coder;"),
  (508, .classLink "IndexedCompiler" 43 "IndexedCompiler$Slots"),
  (509, .instantiable "IndexedCompiler$Slots" 4),
  (224, .initialized "IndexedCompiler$Slots"),
  (510, .methodLink "IndexedCompiler" 45 ⟨"IndexedCompiler$Slots", "<init>", "()V"⟩),
  (511, .instanceMethod ⟨"IndexedCompiler$Slots", "<init>", "()V"⟩)]
def tb_Q20 : List (Nat × Cond) := [(585, .fieldLink "IndexedCompiler" 46 "IndexedCompiler" "slots" "LIndexedCompiler$Slots;"),
  (527, .classLink "IndexedCompiler" 50 "IndexedCompiler$Machine"),
  (528, .instantiable "IndexedCompiler$Machine" 14),
  (225, .initialized "IndexedCompiler$Machine"),
  (529, .methodLink "IndexedCompiler" 52 ⟨"IndexedCompiler$Machine", "<init>", "()V"⟩),
  (530, .instanceMethod ⟨"IndexedCompiler$Machine", "<init>", "()V"⟩),
  (586, .fieldLink "IndexedCompiler" 53 "IndexedCompiler" "machine" "LIndexedCompiler$Machine;"),
  (576, .classLink "IndexedCompiler" 57 "IndexedCompiler$Ground"),
  (318, .instantiable "IndexedCompiler$Ground" 14),
  (219, .initialized "IndexedCompiler$Ground"),
  (577, .methodLink "IndexedCompiler" 59 ⟨"IndexedCompiler$Ground", "<init>", "(II)V"⟩),
  (320, .instanceMethod ⟨"IndexedCompiler$Ground", "<init>", "(II)V"⟩),
  (587, .fieldLink "IndexedCompiler" 62 "IndexedCompiler" "desk" "LIndexedCompiler$Ground;"),
  (578, .classLink "IndexedCompiler" 66 "IndexedCompiler$Expression"),
  (357, .instantiable "IndexedCompiler$Expression" 2),
  (222, .initialized "IndexedCompiler$Expression"),
  (579, .methodLink "IndexedCompiler" 68 ⟨"IndexedCompiler$Expression", "<init>", "()V"⟩),
  (359, .instanceMethod ⟨"IndexedCompiler$Expression", "<init>", "()V"⟩),
  (588, .fieldLink "IndexedCompiler" 69 "IndexedCompiler" "asked" "LIndexedCompiler$Expression;"),
  (589, .fieldLink "IndexedCompiler" 73 "IndexedCompiler" "functions" "I"),
  (590, .fieldLink "IndexedCompiler" 77 "IndexedCompiler" "lastPlace" "I"),
  (591, .fieldLink "IndexedCompiler" 80 "IndexedCompiler" "checked" "Z"),
  (1457, .code ⟨"IndexedCompiler", "type", "(IIIII)I"⟩ prog_1_method_2_code 7 (some .int)),
  (1458, .methodLink "IndexedCompiler" 84 ⟨"IndexedCompiler", "bytesIn", "(I)I"⟩),
  (1459, .static ⟨"IndexedCompiler", "bytesIn", "(I)I"⟩),
  (257, .fieldLink "IndexedCompiler" 88 "IndexedCompiler$Line" "length" "I"),
  (1461, .classLink "IndexedCompiler" 91 "java/lang/IllegalStateException"),
  (1464, .methodLink "IndexedCompiler" 98 ⟨"IndexedCompiler$Line", "append", "(I)V"⟩),
  (1465, .instanceMethod ⟨"IndexedCompiler$Line", "append", "(I)V"⟩),
  (1466, .selects "IndexedCompiler$Line" ⟨"IndexedCompiler$Line", "append", "(I)V"⟩ ⟨"IndexedCompiler$Line", "append", "(I)V"⟩),
  (620, .code ⟨"IndexedCompiler", "erase", "()I"⟩ prog_1_method_3_code 2 (some .int)),
  (624, .code ⟨"IndexedCompiler", "define", "()I"⟩ prog_1_method_4_code 3 (some .int)),
  (625, .methodLink "IndexedCompiler" 102 ⟨"IndexedCompiler", "treeFor", "(I)LIndexedCompiler$Tree;"⟩),
  (627, .instanceMethod ⟨"IndexedCompiler", "treeFor", "(I)LIndexedCompiler$Tree;"⟩),
  (0, .selects "IndexedCompiler" ⟨"IndexedCompiler", "treeFor", "(I)LIndexedCompiler$Tree;"⟩ ⟨"IndexedCompiler", "treeFor", "(I)LIndexedCompiler$Tree;"⟩),
  (698, .methodLink "IndexedCompiler" 106 ⟨"IndexedCompiler$Reader", "read", "(LIndexedCompiler$Line;LIndexedCompiler$Tree;)Z"⟩),
  (699, .instanceMethod ⟨"IndexedCompiler$Reader", "read", "(LIndexedCompiler$Line;LIndexedCompiler$Tree;)Z"⟩),
  (700, .selects "IndexedCompiler$Reader" ⟨"IndexedCompiler$Reader", "read", "(LIndexedCompiler$Line;LIndexedCompiler$Tree;)Z"⟩ ⟨"IndexedCompiler$Reader", "read", "(LIndexedCompiler$Line;LIndexedCompiler$Tree;)Z"⟩),
  (301, .fieldLink "IndexedCompiler" 110 "IndexedCompiler$Reader" "wrongAt" "I"),
  (1055, .code ⟨"IndexedCompiler", "clear", "()I"⟩ prog_1_method_5_code 2 (some .int))]
def tb_Q21 : List (Nat × Cond) := [(1059, .code ⟨"IndexedCompiler", "check", "()I"⟩ prog_1_method_6_code 2 (some .int)),
  (1060, .methodLink "IndexedCompiler" 117 ⟨"IndexedCompiler$Checker", "judge", "([LIndexedCompiler$Tree;I)I"⟩),
  (1061, .instanceMethod ⟨"IndexedCompiler$Checker", "judge", "([LIndexedCompiler$Tree;I)I"⟩),
  (1062, .selects "IndexedCompiler$Checker" ⟨"IndexedCompiler$Checker", "judge", "([LIndexedCompiler$Tree;I)I"⟩ ⟨"IndexedCompiler$Checker", "judge", "([LIndexedCompiler$Tree;I)I"⟩),
  (1388, .methodLink "IndexedCompiler" 121 ⟨"IndexedCompiler$Checker", "faultPlace", "()I"⟩),
  (1389, .instanceMethod ⟨"IndexedCompiler$Checker", "faultPlace", "()I"⟩),
  (1390, .selects "IndexedCompiler$Checker" ⟨"IndexedCompiler$Checker", "faultPlace", "()I"⟩ ⟨"IndexedCompiler$Checker", "faultPlace", "()I"⟩),
  (1392, .methodLink "IndexedCompiler" 125 ⟨"IndexedCompiler$Coder", "compile", "([LIndexedCompiler$Tree;I)V"⟩),
  (1393, .instanceMethod ⟨"IndexedCompiler$Coder", "compile", "([LIndexedCompiler$Tree;I)V"⟩),
  (1394, .selects "IndexedCompiler$Coder" ⟨"IndexedCompiler$Coder", "compile", "([LIndexedCompiler$Tree;I)V"⟩ ⟨"IndexedCompiler$Coder", "compile", "([LIndexedCompiler$Tree;I)V"⟩),
  (1425, .code ⟨"IndexedCompiler", "place", "()I"⟩ prog_1_method_7_code 1 (some .int)),
  (1475, .code ⟨"IndexedCompiler", "count", "(I)I"⟩ prog_1_method_8_code 2 (some .int)),
  (1476, .classLink "IndexedCompiler" 129 "java/lang/IllegalArgumentException"),
  (1492, .methodLink "IndexedCompiler" 134 ⟨"IndexedCompiler$Checker", "tally", "(I)I"⟩),
  (1493, .instanceMethod ⟨"IndexedCompiler$Checker", "tally", "(I)I"⟩),
  (1494, .selects "IndexedCompiler$Checker" ⟨"IndexedCompiler$Checker", "tally", "(I)I"⟩ ⟨"IndexedCompiler$Checker", "tally", "(I)I"⟩),
  (1502, .code ⟨"IndexedCompiler", "goal", "(II)I"⟩ prog_1_method_9_code 3 (some .int)),
  (1518, .code ⟨"IndexedCompiler", "code", "(III)I"⟩ prog_1_method_10_code 4 (some .int)),
  (1520, .methodLink "IndexedCompiler" 145 ⟨"IndexedCompiler", "canRun", "(I)Z"⟩),
  (1522, .instanceMethod ⟨"IndexedCompiler", "canRun", "(I)Z"⟩),
  (83, .selects "IndexedCompiler" ⟨"IndexedCompiler", "canRun", "(I)Z"⟩ ⟨"IndexedCompiler", "canRun", "(I)Z"⟩),
  (1535, .code ⟨"IndexedCompiler", "set", "(II)V"⟩ prog_1_method_11_code 3 none),
  (1536, .methodLink "IndexedCompiler" 155 ⟨"IndexedCompiler", "isSlot", "(I)Z"⟩),
  (1537, .static ⟨"IndexedCompiler", "isSlot", "(I)Z"⟩),
  (1539, .methodLink "IndexedCompiler" 158 ⟨"IndexedCompiler", "isNumber", "(I)Z"⟩),
  (1540, .static ⟨"IndexedCompiler", "isNumber", "(I)Z"⟩),
  (1545, .methodLink "IndexedCompiler" 163 ⟨"IndexedCompiler$Slots", "becomeNumber", "(II)V"⟩),
  (1546, .instanceMethod ⟨"IndexedCompiler$Slots", "becomeNumber", "(II)V"⟩),
  (1547, .selects "IndexedCompiler$Slots" ⟨"IndexedCompiler$Slots", "becomeNumber", "(II)V"⟩ ⟨"IndexedCompiler$Slots", "becomeNumber", "(II)V"⟩),
  (1556, .code ⟨"IndexedCompiler", "make", "(II)V"⟩ prog_1_method_12_code 3 none),
  (1558, .methodLink "IndexedCompiler" 168 ⟨"IndexedCompiler$Slots", "becomeRow", "(II)V"⟩),
  (1559, .instanceMethod ⟨"IndexedCompiler$Slots", "becomeRow", "(II)V"⟩),
  (1560, .selects "IndexedCompiler$Slots" ⟨"IndexedCompiler$Slots", "becomeRow", "(II)V"⟩ ⟨"IndexedCompiler$Slots", "becomeRow", "(II)V"⟩),
  (1568, .code ⟨"IndexedCompiler", "put", "(III)V"⟩ prog_1_method_13_code 4 none),
  (1569, .methodLink "IndexedCompiler" 171 ⟨"IndexedCompiler$Slots", "has", "(II)Z"⟩),
  (1570, .instanceMethod ⟨"IndexedCompiler$Slots", "has", "(II)Z"⟩),
  (1571, .selects "IndexedCompiler$Slots" ⟨"IndexedCompiler$Slots", "has", "(II)Z"⟩ ⟨"IndexedCompiler$Slots", "has", "(II)Z"⟩),
  (1578, .methodLink "IndexedCompiler" 177 ⟨"IndexedCompiler$Slots", "change", "(III)V"⟩),
  (1579, .instanceMethod ⟨"IndexedCompiler$Slots", "change", "(III)V"⟩),
  (1580, .selects "IndexedCompiler$Slots" ⟨"IndexedCompiler$Slots", "change", "(III)V"⟩ ⟨"IndexedCompiler$Slots", "change", "(III)V"⟩)]
def tb_Q22 : List (Nat × Cond) := [(1589, .code ⟨"IndexedCompiler", "get", "(II)I"⟩ prog_1_method_14_code 3 (some .int)),
  (1591, .methodLink "IndexedCompiler" 183 ⟨"IndexedCompiler$Slots", "size", "(I)I"⟩),
  (1592, .instanceMethod ⟨"IndexedCompiler$Slots", "size", "(I)I"⟩),
  (1593, .selects "IndexedCompiler$Slots" ⟨"IndexedCompiler$Slots", "size", "(I)I"⟩ ⟨"IndexedCompiler$Slots", "size", "(I)I"⟩),
  (1595, .methodLink "IndexedCompiler" 186 ⟨"IndexedCompiler$Slots", "cell", "(II)I"⟩),
  (1596, .instanceMethod ⟨"IndexedCompiler$Slots", "cell", "(II)I"⟩),
  (1597, .selects "IndexedCompiler$Slots" ⟨"IndexedCompiler$Slots", "cell", "(II)I"⟩ ⟨"IndexedCompiler$Slots", "cell", "(II)I"⟩),
  (1605, .code ⟨"IndexedCompiler", "value", "(II)I"⟩ prog_1_method_15_code 3 (some .int)),
  (1607, .methodLink "IndexedCompiler" 191 ⟨"IndexedCompiler$Slots", "exchange", "(II)I"⟩),
  (1608, .instanceMethod ⟨"IndexedCompiler$Slots", "exchange", "(II)I"⟩),
  (1609, .selects "IndexedCompiler$Slots" ⟨"IndexedCompiler$Slots", "exchange", "(II)I"⟩ ⟨"IndexedCompiler$Slots", "exchange", "(II)I"⟩),
  (1617, .code ⟨"IndexedCompiler", "run", "(III)I"⟩ prog_1_method_16_code 4 (some .int)),
  (1747, .code ⟨"IndexedCompiler", "told", "(I)I"⟩ prog_1_method_17_code 2 (some .int)),
  (1749, .methodLink "IndexedCompiler" 206 ⟨"IndexedCompiler$Machine", "report", "(I)I"⟩),
  (1750, .instanceMethod ⟨"IndexedCompiler$Machine", "report", "(I)I"⟩),
  (1751, .selects "IndexedCompiler$Machine" ⟨"IndexedCompiler$Machine", "report", "(I)I"⟩ ⟨"IndexedCompiler$Machine", "report", "(I)I"⟩),
  (1429, .code ⟨"IndexedCompiler", "printed", "(IZ)I"⟩ prog_1_method_18_code 3 (some .int)),
  (1430, .methodLink "IndexedCompiler" 209 ⟨"IndexedCompiler$Machine", "answered", "(I)I"⟩),
  (1431, .instanceMethod ⟨"IndexedCompiler$Machine", "answered", "(I)I"⟩),
  (1432, .selects "IndexedCompiler$Machine" ⟨"IndexedCompiler$Machine", "answered", "(I)I"⟩ ⟨"IndexedCompiler$Machine", "answered", "(I)I"⟩),
  (1442, .methodLink "IndexedCompiler" 212 ⟨"IndexedCompiler$Machine", "print", "(I)I"⟩),
  (1443, .instanceMethod ⟨"IndexedCompiler$Machine", "print", "(I)I"⟩),
  (1444, .selects "IndexedCompiler$Machine" ⟨"IndexedCompiler$Machine", "print", "(I)I"⟩ ⟨"IndexedCompiler$Machine", "print", "(I)I"⟩),
  (1759, .code ⟨"IndexedCompiler", "fact", "(IIII)I"⟩ prog_1_method_19_code 5 (some .int)),
  (1760, .methodLink "IndexedCompiler" 215 ⟨"IndexedCompiler", "isDeskExpression", "(IIII)Z"⟩),
  (1761, .static ⟨"IndexedCompiler", "isDeskExpression", "(IIII)Z"⟩),
  (381, .fieldLink "IndexedCompiler" 221 "IndexedCompiler$Ground" "facts" "I"),
  (1769, .methodLink "IndexedCompiler" 226 ⟨"IndexedCompiler$Expression", "becomeDesk", "(IIII)V"⟩),
  (1770, .instanceMethod ⟨"IndexedCompiler$Expression", "becomeDesk", "(IIII)V"⟩),
  (1771, .selects "IndexedCompiler$Expression" ⟨"IndexedCompiler$Expression", "becomeDesk", "(IIII)V"⟩ ⟨"IndexedCompiler$Expression", "becomeDesk", "(IIII)V"⟩),
  (1773, .methodLink "IndexedCompiler" 230 ⟨"IndexedCompiler$Ground", "addFact", "(LIndexedCompiler$Expression;I)V"⟩),
  (1209, .instanceMethod ⟨"IndexedCompiler$Ground", "addFact", "(LIndexedCompiler$Expression;I)V"⟩),
  (1210, .selects "IndexedCompiler$Ground" ⟨"IndexedCompiler$Ground", "addFact", "(LIndexedCompiler$Expression;I)V"⟩ ⟨"IndexedCompiler$Ground", "addFact", "(LIndexedCompiler$Expression;I)V"⟩),
  (1780, .code ⟨"IndexedCompiler", "ask", "(IIII)Z"⟩ prog_1_method_20_code 5 (some .boolean)),
  (384, .fieldLink "IndexedCompiler" 234 "IndexedCompiler$Ground" "variables" "I"),
  (1781, .methodLink "IndexedCompiler" 237 ⟨"IndexedCompiler$Ground", "proves", "(LIndexedCompiler$Expression;)Z"⟩),
  (1782, .instanceMethod ⟨"IndexedCompiler$Ground", "proves", "(LIndexedCompiler$Expression;)Z"⟩),
  (1783, .selects "IndexedCompiler$Ground" ⟨"IndexedCompiler$Ground", "proves", "(LIndexedCompiler$Expression;)Z"⟩ ⟨"IndexedCompiler$Ground", "proves", "(LIndexedCompiler$Expression;)Z"⟩),
  (1449, .code ⟨"IndexedCompiler", "forget", "()I"⟩ prog_1_method_21_code 2 (some .int)),
  (1538, .code ⟨"IndexedCompiler", "isSlot", "(I)Z"⟩ prog_1_method_22_code 1 (some .boolean))]
def tb_Q23 : List (Nat × Cond) := [(1541, .code ⟨"IndexedCompiler", "isNumber", "(I)Z"⟩ prog_1_method_23_code 1 (some .boolean)),
  (1542, .constant "IndexedCompiler" 241 (-1000000000)),
  (1543, .constant "IndexedCompiler" 242 (1000000000)),
  (1762, .code ⟨"IndexedCompiler", "isDeskExpression", "(IIII)Z"⟩ prog_1_method_24_code 4 (some .boolean)),
  (1763, .methodLink "IndexedCompiler" 243 ⟨"IndexedCompiler", "within", "(II)Z"⟩),
  (1764, .static ⟨"IndexedCompiler", "within", "(II)Z"⟩),
  (1766, .constant "IndexedCompiler" 246 (1000000)),
  (1765, .code ⟨"IndexedCompiler", "within", "(II)Z"⟩ prog_1_method_25_code 2 (some .boolean)),
  (1460, .code ⟨"IndexedCompiler", "bytesIn", "(I)I"⟩ prog_1_method_26_code 3 (some .int)),
  (1523, .code ⟨"IndexedCompiler", "canRun", "(I)Z"⟩ prog_1_method_27_code 2 (some .boolean)),
  (443, .fieldLink "IndexedCompiler" 247 "IndexedCompiler$Checker" "accepted" "Z"),
  (628, .code ⟨"IndexedCompiler", "treeFor", "(I)LIndexedCompiler$Tree;"⟩ prog_1_method_28_code 3 (some (.object "IndexedCompiler$Tree"))),
  (629, .methodLink "IndexedCompiler" 250 ⟨"java/lang/Math", "min", "(II)I"⟩),
  (632, .methodLink "IndexedCompiler" 255 ⟨"java/lang/Math", "max", "(II)I"⟩),
  (353, .static ⟨"java/lang/Math", "max", "(II)I"⟩),
  (633, .instantiable "IndexedCompiler$Tree" 11),
  (231, .initialized "IndexedCompiler$Tree"),
  (634, .methodLink "IndexedCompiler" 258 ⟨"IndexedCompiler$Tree", "<init>", "()V"⟩),
  (635, .instanceMethod ⟨"IndexedCompiler$Tree", "<init>", "()V"⟩),
  (253, .code ⟨"IndexedCompiler$Line", "<init>", "()V"⟩ prog_6_method_1_code 1 none),
  (254, .methodLink "IndexedCompiler$Line" 3 Lib.objectInit),
  (255, .fieldLink "IndexedCompiler$Line" 11 "IndexedCompiler$Line" "signs" "[C"),
  (256, .fieldLink "IndexedCompiler$Line" 15 "IndexedCompiler$Line" "length" "I"),
  (258, .fieldLink "IndexedCompiler$Line" 19 "IndexedCompiler$Line" "kinds" "[I"),
  (259, .fieldLink "IndexedCompiler$Line" 23 "IndexedCompiler$Line" "places" "[I"),
  (260, .fieldLink "IndexedCompiler$Line" 26 "IndexedCompiler$Line" "worths" "[I"),
  (261, .fieldLink "IndexedCompiler$Line" 29 "IndexedCompiler$Line" "many" "I"),
  (262, .fieldLink "IndexedCompiler$Line" 32 "IndexedCompiler$Line" "next" "I"),
  (263, .fieldLink "IndexedCompiler$Line" 35 "IndexedCompiler$Line" "kind" "I"),
  (265, .fieldLink "IndexedCompiler$Line" 38 "IndexedCompiler$Line" "at" "I"),
  (267, .fieldLink "IndexedCompiler$Line" 41 "IndexedCompiler$Line" "worth" "I"),
  (1467, .code ⟨"IndexedCompiler$Line", "append", "(I)V"⟩ prog_6_method_2_code 4 none),
  (710, .code ⟨"IndexedCompiler$Line", "split", "()V"⟩ prog_6_method_3_code 3 none),
  (727, .methodLink "IndexedCompiler$Line" 65 ⟨"IndexedCompiler$Line", "note", "(III)V"⟩),
  (729, .instanceMethod ⟨"IndexedCompiler$Line", "note", "(III)V"⟩),
  (3, .selects "IndexedCompiler$Line" ⟨"IndexedCompiler$Line", "note", "(III)V"⟩ ⟨"IndexedCompiler$Line", "note", "(III)V"⟩),
  (825, .methodLink "IndexedCompiler$Line" 69 ⟨"IndexedCompiler$Line", "advance", "()V"⟩),
  (826, .instanceMethod ⟨"IndexedCompiler$Line", "advance", "()V"⟩),
  (827, .selects "IndexedCompiler$Line" ⟨"IndexedCompiler$Line", "advance", "()V"⟩ ⟨"IndexedCompiler$Line", "advance", "()V"⟩),
  (828, .code ⟨"IndexedCompiler$Line", "advance", "()V"⟩ prog_6_method_4_code 2 none)]
def tb_Q24 : List (Nat × Cond) := [(836, .code ⟨"IndexedCompiler$Line", "isWord", "(I)Z"⟩ prog_6_method_6_code 2 (some .boolean)),
  (730, .code ⟨"IndexedCompiler$Line", "note", "(III)V"⟩ prog_6_method_8_code 4 none),
  (296, .code ⟨"IndexedCompiler$Reader", "<init>", "()V"⟩ prog_8_method_1_code 1 none),
  (297, .methodLink "IndexedCompiler$Reader" 3 Lib.objectInit),
  (298, .fieldLink "IndexedCompiler$Reader" 9 "IndexedCompiler$Reader" "line" "LIndexedCompiler$Line;"),
  (299, .fieldLink "IndexedCompiler$Reader" 15 "IndexedCompiler$Reader" "tree" "LIndexedCompiler$Tree;"),
  (300, .fieldLink "IndexedCompiler$Reader" 19 "IndexedCompiler$Reader" "wrongAt" "I"),
  (701, .codeWith ⟨"IndexedCompiler$Reader", "read", "(LIndexedCompiler$Line;LIndexedCompiler$Tree;)Z"⟩ prog_8_method_2_code 4 (some .boolean) [(39, 164, 167, 82)]),
  (703, .methodLink "IndexedCompiler$Reader" 23 ⟨"IndexedCompiler$Tree", "empty", "()V"⟩),
  (704, .instanceMethod ⟨"IndexedCompiler$Tree", "empty", "()V"⟩),
  (705, .selects "IndexedCompiler$Tree" ⟨"IndexedCompiler$Tree", "empty", "()V"⟩ ⟨"IndexedCompiler$Tree", "empty", "()V"⟩),
  (707, .methodLink "IndexedCompiler$Reader" 28 ⟨"IndexedCompiler$Line", "split", "()V"⟩),
  (708, .instanceMethod ⟨"IndexedCompiler$Line", "split", "()V"⟩),
  (709, .selects "IndexedCompiler$Line" ⟨"IndexedCompiler$Line", "split", "()V"⟩ ⟨"IndexedCompiler$Line", "split", "()V"⟩),
  (829, .methodLink "IndexedCompiler$Reader" 33 ⟨"IndexedCompiler$Reader", "takeWord", "(I)V"⟩),
  (831, .instanceMethod ⟨"IndexedCompiler$Reader", "takeWord", "(I)V"⟩),
  (6, .selects "IndexedCompiler$Reader" ⟨"IndexedCompiler$Reader", "takeWord", "(I)V"⟩ ⟨"IndexedCompiler$Reader", "takeWord", "(I)V"⟩),
  (266, .fieldLink "IndexedCompiler$Reader" 37 "IndexedCompiler$Line" "at" "I"),
  (645, .fieldLink "IndexedCompiler$Reader" 40 "IndexedCompiler$Tree" "namedAt" "I"),
  (641, .fieldLink "IndexedCompiler$Reader" 47 "IndexedCompiler$Tree" "named" "I"),
  (669, .fieldLink "IndexedCompiler$Reader" 66 "IndexedCompiler$Tree" "result" "I"),
  (674, .fieldLink "IndexedCompiler$Reader" 73 "IndexedCompiler$Tree" "steps" "I"),
  (264, .fieldLink "IndexedCompiler$Reader" 76 "IndexedCompiler$Line" "kind" "I"),
  (837, .methodLink "IndexedCompiler$Reader" 79 ⟨"IndexedCompiler$Reader", "refuse", "()V"⟩),
  (839, .instanceMethod ⟨"IndexedCompiler$Reader", "refuse", "()V"⟩),
  (7, .selects "IndexedCompiler$Reader" ⟨"IndexedCompiler$Reader", "refuse", "()V"⟩ ⟨"IndexedCompiler$Reader", "refuse", "()V"⟩),
  (832, .code ⟨"IndexedCompiler$Reader", "takeWord", "(I)V"⟩ prog_8_method_26_code 2 none),
  (833, .methodLink "IndexedCompiler$Reader" 119 ⟨"IndexedCompiler$Line", "isWord", "(I)Z"⟩),
  (834, .instanceMethod ⟨"IndexedCompiler$Line", "isWord", "(I)Z"⟩),
  (835, .selects "IndexedCompiler$Line" ⟨"IndexedCompiler$Line", "isWord", "(I)Z"⟩ ⟨"IndexedCompiler$Line", "isWord", "(I)Z"⟩),
  (907, .methodLink "IndexedCompiler$Reader" 93 ⟨"IndexedCompiler$Line", "advance", "()V"⟩),
  (840, .code ⟨"IndexedCompiler$Reader", "refuse", "()V"⟩ prog_8_method_30_code 1 none),
  (702, .classLink "IndexedCompiler$Reader" 82 "java/lang/IllegalStateException"),
  (327, .code ⟨"IndexedCompiler$Solver", "<init>", "()V"⟩ prog_11_method_1_code 1 none),
  (328, .methodLink "IndexedCompiler$Solver" 5 Lib.objectInit),
  (329, .fieldLink "IndexedCompiler$Solver" 13 "IndexedCompiler$Solver" "rows" "[J"),
  (330, .fieldLink "IndexedCompiler$Solver" 17 "IndexedCompiler$Solver" "others" "[J"),
  (331, .fieldLink "IndexedCompiler$Solver" 20 "IndexedCompiler$Solver" "work" "[J"),
  (332, .fieldLink "IndexedCompiler$Solver" 23 "IndexedCompiler$Solver" "kept" "I"),
  (333, .fieldLink "IndexedCompiler$Solver" 27 "IndexedCompiler$Solver" "width" "I")]
def tb_Q25 : List (Nat × Cond) := [(334, .fieldLink "IndexedCompiler$Solver" 30 "IndexedCompiler$Solver" "tooMuch" "Z"),
  (335, .fieldLink "IndexedCompiler$Solver" 34 "IndexedCompiler$Solver" "isFalse" "Z"),
  (1270, .code ⟨"IndexedCompiler$Solver", "proves", "([JIILIndexedCompiler$Expression;)Z"⟩ prog_11_method_2_code 7 (some .boolean)),
  (1271, .methodLink "IndexedCompiler$Solver" 37 ⟨"java/lang/Math", "min", "(II)I"⟩),
  (1272, .methodLink "IndexedCompiler$Solver" 43 ⟨"java/lang/Math", "max", "(II)I"⟩),
  (1273, .methodLink "IndexedCompiler$Solver" 46 ⟨"java/lang/System", "arraycopy", "(Ljava/lang/Object;ILjava/lang/Object;II)V"⟩),
  (239, .initialized "java/lang/System"),
  (1187, .static ⟨"java/lang/System", "arraycopy", "(Ljava/lang/Object;ILjava/lang/Object;II)V"⟩),
  (1188, .native ⟨"java/lang/System", "arraycopy", "(Ljava/lang/Object;ILjava/lang/Object;II)V"⟩),
  (1274, .methodLink "IndexedCompiler$Solver" 52 ⟨"IndexedCompiler$Solver", "keepWork", "()V"⟩),
  (220, .initialized "IndexedCompiler$Solver"),
  (1276, .instanceMethod ⟨"IndexedCompiler$Solver", "keepWork", "()V"⟩),
  (55, .selects "IndexedCompiler$Solver" ⟨"IndexedCompiler$Solver", "keepWork", "()V"⟩ ⟨"IndexedCompiler$Solver", "keepWork", "()V"⟩),
  (363, .fieldLink "IndexedCompiler$Solver" 55 "IndexedCompiler$Expression" "numbers" "[J"),
  (1289, .methodLink "IndexedCompiler$Solver" 58 ⟨"IndexedCompiler$Solver", "takeAway", "(I)V"⟩),
  (1291, .instanceMethod ⟨"IndexedCompiler$Solver", "takeAway", "(I)V"⟩),
  (56, .selects "IndexedCompiler$Solver" ⟨"IndexedCompiler$Solver", "takeAway", "(I)V"⟩ ⟨"IndexedCompiler$Solver", "takeAway", "(I)V"⟩),
  (1292, .code ⟨"IndexedCompiler$Solver", "takeAway", "(I)V"⟩ prog_11_method_3_code 13 none),
  (1277, .code ⟨"IndexedCompiler$Solver", "keepWork", "()V"⟩ prog_11_method_4_code 9 none),
  (1278, .methodLink "IndexedCompiler$Solver" 62 ⟨"java/lang/Math", "abs", "(J)J"⟩),
  (1279, .static ⟨"java/lang/Math", "abs", "(J)J"⟩),
  (1281, .methodLink "IndexedCompiler$Solver" 66 ⟨"java/lang/Math", "floorDiv", "(JJ)J"⟩),
  (1284, .constantLong "IndexedCompiler$Solver" 70 (1000000000)),
  (1285, .constantLong "IndexedCompiler$Solver" 72 (-1000000000)),
  (1286, .methodLink "IndexedCompiler$Solver" 74 ⟨"java/lang/Math", "min", "(JJ)J"⟩),
  (360, .code ⟨"IndexedCompiler$Expression", "<init>", "()V"⟩ prog_4_method_1_code 1 none),
  (361, .methodLink "IndexedCompiler$Expression" 3 Lib.objectInit),
  (362, .fieldLink "IndexedCompiler$Expression" 9 "IndexedCompiler$Expression" "numbers" "[J"),
  (366, .fieldLink "IndexedCompiler$Expression" 13 "IndexedCompiler$Expression" "row" "Z"),
  (1142, .code ⟨"IndexedCompiler$Expression", "becomeNumber", "(J)V"⟩ prog_4_method_2_code 3 none),
  (1143, .methodLink "IndexedCompiler$Expression" 17 ⟨"java/util/Arrays", "fill", "([JJ)V"⟩),
  (238, .initialized "java/util/Arrays"),
  (1144, .static ⟨"java/util/Arrays", "fill", "([JJ)V"⟩),
  (1772, .code ⟨"IndexedCompiler$Expression", "becomeDesk", "(IIII)V"⟩ prog_4_method_5_code 5 none),
  (1139, .methodLink "IndexedCompiler$Expression" 23 ⟨"IndexedCompiler$Expression", "becomeNumber", "(J)V"⟩),
  (1140, .instanceMethod ⟨"IndexedCompiler$Expression", "becomeNumber", "(J)V"⟩),
  (1141, .selects "IndexedCompiler$Expression" ⟨"IndexedCompiler$Expression", "becomeNumber", "(J)V"⟩ ⟨"IndexedCompiler$Expression", "becomeNumber", "(J)V"⟩),
  (321, .code ⟨"IndexedCompiler$Ground", "<init>", "(II)V"⟩ prog_5_method_1_code 4 none),
  (322, .methodLink "IndexedCompiler$Ground" 3 Lib.objectInit),
  (323, .classLink "IndexedCompiler$Ground" 9 "IndexedCompiler$Solver")]
def tb_Q26 : List (Nat × Cond) := [(324, .instantiable "IndexedCompiler$Solver" 7),
  (325, .methodLink "IndexedCompiler$Ground" 11 ⟨"IndexedCompiler$Solver", "<init>", "()V"⟩),
  (326, .instanceMethod ⟨"IndexedCompiler$Solver", "<init>", "()V"⟩),
  (373, .fieldLink "IndexedCompiler$Ground" 12 "IndexedCompiler$Ground" "solver" "LIndexedCompiler$Solver;"),
  (352, .methodLink "IndexedCompiler$Ground" 18 ⟨"java/lang/Math", "max", "(II)I"⟩),
  (375, .fieldLink "IndexedCompiler$Ground" 24 "IndexedCompiler$Ground" "mostFacts" "I"),
  (374, .fieldLink "IndexedCompiler$Ground" 28 "IndexedCompiler$Ground" "factRows" "[J"),
  (377, .fieldLink "IndexedCompiler$Ground" 32 "IndexedCompiler$Ground" "mostGoals" "I"),
  (376, .fieldLink "IndexedCompiler$Ground" 35 "IndexedCompiler$Ground" "goalRows" "[I"),
  (355, .classLink "IndexedCompiler$Ground" 39 "IndexedCompiler$Expression"),
  (356, .arrayOver (.object "IndexedCompiler$Expression")),
  (378, .fieldLink "IndexedCompiler$Ground" 41 "IndexedCompiler$Ground" "pending" "[LIndexedCompiler$Expression;"),
  (358, .methodLink "IndexedCompiler$Ground" 45 ⟨"IndexedCompiler$Expression", "<init>", "()V"⟩),
  (379, .fieldLink "IndexedCompiler$Ground" 46 "IndexedCompiler$Ground" "pendings" "I"),
  (380, .fieldLink "IndexedCompiler$Ground" 49 "IndexedCompiler$Ground" "facts" "I"),
  (383, .fieldLink "IndexedCompiler$Ground" 52 "IndexedCompiler$Ground" "variables" "I"),
  (386, .fieldLink "IndexedCompiler$Ground" 55 "IndexedCompiler$Ground" "goals" "I"),
  (388, .fieldLink "IndexedCompiler$Ground" 58 "IndexedCompiler$Ground" "proved" "I"),
  (390, .fieldLink "IndexedCompiler$Ground" 61 "IndexedCompiler$Ground" "allNeededProved" "Z"),
  (392, .fieldLink "IndexedCompiler$Ground" 65 "IndexedCompiler$Ground" "fault" "I"),
  (394, .fieldLink "IndexedCompiler$Ground" 68 "IndexedCompiler$Ground" "faultPlace" "I"),
  (1070, .code ⟨"IndexedCompiler$Ground", "begin", "()V"⟩ prog_5_method_2_code 1 none),
  (1211, .code ⟨"IndexedCompiler$Ground", "addFact", "(LIndexedCompiler$Expression;I)V"⟩ prog_5_method_6_code 3 none),
  (364, .fieldLink "IndexedCompiler$Ground" 82 "IndexedCompiler$Expression" "numbers" "[J"),
  (1212, .methodLink "IndexedCompiler$Ground" 85 ⟨"java/lang/System", "arraycopy", "(Ljava/lang/Object;ILjava/lang/Object;II)V"⟩),
  (1784, .code ⟨"IndexedCompiler$Ground", "proves", "(LIndexedCompiler$Expression;)Z"⟩ prog_5_method_11_code 2 (some .boolean)),
  (1267, .methodLink "IndexedCompiler$Ground" 105 ⟨"IndexedCompiler$Solver", "proves", "([JIILIndexedCompiler$Expression;)Z"⟩),
  (1268, .instanceMethod ⟨"IndexedCompiler$Solver", "proves", "([JIILIndexedCompiler$Expression;)Z"⟩),
  (1269, .selects "IndexedCompiler$Solver" ⟨"IndexedCompiler$Solver", "proves", "([JIILIndexedCompiler$Expression;)Z"⟩ ⟨"IndexedCompiler$Solver", "proves", "([JIILIndexedCompiler$Expression;)Z"⟩),
  (315, .code ⟨"IndexedCompiler$Checker", "<init>", "()V"⟩ prog_2_method_1_code 1 none),
  (316, .methodLink "IndexedCompiler$Checker" 3 Lib.objectInit),
  (317, .classLink "IndexedCompiler$Checker" 9 "IndexedCompiler$Ground"),
  (319, .methodLink "IndexedCompiler$Checker" 13 ⟨"IndexedCompiler$Ground", "<init>", "(II)V"⟩),
  (428, .fieldLink "IndexedCompiler$Checker" 16 "IndexedCompiler$Checker" "ground" "LIndexedCompiler$Ground;"),
  (429, .fieldLink "IndexedCompiler$Checker" 20 "IndexedCompiler$Checker" "trees" "[LIndexedCompiler$Tree;"),
  (430, .fieldLink "IndexedCompiler$Checker" 24 "IndexedCompiler$Checker" "tree" "LIndexedCompiler$Tree;"),
  (425, .classLink "IndexedCompiler$Checker" 28 "IndexedCompiler$Expression"),
  (433, .fieldLink "IndexedCompiler$Checker" 30 "IndexedCompiler$Checker" "pool" "[LIndexedCompiler$Expression;"),
  (426, .classLink "IndexedCompiler$Checker" 34 "IndexedCompiler$Shape"),
  (427, .arrayOver (.object "IndexedCompiler$Shape"))]
def tb_Q27 : List (Nat × Cond) := [(435, .fieldLink "IndexedCompiler$Checker" 36 "IndexedCompiler$Checker" "shapes" "[LIndexedCompiler$Shape;"),
  (437, .fieldLink "IndexedCompiler$Checker" 40 "IndexedCompiler$Checker" "words" "[I"),
  (438, .fieldLink "IndexedCompiler$Checker" 44 "IndexedCompiler$Checker" "meanings" "[LIndexedCompiler$Expression;"),
  (432, .fieldLink "IndexedCompiler$Checker" 47 "IndexedCompiler$Checker" "function" "I"),
  (442, .fieldLink "IndexedCompiler$Checker" 51 "IndexedCompiler$Checker" "accepted" "Z"),
  (1063, .codeWith ⟨"IndexedCompiler$Checker", "judge", "([LIndexedCompiler$Tree;I)I"⟩ prog_2_method_2_code 4 (some .int) [(47, 143, 146, 96)]),
  (1065, .methodLink "IndexedCompiler$Checker" 55 ⟨"java/lang/Math", "max", "(II)I"⟩),
  (1066, .methodLink "IndexedCompiler$Checker" 61 ⟨"java/lang/Math", "min", "(II)I"⟩),
  (431, .fieldLink "IndexedCompiler$Checker" 64 "IndexedCompiler$Checker" "functions" "I"),
  (440, .fieldLink "IndexedCompiler$Checker" 67 "IndexedCompiler$Checker" "accesses" "I"),
  (441, .fieldLink "IndexedCompiler$Checker" 70 "IndexedCompiler$Checker" "free" "I"),
  (1067, .methodLink "IndexedCompiler$Checker" 73 ⟨"IndexedCompiler$Ground", "begin", "()V"⟩),
  (1068, .instanceMethod ⟨"IndexedCompiler$Ground", "begin", "()V"⟩),
  (1069, .selects "IndexedCompiler$Ground" ⟨"IndexedCompiler$Ground", "begin", "()V"⟩ ⟨"IndexedCompiler$Ground", "begin", "()V"⟩),
  (673, .fieldLink "IndexedCompiler$Checker" 87 "IndexedCompiler$Tree" "steps" "I"),
  (387, .fieldLink "IndexedCompiler$Checker" 98 "IndexedCompiler$Ground" "goals" "I"),
  (389, .fieldLink "IndexedCompiler$Checker" 101 "IndexedCompiler$Ground" "proved" "I"),
  (393, .fieldLink "IndexedCompiler$Checker" 104 "IndexedCompiler$Ground" "fault" "I"),
  (391, .fieldLink "IndexedCompiler$Checker" 107 "IndexedCompiler$Ground" "allNeededProved" "Z"),
  (1391, .code ⟨"IndexedCompiler$Checker", "faultPlace", "()I"⟩ prog_2_method_3_code 1 (some .int)),
  (395, .fieldLink "IndexedCompiler$Checker" 110 "IndexedCompiler$Ground" "faultPlace" "I"),
  (1495, .code ⟨"IndexedCompiler$Checker", "tally", "(I)I"⟩ prog_2_method_5_code 2 (some .int)),
  (479, .code ⟨"IndexedCompiler$Coder", "<init>", "()V"⟩ prog_3_method_1_code 1 none),
  (480, .methodLink "IndexedCompiler$Coder" 5 Lib.objectInit),
  (481, .classLink "IndexedCompiler$Coder" 11 "[I"),
  (482, .arrayOver (.array .int)),
  (483, .fieldLink "IndexedCompiler$Coder" 13 "IndexedCompiler$Coder" "codes" "[[I"),
  (484, .fieldLink "IndexedCompiler$Coder" 19 "IndexedCompiler$Coder" "lengths" "[I"),
  (485, .fieldLink "IndexedCompiler$Coder" 22 "IndexedCompiler$Coder" "parameters" "[I"),
  (487, .fieldLink "IndexedCompiler$Coder" 25 "IndexedCompiler$Coder" "answersRow" "[Z"),
  (489, .fieldLink "IndexedCompiler$Coder" 29 "IndexedCompiler$Coder" "tree" "LIndexedCompiler$Tree;"),
  (490, .fieldLink "IndexedCompiler$Coder" 33 "IndexedCompiler$Coder" "code" "[I"),
  (491, .fieldLink "IndexedCompiler$Coder" 36 "IndexedCompiler$Coder" "length" "I"),
  (1395, .code ⟨"IndexedCompiler$Coder", "compile", "([LIndexedCompiler$Tree;I)V"⟩ prog_3_method_2_code 4 none),
  (672, .fieldLink "IndexedCompiler$Coder" 40 "IndexedCompiler$Tree" "steps" "I"),
  (664, .fieldLink "IndexedCompiler$Coder" 53 "IndexedCompiler$Tree" "parameterCount" "I"),
  (668, .fieldLink "IndexedCompiler$Coder" 56 "IndexedCompiler$Tree" "result" "I"),
  (512, .code ⟨"IndexedCompiler$Slots", "<init>", "()V"⟩ prog_10_method_1_code 1 none),
  (513, .methodLink "IndexedCompiler$Slots" 3 Lib.objectInit),
  (514, .fieldLink "IndexedCompiler$Slots" 9 "IndexedCompiler$Slots" "isRow" "[Z")]
def tb_Q28 : List (Nat × Cond) := [(515, .fieldLink "IndexedCompiler$Slots" 15 "IndexedCompiler$Slots" "sizes" "[I"),
  (516, .fieldLink "IndexedCompiler$Slots" 19 "IndexedCompiler$Slots" "cells" "[I"),
  (517, .fieldLink "IndexedCompiler$Slots" 22 "IndexedCompiler$Slots" "values" "[I"),
  (1548, .code ⟨"IndexedCompiler$Slots", "becomeNumber", "(II)V"⟩ prog_10_method_2_code 3 none),
  (1549, .methodLinkNest "IndexedCompiler$Slots" 25 ⟨"IndexedCompiler", "isSlot", "(I)Z"⟩ "IndexedCompiler"),
  (1561, .code ⟨"IndexedCompiler$Slots", "becomeRow", "(II)V"⟩ prog_10_method_3_code 4 none),
  (1576, .code ⟨"IndexedCompiler$Slots", "isRowAt", "(I)Z"⟩ prog_10_method_4_code 2 (some .boolean)),
  (1572, .code ⟨"IndexedCompiler$Slots", "has", "(II)Z"⟩ prog_10_method_5_code 3 (some .boolean)),
  (1573, .methodLink "IndexedCompiler$Slots" 29 ⟨"IndexedCompiler$Slots", "isRowAt", "(I)Z"⟩),
  (1574, .instanceMethod ⟨"IndexedCompiler$Slots", "isRowAt", "(I)Z"⟩),
  (1575, .selects "IndexedCompiler$Slots" ⟨"IndexedCompiler$Slots", "isRowAt", "(I)Z"⟩ ⟨"IndexedCompiler$Slots", "isRowAt", "(I)Z"⟩),
  (1594, .code ⟨"IndexedCompiler$Slots", "size", "(I)I"⟩ prog_10_method_6_code 2 (some .int)),
  (1598, .code ⟨"IndexedCompiler$Slots", "cell", "(II)I"⟩ prog_10_method_7_code 3 (some .int)),
  (1582, .methodLink "IndexedCompiler$Slots" 32 ⟨"IndexedCompiler$Slots", "has", "(II)Z"⟩),
  (1581, .code ⟨"IndexedCompiler$Slots", "change", "(III)V"⟩ prog_10_method_8_code 4 none),
  (1610, .code ⟨"IndexedCompiler$Slots", "exchange", "(II)I"⟩ prog_10_method_9_code 4 (some .int)),
  (531, .code ⟨"IndexedCompiler$Machine", "<init>", "()V"⟩ prog_7_method_1_code 1 none),
  (532, .methodLink "IndexedCompiler$Machine" 5 Lib.objectInit),
  (533, .fieldLink "IndexedCompiler$Machine" 13 "IndexedCompiler$Machine" "cells" "[I"),
  (534, .fieldLink "IndexedCompiler$Machine" 17 "IndexedCompiler$Machine" "stack" "[I"),
  (535, .fieldLink "IndexedCompiler$Machine" 20 "IndexedCompiler$Machine" "locals" "[I"),
  (536, .fieldLink "IndexedCompiler$Machine" 23 "IndexedCompiler$Machine" "backTo" "[I"),
  (537, .fieldLink "IndexedCompiler$Machine" 26 "IndexedCompiler$Machine" "backIn" "[I"),
  (538, .fieldLink "IndexedCompiler$Machine" 29 "IndexedCompiler$Machine" "prints" "[I"),
  (539, .fieldLink "IndexedCompiler$Machine" 32 "IndexedCompiler$Machine" "reports" "[I"),
  (545, .fieldLink "IndexedCompiler$Machine" 35 "IndexedCompiler$Machine" "answerRow" "I"),
  (546, .fieldLink "IndexedCompiler$Machine" 39 "IndexedCompiler$Machine" "coder" "LIndexedCompiler$Coder;"),
  (1752, .code ⟨"IndexedCompiler$Machine", "report", "(I)I"⟩ prog_7_method_2_code 2 (some .int)),
  (1445, .code ⟨"IndexedCompiler$Machine", "print", "(I)I"⟩ prog_7_method_3_code 2 (some .int)),
  (1433, .code ⟨"IndexedCompiler$Machine", "answered", "(I)I"⟩ prog_7_method_4_code 2 (some .int)),
  (636, .code ⟨"IndexedCompiler$Tree", "<init>", "()V"⟩ prog_12_method_1_code 1 none),
  (637, .methodLink "IndexedCompiler$Tree" 3 Lib.objectInit),
  (638, .fieldLink "IndexedCompiler$Tree" 11 "IndexedCompiler$Tree" "nodes" "[I"),
  (639, .fieldLink "IndexedCompiler$Tree" 15 "IndexedCompiler$Tree" "size" "I"),
  (706, .code ⟨"IndexedCompiler$Tree", "empty", "()V"⟩ prog_12_method_2_code 1 none),
  (640, .fieldLink "IndexedCompiler$Tree" 19 "IndexedCompiler$Tree" "named" "I"),
  (644, .fieldLink "IndexedCompiler$Tree" 22 "IndexedCompiler$Tree" "namedAt" "I"),
  (648, .fieldLink "IndexedCompiler$Tree" 25 "IndexedCompiler$Tree" "indexNames" "I"),
  (652, .fieldLink "IndexedCompiler$Tree" 28 "IndexedCompiler$Tree" "indexCount" "I"),
  (655, .fieldLink "IndexedCompiler$Tree" 31 "IndexedCompiler$Tree" "props" "I")]
def tb_Q29 : List (Nat × Cond) := [(659, .fieldLink "IndexedCompiler$Tree" 34 "IndexedCompiler$Tree" "parameters" "I"),
  (663, .fieldLink "IndexedCompiler$Tree" 37 "IndexedCompiler$Tree" "parameterCount" "I"),
  (667, .fieldLink "IndexedCompiler$Tree" 40 "IndexedCompiler$Tree" "result" "I"),
  (671, .fieldLink "IndexedCompiler$Tree" 43 "IndexedCompiler$Tree" "steps" "I"),
  (354, .code ⟨"java/lang/Math", "max", "(II)I"⟩ prog_19_method_65_code 2 (some .int)),
  (631, .code ⟨"java/lang/Math", "min", "(II)I"⟩ prog_19_method_69_code 2 (some .int)),
  (1280, .code ⟨"java/lang/Math", "abs", "(J)J"⟩ prog_19_method_61_code 2 (some .long)),
  (1283, .code ⟨"java/lang/Math", "floorDiv", "(JJ)J"⟩ prog_19_method_49_code 6 (some .long)),
  (1288, .code ⟨"java/lang/Math", "min", "(JJ)J"⟩ prog_19_method_70_code 4 (some .long)),
  (1145, .code ⟨"java/util/Arrays", "fill", "([JJ)V"⟩ prog_26_method_101_code 5 none),
  (1453, .classLink "IndexedCompilerLaw" 13 "java/lang/IllegalStateException"),
  (1471, .classLink "IndexedCompilerLaw" 19 "java/lang/IllegalArgumentException"),
  (1064, .classLink "IndexedCompiler$Checker" 96 "java/lang/IllegalStateException")]
def tb_Q : List (Nat × Cond) := tb_Q0 ++ (tb_Q1 ++ (tb_Q2 ++ (tb_Q3 ++ (tb_Q4 ++ (tb_Q5 ++ (tb_Q6 ++ (tb_Q7 ++ (tb_Q8 ++ (tb_Q9 ++ (tb_Q10 ++ (tb_Q11 ++ (tb_Q12 ++ (tb_Q13 ++ (tb_Q14 ++ (tb_Q15 ++ (tb_Q16 ++ (tb_Q17 ++ (tb_Q18 ++ (tb_Q19 ++ (tb_Q20 ++ (tb_Q21 ++ (tb_Q22 ++ (tb_Q23 ++ (tb_Q24 ++ (tb_Q25 ++ (tb_Q26 ++ (tb_Q27 ++ (tb_Q28 ++ (tb_Q29)))))))))))))))))))))))))))))
def tb_TB : List Cond := tb_Q.map (fun q => q.2)
theorem tb_q0 : ∀ q ∈ tb_Q0, mm_gw q.2 = true ∧ lw_tbl[q.1]? = some q.2 := by decide +kernel
theorem tb_q1 : ∀ q ∈ tb_Q1, mm_gw q.2 = true ∧ lw_tbl[q.1]? = some q.2 := by decide +kernel
theorem tb_q2 : ∀ q ∈ tb_Q2, mm_gw q.2 = true ∧ lw_tbl[q.1]? = some q.2 := by decide +kernel
theorem tb_q3 : ∀ q ∈ tb_Q3, mm_gw q.2 = true ∧ lw_tbl[q.1]? = some q.2 := by decide +kernel
theorem tb_q4 : ∀ q ∈ tb_Q4, mm_gw q.2 = true ∧ lw_tbl[q.1]? = some q.2 := by decide +kernel
theorem tb_q5 : ∀ q ∈ tb_Q5, mm_gw q.2 = true ∧ lw_tbl[q.1]? = some q.2 := by decide +kernel
theorem tb_q6 : ∀ q ∈ tb_Q6, mm_gw q.2 = true ∧ lw_tbl[q.1]? = some q.2 := by decide +kernel
theorem tb_q7 : ∀ q ∈ tb_Q7, mm_gw q.2 = true ∧ lw_tbl[q.1]? = some q.2 := by decide +kernel
theorem tb_q8 : ∀ q ∈ tb_Q8, mm_gw q.2 = true ∧ lw_tbl[q.1]? = some q.2 := by decide +kernel
theorem tb_q9 : ∀ q ∈ tb_Q9, mm_gw q.2 = true ∧ lw_tbl[q.1]? = some q.2 := by decide +kernel
theorem tb_q10 : ∀ q ∈ tb_Q10, mm_gw q.2 = true ∧ lw_tbl[q.1]? = some q.2 := by decide +kernel
theorem tb_q11 : ∀ q ∈ tb_Q11, mm_gw q.2 = true ∧ lw_tbl[q.1]? = some q.2 := by decide +kernel
theorem tb_q12 : ∀ q ∈ tb_Q12, mm_gw q.2 = true ∧ lw_tbl[q.1]? = some q.2 := by decide +kernel
theorem tb_q13 : ∀ q ∈ tb_Q13, mm_gw q.2 = true ∧ lw_tbl[q.1]? = some q.2 := by decide +kernel
theorem tb_q14 : ∀ q ∈ tb_Q14, mm_gw q.2 = true ∧ lw_tbl[q.1]? = some q.2 := by decide +kernel
theorem tb_q15 : ∀ q ∈ tb_Q15, mm_gw q.2 = true ∧ lw_tbl[q.1]? = some q.2 := by decide +kernel
theorem tb_q16 : ∀ q ∈ tb_Q16, mm_gw q.2 = true ∧ lw_tbl[q.1]? = some q.2 := by decide +kernel
theorem tb_q17 : ∀ q ∈ tb_Q17, mm_gw q.2 = true ∧ lw_tbl[q.1]? = some q.2 := by decide +kernel
theorem tb_q18 : ∀ q ∈ tb_Q18, mm_gw q.2 = true ∧ lw_tbl[q.1]? = some q.2 := by decide +kernel
theorem tb_q19 : ∀ q ∈ tb_Q19, mm_gw q.2 = true ∧ lw_tbl[q.1]? = some q.2 := by decide +kernel
theorem tb_q20 : ∀ q ∈ tb_Q20, mm_gw q.2 = true ∧ lw_tbl[q.1]? = some q.2 := by decide +kernel
theorem tb_q21 : ∀ q ∈ tb_Q21, mm_gw q.2 = true ∧ lw_tbl[q.1]? = some q.2 := by decide +kernel
theorem tb_q22 : ∀ q ∈ tb_Q22, mm_gw q.2 = true ∧ lw_tbl[q.1]? = some q.2 := by decide +kernel
theorem tb_q23 : ∀ q ∈ tb_Q23, mm_gw q.2 = true ∧ lw_tbl[q.1]? = some q.2 := by decide +kernel
theorem tb_q24 : ∀ q ∈ tb_Q24, mm_gw q.2 = true ∧ lw_tbl[q.1]? = some q.2 := by decide +kernel
theorem tb_q25 : ∀ q ∈ tb_Q25, mm_gw q.2 = true ∧ lw_tbl[q.1]? = some q.2 := by decide +kernel
theorem tb_q26 : ∀ q ∈ tb_Q26, mm_gw q.2 = true ∧ lw_tbl[q.1]? = some q.2 := by decide +kernel
theorem tb_q27 : ∀ q ∈ tb_Q27, mm_gw q.2 = true ∧ lw_tbl[q.1]? = some q.2 := by decide +kernel
theorem tb_q28 : ∀ q ∈ tb_Q28, mm_gw q.2 = true ∧ lw_tbl[q.1]? = some q.2 := by decide +kernel
theorem tb_q29 : ∀ q ∈ tb_Q29, mm_gw q.2 = true ∧ lw_tbl[q.1]? = some q.2 := by decide +kernel
theorem tb_qall : ∀ q ∈ tb_Q, mm_gw q.2 = true ∧ lw_tbl[q.1]? = some q.2 := List.forall_mem_append.mpr ⟨tb_q0, List.forall_mem_append.mpr ⟨tb_q1, List.forall_mem_append.mpr ⟨tb_q2, List.forall_mem_append.mpr ⟨tb_q3, List.forall_mem_append.mpr ⟨tb_q4, List.forall_mem_append.mpr ⟨tb_q5, List.forall_mem_append.mpr ⟨tb_q6, List.forall_mem_append.mpr ⟨tb_q7, List.forall_mem_append.mpr ⟨tb_q8, List.forall_mem_append.mpr ⟨tb_q9, List.forall_mem_append.mpr ⟨tb_q10, List.forall_mem_append.mpr ⟨tb_q11, List.forall_mem_append.mpr ⟨tb_q12, List.forall_mem_append.mpr ⟨tb_q13, List.forall_mem_append.mpr ⟨tb_q14, List.forall_mem_append.mpr ⟨tb_q15, List.forall_mem_append.mpr ⟨tb_q16, List.forall_mem_append.mpr ⟨tb_q17, List.forall_mem_append.mpr ⟨tb_q18, List.forall_mem_append.mpr ⟨tb_q19, List.forall_mem_append.mpr ⟨tb_q20, List.forall_mem_append.mpr ⟨tb_q21, List.forall_mem_append.mpr ⟨tb_q22, List.forall_mem_append.mpr ⟨tb_q23, List.forall_mem_append.mpr ⟨tb_q24, List.forall_mem_append.mpr ⟨tb_q25, List.forall_mem_append.mpr ⟨tb_q26, List.forall_mem_append.mpr ⟨tb_q27, List.forall_mem_append.mpr ⟨tb_q28, tb_q29⟩⟩⟩⟩⟩⟩⟩⟩⟩⟩⟩⟩⟩⟩⟩⟩⟩⟩⟩⟩⟩⟩⟩⟩⟩⟩⟩⟩⟩
theorem tb_TB_ok : ∀ w ∈ tb_TB, mm_gw w = true ∧ w ∈ lw_tbl := by
  intro w hw
  obtain ⟨q, hq, rfl⟩ := List.mem_map.mp hw
  exact ⟨(tb_qall q hq).1, List.mem_of_getElem? (tb_qall q hq).2⟩
end
