section
-- ===== PART A: goes FIRST, ahead of the names: the tables' words, and 'selects' of the private methods out of them =====
/-- a private method of a class that the tables say can be made, by its rows of tables_1 -/
def lw_okq (q : MethodName × Nat) : Prop := (q.1.cls ≠ "java/lang/invoke/MethodHandle" ∧ q.1.cls ≠ "java/lang/invoke/VarHandle") ∧ Cond.instantiable q.1.cls q.2 ∈ tables_1 ∧ Cond.privateMethod q.1 ∈ tables_1 ∧ Cond.instanceMethod q.1 ∈ tables_1
theorem lw_p0 : lw_okq (⟨"CaseTables$Tokens", "scanOne", "()V"⟩, 11) := ⟨⟨by decide +kernel, by decide +kernel⟩, List.mem_of_getElem? (i := 48) (by decide +kernel), List.mem_of_getElem? (i := 403) (by decide +kernel), List.mem_of_getElem? (i := 404) (by decide +kernel)⟩
theorem lw_p1 : lw_okq (⟨"CaseTables$Tokens", "skipBlanks", "()V"⟩, 11) := ⟨⟨by decide +kernel, by decide +kernel⟩, List.mem_of_getElem? (i := 48) (by decide +kernel), List.mem_of_getElem? (i := 407) (by decide +kernel), List.mem_of_getElem? (i := 408) (by decide +kernel)⟩
theorem lw_p2 : lw_okq (⟨"CaseTables$Tokens", "scanWord", "()V"⟩, 11) := ⟨⟨by decide +kernel, by decide +kernel⟩, List.mem_of_getElem? (i := 48) (by decide +kernel), List.mem_of_getElem? (i := 425) (by decide +kernel), List.mem_of_getElem? (i := 426) (by decide +kernel)⟩
theorem lw_p3 : lw_okq (⟨"CaseTables$Tokens", "wordKind", "()I"⟩, 11) := ⟨⟨by decide +kernel, by decide +kernel⟩, List.mem_of_getElem? (i := 48) (by decide +kernel), List.mem_of_getElem? (i := 435) (by decide +kernel), List.mem_of_getElem? (i := 436) (by decide +kernel)⟩
theorem lw_p4 : lw_okq (⟨"CaseTables$Tokens", "scanNumber", "()V"⟩, 11) := ⟨⟨by decide +kernel, by decide +kernel⟩, List.mem_of_getElem? (i := 48) (by decide +kernel), List.mem_of_getElem? (i := 441) (by decide +kernel), List.mem_of_getElem? (i := 442) (by decide +kernel)⟩
theorem lw_p5 : lw_okq (⟨"CaseTables$Tokens", "symbolKind", "(I)I"⟩, 11) := ⟨⟨by decide +kernel, by decide +kernel⟩, List.mem_of_getElem? (i := 48) (by decide +kernel), List.mem_of_getElem? (i := 447) (by decide +kernel), List.mem_of_getElem? (i := 448) (by decide +kernel)⟩
theorem lw_p6 : lw_okq (⟨"CaseTables$Tokens", "follows", "(I)Z"⟩, 11) := ⟨⟨by decide +kernel, by decide +kernel⟩, List.mem_of_getElem? (i := 48) (by decide +kernel), List.mem_of_getElem? (i := 451) (by decide +kernel), List.mem_of_getElem? (i := 452) (by decide +kernel)⟩
theorem lw_p7 : lw_okq (⟨"CaseTables$Compiler", "readFun", "()V"⟩, 6) := ⟨⟨by decide +kernel, by decide +kernel⟩, List.mem_of_getElem? (i := 268) (by decide +kernel), List.mem_of_getElem? (i := 467) (by decide +kernel), List.mem_of_getElem? (i := 468) (by decide +kernel)⟩
theorem lw_p8 : lw_okq (⟨"CaseTables$Compiler", "complain", "(II)V"⟩, 6) := ⟨⟨by decide +kernel, by decide +kernel⟩, List.mem_of_getElem? (i := 268) (by decide +kernel), List.mem_of_getElem? (i := 475) (by decide +kernel), List.mem_of_getElem? (i := 476) (by decide +kernel)⟩
theorem lw_p9 : lw_okq (⟨"CaseTables$Compiler", "readItemName", "()J"⟩, 6) := ⟨⟨by decide +kernel, by decide +kernel⟩, List.mem_of_getElem? (i := 268) (by decide +kernel), List.mem_of_getElem? (i := 505) (by decide +kernel), List.mem_of_getElem? (i := 506) (by decide +kernel)⟩
theorem lw_p10 : lw_okq (⟨"CaseTables$Compiler", "readInput", "()V"⟩, 6) := ⟨⟨by decide +kernel, by decide +kernel⟩, List.mem_of_getElem? (i := 268) (by decide +kernel), List.mem_of_getElem? (i := 522) (by decide +kernel), List.mem_of_getElem? (i := 523) (by decide +kernel)⟩
theorem lw_p11 : lw_okq (⟨"CaseTables$Compiler", "readWhole", "(II)I"⟩, 6) := ⟨⟨by decide +kernel, by decide +kernel⟩, List.mem_of_getElem? (i := 268) (by decide +kernel), List.mem_of_getElem? (i := 530) (by decide +kernel), List.mem_of_getElem? (i := 531) (by decide +kernel)⟩
theorem lw_p12 : lw_okq (⟨"CaseTables$Compiler", "readBody", "()V"⟩, 6) := ⟨⟨by decide +kernel, by decide +kernel⟩, List.mem_of_getElem? (i := 268) (by decide +kernel), List.mem_of_getElem? (i := 543) (by decide +kernel), List.mem_of_getElem? (i := 544) (by decide +kernel)⟩
theorem lw_p13 : lw_okq (⟨"CaseTables$Compiler", "readExpression", "(I)V"⟩, 6) := ⟨⟨by decide +kernel, by decide +kernel⟩, List.mem_of_getElem? (i := 268) (by decide +kernel), List.mem_of_getElem? (i := 551) (by decide +kernel), List.mem_of_getElem? (i := 552) (by decide +kernel)⟩
theorem lw_p14 : lw_okq (⟨"CaseTables$Compiler", "readChoice", "(I)V"⟩, 6) := ⟨⟨by decide +kernel, by decide +kernel⟩, List.mem_of_getElem? (i := 268) (by decide +kernel), List.mem_of_getElem? (i := 555) (by decide +kernel), List.mem_of_getElem? (i := 556) (by decide +kernel)⟩
theorem lw_p15 : lw_okq (⟨"CaseTables$Compiler", "readBoth", "(I)V"⟩, 6) := ⟨⟨by decide +kernel, by decide +kernel⟩, List.mem_of_getElem? (i := 268) (by decide +kernel), List.mem_of_getElem? (i := 576) (by decide +kernel), List.mem_of_getElem? (i := 577) (by decide +kernel)⟩
def lw_privs_1 : List (MethodName × Nat) := [(⟨"CaseTables$Tokens", "scanOne", "()V"⟩, 11), (⟨"CaseTables$Tokens", "skipBlanks", "()V"⟩, 11), (⟨"CaseTables$Tokens", "scanWord", "()V"⟩, 11), (⟨"CaseTables$Tokens", "wordKind", "()I"⟩, 11), (⟨"CaseTables$Tokens", "scanNumber", "()V"⟩, 11), (⟨"CaseTables$Tokens", "symbolKind", "(I)I"⟩, 11), (⟨"CaseTables$Tokens", "follows", "(I)Z"⟩, 11), (⟨"CaseTables$Compiler", "readFun", "()V"⟩, 6), (⟨"CaseTables$Compiler", "complain", "(II)V"⟩, 6), (⟨"CaseTables$Compiler", "readItemName", "()J"⟩, 6), (⟨"CaseTables$Compiler", "readInput", "()V"⟩, 6), (⟨"CaseTables$Compiler", "readWhole", "(II)I"⟩, 6), (⟨"CaseTables$Compiler", "readBody", "()V"⟩, 6), (⟨"CaseTables$Compiler", "readExpression", "(I)V"⟩, 6), (⟨"CaseTables$Compiler", "readChoice", "(I)V"⟩, 6), (⟨"CaseTables$Compiler", "readBoth", "(I)V"⟩, 6)]
theorem lw_r1 : ∀ q ∈ lw_privs_1, lw_okq q := List.forall_mem_cons.mpr ⟨lw_p0, List.forall_mem_cons.mpr ⟨lw_p1, List.forall_mem_cons.mpr ⟨lw_p2, List.forall_mem_cons.mpr ⟨lw_p3, List.forall_mem_cons.mpr ⟨lw_p4, List.forall_mem_cons.mpr ⟨lw_p5, List.forall_mem_cons.mpr ⟨lw_p6, List.forall_mem_cons.mpr ⟨lw_p7, List.forall_mem_cons.mpr ⟨lw_p8, List.forall_mem_cons.mpr ⟨lw_p9, List.forall_mem_cons.mpr ⟨lw_p10, List.forall_mem_cons.mpr ⟨lw_p11, List.forall_mem_cons.mpr ⟨lw_p12, List.forall_mem_cons.mpr ⟨lw_p13, List.forall_mem_cons.mpr ⟨lw_p14, List.forall_mem_cons.mpr ⟨lw_p15, fun _ h => absurd h List.not_mem_nil⟩⟩⟩⟩⟩⟩⟩⟩⟩⟩⟩⟩⟩⟩⟩⟩
theorem lw_p16 : lw_okq (⟨"CaseTables$Compiler", "readRelation", "(I)V"⟩, 6) := ⟨⟨by decide +kernel, by decide +kernel⟩, List.mem_of_getElem? (i := 268) (by decide +kernel), List.mem_of_getElem? (i := 580) (by decide +kernel), List.mem_of_getElem? (i := 581) (by decide +kernel)⟩
theorem lw_p17 : lw_okq (⟨"CaseTables$Compiler", "readSum", "(I)V"⟩, 6) := ⟨⟨by decide +kernel, by decide +kernel⟩, List.mem_of_getElem? (i := 268) (by decide +kernel), List.mem_of_getElem? (i := 584) (by decide +kernel), List.mem_of_getElem? (i := 585) (by decide +kernel)⟩
theorem lw_p18 : lw_okq (⟨"CaseTables$Compiler", "readProduct", "(I)V"⟩, 6) := ⟨⟨by decide +kernel, by decide +kernel⟩, List.mem_of_getElem? (i := 268) (by decide +kernel), List.mem_of_getElem? (i := 588) (by decide +kernel), List.mem_of_getElem? (i := 589) (by decide +kernel)⟩
theorem lw_p19 : lw_okq (⟨"CaseTables$Compiler", "readFactor", "(I)V"⟩, 6) := ⟨⟨by decide +kernel, by decide +kernel⟩, List.mem_of_getElem? (i := 268) (by decide +kernel), List.mem_of_getElem? (i := 592) (by decide +kernel), List.mem_of_getElem? (i := 593) (by decide +kernel)⟩
theorem lw_p20 : lw_okq (⟨"CaseTables$Compiler", "readNamed", "(JII)V"⟩, 6) := ⟨⟨by decide +kernel, by decide +kernel⟩, List.mem_of_getElem? (i := 268) (by decide +kernel), List.mem_of_getElem? (i := 596) (by decide +kernel), List.mem_of_getElem? (i := 597) (by decide +kernel)⟩
theorem lw_p21 : lw_okq (⟨"CaseTables$Compiler", "readArguments", "(JII)V"⟩, 6) := ⟨⟨by decide +kernel, by decide +kernel⟩, List.mem_of_getElem? (i := 268) (by decide +kernel), List.mem_of_getElem? (i := 600) (by decide +kernel), List.mem_of_getElem? (i := 601) (by decide +kernel)⟩
theorem lw_p22 : lw_okq (⟨"CaseTables$Compiler", "endSecond", "(I)V"⟩, 6) := ⟨⟨by decide +kernel, by decide +kernel⟩, List.mem_of_getElem? (i := 268) (by decide +kernel), List.mem_of_getElem? (i := 609) (by decide +kernel), List.mem_of_getElem? (i := 610) (by decide +kernel)⟩
theorem lw_p23 : lw_okq (⟨"CaseTables$Compiler", "readTable", "()V"⟩, 6) := ⟨⟨by decide +kernel, by decide +kernel⟩, List.mem_of_getElem? (i := 268) (by decide +kernel), List.mem_of_getElem? (i := 621) (by decide +kernel), List.mem_of_getElem? (i := 622) (by decide +kernel)⟩
theorem lw_p24 : lw_okq (⟨"CaseTables$Compiler", "readRow", "()V"⟩, 6) := ⟨⟨by decide +kernel, by decide +kernel⟩, List.mem_of_getElem? (i := 268) (by decide +kernel), List.mem_of_getElem? (i := 633) (by decide +kernel), List.mem_of_getElem? (i := 634) (by decide +kernel)⟩
theorem lw_p25 : lw_okq (⟨"CaseTables$Compiler", "readCell", "(LCaseTables$Row;I)V"⟩, 6) := ⟨⟨by decide +kernel, by decide +kernel⟩, List.mem_of_getElem? (i := 268) (by decide +kernel), List.mem_of_getElem? (i := 650) (by decide +kernel), List.mem_of_getElem? (i := 651) (by decide +kernel)⟩
theorem lw_p26 : lw_okq (⟨"CaseTables$Compiler", "readResult", "(LCaseTables$Row;)V"⟩, 6) := ⟨⟨by decide +kernel, by decide +kernel⟩, List.mem_of_getElem? (i := 268) (by decide +kernel), List.mem_of_getElem? (i := 663) (by decide +kernel), List.mem_of_getElem? (i := 664) (by decide +kernel)⟩
theorem lw_p27 : lw_okq (⟨"CaseTables", "existingFun", "(I)LCaseTables$Fun;"⟩, 8) := ⟨⟨by decide +kernel, by decide +kernel⟩, List.mem_of_getElem? (i := 26) (by decide +kernel), List.mem_of_getElem? (i := 701) (by decide +kernel), List.mem_of_getElem? (i := 702) (by decide +kernel)⟩
theorem lw_p28 : lw_okq (⟨"java/lang/Throwable", "fillInStackTrace", "(I)Ljava/lang/Throwable;"⟩, 6) := ⟨⟨by decide +kernel, by decide +kernel⟩, List.mem_of_getElem? (i := 746) (by decide +kernel), List.mem_of_getElem? (i := 744) (by decide +kernel), List.mem_of_getElem? (i := 745) (by decide +kernel)⟩
theorem lw_p29 : lw_okq (⟨"CaseTables", "findUntried", "(I)V"⟩, 8) := ⟨⟨by decide +kernel, by decide +kernel⟩, List.mem_of_getElem? (i := 26) (by decide +kernel), List.mem_of_getElem? (i := 782) (by decide +kernel), List.mem_of_getElem? (i := 783) (by decide +kernel)⟩
theorem lw_p30 : lw_okq (⟨"CaseTables$Untried", "bestThird", "(II)I"⟩, 6) := ⟨⟨by decide +kernel, by decide +kernel⟩, List.mem_of_getElem? (i := 345) (by decide +kernel), List.mem_of_getElem? (i := 830) (by decide +kernel), List.mem_of_getElem? (i := 831) (by decide +kernel)⟩
theorem lw_p31 : lw_okq (⟨"CaseTables$Untried", "pairsIn", "(III)I"⟩, 6) := ⟨⟨by decide +kernel, by decide +kernel⟩, List.mem_of_getElem? (i := 345) (by decide +kernel), List.mem_of_getElem? (i := 840) (by decide +kernel), List.mem_of_getElem? (i := 841) (by decide +kernel)⟩
def lw_privs_2 : List (MethodName × Nat) := [(⟨"CaseTables$Compiler", "readRelation", "(I)V"⟩, 6), (⟨"CaseTables$Compiler", "readSum", "(I)V"⟩, 6), (⟨"CaseTables$Compiler", "readProduct", "(I)V"⟩, 6), (⟨"CaseTables$Compiler", "readFactor", "(I)V"⟩, 6), (⟨"CaseTables$Compiler", "readNamed", "(JII)V"⟩, 6), (⟨"CaseTables$Compiler", "readArguments", "(JII)V"⟩, 6), (⟨"CaseTables$Compiler", "endSecond", "(I)V"⟩, 6), (⟨"CaseTables$Compiler", "readTable", "()V"⟩, 6), (⟨"CaseTables$Compiler", "readRow", "()V"⟩, 6), (⟨"CaseTables$Compiler", "readCell", "(LCaseTables$Row;I)V"⟩, 6), (⟨"CaseTables$Compiler", "readResult", "(LCaseTables$Row;)V"⟩, 6), (⟨"CaseTables", "existingFun", "(I)LCaseTables$Fun;"⟩, 8), (⟨"java/lang/Throwable", "fillInStackTrace", "(I)Ljava/lang/Throwable;"⟩, 6), (⟨"CaseTables", "findUntried", "(I)V"⟩, 8), (⟨"CaseTables$Untried", "bestThird", "(II)I"⟩, 6), (⟨"CaseTables$Untried", "pairsIn", "(III)I"⟩, 6)]
theorem lw_r2 : ∀ q ∈ lw_privs_2, lw_okq q := List.forall_mem_cons.mpr ⟨lw_p16, List.forall_mem_cons.mpr ⟨lw_p17, List.forall_mem_cons.mpr ⟨lw_p18, List.forall_mem_cons.mpr ⟨lw_p19, List.forall_mem_cons.mpr ⟨lw_p20, List.forall_mem_cons.mpr ⟨lw_p21, List.forall_mem_cons.mpr ⟨lw_p22, List.forall_mem_cons.mpr ⟨lw_p23, List.forall_mem_cons.mpr ⟨lw_p24, List.forall_mem_cons.mpr ⟨lw_p25, List.forall_mem_cons.mpr ⟨lw_p26, List.forall_mem_cons.mpr ⟨lw_p27, List.forall_mem_cons.mpr ⟨lw_p28, List.forall_mem_cons.mpr ⟨lw_p29, List.forall_mem_cons.mpr ⟨lw_p30, List.forall_mem_cons.mpr ⟨lw_p31, fun _ h => absurd h List.not_mem_nil⟩⟩⟩⟩⟩⟩⟩⟩⟩⟩⟩⟩⟩⟩⟩⟩
theorem lw_p32 : lw_okq (⟨"CaseTables", "existingTable", "(I)LCaseTables$Table;"⟩, 8) := ⟨⟨by decide +kernel, by decide +kernel⟩, List.mem_of_getElem? (i := 26) (by decide +kernel), List.mem_of_getElem? (i := 851) (by decide +kernel), List.mem_of_getElem? (i := 852) (by decide +kernel)⟩
theorem lw_p33 : lw_okq (⟨"CaseTables$Runner", "runTable", "(LCaseTables$Table;)V"⟩, 3) := ⟨⟨by decide +kernel, by decide +kernel⟩, List.mem_of_getElem? (i := 329) (by decide +kernel), List.mem_of_getElem? (i := 864) (by decide +kernel), List.mem_of_getElem? (i := 865) (by decide +kernel)⟩
theorem lw_p34 : lw_okq (⟨"CaseTables$Runner", "isHolding", "(ILCaseTables$Row;II)Z"⟩, 3) := ⟨⟨by decide +kernel, by decide +kernel⟩, List.mem_of_getElem? (i := 329) (by decide +kernel), List.mem_of_getElem? (i := 870) (by decide +kernel), List.mem_of_getElem? (i := 871) (by decide +kernel)⟩
theorem lw_p35 : lw_okq (⟨"CaseTables$Machine", "push", "(J)V"⟩, 7) := ⟨⟨by decide +kernel, by decide +kernel⟩, List.mem_of_getElem? (i := 301) (by decide +kernel), List.mem_of_getElem? (i := 882) (by decide +kernel), List.mem_of_getElem? (i := 883) (by decide +kernel)⟩
theorem lw_p36 : lw_okq (⟨"CaseTables$Machine", "run", "(III)V"⟩, 7) := ⟨⟨by decide +kernel, by decide +kernel⟩, List.mem_of_getElem? (i := 301) (by decide +kernel), List.mem_of_getElem? (i := 886) (by decide +kernel), List.mem_of_getElem? (i := 887) (by decide +kernel)⟩
theorem lw_p37 : lw_okq (⟨"CaseTables$Machine", "valueAt", "(I)J"⟩, 7) := ⟨⟨by decide +kernel, by decide +kernel⟩, List.mem_of_getElem? (i := 301) (by decide +kernel), List.mem_of_getElem? (i := 903) (by decide +kernel), List.mem_of_getElem? (i := 904) (by decide +kernel)⟩
theorem lw_p38 : lw_okq (⟨"CaseTables$Machine", "runCalled", "(II)V"⟩, 7) := ⟨⟨by decide +kernel, by decide +kernel⟩, List.mem_of_getElem? (i := 301) (by decide +kernel), List.mem_of_getElem? (i := 907) (by decide +kernel), List.mem_of_getElem? (i := 908) (by decide +kernel)⟩
theorem lw_p39 : lw_okq (⟨"CaseTables$Machine", "pop", "()J"⟩, 7) := ⟨⟨by decide +kernel, by decide +kernel⟩, List.mem_of_getElem? (i := 301) (by decide +kernel), List.mem_of_getElem? (i := 911) (by decide +kernel), List.mem_of_getElem? (i := 912) (by decide +kernel)⟩
theorem lw_p40 : lw_okq (⟨"CaseTables$Machine", "takesThen", "(IZ)Z"⟩, 7) := ⟨⟨by decide +kernel, by decide +kernel⟩, List.mem_of_getElem? (i := 301) (by decide +kernel), List.mem_of_getElem? (i := 915) (by decide +kernel), List.mem_of_getElem? (i := 916) (by decide +kernel)⟩
theorem lw_p41 : lw_okq (⟨"CaseTables$Machine", "countBranch", "(IZ)V"⟩, 7) := ⟨⟨by decide +kernel, by decide +kernel⟩, List.mem_of_getElem? (i := 301) (by decide +kernel), List.mem_of_getElem? (i := 919) (by decide +kernel), List.mem_of_getElem? (i := 920) (by decide +kernel)⟩
theorem lw_p42 : lw_okq (⟨"CaseTables$Machine", "isDecided", "(Z)Z"⟩, 7) := ⟨⟨by decide +kernel, by decide +kernel⟩, List.mem_of_getElem? (i := 301) (by decide +kernel), List.mem_of_getElem? (i := 923) (by decide +kernel), List.mem_of_getElem? (i := 924) (by decide +kernel)⟩
theorem lw_p43 : lw_okq (⟨"CaseTables$Machine", "apply", "(I)V"⟩, 7) := ⟨⟨by decide +kernel, by decide +kernel⟩, List.mem_of_getElem? (i := 301) (by decide +kernel), List.mem_of_getElem? (i := 930) (by decide +kernel), List.mem_of_getElem? (i := 931) (by decide +kernel)⟩
theorem lw_p44 : lw_okq (⟨"CaseTables$Runner", "search", "(ILCaseTables$Row;)V"⟩, 3) := ⟨⟨by decide +kernel, by decide +kernel⟩, List.mem_of_getElem? (i := 329) (by decide +kernel), List.mem_of_getElem? (i := 991) (by decide +kernel), List.mem_of_getElem? (i := 992) (by decide +kernel)⟩
theorem lw_p45 : lw_okq (⟨"CaseTables", "addCase", "(LCaseTables$Table;I)V"⟩, 8) := ⟨⟨by decide +kernel, by decide +kernel⟩, List.mem_of_getElem? (i := 26) (by decide +kernel), List.mem_of_getElem? (i := 1020) (by decide +kernel), List.mem_of_getElem? (i := 1021) (by decide +kernel)⟩
theorem lw_p46 : lw_okq (⟨"CaseTables", "addTable", "(JLCaseTables$Table;)J"⟩, 8) := ⟨⟨by decide +kernel, by decide +kernel⟩, List.mem_of_getElem? (i := 26) (by decide +kernel), List.mem_of_getElem? (i := 1056) (by decide +kernel), List.mem_of_getElem? (i := 1057) (by decide +kernel)⟩
def lw_privs_3 : List (MethodName × Nat) := [(⟨"CaseTables", "existingTable", "(I)LCaseTables$Table;"⟩, 8), (⟨"CaseTables$Runner", "runTable", "(LCaseTables$Table;)V"⟩, 3), (⟨"CaseTables$Runner", "isHolding", "(ILCaseTables$Row;II)Z"⟩, 3), (⟨"CaseTables$Machine", "push", "(J)V"⟩, 7), (⟨"CaseTables$Machine", "run", "(III)V"⟩, 7), (⟨"CaseTables$Machine", "valueAt", "(I)J"⟩, 7), (⟨"CaseTables$Machine", "runCalled", "(II)V"⟩, 7), (⟨"CaseTables$Machine", "pop", "()J"⟩, 7), (⟨"CaseTables$Machine", "takesThen", "(IZ)Z"⟩, 7), (⟨"CaseTables$Machine", "countBranch", "(IZ)V"⟩, 7), (⟨"CaseTables$Machine", "isDecided", "(Z)Z"⟩, 7), (⟨"CaseTables$Machine", "apply", "(I)V"⟩, 7), (⟨"CaseTables$Runner", "search", "(ILCaseTables$Row;)V"⟩, 3), (⟨"CaseTables", "addCase", "(LCaseTables$Table;I)V"⟩, 8), (⟨"CaseTables", "addTable", "(JLCaseTables$Table;)J"⟩, 8)]
theorem lw_r3 : ∀ q ∈ lw_privs_3, lw_okq q := List.forall_mem_cons.mpr ⟨lw_p32, List.forall_mem_cons.mpr ⟨lw_p33, List.forall_mem_cons.mpr ⟨lw_p34, List.forall_mem_cons.mpr ⟨lw_p35, List.forall_mem_cons.mpr ⟨lw_p36, List.forall_mem_cons.mpr ⟨lw_p37, List.forall_mem_cons.mpr ⟨lw_p38, List.forall_mem_cons.mpr ⟨lw_p39, List.forall_mem_cons.mpr ⟨lw_p40, List.forall_mem_cons.mpr ⟨lw_p41, List.forall_mem_cons.mpr ⟨lw_p42, List.forall_mem_cons.mpr ⟨lw_p43, List.forall_mem_cons.mpr ⟨lw_p44, List.forall_mem_cons.mpr ⟨lw_p45, List.forall_mem_cons.mpr ⟨lw_p46, fun _ h => absurd h List.not_mem_nil⟩⟩⟩⟩⟩⟩⟩⟩⟩⟩⟩⟩⟩⟩⟩
def lw_privs : List (MethodName × Nat) := lw_privs_1 ++ (lw_privs_2 ++ (lw_privs_3))
def lw_tbl : List Cond := k2_sels lw_privs ++ tables_1
theorem lw_privs_ok : ∀ q ∈ lw_privs, lw_okq q := by
  show ∀ q ∈ lw_privs_1 ++ (lw_privs_2 ++ (lw_privs_3)), lw_okq q
  exact List.forall_mem_append.mpr ⟨lw_r1, List.forall_mem_append.mpr ⟨lw_r2, lw_r3⟩⟩
/-- the streams that the claim lets the run draw from -/
abbrev lw_cs : List Choice := [Jvm.Choice.named "NaN.bits"]
theorem lw_bits : nanBits ∈ lw_cs := by first | decide | exact List.mem_cons_self | simp [lw_cs, nanBits]
-- ===== end of PART A; then your names; then what follows =====
end
section
/-! ===== BEGIN words of one list among another's, by their places ===== -/
theorem goodIn_r {big : List Cond} (ws : List Cond) (ps : List Nat) (hp : ws = ps.filterMap (fun i => big[i]?)) (h : ws.all goodWord = true) : GoodIn big ws := by
  intro w hw
  have h1 := List.all_eq_true.mp h w hw
  rw [hp] at hw
  obtain ⟨i, -, hi⟩ := List.mem_filterMap.mp hw
  have hm : w ∈ big := by first | exact List.mem_of_getElem? hi | exact List.getElem?_mem hi
  exact ⟨hm, good_of_word h1⟩
theorem goodIn_app {big a b : List Cond} (ha : GoodIn big a) (hb : GoodIn big b) : GoodIn big (a ++ b) := fun w h => (List.mem_append.mp h).elim (ha w) (hb w)
theorem goodIn_ca {big a b : List Cond} {c : Cond} (ha : GoodIn big (c :: a)) (hb : GoodIn big b) : GoodIn big (c :: (a ++ b)) := fun w h => (List.mem_cons.mp h).elim (fun e => ha w (List.mem_cons.mpr (Or.inl e))) (fun h => (List.mem_append.mp h).elim (fun h => ha w (List.mem_cons.mpr (Or.inr h))) (hb w))
theorem goodIn_sub {big ws : List Cond} (hm : ∀ w ∈ ws, w ∈ big) (h : ws.all goodWord = true) : GoodIn big ws := fun w hw => ⟨hm w hw, good_of_word (List.all_eq_true.mp h w hw)⟩
/-! ===== END ===== -/

/-! ===== BEGIN exceptions that leave a method, and their catching by the caller (launches without stack traces) ===== -/
section VXA
/-! The laws vx_back, vx_callV, vx_callS, vx_callSW, vx_throw0, vx_throwS follow proofs of the library, with one case more: JvmDerived/Free/Laws.lean (Back.of_free), Shelf42/LK1.lean (callV, callS), Shelf/KitTraced.lean (throwNew0V, throwNewS). -/
/-- where a method has thrown q: the class by its name, the cell, what was written, the world -/
def vx_T (XC : String → State → State → Prop) (st : State) (q : Addr) (t : State) (mc ms : Nat) (free : Addr → Prop) : Prop :=
  ∃ (E : String) (ce : Cell) (L : List Loc), XC E st t ∧ t.heap[q]? = some ce ∧ ce.vm = .none ∧ st.vm.findClass E = some ce.cls ∧ st.WarmedH t.vm ∧ st.sameButNew ({ t with vm := st.vm } : State) L mc ms ∧ ∀ z ∈ L, free z.base
def vx_Q (Qc : Array Value → State → Outcome → State → Prop) (XC : String → State → State → Prop) (mc ms : Nat) (free : Addr → Prop) : Array Value → State → Outcome → State → Prop := fun a st o t =>
  (Qc a st o t ∧ ∃ L, FrameEnd st o t L mc ms ∧ ∀ q ∈ L, free q.base) ∨ ∃ q, o = .threw q ∧ vx_T XC st q t mc ms free
/-- a callee that returns or throws -/
def vx_Met (l : Launch) (y : MethodName) (ws : List Cond) (rm : Room) (Pc : Array Value → State → Prop) (Qc : Array Value → State → Outcome → State → Prop) (XC : String → State → State → Prop) (mc ms : Nat) (free : Addr → Prop) : Prop :=
  MetFree l y (headSpec ws rm) Pc (fun _ _ _ _ _ => True) (vx_Q Qc XC mc ms free)
def vx_Post (XC : String → State → State → Prop) (mc ms : Nat) (free : Addr → Prop) : Pt → Array Value → Addr → Pt → Prop := fun A a q B =>
  ∃ (g : JFrame) (mk : MethodId) (t : State) (L : List Loc) (E : String) (ce : Cell), B.U.heap = t.heap ∧ B.U.vm = t.vm ∧ XC E (A.U.calling g mk a) t ∧ t.heap[q]? = some ce ∧ ce.vm = .none ∧ A.U.vm.findClass E = some ce.cls ∧ B.locs = A.locs ++ L ∧ (∀ z ∈ L, free z.base) ∧ B.cells = A.cells + mc ∧ B.slots = A.slots + ms
def vx_Back (l : Launch) (R : Room) (p : Program) (e : Env) (below : List Frame) (s : State) (sargs : Array Value) (y : MethodName) (len W9 : Nat)
    (Pre : Pt → Array Value → Prop) (Post : Pt → Array Value → Option Value → Pt → Prop) (PostX : Pt → Array Value → Addr → Pt → Prop) : Prop :=
  ∀ (m : MethodId) (meth : Method) (c : Code) (A : Pt) (g : JFrame) (ig : Instr) (mk : MethodId) (a : Array Value),
    Stand p l e R s m sargs below meth c A.U A.locs A.cells A.slots → g.method = m → g.locals.size = c.maxLocals → decode c.code g.pc = .ok (ig, len) →
    2 * g.monitorRoom + (g.stack.map fun v => v.category).sum ≤ W9 → A.U.methodNamed? y = some mk → Pre A a →
    (∃ (v : Option Value) (B : Pt), Stand p l e R s m sargs below meth c B.U B.locs B.cells B.slots ∧ Post A a v B ∧
      Steps p.tables e below (doInvoke e (A.U.setTop g) [] mk a).1 (B.U.setTop { g with pc := g.pc + len, stack := v.toList ++ g.stack })) ∨
    (∃ (q : Addr) (B : Pt), Stand p l e R s m sargs below meth c B.U B.locs B.cells B.slots ∧ PostX A a q B ∧
      Steps p.tables e below (doInvoke e (A.U.setTop g) [] mk a).1 ((B.U.setTop g).pushFrame (.throwing q)))
section Payer
variable {l : Launch} {R : Room} {p : Program} {e : Env} {below : List Frame} {s : State} {sargs : Array Value} {y : MethodName} {len W9 : Nat}
theorem vx_back {ws : List Cond} {rm : Room} {Pc : Array Value → State → Prop} {Qc : Array Value → State → Outcome → State → Prop} {XC : String → State → State → Prop} {mc ms : Nat} {free : Addr → Prop} {bytes : ByteArray} {maxL : Nat} {ret : Option FieldType}
    (hM : vx_Met l y ws rm Pc Qc XC mc ms free) (hblind : FrameBlind Pc) (hrc : rm.cells = mc) (hrs : rm.slots = ms)
    (hframes : rm.frames + 1 ≤ R.frames) (hlocals : W9 + (maxL + 11) + rm.locals ≤ R.locals)
    (hws : ∀ w ∈ ws, ∀ a' U, s.WarmedH U.vm → w.before a' U = true) (hcode : Cond.code y bytes maxL ret ∈ ws) (hinit : ∀ a' U, s.WarmedH U.vm → (Cond.initialized y.cls).before a' U = true) :
    vx_Back l R p e below s sargs y len W9 (PreOf R mc ms Pc) (PostOf Qc mc ms free) (vx_Post XC mc ms free) := by
  intro m meth c A g ig mk a X hg hsize hdg hW hn hp
  have h1 : (headSpec ws rm).pre.before a A.U = true := atoms_intro fun w hw => hws w hw _ _ X.warmed
  have h2 : (Cond.code y bytes maxL ret).before a A.U = true := hws _ hcode _ _ X.warmed
  have h3 : (Cond.initialized y.cls).before a A.U = true := hinit _ _ X.warmed
  have h4 : A.cells + (headSpec ws rm).room.cells ≤ R.cells := by rw [show (headSpec ws rm).room.cells = mc from hrc]; exact hp.1
  have h5 : A.slots + (headSpec ws rm).room.slots ≤ R.slots := by rw [show (headSpec ws rm).room.slots = ms from hrs]; exact hp.2.1
  have hPc : Pc a (A.U.calling g mk a) := hblind _ _ _ _ hp.2.2
  obtain ⟨U, Ls, c0, s0⟩ := A
  dsimp only [Pt.U, Pt.locs, Pt.cells, Pt.slots] at h1 h2 h3 h4 h5 X hn hPc ⊢
  obtain ⟨methY, cY, hmY, hcY, -, hlY, -, -, -, -⟩ := Cond.code_spec hn h2
  obtain ⟨kY, hkY, -⟩ := className_of_methodNamed hn
  have hinitY : kY.init = .initialized := Cond.initialized_spec (findClass_of_methodNamed hn) hkY h3
  have h : At U g.method c below := by rw [hg]; exact X.here
  have hlocals9 : W9 + (maxL + 11) + (headSpec ws rm).room.locals ≤ R.locals := hlocals
  have happ : (headSpec ws rm).appliesLoose y e.platform (U.calling g mk a) = true :=
    Spec.appliesLoose_calling (g := g) h hdg hn hkY hinitY
      (X.room_calling (g := g) (R' := (headSpec ws rm).room) hsize hmY hcY hframes (by rw [hlY]; omega) h4 h5) h1
  obtain ⟨mid, hmid⟩ := h.above
  have hfr : (U.setTop g).frames = (.java g :: mid) ++ below := by rw [State.frames_setTop' g h.top, hmid]; rfl
  obtain ⟨o, s₂, hsteps, -, hend, hq⟩ := Steps.callFree hM p X.admits X.cas X.clock (acts := []) hfr happ hPc trivial
  have hq' : vx_Q Qc XC mc ms free a (U.calling g mk a) o s₂ := hq
  rw [State.frames_setTop' g h.top] at hend
  obtain ⟨g₀, hg0⟩ := Option.isSome_iff_exists.mp h.top
  obtain ⟨r, hr⟩ := State.topJava?_eq_some.mp hg0
  have hr' : (({ U with heap := s₂.heap, slotsUsed := s₂.slotsUsed } : State).setVm s₂.vm).frames = .java g₀ :: r := hr
  rcases hq' with ⟨hqc, L, hfe, hL⟩ | ⟨q, rfl, E, ce, L, hx, hce, hcv, hcl, hW₂, hsm, hL⟩
  · obtain ⟨⟨v, rfl⟩, hW₂, e2, q2, q3, q4, q5, q6⟩ := id hfe
    have e3 : s₂ = ({ (U.calling g mk a).setFrames s₂.frames with heap := s₂.heap, slotsUsed := s₂.slotsUsed } : State).setVm s₂.vm := by
      have : s₂ = ({ s₂ with vm := (U.calling g mk a).vm } : State).setVm s₂.vm := rfl
      rw [e2] at this
      exact this
    obtain ⟨c₂, i₂, len₂, hc₂, hd₂, hf₂⟩ := hend
    have hW' : U.WarmedH s₂.vm := hW₂
    have hcc : c₂ = c := by
      have h1 : s₂.code? g.method = U.code? g.method := by
        rw [State.code?_eq, State.code?_eq, hW'.alike.method?]
      exact Option.some.inj (hc₂.symm.trans (h1.trans h.code))
    subst hcc
    have hlen : len₂ = len := by rw [hdg] at hd₂; cases hd₂; rfl
    subst hlen
    have hs₂ : s₂ = (({ U with heap := s₂.heap, slotsUsed := s₂.slotsUsed } : State).setVm s₂.vm).setTop { g with pc := g.pc + len₂, stack := v.toList ++ g.stack } := by
      refine e3.trans ?_
      rw [hf₂, State.calling_eq h.top, State.setFrames_setFrames, State.setTop_of_frames _ hr', hr]
      rfl
    have hsame : U.sameButNew ({ U with heap := s₂.heap, slotsUsed := s₂.slotsUsed } : State) L mc ms := by
      refine ⟨?_, q2, q3, q4, q5, q6⟩
      obtain ⟨t, ht, -⟩ := State.frames_cons hr
      show ({ U with heap := s₂.heap, slotsUsed := s₂.slotsUsed } : State) = { U.setFrames U.frames with heap := s₂.heap, slotsUsed := s₂.slotsUsed }
      rw [State.setFrames_self ht]
    subst hg
    refine Or.inl ⟨v, ⟨(({ U with heap := s₂.heap, slotsUsed := s₂.slotsUsed } : State).setVm s₂.vm), Ls ++ L, c0 + mc, s0 + ms⟩,
      ⟨X.admits, X.cas, X.clock, X.frames, X.room, X.hears, X.method, X.code, (X.here.setHeapUsed s₂.heap s₂.slotsUsed).setVm hW'.alike, X.tail, State.WarmedH.trans X.warmed hW', X.limits, X.bytes, X.same.trans (hsame.setVm s.vm)⟩,
      ⟨g, mk, s₂, L, rfl, rfl, hqc, rfl, hL, rfl, rfl⟩, ?_⟩
    show Steps p.tables e below _ ((({ U with heap := s₂.heap, slotsUsed := s₂.slotsUsed } : State).setVm s₂.vm).setTop { g with pc := g.pc + len₂, stack := v.toList ++ g.stack })
    rw [← hs₂]
    exact hsteps
  · obtain ⟨e2, q2, q3, q4, q5, q6⟩ := id hsm
    have e3 : s₂ = ({ (U.calling g mk a).setFrames s₂.frames with heap := s₂.heap, slotsUsed := s₂.slotsUsed } : State).setVm s₂.vm := by
      have : s₂ = ({ s₂ with vm := (U.calling g mk a).vm } : State).setVm s₂.vm := rfl
      rw [e2] at this
      exact this
    have hf₂ : s₂.frames = .throwing q :: .java g :: U.frames.tail := hend
    have hW' : U.WarmedH s₂.vm := hW₂
    have hs₂ : s₂ = ((({ U with heap := s₂.heap, slotsUsed := s₂.slotsUsed } : State).setVm s₂.vm).setTop g).pushFrame (.throwing q) := by
      refine e3.trans ?_
      rw [hf₂, State.calling_eq h.top, State.setFrames_setFrames, State.pushFrame, State.frames_setTop _ hr', State.setTop_of_frames _ hr', State.setFrames_setFrames, hr]
      rfl
    have hsame : U.sameButNew ({ U with heap := s₂.heap, slotsUsed := s₂.slotsUsed } : State) L mc ms := by
      refine ⟨?_, q2, q3, q4, q5, q6⟩
      obtain ⟨t, ht, -⟩ := State.frames_cons hr
      show ({ U with heap := s₂.heap, slotsUsed := s₂.slotsUsed } : State) = { U.setFrames U.frames with heap := s₂.heap, slotsUsed := s₂.slotsUsed }
      rw [State.setFrames_self ht]
    subst hg
    refine Or.inr ⟨q, ⟨(({ U with heap := s₂.heap, slotsUsed := s₂.slotsUsed } : State).setVm s₂.vm), Ls ++ L, c0 + mc, s0 + ms⟩,
      ⟨X.admits, X.cas, X.clock, X.frames, X.room, X.hears, X.method, X.code, (X.here.setHeapUsed s₂.heap s₂.slotsUsed).setVm hW'.alike, X.tail, State.WarmedH.trans X.warmed hW', X.limits, X.bytes, X.same.trans (hsame.setVm s.vm)⟩,
      ⟨g, mk, s₂, L, E, ce, rfl, rfl, hx, hce, hcv, hcl, rfl, hL, rfl, rfl⟩, ?_⟩
    show Steps p.tables e below _ (((({ U with heap := s₂.heap, slotsUsed := s₂.slotsUsed } : State).setVm s₂.vm).setTop g).pushFrame (.throwing q))
    rw [← hs₂]
    exact hsteps
end Payer
section Calls
variable {p : Program} {l : Launch} {e : Env} {R : Room} {s : State} {m : MethodId} {args : Array Value} {below : List Frame} {meth : Method} {c : Code} {T : State} {locs : List Loc} {cells slots : Nat}
theorem vx_callV (X : Stand p l e R s m args below meth c T locs cells slots) (hexec : p.tables.exec = Jvm.exec) {own C : String} {index : Nat} {y : MethodName} {bytes : ByteArray} {maxL : Nat} {ret : Option FieldType}
    (hown : s.vm.findClass own = some m.cls) (hlink : (Cond.methodLink own index y).before args s = true) (hinst : (Cond.instanceMethod y).before args s = true) (hsel : (Cond.selects C y y).before args s = true)
    (hcode : (Cond.code y bytes maxL ret).before args s = true) (hy : y.cls ≠ "java/lang/invoke/MethodHandle" ∧ y.cls ≠ "java/lang/invoke/VarHandle")
    {W9 : Nat} {Pre : Pt → Array Value → Prop} {Post : Pt → Array Value → Option Value → Pt → Prop} {PostX : Pt → Array Value → Addr → Pt → Prop} (hK : vx_Back l R p e below s args y 3 W9 Pre Post PostX)
    {b : Addr} {cellB : Cell} (hcell : T.heap[b]? = some cellB) (hobj : cellB.vm.isStatics = false) (hcls : s.vm.findClass C = some cellB.cls)
    {g : JFrame} (hg : g.method = m) (hsize : g.locals.size = c.maxLocals) {argsL rest : List Value} (hlen : ∀ sig, parseMethodDescriptor y.desc = some sig → argsL.length = sig.parameters.length)
    (hstack : g.stack = argsL.reverse ++ .ref b :: rest) (hW : 2 * g.monitorRoom + (rest.map fun v => v.category).sum ≤ W9) (hdg : decode c.code g.pc = .ok (.invokevirtual index, 3))
    (hpre : ∀ vm₁, s.WarmedH vm₁ → Pre ⟨T.setVm vm₁, locs, cells, slots⟩ (Value.ref b :: argsL).toArray) :
    (∃ (v : Option Value) (vm₁ : Vm) (B : Pt), s.WarmedH vm₁ ∧ Stand p l e R s m args below meth c B.U B.locs B.cells B.slots ∧ Post ⟨T.setVm vm₁, locs, cells, slots⟩ (Value.ref b :: argsL).toArray v B ∧
      ∀ target, Steps p.tables e below (B.U.setTop { g with pc := g.pc + 3, stack := v.toList ++ rest }) target → Steps p.tables e below (T.setTop g) target) ∨
    (∃ (q : Addr) (vm₁ : Vm) (B : Pt), s.WarmedH vm₁ ∧ Stand p l e R s m args below meth c B.U B.locs B.cells B.slots ∧ PostX ⟨T.setVm vm₁, locs, cells, slots⟩ (Value.ref b :: argsL).toArray q B ∧
      Steps p.tables e below (T.setTop g) ((B.U.setTop { g with stack := rest }).pushFrame (.throwing q))) := by
  obtain ⟨mk, methM, hnamed, hmethM, hstM, habM⟩ := Cond.instanceMethod_spec hinst
  obtain ⟨methM', cM, hmethM', -, -, -, -, -, -, hsigM⟩ := Cond.code_spec hnamed hcode
  cases hmethM.symm.trans hmethM'
  obtain ⟨c2, r2, m2, q1, q2, q3, q4, kP, hkP, hkPi⟩ := Cond.selects_spec hsel
  cases hcls.symm.trans q1
  cases (State.methodFound?_of_named hnamed hy).symm.trans q2
  cases hnamed.symm.trans q3
  have hselP : selectMethod e.platform s.vm cellB.cls mk = .method mk := by rw [Launch.admits_selectMethod X.admits]; exact q4
  obtain ⟨vm₁, X₁, hstep₁⟩ := X.invokevirtual hexec hown hlink hnamed hmethM hstM hkP hkPi hy (a := b) (cell := cellB) hcell
    (fun z h => by rw [h] at hobj; cases hobj) hselP hmethM habM hkP hkPi (g := g) hg (argsL := argsL) (rest := rest) (hlen _ hsigM) hstack hdg
  rcases hK m meth c ⟨T.setVm vm₁, locs, cells, slots⟩ { g with stack := rest } (.invokevirtual index) mk (Value.ref b :: argsL).toArray X₁ hg hsize hdg hW (X₁.named hnamed) (hpre vm₁ X₁.warmed) with ⟨v, B, X', hpost, hsteps⟩ | ⟨q, B, X', hpost, hsteps⟩
  · exact Or.inl ⟨v, vm₁, B, X₁.warmed, X', hpost, fun target h => hstep₁ _ fun acts => by rw [doInvoke_state]; exact hsteps.trans h⟩
  · exact Or.inr ⟨q, vm₁, B, X₁.warmed, X', hpost, hstep₁ _ fun acts => by rw [doInvoke_state]; exact hsteps⟩
theorem vx_callS (X : Stand p l e R s m args below meth c T locs cells slots) (hexec : p.tables.exec = Jvm.exec) {own : String} {index : Nat} {y : MethodName} {bytes : ByteArray} {maxL : Nat} {ret : Option FieldType}
    (hown : s.vm.findClass own = some m.cls) (hlink : (Cond.methodLink own index y).before args s = true) (hstat : (Cond.static y).before args s = true) (hinit : (Cond.initialized y.cls).before args s = true)
    (hcode : (Cond.code y bytes maxL ret).before args s = true) (hy : y.cls ≠ "java/lang/invoke/MethodHandle" ∧ y.cls ≠ "java/lang/invoke/VarHandle")
    {W9 : Nat} {Pre : Pt → Array Value → Prop} {Post : Pt → Array Value → Option Value → Pt → Prop} {PostX : Pt → Array Value → Addr → Pt → Prop} (hK : vx_Back l R p e below s args y 3 W9 Pre Post PostX)
    {g : JFrame} (hg : g.method = m) (hsize : g.locals.size = c.maxLocals) {argsL rest : List Value} (hlen : ∀ sig, parseMethodDescriptor y.desc = some sig → argsL.length = sig.parameters.length)
    (hstack : g.stack = argsL.reverse ++ rest) (hW : 2 * g.monitorRoom + (rest.map fun v => v.category).sum ≤ W9) (hdg : decode c.code g.pc = .ok (.invokestatic index, 3))
    (hpre : ∀ vm₁, s.WarmedH vm₁ → Pre ⟨T.setVm vm₁, locs, cells, slots⟩ argsL.toArray) :
    (∃ (v : Option Value) (vm₁ : Vm) (B : Pt), s.WarmedH vm₁ ∧ Stand p l e R s m args below meth c B.U B.locs B.cells B.slots ∧ Post ⟨T.setVm vm₁, locs, cells, slots⟩ argsL.toArray v B ∧
      ∀ target, Steps p.tables e below (B.U.setTop { g with pc := g.pc + 3, stack := v.toList ++ rest }) target → Steps p.tables e below (T.setTop g) target) ∨
    (∃ (q : Addr) (vm₁ : Vm) (B : Pt), s.WarmedH vm₁ ∧ Stand p l e R s m args below meth c B.U B.locs B.cells B.slots ∧ PostX ⟨T.setVm vm₁, locs, cells, slots⟩ argsL.toArray q B ∧
      Steps p.tables e below (T.setTop g) ((B.U.setTop { g with stack := rest }).pushFrame (.throwing q))) := by
  obtain ⟨mk, hnamed⟩ := Cond.code_named hcode
  obtain ⟨methM, cM, hmethM, -, -, -, -, -, -, hsigM⟩ := Cond.code_spec hnamed hcode
  have hstatic : methM.isStatic = true := Cond.static_spec hnamed hmethM hstat
  obtain ⟨kP, hkP, -⟩ := className_of_methodNamed hnamed
  have hinitP : kP.init = .initialized := Cond.initialized_spec (findClass_of_methodNamed hnamed) hkP hinit
  obtain ⟨vm₁, X₁, hstep₁⟩ := X.invokestatic hexec hown hlink hnamed hmethM hstatic hkP hinitP hy (g := g) hg (argsL := argsL) (rest := rest) (hlen _ hsigM) hstack hdg
  rcases hK m meth c ⟨T.setVm vm₁, locs, cells, slots⟩ { g with stack := rest } (.invokestatic index) mk argsL.toArray X₁ hg hsize hdg hW (X₁.named hnamed) (hpre vm₁ X₁.warmed) with ⟨v, B, X', hpost, hsteps⟩ | ⟨q, B, X', hpost, hsteps⟩
  · exact Or.inl ⟨v, vm₁, B, X₁.warmed, X', hpost, fun target h => hstep₁ _ fun acts => by rw [doInvoke_state]; exact hsteps.trans h⟩
  · exact Or.inr ⟨q, vm₁, B, X₁.warmed, X', hpost, hstep₁ _ fun acts => by rw [doInvoke_state]; exact hsteps⟩
end Calls
theorem vx_cls {s : State} {T : State} {vm₁ : Vm} {E : String} {k : ClassId} (hW : s.WarmedH vm₁) (h : (T.setVm vm₁).vm.findClass E = some k) : s.vm.findClass E = some k := by
  have h1 : vm₁.findClass E = some k := h
  rw [hW.alike.findClass] at h1
  exact h1
/-- the method's frame g, with q thrown over it -/
def vx_W (p : Program) (l : Launch) (e : Env) (R : Room) (s : State) (m : MethodId) (args : Array Value) (below : List Frame) (meth : Method) (c : Code) (H : Heap) (locs : List Loc) (cells slots : Nat) (Q : State → Prop) (g : JFrame) (q : Addr) : Prop :=
  ∀ T : State, T.heap = H → Stand p l e R s m args below meth c T locs cells slots → ∃ t, Steps p.tables e below ((T.setTop g).pushFrame (.throwing q)) t ∧ Q t
def vx_Run (p : Program) (l : Launch) (e : Env) (R : Room) (s : State) (m : MethodId) (args : Array Value) (below : List Frame) (meth : Method) (c : Code) (H : Heap) (locs : List Loc) (cells slots mc ms : Nat) (g : JFrame) (rest : List Value) (Qa : State → Outcome → State → Prop) (XC : String → State → State → Prop) (free : Addr → Prop) : Prop :=
  ∀ T : State, T.heap = H → Stand p l e R s m args below meth c T locs cells slots →
    (∃ (v : Option Value) (st₀ t T' : State) (L : List Loc), st₀.heap = H ∧ Stand p l e R s m args below meth c T' (locs ++ L) (cells + mc) (slots + ms) ∧ (∀ q ∈ L, free q.base) ∧ T'.heap = t.heap ∧ T'.vm = t.vm ∧ Qa st₀ (.returned v) t ∧
      Goes p e below T g T' { g with pc := g.pc + 3, stack := v.toList ++ rest }) ∨
    (∃ (q : Addr) (st₀ t T' : State) (L : List Loc) (E : String) (ce : Cell), st₀.heap = H ∧ Stand p l e R s m args below meth c T' (locs ++ L) (cells + mc) (slots + ms) ∧ (∀ z ∈ L, free z.base) ∧ T'.heap = t.heap ∧ T'.vm = t.vm ∧ XC E st₀ t ∧ t.heap[q]? = some ce ∧ ce.vm = .none ∧ s.vm.findClass E = some ce.cls ∧
      Steps p.tables e below (T.setTop g) ((T'.setTop { g with stack := rest }).pushFrame (.throwing q)))
def vx_X {S : Type} (px : S → Prop) (B : String → S → State → Prop) (A : Nat → Prop) : String → State → State → Prop := fun E st t => ∃ u : S, px u ∧ B E u t ∧ va_F A st t
section Runs
variable {p : Program} {l : Launch} {e : Env} {R : Room} {s : State} {m : MethodId} {args : Array Value} {below : List Frame} {meth : Method} {c : Code} {H : Heap} {locs : List Loc} {cells slots : Nat}
variable {y : MethodName} {bytes cc : ByteArray} {maxL nL mc ms n index : Nat} {ret : Option FieldType} {ws : List Cond} {rm : Room} {Pc : Array Value → State → Prop} {Qc : Array Value → State → Outcome → State → Prop} {XC : String → State → State → Prop} {free : Addr → Prop} {Ts : List Cond} {own C : String} {b : Addr} {As rest : List Value} {g : JFrame}
theorem vx_callBack (cb : CallB R s args own index y bytes maxL ret ws rm mc ms n) (hM : vx_Met l y ws rm Pc Qc XC mc ms free) (hbl : FrameBlind Pc) : vx_Back l R p e below s args y 3 8 (PreOf R mc ms Pc) (PostOf Qc mc ms free) (vx_Post XC mc ms free) := by
  obtain ⟨hrc, hrs, hfr, hlo, hws, hcw, -, hini, -⟩ := cb
  exact vx_back (bytes := bytes) (maxL := maxL) (ret := ret) hM hbl hrc hrs hfr hlo hws hcw (fun a' U hW => word_at hW (Or.inl (by first | rfl | simp [Cond.onTables, Cond.keeps, Cond.steady])) hini)
theorem vx_runV (S : CallFix p m c cc nL s args Ts own) (hM : vx_Met l y ws rm Pc Qc XC mc ms free) (cw : CallW R s args own C index y bytes maxL ret ws rm mc ms n) (hp : PreV s H C b Pc As)
    (hg : g.method = m) (hn : As.length = n) (hsize : g.locals.size = nL) (hstack : g.stack = As.reverse ++ .ref b :: rest) (hW : 2 * g.monitorRoom + (rest.map fun v => v.category).sum ≤ 8) (hdg : decode cc g.pc = .ok (.invokevirtual index, 3)) (hf : cells + mc ≤ R.cells ∧ slots + ms ≤ R.slots) :
    vx_Run p l e R s m args below meth c H locs cells slots mc ms g rest (Qc (Value.ref b :: As).toArray) XC free := by
  have hK : vx_Back l R p e below s args y 3 8 (PreOf R mc ms Pc) (PostOf Qc mc ms free) (vx_Post XC mc ms free) := vx_callBack cw.1 hM hp.1
  obtain ⟨⟨-, -, -, -, -, -, hcode, -, hy, hlen, hl⟩, hin, hse⟩ := cw
  obtain ⟨hx, hb, hml, ho, -⟩ := S
  obtain ⟨-, ⟨cellB, hcB, hoB, hclB⟩, hPc⟩ := hp
  intro T hT X
  rcases vx_callV X hx (C := C) (bytes := bytes) (maxL := maxL) (ret := ret) ho hl hin hse hcode hy hK (by rw [hT]; exact hcB) hoB hclB hg (hsize.trans hml.symm) (argsL := As) (rest := rest) (fun sig h => hn.trans (hlen sig h)) hstack hW (by rw [hb]; exact hdg)
    (fun vm₁ hW₁ => ⟨hf.1, hf.2, hPc (T.setVm vm₁) hT hW₁⟩) with ⟨v, vm₁, ⟨U', l2, c2, s2⟩, hW₁, X', ⟨g', mk, t, L, e1, e2, hq, h1, hL, h2, h3⟩, st⟩ | ⟨q, vm₁, ⟨U', l2, c2, s2⟩, hW₁, X', ⟨g', mk, t, L, E, ce, e1, e2, hq, hce, hcv, hcl, h1, hL, h2, h3⟩, st⟩
  · dsimp only [Pt.U, Pt.locs, Pt.cells, Pt.slots] at X' e1 e2 h1 h2 h3 st
    subst h1; subst h2; subst h3
    exact Or.inl ⟨v, (T.setVm vm₁).calling g' mk (Value.ref b :: As).toArray, t, U', L, hT, X', hL, e1, e2, hq, st⟩
  · dsimp only [Pt.U, Pt.locs, Pt.cells, Pt.slots] at X' e1 e2 h1 h2 h3 st hcl
    subst h1; subst h2; subst h3
    exact Or.inr ⟨q, (T.setVm vm₁).calling g' mk (Value.ref b :: As).toArray, t, U', L, E, ce, hT, X', hL, e1, e2, hq, hce, hcv, vx_cls hW₁ hcl, st⟩
theorem vx_runS (S : CallFix p m c cc nL s args Ts own) (hM : vx_Met l y ws rm Pc Qc XC mc ms free) (cw : CallB R s args own index y bytes maxL ret ws rm mc ms n ∧ (Cond.static y).before args s = true) (hp : PreS s H Pc As)
    (hg : g.method = m) (hn : As.length = n) (hsize : g.locals.size = nL) (hstack : g.stack = As.reverse ++ rest) (hW : 2 * g.monitorRoom + (rest.map fun v => v.category).sum ≤ 8) (hdg : decode cc g.pc = .ok (.invokestatic index, 3)) (hf : cells + mc ≤ R.cells ∧ slots + ms ≤ R.slots) :
    vx_Run p l e R s m args below meth c H locs cells slots mc ms g rest (Qc As.toArray) XC free := by
  have hK : vx_Back l R p e below s args y 3 8 (PreOf R mc ms Pc) (PostOf Qc mc ms free) (vx_Post XC mc ms free) := vx_callBack cw.1 hM hp.1
  obtain ⟨⟨-, -, -, -, -, -, hcode, hini, hy, hlen, hl⟩, hstt⟩ := cw
  obtain ⟨hx, hb, hml, ho, -⟩ := S
  intro T hT X
  rcases vx_callS X hx (bytes := bytes) (maxL := maxL) (ret := ret) ho hl hstt hini hcode hy hK hg (hsize.trans hml.symm) (argsL := As) (rest := rest) (fun sig h => hn.trans (hlen sig h)) hstack hW (by rw [hb]; exact hdg)
    (fun vm₁ hW₁ => ⟨hf.1, hf.2, hp.2 (T.setVm vm₁) hT hW₁⟩) with ⟨v, vm₁, ⟨U', l2, c2, s2⟩, hW₁, X', ⟨g', mk, t, L, e1, e2, hq, h1, hL, h2, h3⟩, st⟩ | ⟨q, vm₁, ⟨U', l2, c2, s2⟩, hW₁, X', ⟨g', mk, t, L, E, ce, e1, e2, hq, hce, hcv, hcl, h1, hL, h2, h3⟩, st⟩
  · dsimp only [Pt.U, Pt.locs, Pt.cells, Pt.slots] at X' e1 e2 h1 h2 h3 st
    subst h1; subst h2; subst h3
    exact Or.inl ⟨v, (T.setVm vm₁).calling g' mk As.toArray, t, U', L, hT, X', hL, e1, e2, hq, st⟩
  · dsimp only [Pt.U, Pt.locs, Pt.cells, Pt.slots] at X' e1 e2 h1 h2 h3 st hcl
    subst h1; subst h2; subst h3
    exact Or.inr ⟨q, (T.setVm vm₁).calling g' mk As.toArray, t, U', L, E, ce, hT, X', hL, e1, e2, hq, hce, hcv, vx_cls hW₁ hcl, st⟩
end Runs
section Rows
variable {p : Program} {l : Launch} {e : Env} {R : Room} {s : State} {m : MethodId} {args : Array Value} {below : List Frame} {meth : Method} {c : Code} {H : Heap} {locs : List Loc} {cells slots : Nat} {Q : State → Prop}
variable {mc ms : Nat} {free : Addr → Prop} {A0 A1 : Nat → Prop} {H0 : Heap} {a : Array Value} {pc : Nat} {ls : Array Slot} {st0 rest : List Value}
theorem vx_keep {st₀ t T' : State} {L : List Loc} (h0 : st₀.heap = H) (e1 : T'.heap = t.heap) (hS : va_S A0 H0 H locs) (hA : ∀ q, q < H.size → A1 q → A0 q) (hf : ∀ q, free q → A0 q) (hL : ∀ q ∈ L, free q.base) (hF : va_F A1 st₀ t) :
    H.size ≤ T'.heap.size ∧ (∀ q : Nat, q < H.size → ¬ A1 q → T'.heap[q]? = H[q]?) ∧ va_S A0 H0 T'.heap (locs ++ L) := by
  obtain ⟨hz, hk⟩ := hF
  rw [h0] at hz hk
  exact ⟨by rw [e1]; exact hz, fun q h1 h2 => by rw [e1]; exact hk q h1 h2,
    ⟨Nat.le_trans hS.1 (by rw [e1]; exact hz), fun q h1 h2 => by rw [e1, hk q (Nat.lt_of_lt_of_le h1 hS.1) (fun z => h2 (hA q (Nat.lt_of_lt_of_le h1 hS.1) z))]; exact hS.2.1 q h1 h2, fun q hq => by
      rcases List.mem_append.mp hq with h | h
      · exact hS.2.2 q h
      · exact hf _ (hL q h)⟩⟩
theorem vx_calli {S SX : Type} {post : Int32 → S → Prop} {px : SX → Prop} {B : S → State → Prop} {BX : String → SX → State → Prop} {AX : Nat → Prop} (hr : vx_Run p l e R s m args below meth c H locs cells slots mc ms (F0 m pc ls st0) rest (va_Qi post B A1 a) (vx_X px BX AX) free) (hS : va_S A0 H0 H locs) (hA : ∀ q, q < H.size → A1 q → A0 q) (hf : ∀ q, free q → A0 q) (hAX : ∀ q, q < H.size → AX q → A0 q)
    (kx : ∀ (E : String) (ce : Cell) (q9 : Addr) (u : SX) (t : State) (H1 : Heap) (locs1 : List Loc), t.heap = H1 → s.vm.Alike t.vm → px u → BX E u t → H.size ≤ H1.size → (∀ q : Nat, q < H.size → ¬ AX q → H1[q]? = H[q]?) → va_S A0 H0 H1 locs1 → H1[q9]? = some ce → ce.vm = .none → s.vm.findClass E = some ce.cls → vx_W p l e R s m args below meth c H1 locs1 (cells + mc) (slots + ms) Q (F0 m pc ls rest) q9)
    (kk : ∀ (r : Int32) (u : S) (t : State) (H1 : Heap) (locs1 : List Loc), t.heap = H1 → s.vm.Alike t.vm → post r u → B u t → H.size ≤ H1.size → (∀ q : Nat, q < H.size → ¬ A1 q → H1[q]? = H[q]?) → va_S A0 H0 H1 locs1 → W p l e R s m args below meth c H1 locs1 (cells + mc) (slots + ms) Q (F0 m (pc + 3) ls (.int r :: rest))) : W p l e R s m args below meth c H locs cells slots Q (F0 m pc ls st0) := by
  intro T hT X
  rcases hr T hT X with ⟨v, st₀, t, T', L, h0, X', hL, e1, e2, ⟨⟨r, u, hv, hp, hb⟩, hF⟩, st⟩ | ⟨q, st₀, t, T', L, E, ce, h0, X', hL, e1, e2, ⟨u, hp, hb, hF⟩, hce, hcv, hcl, st⟩
  · cases hv
    obtain ⟨k1, k2, k3⟩ := vx_keep h0 e1 hS hA hf hL hF
    obtain ⟨t2, a1, b1⟩ := kk r u t T'.heap (locs ++ L) e1.symm (by rw [← e2]; exact X'.warmed.alike) hp hb k1 k2 k3 T' rfl X'
    exact ⟨t2, st t2 a1, b1⟩
  · obtain ⟨k1, k2, k3⟩ := vx_keep h0 e1 hS hAX hf hL hF
    obtain ⟨t2, a1, b1⟩ := kx E ce q u t T'.heap (locs ++ L) e1.symm (by rw [← e2]; exact X'.warmed.alike) hp hb k1 k2 k3 (by rw [e1]; exact hce) hcv hcl T' rfl X'
    exact ⟨t2, st.trans a1, b1⟩
theorem vx_calll {S SX : Type} {post : Int64 → S → Prop} {px : SX → Prop} {B : S → State → Prop} {BX : String → SX → State → Prop} {AX : Nat → Prop} (hr : vx_Run p l e R s m args below meth c H locs cells slots mc ms (F0 m pc ls st0) rest (va_Ql post B A1 a) (vx_X px BX AX) free) (hS : va_S A0 H0 H locs) (hA : ∀ q, q < H.size → A1 q → A0 q) (hf : ∀ q, free q → A0 q) (hAX : ∀ q, q < H.size → AX q → A0 q)
    (kx : ∀ (E : String) (ce : Cell) (q9 : Addr) (u : SX) (t : State) (H1 : Heap) (locs1 : List Loc), t.heap = H1 → s.vm.Alike t.vm → px u → BX E u t → H.size ≤ H1.size → (∀ q : Nat, q < H.size → ¬ AX q → H1[q]? = H[q]?) → va_S A0 H0 H1 locs1 → H1[q9]? = some ce → ce.vm = .none → s.vm.findClass E = some ce.cls → vx_W p l e R s m args below meth c H1 locs1 (cells + mc) (slots + ms) Q (F0 m pc ls rest) q9)
    (kk : ∀ (r : Int64) (u : S) (t : State) (H1 : Heap) (locs1 : List Loc), t.heap = H1 → s.vm.Alike t.vm → post r u → B u t → H.size ≤ H1.size → (∀ q : Nat, q < H.size → ¬ A1 q → H1[q]? = H[q]?) → va_S A0 H0 H1 locs1 → W p l e R s m args below meth c H1 locs1 (cells + mc) (slots + ms) Q (F0 m (pc + 3) ls (.long r :: rest))) : W p l e R s m args below meth c H locs cells slots Q (F0 m pc ls st0) := by
  intro T hT X
  rcases hr T hT X with ⟨v, st₀, t, T', L, h0, X', hL, e1, e2, ⟨⟨r, u, hv, hp, hb⟩, hF⟩, st⟩ | ⟨q, st₀, t, T', L, E, ce, h0, X', hL, e1, e2, ⟨u, hp, hb, hF⟩, hce, hcv, hcl, st⟩
  · cases hv
    obtain ⟨k1, k2, k3⟩ := vx_keep h0 e1 hS hA hf hL hF
    obtain ⟨t2, a1, b1⟩ := kk r u t T'.heap (locs ++ L) e1.symm (by rw [← e2]; exact X'.warmed.alike) hp hb k1 k2 k3 T' rfl X'
    exact ⟨t2, st t2 a1, b1⟩
  · obtain ⟨k1, k2, k3⟩ := vx_keep h0 e1 hS hAX hf hL hF
    obtain ⟨t2, a1, b1⟩ := kx E ce q u t T'.heap (locs ++ L) e1.symm (by rw [← e2]; exact X'.warmed.alike) hp hb k1 k2 k3 (by rw [e1]; exact hce) hcv hcl T' rfl X'
    exact ⟨t2, st.trans a1, b1⟩
theorem vx_callf {S SX : Type} {post : UInt32 → S → Prop} {px : SX → Prop} {B : S → State → Prop} {BX : String → SX → State → Prop} {AX : Nat → Prop} (hr : vx_Run p l e R s m args below meth c H locs cells slots mc ms (F0 m pc ls st0) rest (va_Qf post B A1 a) (vx_X px BX AX) free) (hS : va_S A0 H0 H locs) (hA : ∀ q, q < H.size → A1 q → A0 q) (hf : ∀ q, free q → A0 q) (hAX : ∀ q, q < H.size → AX q → A0 q)
    (kx : ∀ (E : String) (ce : Cell) (q9 : Addr) (u : SX) (t : State) (H1 : Heap) (locs1 : List Loc), t.heap = H1 → s.vm.Alike t.vm → px u → BX E u t → H.size ≤ H1.size → (∀ q : Nat, q < H.size → ¬ AX q → H1[q]? = H[q]?) → va_S A0 H0 H1 locs1 → H1[q9]? = some ce → ce.vm = .none → s.vm.findClass E = some ce.cls → vx_W p l e R s m args below meth c H1 locs1 (cells + mc) (slots + ms) Q (F0 m pc ls rest) q9)
    (kk : ∀ (r : UInt32) (u : S) (t : State) (H1 : Heap) (locs1 : List Loc), t.heap = H1 → s.vm.Alike t.vm → post r u → B u t → H.size ≤ H1.size → (∀ q : Nat, q < H.size → ¬ A1 q → H1[q]? = H[q]?) → va_S A0 H0 H1 locs1 → W p l e R s m args below meth c H1 locs1 (cells + mc) (slots + ms) Q (F0 m (pc + 3) ls (.float r :: rest))) : W p l e R s m args below meth c H locs cells slots Q (F0 m pc ls st0) := by
  intro T hT X
  rcases hr T hT X with ⟨v, st₀, t, T', L, h0, X', hL, e1, e2, ⟨⟨r, u, hv, hp, hb⟩, hF⟩, st⟩ | ⟨q, st₀, t, T', L, E, ce, h0, X', hL, e1, e2, ⟨u, hp, hb, hF⟩, hce, hcv, hcl, st⟩
  · cases hv
    obtain ⟨k1, k2, k3⟩ := vx_keep h0 e1 hS hA hf hL hF
    obtain ⟨t2, a1, b1⟩ := kk r u t T'.heap (locs ++ L) e1.symm (by rw [← e2]; exact X'.warmed.alike) hp hb k1 k2 k3 T' rfl X'
    exact ⟨t2, st t2 a1, b1⟩
  · obtain ⟨k1, k2, k3⟩ := vx_keep h0 e1 hS hAX hf hL hF
    obtain ⟨t2, a1, b1⟩ := kx E ce q u t T'.heap (locs ++ L) e1.symm (by rw [← e2]; exact X'.warmed.alike) hp hb k1 k2 k3 (by rw [e1]; exact hce) hcv hcl T' rfl X'
    exact ⟨t2, st.trans a1, b1⟩
theorem vx_calld {S SX : Type} {post : UInt64 → S → Prop} {px : SX → Prop} {B : S → State → Prop} {BX : String → SX → State → Prop} {AX : Nat → Prop} (hr : vx_Run p l e R s m args below meth c H locs cells slots mc ms (F0 m pc ls st0) rest (va_Qd post B A1 a) (vx_X px BX AX) free) (hS : va_S A0 H0 H locs) (hA : ∀ q, q < H.size → A1 q → A0 q) (hf : ∀ q, free q → A0 q) (hAX : ∀ q, q < H.size → AX q → A0 q)
    (kx : ∀ (E : String) (ce : Cell) (q9 : Addr) (u : SX) (t : State) (H1 : Heap) (locs1 : List Loc), t.heap = H1 → s.vm.Alike t.vm → px u → BX E u t → H.size ≤ H1.size → (∀ q : Nat, q < H.size → ¬ AX q → H1[q]? = H[q]?) → va_S A0 H0 H1 locs1 → H1[q9]? = some ce → ce.vm = .none → s.vm.findClass E = some ce.cls → vx_W p l e R s m args below meth c H1 locs1 (cells + mc) (slots + ms) Q (F0 m pc ls rest) q9)
    (kk : ∀ (r : UInt64) (u : S) (t : State) (H1 : Heap) (locs1 : List Loc), t.heap = H1 → s.vm.Alike t.vm → post r u → B u t → H.size ≤ H1.size → (∀ q : Nat, q < H.size → ¬ A1 q → H1[q]? = H[q]?) → va_S A0 H0 H1 locs1 → W p l e R s m args below meth c H1 locs1 (cells + mc) (slots + ms) Q (F0 m (pc + 3) ls (.double r :: rest))) : W p l e R s m args below meth c H locs cells slots Q (F0 m pc ls st0) := by
  intro T hT X
  rcases hr T hT X with ⟨v, st₀, t, T', L, h0, X', hL, e1, e2, ⟨⟨r, u, hv, hp, hb⟩, hF⟩, st⟩ | ⟨q, st₀, t, T', L, E, ce, h0, X', hL, e1, e2, ⟨u, hp, hb, hF⟩, hce, hcv, hcl, st⟩
  · cases hv
    obtain ⟨k1, k2, k3⟩ := vx_keep h0 e1 hS hA hf hL hF
    obtain ⟨t2, a1, b1⟩ := kk r u t T'.heap (locs ++ L) e1.symm (by rw [← e2]; exact X'.warmed.alike) hp hb k1 k2 k3 T' rfl X'
    exact ⟨t2, st t2 a1, b1⟩
  · obtain ⟨k1, k2, k3⟩ := vx_keep h0 e1 hS hAX hf hL hF
    obtain ⟨t2, a1, b1⟩ := kx E ce q u t T'.heap (locs ++ L) e1.symm (by rw [← e2]; exact X'.warmed.alike) hp hb k1 k2 k3 (by rw [e1]; exact hce) hcv hcl T' rfl X'
    exact ⟨t2, st.trans a1, b1⟩
theorem vx_callv {S SX : Type} {post : S → Prop} {px : SX → Prop} {B : S → State → Prop} {BX : String → SX → State → Prop} {AX : Nat → Prop} (hr : vx_Run p l e R s m args below meth c H locs cells slots mc ms (F0 m pc ls st0) rest (va_Qv post B A1 a) (vx_X px BX AX) free) (hS : va_S A0 H0 H locs) (hA : ∀ q, q < H.size → A1 q → A0 q) (hf : ∀ q, free q → A0 q) (hAX : ∀ q, q < H.size → AX q → A0 q)
    (kx : ∀ (E : String) (ce : Cell) (q9 : Addr) (u : SX) (t : State) (H1 : Heap) (locs1 : List Loc), t.heap = H1 → s.vm.Alike t.vm → px u → BX E u t → H.size ≤ H1.size → (∀ q : Nat, q < H.size → ¬ AX q → H1[q]? = H[q]?) → va_S A0 H0 H1 locs1 → H1[q9]? = some ce → ce.vm = .none → s.vm.findClass E = some ce.cls → vx_W p l e R s m args below meth c H1 locs1 (cells + mc) (slots + ms) Q (F0 m pc ls rest) q9)
    (kk : ∀ (u : S) (t : State) (H1 : Heap) (locs1 : List Loc), t.heap = H1 → s.vm.Alike t.vm → post u → B u t → H.size ≤ H1.size → (∀ q : Nat, q < H.size → ¬ A1 q → H1[q]? = H[q]?) → va_S A0 H0 H1 locs1 → W p l e R s m args below meth c H1 locs1 (cells + mc) (slots + ms) Q (F0 m (pc + 3) ls (rest))) : W p l e R s m args below meth c H locs cells slots Q (F0 m pc ls st0) := by
  intro T hT X
  rcases hr T hT X with ⟨v, st₀, t, T', L, h0, X', hL, e1, e2, ⟨⟨u, hv, hp, hb⟩, hF⟩, st⟩ | ⟨q, st₀, t, T', L, E, ce, h0, X', hL, e1, e2, ⟨u, hp, hb, hF⟩, hce, hcv, hcl, st⟩
  · cases hv
    obtain ⟨k1, k2, k3⟩ := vx_keep h0 e1 hS hA hf hL hF
    obtain ⟨t2, a1, b1⟩ := kk u t T'.heap (locs ++ L) e1.symm (by rw [← e2]; exact X'.warmed.alike) hp hb k1 k2 k3 T' rfl X'
    exact ⟨t2, st t2 a1, b1⟩
  · obtain ⟨k1, k2, k3⟩ := vx_keep h0 e1 hS hAX hf hL hF
    obtain ⟨t2, a1, b1⟩ := kx E ce q u t T'.heap (locs ++ L) e1.symm (by rw [← e2]; exact X'.warmed.alike) hp hb k1 k2 k3 (by rw [e1]; exact hce) hcv hcl T' rfl X'
    exact ⟨t2, st.trans a1, b1⟩
/-- caught by the row x of this method's table; the rows ahead don't take it -/
theorem vx_catch {own name : String} {E : String} {ce : Cell} {q : Addr} (hown : s.vm.findClass own = some m.cls) (pre : List ExceptionTableEntry) (x : ExceptionTableEntry) (suf : List ExceptionTableEntry) (hsplit : c.exceptionTable.toList = pre ++ x :: suf)
    (hpass : ∀ z ∈ pre, covers z pc = false ∨ (z.catchType ≠ 0 ∧ ∃ nm : String, (Cond.classLink own z.catchType nm).before args s = true ∧ va_Nc E nm s)) (hx : covers x pc = true) (h0 : x.catchType ≠ 0)
    (hlink : (Cond.classLink own x.catchType name).before args s = true) (hcast : (Cond.castable E name).before args s = true) (hcell : H[q]? = some ce) (hv : ce.vm = .none) (hcl : s.vm.findClass E = some ce.cls)
    (kk : W p l e R s m args below meth c H locs cells slots Q (F0 m x.handlerPc ls [.ref q])) : vx_W p l e R s m args below meth c H locs cells slots Q (F0 m pc ls rest) q := by
  intro T hT X
  have hpl : e.platform.magicAccessors = ({} : Platform).magicAccessors := by rw [X.admits.platform]
  obtain ⟨c3, c4, hc3, hc4, hasg⟩ := Cond.castable_spec hcast
  cases Option.some.inj (hc3.symm.trans hcl)
  obtain ⟨c5, hc5, hcl5⟩ := Cond.classLink_spec hown hlink e.platform hpl
  cases Option.some.inj (hc4.symm.trans hc5)
  obtain ⟨vm', X', st⟩ := X.thenCaughtThrough q (g := F0 m pc ls rest) rfl (Steps.refl _) (by rw [hT]; exact hcell) (by rw [hv]; rfl) (by obtain ⟨k9, h9, -⟩ := Vm.findClass_spec hcl; exact ⟨k9, h9⟩) pre x suf hsplit
    (fun z hz => by
      rcases hpass z hz with h | ⟨hz0, nm, hl1, hn1⟩
      · exact Or.inl h
      · obtain ⟨c6, hc6, hcl6⟩ := Cond.classLink_spec hown hl1 e.platform hpl
        obtain ⟨a8, b8, h1, h2, h3⟩ := hn1
        cases Option.some.inj (h1.symm.trans hcl)
        cases Option.some.inj (h2.symm.trans hc6)
        exact Or.inr ⟨hz0, _, hcl6, h3⟩) hx (Or.inr ⟨h0, c4, hcl5, hasg⟩)
  obtain ⟨t, a1, b1⟩ := kk (T.setVm vm') hT X'
  exact ⟨t, st.trans a1, b1⟩
end Rows
section Ends
variable {p : Program} {l : Launch} {e : Env} {R : Room} {s : State} {m : MethodId} {args : Array Value} {below : List Frame} {meth : Method} {c : Code} {H : Heap} {locs : List Loc} {cells slots : Nat} {Q : State → Prop}
variable {mc ms : Nat} {free : Addr → Prop} {A0 A1 : Nat → Prop} {H0 : Heap} {a : Array Value} {ls : Array Slot} {st0 rest : List Value}
variable {Qc : Array Value → State → Outcome → State → Prop} {XC : String → State → State → Prop}
/-- what a body that may throw owes at its end -/
def vx_MQ (below : List Frame) (Qc : Array Value → State → Outcome → State → Prop) (XC : String → State → State → Prop) (a : Array Value) (s : State) (mc ms : Nat) (free : Addr → Prop) : State → Prop := fun t =>
  ∃ o, t.status = .running ∧ Ended t below o ∧ vx_Q Qc XC mc ms free a s o t
theorem vx_ret {g : JFrame} {mc ms : Nat} (k : W p l e R s m args below meth c H locs cells slots (MQ below Qc args s mc ms free) g) : W p l e R s m args below meth c H locs cells slots (vx_MQ below Qc XC args s mc ms free) g := by
  intro T hT X
  obtain ⟨t, a1, o, b1, b2, b3, b4⟩ := k T hT X
  exact ⟨t, a1, o, b1, b2, Or.inl ⟨b3, b4⟩⟩
/-- not caught here: it goes on to the caller -/
theorem vx_widen {g : JFrame} {q : Addr} {k n : Nat} (h1 : cells ≤ k) (h2 : slots ≤ n) (kk : vx_W p l e R s m args below meth c H locs k n Q g q) : vx_W p l e R s m args below meth c H locs cells slots Q g q := fun T hT X => kk T hT (stand_widen X h1 h2)
theorem vx_out {pc : Nat} {E : String} {ce : Cell} {q : Addr} {mc ms : Nat} (hout : ∀ x ∈ c.exceptionTable.toList, covers x pc = false) (hlocks : meth.locks = false) (hcell : H[q]? = some ce) (hv : ce.vm = .none) (hcl : s.vm.findClass E = some ce.cls)
    (hx : ∀ t : State, t.heap = H → s.vm.Alike t.vm → XC E s t) (hf : ∀ z ∈ locs, free z.base) (hc : cells ≤ mc) (hs : slots ≤ ms) :
    vx_W p l e R s m args below meth c H locs cells slots (vx_MQ below Qc XC args s mc ms free) (F0 m pc ls rest) q := by
  intro T hT X
  obtain ⟨st1, hrun, hend, hW, hsm⟩ := X.leaveThrown q (g := F0 m pc ls rest) rfl rfl rfl hout hlocks
  have hcell9 : (T.setFrames (.throwing q :: below)).heap[q]? = some ce := by
    show T.heap[q]? = some ce
    rw [hT]; exact hcell
  exact ⟨_, st1, .threw q, hrun, hend, Or.inr ⟨q, rfl, E, ce, locs, hx _ hT hW.alike, hcell9, hv, hcl, hW, hsm.mono hc hs, hf⟩⟩
theorem vx_frame {U : State} {k n : Nat} (h : s.sameButNew ({ U with vm := s.vm } : State) locs k n) : s.heap.size ≤ U.heap.size ∧ ∀ q : Nat, q < s.heap.size → (∀ z ∈ locs, z.base ≠ q) → U.heap[q]? = s.heap[q]? := by
  obtain ⟨-, h2, -, -, -, h6⟩ := h
  refine ⟨h2, fun q hq hz => ?_⟩
  obtain ⟨c9, e1, e2, e3, e4⟩ := h6 q _ (Array.getElem?_eq_getElem hq)
  have hs : c9.slots = (s.heap[q]).slots := Array.ext_getElem? fun i => e4 i fun hm => hz _ hm rfl
  have h9 : c9 = s.heap[q] := by
    rw [hs] at e2
    exact e2
  have e5 : U.heap[q]? = some c9 := e1
  rw [e5, h9, Array.getElem?_eq_getElem hq]
/-- the words of a throw but the four that speak of the heap -/
def vx_no (w : Cond) : Bool := decide (w ≠ .isRef (.static Bundle.tN "UNASSIGNED_STACK" Bundle.steD)) && decide (w ≠ .isRef (.static Bundle.tN "SUPPRESSED_SENTINEL" Bundle.listD)) && decide (w ≠ .laysStatic Bundle.tN "UNASSIGNED_STACK" Bundle.steD) && decide (w ≠ .laysStatic Bundle.tN "SUPPRESSED_SENTINEL" Bundle.listD)
def vx_at0 (own : String) (ic : Nat) (X : String) (names : List String) : List Cond := (Bundle.ownAtoms0 own ic X names).filter vx_no
def vx_atS (own : String) (ic : Nat) (X : String) (names : List String) : List Cond := (Bundle.ownAtoms own ic X names).filter vx_no
/-- a word that the tables alone decide, or a good one -/
def vx_ot (w : Cond) : Bool := w.onTables || goodWord w
theorem vx_ot_at {args a' : Array Value} {s U : State} {w : Cond} (hW : s.WarmedH U.vm) (hvm : s.vm = U.vm) (hg : vx_ot w = true) (h : w.before args s = true) : w.before a' U = true := by
  simp only [vx_ot, Bool.or_eq_true] at hg
  rcases hg with hg | hg
  · exact va_tabs hg hvm h
  · exact word_at hW (good_of_word hg) h
/-- a list's words: the good ones out of the method's own list, the others by premises of their own -/
theorem vx_hat {args : Array Value} {s : State} {L B : List Cond} (h1 : ∀ w ∈ L.filter goodWord, w.before args s = true) (h2 : ∀ w ∈ L.filter (fun w => !goodWord w), w ∈ B) (h3 : ∀ w ∈ B, w.before args s = true) : ∀ w ∈ L, w.before args s = true := by
  intro w hw
  by_cases g : goodWord w = true
  · exact h1 w (List.mem_filter.mpr ⟨hw, g⟩)
  · refine h3 w (h2 w (List.mem_filter.mpr ⟨hw, ?_⟩))
    show (!goodWord w) = true
    cases hgw : goodWord w
    · rfl
    · exact absurd hgw g
theorem vx_c {args : Array Value} {s : State} {w : Cond} {B : List Cond} (h : w.before args s = true) (t : ∀ w ∈ B, w.before args s = true) : ∀ w' ∈ w :: B, w'.before args s = true := fun w' h' => (List.mem_cons.mp h').elim (fun e => by rw [e]; exact h) (t w')
theorem vx_n {args : Array Value} {s : State} : ∀ w ∈ ([] : List Cond), w.before args s = true := fun _ h => nomatch h
theorem vx_own {args : Array Value} {s : State} {L : List Cond} (h1 : ∀ w ∈ L.filter vx_no, w.before args s = true)
    (hU : (Cond.isRef (.static Bundle.tN "UNASSIGNED_STACK" Bundle.steD)).before args s = true) (hN : (Cond.isRef (.static Bundle.tN "SUPPRESSED_SENTINEL" Bundle.listD)).before args s = true)
    (lU : (Cond.laysStatic Bundle.tN "UNASSIGNED_STACK" Bundle.steD).before args s = true) (lN : (Cond.laysStatic Bundle.tN "SUPPRESSED_SENTINEL" Bundle.listD).before args s = true) : ∀ w ∈ L, w.before args s = true := by
  intro w hw
  by_cases e1 : w = .isRef (.static Bundle.tN "UNASSIGNED_STACK" Bundle.steD)
  · rw [e1]; exact hU
  · by_cases e2 : w = .isRef (.static Bundle.tN "SUPPRESSED_SENTINEL" Bundle.listD)
    · rw [e2]; exact hN
    · by_cases e3 : w = .laysStatic Bundle.tN "UNASSIGNED_STACK" Bundle.steD
      · rw [e3]; exact lU
      · by_cases e4 : w = .laysStatic Bundle.tN "SUPPRESSED_SENTINEL" Bundle.listD
        · rw [e4]; exact lN
        · exact h1 w (List.mem_filter.mpr ⟨hw, by unfold vx_no; rw [decide_eq_true e1, decide_eq_true e2, decide_eq_true e3, decide_eq_true e4]; rfl⟩)
/-- where a static field lies, its class's statics cell in H -/
def vx_L (C n d : String) (A : Nat → Prop) (U : State) (H : Heap) : Prop := ∃ (c : ClassId) (k : Class) (i : Nat) (f : Field) (a : Nat) (cell : Cell), U.vm.findClass C = some c ∧ U.fieldFound? C n d = some (c, k, i, f) ∧ f.isStatic = true ∧ k.statics = some a ∧ H[a]? = some cell ∧ cell.vm.isStatics = true ∧ cell.cls = c ∧ f.slot < cell.slots.size ∧ k.staticTypes[f.slot]? = some f.type ∧ ¬ A a
theorem vx_L.moved {C n d : String} {A : Nat → Prop} {u U : State} {H : Heap} (hvm : u.vm.Alike U.vm) (h : vx_L C n d A u H) : vx_L C n d A U H := by
  obtain ⟨c, k, i, f, a, cell, h1, h2, h3, h4, h5, h6, h7, h8, h9, h10⟩ := h
  obtain ⟨k', hi', he⟩ := State.fieldFound?_setVm hvm h2
  exact ⟨c, k', i, f, a, cell, by rw [hvm.findClass]; exact h1, hi', h3, by rw [he]; exact h4, h5, h6, h7, h8, by rw [he]; exact h9, h10⟩
theorem vx_L.kept {C n d : String} {A : Nat → Prop} {U : State} {H H1 : Heap} (h : vx_L C n d A U H) (hq : ∀ a : Nat, a < H.size → ¬ A a → H1[a]? = H[a]?) : vx_L C n d A U H1 := by
  obtain ⟨c, k, i, f, a, cell, h1, h2, h3, h4, h5, h6, h7, h8, h9, h10⟩ := h
  exact ⟨c, k, i, f, a, cell, h1, h2, h3, h4, by rw [hq a (Array.getElem?_eq_some_iff.mp h5).1 h10]; exact h5, h6, h7, h8, h9, h10⟩
theorem vx_L.narrow {C n d : String} {A B : Nat → Prop} {U : State} {H : Heap} (h : vx_L C n d A U H) (hAB : ∀ q, B q → A q) : vx_L C n d B U H := by
  obtain ⟨c, k, i, f, a, cell, h1, h2, h3, h4, h5, h6, h7, h8, h9, h10⟩ := h
  exact ⟨c, k, i, f, a, cell, h1, h2, h3, h4, h5, h6, h7, h8, h9, fun z => h10 (hAB _ z)⟩
theorem vx_L.word {C n d : String} {A : Nat → Prop} {s : State} {args : Array Value} (h : vx_L C n d A s s.heap) : (Cond.laysStatic C n d).before args s = true := by
  obtain ⟨c, k, i, f, a, cell, h1, h2, h3, h4, h5, h6, h7, h8, h9, -⟩ := h
  show (Cond.laysStatic C n d).holds args s none s [] = true
  exact Cond.laysStatic_of h1 h2 h3 h4 h5 h6 h7 h8 h9
/-- .. and what it holds: null or some reference -/
def vx_Zq (C n d : String) (A : Nat → Prop) (U : State) (H : Heap) : Prop := va_Zq C n d A U H ∧ vx_L C n d A U H
theorem vx_Zq.moved {C n d : String} {A : Nat → Prop} {u U : State} {H : Heap} (hvm : u.vm.Alike U.vm) (h : vx_Zq C n d A u H) : vx_Zq C n d A U H := ⟨va_Zq.moved hvm h.1, vx_L.moved hvm h.2⟩
theorem vx_Zq.kept {C n d : String} {A : Nat → Prop} {U : State} {H H1 : Heap} (h : vx_Zq C n d A U H) (hq : ∀ a : Nat, a < H.size → ¬ A a → H1[a]? = H[a]?) : vx_Zq C n d A U H1 := ⟨va_Zq.kept h.1 hq, vx_L.kept h.2 hq⟩
theorem vx_Zq.narrow {C n d : String} {A B : Nat → Prop} {U : State} {H : Heap} (h : vx_Zq C n d A U H) (hAB : ∀ q, B q → A q) : vx_Zq C n d B U H := ⟨va_Zq.narrow h.1 hAB, vx_L.narrow h.2 hAB⟩
theorem vx_Zqof {args : Array Value} {s : State} {C n d : String} {A : Nat → Prop} (hl : (Cond.laysStatic C n d).before args s = true) (hini : (Cond.initialized C).before args s = true) (h : (Cond.isRef (.static C n d)).before args s = true) (hA : ∀ a : Nat, a < s.heap.size → ¬ A a) : vx_Zq C n d A s s.heap := by
  refine ⟨va_Zqof hl hini h hA, ?_⟩
  obtain ⟨c, k, i, f, a, cell, h1, h2, h3, h4, h5, h6, h7, h8, h9⟩ := Cond.laysStatic_spec hl
  exact ⟨c, k, i, f, a, cell, h1, h2, h3, h4, h5, h6, h7, h8, h9, hA a (Array.getElem?_eq_some_iff.mp h5).1⟩
theorem vx_isRef {C n d : String} {v : Value} {A : Nat → Prop} {s : State} {args : Array Value} (h : va_Z C n d v A s s.heap) (hv : v.isRef = true) : (Cond.isRef (.static C n d)).before args s = true := by
  obtain ⟨cf, kf, fi, f, a, cell, h1, h2, h3, h4, h5, h6, h7, -⟩ := h
  have he : (Term.static C n d).eval args s none [] s = some v := by
    simp [Term.eval, State.fieldNamed?, h1, h2, h4, h5, h6, h7]
  simp only [Cond.before, Cond.holds, Cond.value, he]
  cases v <;> simp_all [Value.isRef]
theorem vx_isRefq {C n d : String} {A : Nat → Prop} {s : State} {args : Array Value} (h : va_Zq C n d A s s.heap) : (Cond.isRef (.static C n d)).before args s = true := by
  rcases h with h | ⟨t, h⟩
  · exact vx_isRef h rfl
  · exact vx_isRef h rfl
/-- the same frame, seen from here: as if the method were called anew in this heap -/
theorem vx_rebase {T : State} (X : Stand p l e R s m args below meth c T locs cells slots) {R' : Room} (hf : R'.frames ≤ R.frames) (hl : R'.locals ≤ R.locals) (hc : cells + R'.cells ≤ R.cells) (hs : slots + R'.slots ≤ R.slots) :
    Stand p l e R' ((T.setVm s.vm).setFrames (.invoking m args :: below)) m args below meth c T [] 0 0 := by
  have htop : (T.setVm s.vm).topJava?.isSome := X.here.top
  have hF : ((T.setVm s.vm).setFrames (.invoking m args :: below)).frames = .invoking m args :: below := State.frames_setFrames _ (State.cur_lt_of_top htop)
  obtain ⟨g₀, hg0⟩ := Option.isSome_iff_exists.mp htop
  obtain ⟨r, hr⟩ := State.topJava?_eq_some.mp hg0
  have hl9 : e.platform.stackLimits (T.setVm s.vm).me = e.platform.stackLimits s.me := X.limits
  have hb9 : (T.setVm s.vm).me.stackBytes = s.me.stackBytes := X.bytes
  refine ⟨X.admits, X.cas, X.clock, hF, ?_, X.hears, X.method, X.code, X.here, X.tail, X.warmed, ?_, ?_, ?_⟩
  · have h := X.room
    have hU : ((T.setVm s.vm).setFrames (.invoking m args :: below)).localsInUse = s.localsInUse := by
      rw [State.localsInUse_invoking hF (meth := meth) (c := c) X.method X.code, State.localsInUse_invoking X.frames X.method X.code]
    simp only [State.hasRoom, Bool.and_eq_true, decide_eq_true_eq] at h ⊢
    obtain ⟨⟨⟨⟨h1, h2, h3, h4, h5, h6⟩, h7⟩, h8⟩, h9⟩ := h
    rw [X.frames, List.length_cons] at h2 h3
    have q1 := X.heapSize
    have q2 := X.used
    simp only [hF, hU, List.length_cons, State.stackLimits_setFrames, State.stackBytes_setFrames, hl9, hb9]
    refine ⟨⟨⟨⟨by omega, by omega, by omega, by omega, by omega, h6⟩, ?_⟩, ?_⟩, X.book⟩
    · show T.heap.size + R'.cells ≤ e.platform.maxCells
      omega
    · show T.slotsUsed + R'.slots ≤ e.platform.maxSlots
      omega
  · rw [State.stackLimits_setFrames]; rfl
  · rw [State.stackBytes_setFrames]; rfl
  · refine ⟨?_, Nat.le_refl _, Nat.le_refl _, ?_, ?_, fun a c9 h9 => ⟨c9, h9, rfl, rfl, fun _ _ => rfl⟩⟩
    · obtain ⟨t, ht, -⟩ := State.frames_cons hr
      show T.setVm s.vm = { ((T.setVm s.vm).setFrames (.invoking m args :: below)).setFrames (T.setVm s.vm).frames with heap := T.heap, slotsUsed := T.slotsUsed }
      rw [State.setFrames_setFrames, State.setFrames_self ht]
      rfl
    · show T.slotsUsed = T.slotsUsed + ((T.heap.toList.drop T.heap.size).map (·.slots.size)).sum
      rw [List.drop_eq_nil_of_le (Nat.le_of_eq Array.length_toList)]
      rfl
    · show ((T.heap.toList.drop T.heap.size).map (·.slots.size)).sum ≤ 0
      rw [List.drop_eq_nil_of_le (Nat.le_of_eq Array.length_toList)]
      exact Nat.le_refl _
/-- 'throw new E()': new; dup; invokespecial; athrow -/
theorem vx_throw0 {cc : ByteArray} {pc : Nat} (hexec : p.tables.exec = Jvm.exec) (hb : c.code = cc) (hl : l.stackTraces = false) {own cls : String} {names : List String} {ik ic mc ms : Nat} {A : Nat → Prop}
    (hown : s.vm.findClass own = some m.cls) (hcls : Bundle.fit cls = true) (hnames : ∀ n ∈ names, Bundle.fit n = true)
    (hk : (Cond.classLink own ik cls).before args s = true) (hini : (Cond.initialized cls).before args s = true) (hat : ∀ w ∈ vx_at0 own ic cls names, w.before args s = true)
    (hgood : ∀ w ∈ Cond.classLink own ik cls :: Cond.initialized cls :: vx_at0 own ic cls names, vx_ot w = true)
    (hU : vx_Zq Bundle.tN "UNASSIGNED_STACK" Bundle.steD A s s.heap) (hN : vx_Zq Bundle.tN "SUPPRESSED_SENTINEL" Bundle.listD A s s.heap) (hS : va_S A s.heap H locs) (hsize : ls.size = c.maxLocals)
    (d0 : decode cc pc = .ok (.new ik, 3)) (d3 : decode cc (pc + 3) = .ok (.dup, 1)) (d4 : decode cc (pc + 4) = .ok (.invokespecial ic, 3)) (d7 : decode cc (pc + 7) = .ok (.athrow, 1))
    (hout : ∀ x ∈ c.exceptionTable.toList, covers x (pc + 7) = false)
    (hRframes : names.length + 3 < R.frames) (hRlocals : (rest.map fun v => v.category).sum + (13 * (names.length + 1) + 42) ≤ R.locals) (hRcells : cells + 1 ≤ R.cells) (hRslots : slots + 6 ≤ R.slots) (hlocks : meth.locks = false)
    (hx : ∀ t : State, s.vm.Alike t.vm → H.size ≤ t.heap.size → (∀ q : Nat, q < H.size → t.heap[q]? = H[q]?) → XC cls s t)
    (hf : ∀ z ∈ locs, free z.base) (hc : cells + 1 ≤ mc) (hs : slots + 6 ≤ ms) :
    W p l e R s m args below meth c H locs cells slots (vx_MQ below Qc XC args s mc ms free) (F0 m pc ls rest) := by
  intro T hT X
  have htr : e.platform.stackTraces = false := (show e.platform.stackTraces = l.stackTraces by rw [X.admits.platform]).trans hl
  have Y := vx_rebase X (R' := { frames := R.frames, locals := R.locals, cells := 1, slots := 6 }) (Nat.le_refl _) (Nat.le_refl _) hRcells hRslots
  obtain ⟨s', hA⟩ : ∃ z, z = (T.setVm s.vm).setFrames (.invoking m args :: below) := ⟨_, rfl⟩
  rw [← hA] at Y
  have hvm : s'.vm = s.vm := by rw [hA]; rfl
  have hhp : s'.heap = H := by rw [hA]; exact hT
  have hW0 : s.WarmedH s'.vm := by rw [hvm]; exact State.WarmedH.refl s
  have hat' : ∀ w ∈ vx_at0 own ic cls names, w.before args s' = true := fun w hw => vx_ot_at hW0 hvm.symm (hgood w (List.mem_cons_of_mem _ (List.mem_cons_of_mem _ hw))) (hat w hw)
  have hk' : (Cond.classLink own ik cls).before args s' = true := vx_ot_at hW0 hvm.symm (hgood _ List.mem_cons_self) hk
  have hini' : (Cond.initialized cls).before args s' = true := vx_ot_at hW0 hvm.symm (hgood _ (List.mem_cons_of_mem _ List.mem_cons_self)) hini
  have hU' : vx_Zq Bundle.tN "UNASSIGNED_STACK" Bundle.steD A s' s'.heap := by rw [hhp]; exact vx_Zq.moved hW0.alike (hU.kept hS.2.1)
  have hN' : vx_Zq Bundle.tN "SUPPRESSED_SENTINEL" Bundle.listD A s' s'.heap := by rw [hhp]; exact vx_Zq.moved hW0.alike (hN.kept hS.2.1)
  have h : ∀ w ∈ Bundle.ownAtoms0 own ic cls names, w.before args s' = true := vx_own hat' (vx_isRefq hU'.1) (vx_isRefq hN'.1) hU'.2.word hN'.2.word
  have hown' : s'.vm.findClass own = some m.cls := by rw [hvm]; exact hown
  have hins : (Cond.instantiable cls 6).before args s' = true := h _ (by simp [Bundle.ownAtoms0])
  obtain ⟨vm₁, cX, kX, hfX, hkX, -, -, X₁, st1⟩ := Y.newCold hexec (own := own) (C := cls) (index := ik) (n := 6) hown' hk' hins hini'
    (g := F0 m pc ls rest) rfl (by rw [hb]; exact d0) (Nat.le_refl _) (Nat.le_refl _)
  generalize hT1 : (T.setVm vm₁).pushCell { cls := cX, slots := kX.instanceTypes.map defaultValue, vm := .none } = T1 at X₁ st1
  have hcat : (Value.ref T.heap.size).category = 1 := rfl
  have hcellA : T1.heap[T.heap.size]? = some (freshCell cX kX) := by rw [← hT1]; exact State.heap_pushCell_size _ _
  have d3' : decode c.code (pc + 3) = .ok (.dup, 1) := by rw [hb]; exact d3
  obtain ⟨U, hsteps, hrun, hend, hW, hsame, ce, hce, hO⟩ := X₁.ctorThrow0 hexec htr (own := own) (cls := cls) (names := names) (ic := ic) hown' hcls hnames h (fun x hx => nomatch hx) hfX hkX hcellA (by rw [hhp, hT]; exact Nat.le_refl _)
    (g := { method := m, pc := pc + 4, locals := ls, stack := .ref T.heap.size :: .ref T.heap.size :: rest, locked := none }) rfl hsize rfl rfl (rest := rest) rfl
    (by rw [hb]; exact d4) (by rw [hb]; exact d7) hout hRframes (by simp only [List.map_cons, List.sum_cons, hcat]; omega) hlocks
  obtain ⟨f1, f2⟩ := vx_frame hsame
  rw [hhp] at f1 f2
  have hWs : s.WarmedH U.vm := State.WarmedH.trans hW0 hW
  have hcl : s.vm.findClass cls = some ce.cls := by
    have h9 := hO.cls
    rw [hvm] at h9
    exact h9
  have hall : s.sameButNew ({ U with vm := s.vm } : State) locs mc ms := by
    subst hA
    obtain ⟨e1, e2⟩ := hsame
    rw [State.setFrames_setFrames] at e1
    have h2 : (T.setVm s.vm).sameButNew ({ U with vm := s.vm } : State) [] (0 + 1) (0 + 6) := ⟨e1, e2⟩
    have h3 := X.same.trans h2
    rw [List.append_nil] at h3
    exact h3.mono hc hs
  refine ⟨U, ?_, .threw T.heap.size, hrun, hend, Or.inr ⟨T.heap.size, rfl, cls, ce, locs, hx U hWs.alike f1 (fun q hq => f2 q hq (fun z hz => nomatch hz)), hce, hO.vm, hcl, hWs, hall, hf⟩⟩
  refine st1 _ ?_
  show Steps p.tables e below (T1.setTop { method := m, pc := pc + 3, locals := ls, stack := .ref T.heap.size :: rest, locked := none }) _
  jvm_step X₁.here [X₁.here.top, hexec, d3', Value.category]
  exact hsteps
/-- 'throw new E("text")': new; dup; ldc; invokespecial; athrow -/
theorem vx_throwS {cc : ByteArray} {pc : Nat} (hexec : p.tables.exec = Jvm.exec) (hb : c.code = cc) (hl : l.stackTraces = false) {own cls text : String} {names : List String} {ik is ic mc ms sa : Nat} {A : Nat → Prop}
    (hown : s.vm.findClass own = some m.cls) (hcls : Bundle.fit cls = true) (hnames : ∀ n ∈ names, Bundle.fit n = true)
    (hk : (Cond.classLink own ik cls).before args s = true) (hini : (Cond.initialized cls).before args s = true) (hstr : vk_R own is text sa s) (hat : ∀ w ∈ vx_atS own ic cls names, w.before args s = true)
    (hgood : ∀ w ∈ Cond.classLink own ik cls :: Cond.initialized cls :: vx_atS own ic cls names, vx_ot w = true)
    (hU : vx_Zq Bundle.tN "UNASSIGNED_STACK" Bundle.steD A s s.heap) (hN : vx_Zq Bundle.tN "SUPPRESSED_SENTINEL" Bundle.listD A s s.heap) (hS : va_S A s.heap H locs) (hsize : ls.size = c.maxLocals)
    (d0 : decode cc pc = .ok (.new ik, 3)) (d3 : decode cc (pc + 3) = .ok (.dup, 1)) (d4 : decode cc (pc + 4) = .ok (.ldc is, 2)) (d6 : decode cc (pc + 6) = .ok (.invokespecial ic, 3)) (d9 : decode cc (pc + 9) = .ok (.athrow, 1))
    (hout : ∀ x ∈ c.exceptionTable.toList, covers x (pc + 9) = false)
    (hRframes : names.length + 3 < R.frames) (hRlocals : (rest.map fun v => v.category).sum + (13 * (names.length + 1) + 43) ≤ R.locals) (hRcells : cells + 1 ≤ R.cells) (hRslots : slots + 6 ≤ R.slots) (hlocks : meth.locks = false)
    (hx : ∀ t : State, s.vm.Alike t.vm → H.size ≤ t.heap.size → (∀ q : Nat, q < H.size → t.heap[q]? = H[q]?) → XC cls s t)
    (hf : ∀ z ∈ locs, free z.base) (hc : cells + 1 ≤ mc) (hs : slots + 6 ≤ ms) :
    W p l e R s m args below meth c H locs cells slots (vx_MQ below Qc XC args s mc ms free) (F0 m pc ls rest) := by
  intro T hT X
  have htr : e.platform.stackTraces = false := (show e.platform.stackTraces = l.stackTraces by rw [X.admits.platform]).trans hl
  have Y := vx_rebase X (R' := { frames := R.frames, locals := R.locals, cells := 1, slots := 6 }) (Nat.le_refl _) (Nat.le_refl _) hRcells hRslots
  obtain ⟨s', hA⟩ : ∃ z, z = (T.setVm s.vm).setFrames (.invoking m args :: below) := ⟨_, rfl⟩
  rw [← hA] at Y
  have hvm : s'.vm = s.vm := by rw [hA]; rfl
  have hhp : s'.heap = H := by rw [hA]; exact hT
  have hW0 : s.WarmedH s'.vm := by rw [hvm]; exact State.WarmedH.refl s
  have hat' : ∀ w ∈ vx_atS own ic cls names, w.before args s' = true := fun w hw => vx_ot_at hW0 hvm.symm (hgood w (List.mem_cons_of_mem _ (List.mem_cons_of_mem _ hw))) (hat w hw)
  have hk' : (Cond.classLink own ik cls).before args s' = true := vx_ot_at hW0 hvm.symm (hgood _ List.mem_cons_self) hk
  have hini' : (Cond.initialized cls).before args s' = true := vx_ot_at hW0 hvm.symm (hgood _ (List.mem_cons_of_mem _ List.mem_cons_self)) hini
  have hU' : vx_Zq Bundle.tN "UNASSIGNED_STACK" Bundle.steD A s' s'.heap := by rw [hhp]; exact vx_Zq.moved hW0.alike (hU.kept hS.2.1)
  have hN' : vx_Zq Bundle.tN "SUPPRESSED_SENTINEL" Bundle.listD A s' s'.heap := by rw [hhp]; exact vx_Zq.moved hW0.alike (hN.kept hS.2.1)
  have h : ∀ w ∈ Bundle.ownAtoms own ic cls names, w.before args s' = true := vx_own hat' (vx_isRefq hU'.1) (vx_isRefq hN'.1) hU'.2.word hN'.2.word
  have hown' : s'.vm.findClass own = some m.cls := by rw [hvm]; exact hown
  have hins : (Cond.instantiable cls 6).before args s' = true := h _ (by simp [Bundle.ownAtoms])
  obtain ⟨vm₁, cX, kX, hfX, hkX, -, -, X₁, st1⟩ := Y.newCold hexec (own := own) (C := cls) (index := ik) (n := 6) hown' hk' hins hini'
    (g := F0 m pc ls rest) rfl (by rw [hb]; exact d0) (Nat.le_refl _) (Nat.le_refl _)
  generalize hT1 : (T.setVm vm₁).pushCell { cls := cX, slots := kX.instanceTypes.map defaultValue, vm := .none } = T1 at X₁ st1
  have hcat : (Value.ref T.heap.size).category = 1 := rfl
  have hcellA : T1.heap[T.heap.size]? = some (freshCell cX kX) := by rw [← hT1]; exact State.heap_pushCell_size _ _
  have d3' : decode c.code (pc + 3) = .ok (.dup, 1) := by rw [hb]; exact d3
  have d4' : decode c.code (pc + 4) = .ok (.ldc is, 2) := by rw [hb]; exact d4
  have hstr' : vk_R own is text sa s' := vk_R.warm hW0 hstr
  obtain ⟨U, hsteps, hrun, hend, hW, hsame, ce, hce, hO⟩ := X₁.ctorThrowS hexec htr (own := own) (cls := cls) (names := names) (ic := ic) hown' hcls hnames h (fun x hx => nomatch hx) hfX hkX hcellA (by rw [hhp, hT]; exact Nat.le_refl _) (msg := .ref sa) rfl
    (g := { method := m, pc := pc + 6, locals := ls, stack := .ref sa :: .ref T.heap.size :: .ref T.heap.size :: rest, locked := none }) rfl hsize rfl rfl (rest := rest) rfl
    (by rw [hb]; exact d6) (by rw [hb]; exact d9) hout hRframes (by simp only [List.map_cons, List.sum_cons, hcat]; omega) hlocks
  obtain ⟨f1, f2⟩ := vx_frame hsame
  rw [hhp] at f1 f2
  have hWs : s.WarmedH U.vm := State.WarmedH.trans hW0 hW
  have hcl : s.vm.findClass cls = some ce.cls := by
    have h9 := hO.cls
    rw [hvm] at h9
    exact h9
  have hall : s.sameButNew ({ U with vm := s.vm } : State) locs mc ms := by
    subst hA
    obtain ⟨e1, e2⟩ := hsame
    rw [State.setFrames_setFrames] at e1
    have h2 : (T.setVm s.vm).sameButNew ({ U with vm := s.vm } : State) [] (0 + 1) (0 + 6) := ⟨e1, e2⟩
    have h3 := X.same.trans h2
    rw [List.append_nil] at h3
    exact h3.mono hc hs
  refine ⟨U, ?_, .threw T.heap.size, hrun, hend, Or.inr ⟨T.heap.size, rfl, cls, ce, locs, hx U hWs.alike f1 (fun q hq => f2 q hq (fun z hz => nomatch hz)), hce, hO.vm, hcl, hWs, hall, hf⟩⟩
  refine st1 _ ?_
  show Steps p.tables e below (T1.setTop { method := m, pc := pc + 3, locals := ls, stack := .ref T.heap.size :: rest, locked := none }) _
  jvm_step X₁.here [X₁.here.top, hexec, d3', Value.category]
  exact X₁.ldcString hexec (own := own) (text := text) (index := is) (a := sa) hown' hstr'.1 hstr'.2
    (g := { method := m, pc := pc + 4, locals := ls, stack := .ref T.heap.size :: .ref T.heap.size :: rest, locked := none }) rfl d4' _ hsteps
/-- 'throw new E("text")', the text by a wide index -/
theorem vx_throwSW {cc : ByteArray} {pc : Nat} (hexec : p.tables.exec = Jvm.exec) (hb : c.code = cc) (hl : l.stackTraces = false) {own cls text : String} {names : List String} {ik is ic mc ms sa : Nat} {A : Nat → Prop}
    (hown : s.vm.findClass own = some m.cls) (hcls : Bundle.fit cls = true) (hnames : ∀ n ∈ names, Bundle.fit n = true)
    (hk : (Cond.classLink own ik cls).before args s = true) (hini : (Cond.initialized cls).before args s = true) (hstr : vk_R own is text sa s) (hat : ∀ w ∈ vx_atS own ic cls names, w.before args s = true)
    (hgood : ∀ w ∈ Cond.classLink own ik cls :: Cond.initialized cls :: vx_atS own ic cls names, vx_ot w = true)
    (hU : vx_Zq Bundle.tN "UNASSIGNED_STACK" Bundle.steD A s s.heap) (hN : vx_Zq Bundle.tN "SUPPRESSED_SENTINEL" Bundle.listD A s s.heap) (hS : va_S A s.heap H locs) (hsize : ls.size = c.maxLocals)
    (d0 : decode cc pc = .ok (.new ik, 3)) (d3 : decode cc (pc + 3) = .ok (.dup, 1)) (d4 : decode cc (pc + 4) = .ok (.ldc_w is, 3)) (d7 : decode cc (pc + 7) = .ok (.invokespecial ic, 3)) (d10 : decode cc (pc + 10) = .ok (.athrow, 1))
    (hout : ∀ x ∈ c.exceptionTable.toList, covers x (pc + 10) = false)
    (hRframes : names.length + 3 < R.frames) (hRlocals : (rest.map fun v => v.category).sum + (13 * (names.length + 1) + 43) ≤ R.locals) (hRcells : cells + 1 ≤ R.cells) (hRslots : slots + 6 ≤ R.slots) (hlocks : meth.locks = false)
    (hx : ∀ t : State, s.vm.Alike t.vm → H.size ≤ t.heap.size → (∀ q : Nat, q < H.size → t.heap[q]? = H[q]?) → XC cls s t)
    (hf : ∀ z ∈ locs, free z.base) (hc : cells + 1 ≤ mc) (hs : slots + 6 ≤ ms) :
    W p l e R s m args below meth c H locs cells slots (vx_MQ below Qc XC args s mc ms free) (F0 m pc ls rest) := by
  intro T hT X
  have htr : e.platform.stackTraces = false := (show e.platform.stackTraces = l.stackTraces by rw [X.admits.platform]).trans hl
  have Y := vx_rebase X (R' := { frames := R.frames, locals := R.locals, cells := 1, slots := 6 }) (Nat.le_refl _) (Nat.le_refl _) hRcells hRslots
  obtain ⟨s', hA⟩ : ∃ z, z = (T.setVm s.vm).setFrames (.invoking m args :: below) := ⟨_, rfl⟩
  rw [← hA] at Y
  have hvm : s'.vm = s.vm := by rw [hA]; rfl
  have hhp : s'.heap = H := by rw [hA]; exact hT
  have hW0 : s.WarmedH s'.vm := by rw [hvm]; exact State.WarmedH.refl s
  have hat' : ∀ w ∈ vx_atS own ic cls names, w.before args s' = true := fun w hw => vx_ot_at hW0 hvm.symm (hgood w (List.mem_cons_of_mem _ (List.mem_cons_of_mem _ hw))) (hat w hw)
  have hk' : (Cond.classLink own ik cls).before args s' = true := vx_ot_at hW0 hvm.symm (hgood _ List.mem_cons_self) hk
  have hini' : (Cond.initialized cls).before args s' = true := vx_ot_at hW0 hvm.symm (hgood _ (List.mem_cons_of_mem _ List.mem_cons_self)) hini
  have hU' : vx_Zq Bundle.tN "UNASSIGNED_STACK" Bundle.steD A s' s'.heap := by rw [hhp]; exact vx_Zq.moved hW0.alike (hU.kept hS.2.1)
  have hN' : vx_Zq Bundle.tN "SUPPRESSED_SENTINEL" Bundle.listD A s' s'.heap := by rw [hhp]; exact vx_Zq.moved hW0.alike (hN.kept hS.2.1)
  have h : ∀ w ∈ Bundle.ownAtoms own ic cls names, w.before args s' = true := vx_own hat' (vx_isRefq hU'.1) (vx_isRefq hN'.1) hU'.2.word hN'.2.word
  have hown' : s'.vm.findClass own = some m.cls := by rw [hvm]; exact hown
  have hins : (Cond.instantiable cls 6).before args s' = true := h _ (by simp [Bundle.ownAtoms])
  obtain ⟨vm₁, cX, kX, hfX, hkX, -, -, X₁, st1⟩ := Y.newCold hexec (own := own) (C := cls) (index := ik) (n := 6) hown' hk' hins hini'
    (g := F0 m pc ls rest) rfl (by rw [hb]; exact d0) (Nat.le_refl _) (Nat.le_refl _)
  generalize hT1 : (T.setVm vm₁).pushCell { cls := cX, slots := kX.instanceTypes.map defaultValue, vm := .none } = T1 at X₁ st1
  have hcat : (Value.ref T.heap.size).category = 1 := rfl
  have hcellA : T1.heap[T.heap.size]? = some (freshCell cX kX) := by rw [← hT1]; exact State.heap_pushCell_size _ _
  have d3' : decode c.code (pc + 3) = .ok (.dup, 1) := by rw [hb]; exact d3
  have d4' : decode c.code (pc + 4) = .ok (.ldc_w is, 3) := by rw [hb]; exact d4
  have hstr' : vk_R own is text sa s' := vk_R.warm hW0 hstr
  obtain ⟨U, hsteps, hrun, hend, hW, hsame, ce, hce, hO⟩ := X₁.ctorThrowS hexec htr (own := own) (cls := cls) (names := names) (ic := ic) hown' hcls hnames h (fun x hx => nomatch hx) hfX hkX hcellA (by rw [hhp, hT]; exact Nat.le_refl _) (msg := .ref sa) rfl
    (g := { method := m, pc := pc + 7, locals := ls, stack := .ref sa :: .ref T.heap.size :: .ref T.heap.size :: rest, locked := none }) rfl hsize rfl rfl (rest := rest) rfl
    (by rw [hb]; exact d7) (by rw [hb]; exact d10) hout hRframes (by simp only [List.map_cons, List.sum_cons, hcat]; omega) hlocks
  obtain ⟨f1, f2⟩ := vx_frame hsame
  rw [hhp] at f1 f2
  have hWs : s.WarmedH U.vm := State.WarmedH.trans hW0 hW
  have hcl : s.vm.findClass cls = some ce.cls := by
    have h9 := hO.cls
    rw [hvm] at h9
    exact h9
  have hall : s.sameButNew ({ U with vm := s.vm } : State) locs mc ms := by
    subst hA
    obtain ⟨e1, e2⟩ := hsame
    rw [State.setFrames_setFrames] at e1
    have h2 : (T.setVm s.vm).sameButNew ({ U with vm := s.vm } : State) [] (0 + 1) (0 + 6) := ⟨e1, e2⟩
    have h3 := X.same.trans h2
    rw [List.append_nil] at h3
    exact h3.mono hc hs
  refine ⟨U, ?_, .threw T.heap.size, hrun, hend, Or.inr ⟨T.heap.size, rfl, cls, ce, locs, hx U hWs.alike f1 (fun q hq => f2 q hq (fun z hz => nomatch hz)), hce, hO.vm, hcl, hWs, hall, hf⟩⟩
  refine st1 _ ?_
  show Steps p.tables e below (T1.setTop { method := m, pc := pc + 3, locals := ls, stack := .ref T.heap.size :: rest, locked := none }) _
  jvm_step X₁.here [X₁.here.top, hexec, d3', Value.category]
  exact X₁.ldcStringW hexec (own := own) (text := text) (index := is) (a := sa) hown' hstr'.1 hstr'.2
    (g := { method := m, pc := pc + 4, locals := ls, stack := .ref T.heap.size :: .ref T.heap.size :: rest, locked := none }) rfl d4' _ hsteps
end Ends
section Bodies
variable {l : Launch}
theorem vx_ofW {y : MethodName} {ws ws' : List Cond} {rm : Room} {Pc : Array Value → State → Prop} {Qc : Array Value → State → Outcome → State → Prop} {XC : String → State → State → Prop} {mc ms : Nat} {free : Addr → Prop} {cc : ByteArray} {maxL : Nat} {ret : Option FieldType}
    (hy : plainName y.cls = true) (hw : ws = Cond.code y cc maxL ret :: ws')
    (body : ∀ p e s m args below meth c s₁, BodyLoose p l y (headSpec ws rm) cc maxL ret e s m args below meth c s₁ → c.maxLocals = maxL → (∀ x ∈ c.exceptionTable.toList, False) → Pc args s →
      W p l e (headSpec ws rm).room s m args below meth c s.heap [] 0 0 (vx_MQ below Qc XC args s mc ms free) (entryFrame m args maxL)) : vx_Met l y ws rm Pc Qc XC mc ms free := by
  refine MetFree.of_bodyS (code := cc) (maxLocals := maxL) (ret := ret) hy ?_ ?_
  · intro args s m h hn
    obtain ⟨meth, c, h1, h2, h3, h4, h5, h6, -, -⟩ := Cond.code_spec hn (atoms_spec (ws := ws) h _ (by rw [hw]; exact List.mem_cons_self))
    exact ⟨meth, c, h1, h2, h3, h4, h5, h6⟩
  · intro p e s m args below meth c s₁ B hml hP _
    have hh0 : s₁.heap = s.heap := by rw [B.state]; rfl
    have ht : ∀ x ∈ c.exceptionTable.toList, False := by
      obtain ⟨meth9, c9, h1, h2, -, -, -, -, h7, -⟩ := Cond.code_spec B.named (atoms_spec (ws := ws) B.pre _ (by rw [hw]; exact List.mem_cons_self))
      cases Option.some.inj (h1.symm.trans B.method)
      cases Option.some.inj (h2.symm.trans (Stand.of_body B).code)
      intro x hx
      rw [Array.isEmpty_iff.mp h7] at hx
      cases hx
    obtain ⟨t, a1, o, b1, b2, b3⟩ := body p e s m args below meth c s₁ B hml ht hP s₁ hh0 (Stand.of_body B)
    exact ⟨t, o, a1, b1, b2, b3⟩
/-- the table of a body with handlers -/
theorem vx_table {p : Program} {x y : MethodName} {S : Spec} {cc bytes : ByteArray} {maxL maxL' : Nat} {ret ret' : Option FieldType} {e : Env} {s s₁ : State} {m : MethodId} {args : Array Value} {below : List Frame} {meth : Method} {c : Code} {hh : List (Nat × Nat × Nat × Nat)}
    (B : BodyLoose p l y S cc maxL ret e s m args below meth c s₁) (h : (Cond.codeWith y bytes maxL' ret' hh).before args s = true) : c.exceptionTable.toList = tableOf hh := by
  obtain ⟨m9, meth9, c9, hn9, h1, h2, -, -, h6, -⟩ := Cond.codeWith_spec h
  cases Option.some.inj (hn9.symm.trans B.named)
  cases Option.some.inj (h1.symm.trans B.method)
  cases Option.some.inj (h2.symm.trans (Stand.of_body B).code)
  rw [← h6, table_eq]
end Bodies
end VXA
/-! ===== END ===== -/
/-! ===== BEGIN a static call of a method with an exception table ===== -/
section VXS
variable {p : Program} {l : Launch} {e : Env} {R : Room} {s : State} {m : MethodId} {args : Array Value} {below : List Frame} {meth : Method} {c : Code} {T : State} {H : Heap} {locs : List Loc} {cells slots : Nat}
abbrev vx_CSW (R : Room) (s : State) (args : Array Value) (own : String) (index : Nat) (y : MethodName) (bytes : ByteArray) (maxL : Nat) (ret : Option FieldType) (hh : List (Nat × Nat × Nat × Nat)) (ws : List Cond) (rm : Room) (mc ms n : Nat) : Prop :=
  (rm.cells = mc ∧ rm.slots = ms ∧ rm.frames + 1 ≤ R.frames ∧ 8 + (maxL + 11) + rm.locals ≤ R.locals ∧ (∀ w ∈ ws, ∀ (a' : Array Value) (U : State), s.WarmedH U.vm → w.before a' U = true) ∧ Cond.codeWith y bytes maxL ret hh ∈ ws) ∧
  (Cond.codeWith y bytes maxL ret hh).before args s = true ∧ (Cond.initialized y.cls).before args s = true ∧ (y.cls ≠ "java/lang/invoke/MethodHandle" ∧ y.cls ≠ "java/lang/invoke/VarHandle") ∧
  (∀ sig, parseMethodDescriptor y.desc = some sig → n = sig.parameters.length) ∧ (Cond.methodLink own index y).before args s = true ∧ (Cond.static y).before args s = true
theorem vx_cwSW {own : String} {index maxL mc ms : Nat} {y : MethodName} {bytes : ByteArray} {ret : Option FieldType} {hh : List (Nat × Nat × Nat × Nat)} {Ts ws ws' : List Cond} {rm : Room} (n : Nat) (ht : ∀ w ∈ Ts, w.before args s = true) (hT : GoodIn Ts (va_wsS own index y ws)) (hw : ws = Cond.codeWith y bytes maxL ret hh :: ws') (hrc : rm.cells = mc) (hrs : rm.slots = ms)
    (hd : y.cls ≠ "java/lang/invoke/MethodHandle" ∧ y.cls ≠ "java/lang/invoke/VarHandle" ∧ (parseMethodDescriptor y.desc).map (fun d => d.parameters.length) = some n) (hR : rm.frames + 1 ≤ R.frames ∧ 8 + (maxL + 11) + rm.locals ≤ R.locals) :
    vx_CSW R s args own index y bytes maxL ret hh ws rm mc ms n := by
  have ok : ∀ w ∈ va_wsS own index y ws, w.before args s = true := fun w h => ht w (hT w h).1
  have hG : GoodIn Ts ws := fun w h => hT w (by unfold va_wsS; exact List.mem_append_right _ h)
  have hc : Cond.codeWith y bytes maxL ret hh ∈ ws := by rw [hw]; exact List.mem_cons_self
  refine ⟨⟨hrc, hrs, hR.1, hR.2, pay_in ht hG, hc⟩, ht _ (hG _ hc).1, ok _ (by simp [va_wsS]), ⟨hd.1, hd.2.1⟩, fun sig h => ?_, ok _ (by simp [va_wsS]), ok _ (by simp [va_wsS])⟩
  have h2 := hd.2.2
  rw [h] at h2
  exact (Option.some.inj h2).symm
theorem vx_callSW (X : Stand p l e R s m args below meth c T locs cells slots) (hexec : p.tables.exec = Jvm.exec) {own : String} {index : Nat} {y : MethodName} {bytes : ByteArray} {maxL : Nat} {ret : Option FieldType} {hh : List (Nat × Nat × Nat × Nat)}
    (hown : s.vm.findClass own = some m.cls) (hlink : (Cond.methodLink own index y).before args s = true) (hstat : (Cond.static y).before args s = true) (hinit : (Cond.initialized y.cls).before args s = true)
    (hcode : (Cond.codeWith y bytes maxL ret hh).before args s = true) (hy : y.cls ≠ "java/lang/invoke/MethodHandle" ∧ y.cls ≠ "java/lang/invoke/VarHandle")
    {W9 : Nat} {Pre : Pt → Array Value → Prop} {Post : Pt → Array Value → Option Value → Pt → Prop} (hK : Back l R p e below s args y 3 W9 Pre Post)
    {g : JFrame} (hg : g.method = m) (hsize : g.locals.size = c.maxLocals) {argsL rest : List Value} (hlen : ∀ sig, parseMethodDescriptor y.desc = some sig → argsL.length = sig.parameters.length)
    (hstack : g.stack = argsL.reverse ++ rest) (hW : 2 * g.monitorRoom + (rest.map fun v => v.category).sum ≤ W9) (hdg : decode c.code g.pc = .ok (.invokestatic index, 3))
    (hpre : ∀ vm₁, s.WarmedH vm₁ → Pre ⟨T.setVm vm₁, locs, cells, slots⟩ argsL.toArray) :
    ∃ (v : Option Value) (vm₁ : Vm) (B : Pt), s.WarmedH vm₁ ∧ Stand p l e R s m args below meth c B.U B.locs B.cells B.slots ∧ Post ⟨T.setVm vm₁, locs, cells, slots⟩ argsL.toArray v B ∧
      ∀ target, Steps p.tables e below (B.U.setTop { g with pc := g.pc + 3, stack := v.toList ++ rest }) target → Steps p.tables e below (T.setTop g) target := by
  obtain ⟨mk, methM, cM, hnamed, hmethM, -, -, -, -, -, -, hsigM⟩ := Cond.codeWith_spec hcode
  have hstatic : methM.isStatic = true := Cond.static_spec hnamed hmethM hstat
  obtain ⟨kP, hkP, -⟩ := className_of_methodNamed hnamed
  have hinitP : kP.init = .initialized := Cond.initialized_spec (findClass_of_methodNamed hnamed) hkP hinit
  obtain ⟨vm₁, X₁, hstep₁⟩ := X.invokestatic hexec hown hlink hnamed hmethM hstatic hkP hinitP hy (g := g) hg (argsL := argsL) (rest := rest) (hlen _ hsigM) hstack hdg
  obtain ⟨v, B, X', hpost, hsteps⟩ := hK m meth c ⟨T.setVm vm₁, locs, cells, slots⟩ { g with stack := rest } (.invokestatic index) mk argsL.toArray X₁ hg hsize hdg hW (X₁.named hnamed) (hpre vm₁ X₁.warmed)
  exact ⟨v, vm₁, B, X₁.warmed, X', hpost, fun target h => hstep₁ _ fun acts => by rw [doInvoke_state]; exact hsteps.trans h⟩
theorem vx_runSW {y : MethodName} {bytes cc : ByteArray} {maxL nL mc ms n index : Nat} {ret : Option FieldType} {hh : List (Nat × Nat × Nat × Nat)} {ws : List Cond} {rm : Room} {Pc : Array Value → State → Prop} {Qc : Array Value → State → Outcome → State → Prop} {free : Addr → Prop} {Ts : List Cond} {own : String} {As rest : List Value} {g : JFrame}
    (S : CallFix p m c cc nL s args Ts own) (hM : Met l y ws rm Pc Qc mc ms free) (cw : vx_CSW R s args own index y bytes maxL ret hh ws rm mc ms n) (hp : PreS s H Pc As)
    (hg : g.method = m) (hn : As.length = n) (hsize : g.locals.size = nL) (hstack : g.stack = As.reverse ++ rest) (hW : 2 * g.monitorRoom + (rest.map fun v => v.category).sum ≤ 8) (hdg : decode cc g.pc = .ok (.invokestatic index, 3)) (hf : cells + mc ≤ R.cells ∧ slots + ms ≤ R.slots) :
    va_Run p l e R s m args below meth c H locs cells slots mc ms g rest (Qc As.toArray) (free) := by
  obtain ⟨⟨hrc, hrs, hfr, hlo, hws, hcw⟩, hcode, hini, hy, hlen, hl, hstt⟩ := cw
  have hK : Back l R p e below s args y 3 8 (PreOf R mc ms Pc) (PostOf Qc mc ms free) := va_backW (hh := hh) (bytes := bytes) (maxL := maxL) (ret := ret) hM hp.1 hrc hrs hfr hlo hws hcw (fun a' U hW => word_at hW (Or.inl (by first | rfl | simp [Cond.onTables, Cond.keeps, Cond.steady])) hini)
  obtain ⟨hx, hb, hml, ho, -⟩ := S
  intro T hT X
  obtain ⟨v, vm₁, ⟨U', l2, c2, s2⟩, hW₁, X', ⟨g', mk, t, L, e1, e2, hq, h1, hL, h2, h3⟩, st⟩ := vx_callSW X hx (hh := hh) (bytes := bytes) (maxL := maxL) (ret := ret) ho hl hstt hini hcode hy hK hg (hsize.trans hml.symm) (argsL := As) (rest := rest) (fun sig h => hn.trans (hlen sig h)) hstack hW (by rw [hb]; exact hdg)
    (fun vm₁ hW₁ => ⟨hf.1, hf.2, hp.2 (T.setVm vm₁) hT hW₁⟩)
  dsimp only [Pt.U, Pt.locs, Pt.cells, Pt.slots] at X' e1 e2 h1 h2 h3 st
  subst h1; subst h2; subst h3
  exact ⟨v, (T.setVm vm₁).calling g' mk As.toArray, t, U', L, hT, X', hL, e1, e2, hq, st⟩
/-- not caught here, past rows that name other classes: it goes on to the caller -/
theorem vx_outP {p : Program} {l : Launch} {e : Env} {R : Room} {s : State} {m : MethodId} {args : Array Value} {below : List Frame} {meth : Method} {c : Code} {H : Heap} {locs : List Loc} {cells slots : Nat} {free : Addr → Prop} {ls : Array Slot} {rest : List Value} {Qc : Array Value → State → Outcome → State → Prop} {XC : String → State → State → Prop}
    {pc : Nat} {own E : String} {ce : Cell} {q : Addr} {mc ms : Nat} (hown : s.vm.findClass own = some m.cls) (hlocks : meth.locks = false)
    (hpass : ∀ z ∈ c.exceptionTable.toList, covers z pc = false ∨ (z.catchType ≠ 0 ∧ ∃ nm : String, (Cond.classLink own z.catchType nm).before args s = true ∧ va_Nc E nm s)) (hcell : H[q]? = some ce) (hv : ce.vm = .none) (hcl : s.vm.findClass E = some ce.cls)
    (hx : ∀ t : State, t.heap = H → s.vm.Alike t.vm → XC E s t) (hf : ∀ z ∈ locs, free z.base) (hc : cells ≤ mc) (hs : slots ≤ ms) :
    vx_W p l e R s m args below meth c H locs cells slots (vx_MQ below Qc XC args s mc ms free) (F0 m pc ls rest) q := by
  intro T hT X
  have hpl : e.platform.magicAccessors = ({} : Platform).magicAccessors := by rw [X.admits.platform]
  obtain ⟨vm', hW', X', st⟩ := X.outThrough hlocks q (g := F0 m pc ls rest) rfl rfl rfl (cell := ce) (by rw [hT]; exact hcell) (by rw [hv]; rfl)
    (by obtain ⟨k9, h9, -⟩ := Vm.findClass_spec hcl; exact ⟨k9, h9⟩) (fun z hz => by
      rcases hpass z hz with h | ⟨hz0, nm, hl1, hn1⟩
      · exact Or.inl h
      · obtain ⟨c6, hc6, hcl6⟩ := Cond.classLink_spec hown hl1 e.platform hpl
        obtain ⟨a8, b8, h1, h2, h3⟩ := hn1
        cases Option.some.inj (h1.symm.trans hcl)
        cases Option.some.inj (h2.symm.trans hc6)
        exact Or.inr ⟨hz0, _, hcl6, h3⟩)
  obtain ⟨g₀, hfr⟩ := X'.frames_eq
  have hcell9 : ((T.setVm vm').setFrames (.throwing q :: below)).heap[q]? = some ce := by
    show T.heap[q]? = some ce
    rw [hT]; exact hcell
  have hend : Ended ((T.setVm vm').setFrames (.throwing q :: below)) below (.threw q) := State.frames_setFrames _ (State.cur_lt_of_frames hfr)
  refine ⟨(T.setVm vm').setFrames (.throwing q :: below), ?_, .threw q, X'.here.running, hend, Or.inr ⟨q, rfl, E, ce, locs, hx _ hT (X'.ends _).1.alike, hcell9, hv, hcl, (X'.ends _).1, (X'.ends _).2.mono hc hs, hf⟩⟩
  rw [X.pushThrowing_eq]
  exact st
/-- a thing of a world lies in the heap -/
theorem vx_lt {D : va_G} {cl : List vw_C} {ws : va_W} {H1 : Heap} (h : va_P D cl ws H1) {k : Nat} {q : Nat × va_E} (hk : ws[k]? = some q) : q.1 < H1.size := (h k q hk).lt
end VXS
/-! ===== END ===== -/
/-! ===== BEGIN methods with a table of their own: called by a name, returning or throwing ===== -/
section VXH
/-! vx_backW, vx_callVX, vx_callSX, vx_callVW, vx_runVW, vx_runVX, vx_runSX, vx_ofWH follow the same proofs as their sisters above (Free/Laws.lean, Shelf42/LK1.lean); vx_outP calls Shelf42/NT130.lean (outThrough). -/
section
variable {l : Launch} {R : Room} {p : Program} {e : Env} {below : List Frame} {s : State} {sargs : Array Value} {y : MethodName} {len W9 : Nat}
theorem vx_backW {ws : List Cond} {rm : Room} {Pc : Array Value → State → Prop} {Qc : Array Value → State → Outcome → State → Prop} {XC : String → State → State → Prop} {mc ms : Nat} {free : Addr → Prop} {bytes : ByteArray} {maxL : Nat} {ret : Option FieldType} {hh : List (Nat × Nat × Nat × Nat)}
    (hM : vx_Met l y ws rm Pc Qc XC mc ms free) (hblind : FrameBlind Pc) (hrc : rm.cells = mc) (hrs : rm.slots = ms)
    (hframes : rm.frames + 1 ≤ R.frames) (hlocals : W9 + (maxL + 11) + rm.locals ≤ R.locals)
    (hws : ∀ w ∈ ws, ∀ a' U, s.WarmedH U.vm → w.before a' U = true) (hcode : Cond.codeWith y bytes maxL ret hh ∈ ws) (hinit : ∀ a' U, s.WarmedH U.vm → (Cond.initialized y.cls).before a' U = true) :
    vx_Back l R p e below s sargs y len W9 (PreOf R mc ms Pc) (PostOf Qc mc ms free) (vx_Post XC mc ms free) := by
  intro m meth c A g ig mk a X hg hsize hdg hW hn hp
  have h1 : (headSpec ws rm).pre.before a A.U = true := atoms_intro fun w hw => hws w hw _ _ X.warmed
  have h2 : (Cond.codeWith y bytes maxL ret hh).before a A.U = true := hws _ hcode _ _ X.warmed
  have h3 : (Cond.initialized y.cls).before a A.U = true := hinit _ _ X.warmed
  have h4 : A.cells + (headSpec ws rm).room.cells ≤ R.cells := by rw [show (headSpec ws rm).room.cells = mc from hrc]; exact hp.1
  have h5 : A.slots + (headSpec ws rm).room.slots ≤ R.slots := by rw [show (headSpec ws rm).room.slots = ms from hrs]; exact hp.2.1
  have hPc : Pc a (A.U.calling g mk a) := hblind _ _ _ _ hp.2.2
  obtain ⟨U, Ls, c0, s0⟩ := A
  dsimp only [Pt.U, Pt.locs, Pt.cells, Pt.slots] at h1 h2 h3 h4 h5 X hn hPc ⊢
  obtain ⟨m9, methY, cY, hn9, hmY, hcY, -, hlY, -⟩ := Cond.codeWith_spec h2
  cases Option.some.inj (hn9.symm.trans hn)
  obtain ⟨kY, hkY, -⟩ := className_of_methodNamed hn
  have hinitY : kY.init = .initialized := Cond.initialized_spec (findClass_of_methodNamed hn) hkY h3
  have h : At U g.method c below := by rw [hg]; exact X.here
  have hlocals9 : W9 + (maxL + 11) + (headSpec ws rm).room.locals ≤ R.locals := hlocals
  have happ : (headSpec ws rm).appliesLoose y e.platform (U.calling g mk a) = true :=
    Spec.appliesLoose_calling (g := g) h hdg hn hkY hinitY
      (X.room_calling (g := g) (R' := (headSpec ws rm).room) hsize hmY hcY hframes (by rw [hlY]; omega) h4 h5) h1
  obtain ⟨mid, hmid⟩ := h.above
  have hfr : (U.setTop g).frames = (.java g :: mid) ++ below := by rw [State.frames_setTop' g h.top, hmid]; rfl
  obtain ⟨o, s₂, hsteps, -, hend, hq⟩ := Steps.callFree hM p X.admits X.cas X.clock (acts := []) hfr happ hPc trivial
  have hq' : vx_Q Qc XC mc ms free a (U.calling g mk a) o s₂ := hq
  rw [State.frames_setTop' g h.top] at hend
  obtain ⟨g₀, hg0⟩ := Option.isSome_iff_exists.mp h.top
  obtain ⟨r, hr⟩ := State.topJava?_eq_some.mp hg0
  have hr' : (({ U with heap := s₂.heap, slotsUsed := s₂.slotsUsed } : State).setVm s₂.vm).frames = .java g₀ :: r := hr
  rcases hq' with ⟨hqc, L, hfe, hL⟩ | ⟨q, rfl, E, ce, L, hx, hce, hcv, hcl, hW₂, hsm, hL⟩
  · obtain ⟨⟨v, rfl⟩, hW₂, e2, q2, q3, q4, q5, q6⟩ := id hfe
    have e3 : s₂ = ({ (U.calling g mk a).setFrames s₂.frames with heap := s₂.heap, slotsUsed := s₂.slotsUsed } : State).setVm s₂.vm := by
      have : s₂ = ({ s₂ with vm := (U.calling g mk a).vm } : State).setVm s₂.vm := rfl
      rw [e2] at this
      exact this
    obtain ⟨c₂, i₂, len₂, hc₂, hd₂, hf₂⟩ := hend
    have hW' : U.WarmedH s₂.vm := hW₂
    have hcc : c₂ = c := by
      have h1 : s₂.code? g.method = U.code? g.method := by
        rw [State.code?_eq, State.code?_eq, hW'.alike.method?]
      exact Option.some.inj (hc₂.symm.trans (h1.trans h.code))
    subst hcc
    have hlen : len₂ = len := by rw [hdg] at hd₂; cases hd₂; rfl
    subst hlen
    have hs₂ : s₂ = (({ U with heap := s₂.heap, slotsUsed := s₂.slotsUsed } : State).setVm s₂.vm).setTop { g with pc := g.pc + len₂, stack := v.toList ++ g.stack } := by
      refine e3.trans ?_
      rw [hf₂, State.calling_eq h.top, State.setFrames_setFrames, State.setTop_of_frames _ hr', hr]
      rfl
    have hsame : U.sameButNew ({ U with heap := s₂.heap, slotsUsed := s₂.slotsUsed } : State) L mc ms := by
      refine ⟨?_, q2, q3, q4, q5, q6⟩
      obtain ⟨t, ht, -⟩ := State.frames_cons hr
      show ({ U with heap := s₂.heap, slotsUsed := s₂.slotsUsed } : State) = { U.setFrames U.frames with heap := s₂.heap, slotsUsed := s₂.slotsUsed }
      rw [State.setFrames_self ht]
    subst hg
    refine Or.inl ⟨v, ⟨(({ U with heap := s₂.heap, slotsUsed := s₂.slotsUsed } : State).setVm s₂.vm), Ls ++ L, c0 + mc, s0 + ms⟩,
      ⟨X.admits, X.cas, X.clock, X.frames, X.room, X.hears, X.method, X.code, (X.here.setHeapUsed s₂.heap s₂.slotsUsed).setVm hW'.alike, X.tail, State.WarmedH.trans X.warmed hW', X.limits, X.bytes, X.same.trans (hsame.setVm s.vm)⟩,
      ⟨g, mk, s₂, L, rfl, rfl, hqc, rfl, hL, rfl, rfl⟩, ?_⟩
    show Steps p.tables e below _ ((({ U with heap := s₂.heap, slotsUsed := s₂.slotsUsed } : State).setVm s₂.vm).setTop { g with pc := g.pc + len₂, stack := v.toList ++ g.stack })
    rw [← hs₂]
    exact hsteps
  · obtain ⟨e2, q2, q3, q4, q5, q6⟩ := id hsm
    have e3 : s₂ = ({ (U.calling g mk a).setFrames s₂.frames with heap := s₂.heap, slotsUsed := s₂.slotsUsed } : State).setVm s₂.vm := by
      have : s₂ = ({ s₂ with vm := (U.calling g mk a).vm } : State).setVm s₂.vm := rfl
      rw [e2] at this
      exact this
    have hf₂ : s₂.frames = .throwing q :: .java g :: U.frames.tail := hend
    have hW' : U.WarmedH s₂.vm := hW₂
    have hs₂ : s₂ = ((({ U with heap := s₂.heap, slotsUsed := s₂.slotsUsed } : State).setVm s₂.vm).setTop g).pushFrame (.throwing q) := by
      refine e3.trans ?_
      rw [hf₂, State.calling_eq h.top, State.setFrames_setFrames, State.pushFrame, State.frames_setTop _ hr', State.setTop_of_frames _ hr', State.setFrames_setFrames, hr]
      rfl
    have hsame : U.sameButNew ({ U with heap := s₂.heap, slotsUsed := s₂.slotsUsed } : State) L mc ms := by
      refine ⟨?_, q2, q3, q4, q5, q6⟩
      obtain ⟨t, ht, -⟩ := State.frames_cons hr
      show ({ U with heap := s₂.heap, slotsUsed := s₂.slotsUsed } : State) = { U.setFrames U.frames with heap := s₂.heap, slotsUsed := s₂.slotsUsed }
      rw [State.setFrames_self ht]
    subst hg
    refine Or.inr ⟨q, ⟨(({ U with heap := s₂.heap, slotsUsed := s₂.slotsUsed } : State).setVm s₂.vm), Ls ++ L, c0 + mc, s0 + ms⟩,
      ⟨X.admits, X.cas, X.clock, X.frames, X.room, X.hears, X.method, X.code, (X.here.setHeapUsed s₂.heap s₂.slotsUsed).setVm hW'.alike, X.tail, State.WarmedH.trans X.warmed hW', X.limits, X.bytes, X.same.trans (hsame.setVm s.vm)⟩,
      ⟨g, mk, s₂, L, E, ce, rfl, rfl, hx, hce, hcv, hcl, rfl, hL, rfl, rfl⟩, ?_⟩
    show Steps p.tables e below _ (((({ U with heap := s₂.heap, slotsUsed := s₂.slotsUsed } : State).setVm s₂.vm).setTop g).pushFrame (.throwing q))
    rw [← hs₂]
    exact hsteps
end
variable {p : Program} {l : Launch} {e : Env} {R : Room} {s : State} {m : MethodId} {args : Array Value} {below : List Frame} {meth : Method} {c : Code} {T : State} {H : Heap} {locs : List Loc} {cells slots : Nat}
theorem vx_callVX (X : Stand p l e R s m args below meth c T locs cells slots) (hexec : p.tables.exec = Jvm.exec) {own C : String} {index : Nat} {y : MethodName} {bytes : ByteArray} {maxL : Nat} {ret : Option FieldType} {hh : List (Nat × Nat × Nat × Nat)}
    (hown : s.vm.findClass own = some m.cls) (hlink : (Cond.methodLink own index y).before args s = true) (hinst : (Cond.instanceMethod y).before args s = true) (hsel : (Cond.selects C y y).before args s = true)
    (hcode : (Cond.codeWith y bytes maxL ret hh).before args s = true) (hy : y.cls ≠ "java/lang/invoke/MethodHandle" ∧ y.cls ≠ "java/lang/invoke/VarHandle")
    {W9 : Nat} {Pre : Pt → Array Value → Prop} {Post : Pt → Array Value → Option Value → Pt → Prop} {PostX : Pt → Array Value → Addr → Pt → Prop} (hK : vx_Back l R p e below s args y 3 W9 Pre Post PostX)
    {b : Addr} {cellB : Cell} (hcell : T.heap[b]? = some cellB) (hobj : cellB.vm.isStatics = false) (hcls : s.vm.findClass C = some cellB.cls)
    {g : JFrame} (hg : g.method = m) (hsize : g.locals.size = c.maxLocals) {argsL rest : List Value} (hlen : ∀ sig, parseMethodDescriptor y.desc = some sig → argsL.length = sig.parameters.length)
    (hstack : g.stack = argsL.reverse ++ .ref b :: rest) (hW : 2 * g.monitorRoom + (rest.map fun v => v.category).sum ≤ W9) (hdg : decode c.code g.pc = .ok (.invokevirtual index, 3))
    (hpre : ∀ vm₁, s.WarmedH vm₁ → Pre ⟨T.setVm vm₁, locs, cells, slots⟩ (Value.ref b :: argsL).toArray) :
    (∃ (v : Option Value) (vm₁ : Vm) (B : Pt), s.WarmedH vm₁ ∧ Stand p l e R s m args below meth c B.U B.locs B.cells B.slots ∧ Post ⟨T.setVm vm₁, locs, cells, slots⟩ (Value.ref b :: argsL).toArray v B ∧
      ∀ target, Steps p.tables e below (B.U.setTop { g with pc := g.pc + 3, stack := v.toList ++ rest }) target → Steps p.tables e below (T.setTop g) target) ∨
    (∃ (q : Addr) (vm₁ : Vm) (B : Pt), s.WarmedH vm₁ ∧ Stand p l e R s m args below meth c B.U B.locs B.cells B.slots ∧ PostX ⟨T.setVm vm₁, locs, cells, slots⟩ (Value.ref b :: argsL).toArray q B ∧
      Steps p.tables e below (T.setTop g) ((B.U.setTop { g with stack := rest }).pushFrame (.throwing q))) := by
  obtain ⟨mk, methM, hnamed, hmethM, hstM, habM⟩ := Cond.instanceMethod_spec hinst
  obtain ⟨m8, methM', cM, hn8, hmethM', -, -, -, -, -, -, hsigM⟩ := Cond.codeWith_spec hcode
  cases Option.some.inj (hn8.symm.trans hnamed)
  cases hmethM.symm.trans hmethM'
  obtain ⟨c2, r2, m2, q1, q2, q3, q4, kP, hkP, hkPi⟩ := Cond.selects_spec hsel
  cases hcls.symm.trans q1
  cases (State.methodFound?_of_named hnamed hy).symm.trans q2
  cases hnamed.symm.trans q3
  have hselP : selectMethod e.platform s.vm cellB.cls mk = .method mk := by rw [Launch.admits_selectMethod X.admits]; exact q4
  obtain ⟨vm₁, X₁, hstep₁⟩ := X.invokevirtual hexec hown hlink hnamed hmethM hstM hkP hkPi hy (a := b) (cell := cellB) hcell
    (fun z h => by rw [h] at hobj; cases hobj) hselP hmethM habM hkP hkPi (g := g) hg (argsL := argsL) (rest := rest) (hlen _ hsigM) hstack hdg
  rcases hK m meth c ⟨T.setVm vm₁, locs, cells, slots⟩ { g with stack := rest } (.invokevirtual index) mk (Value.ref b :: argsL).toArray X₁ hg hsize hdg hW (X₁.named hnamed) (hpre vm₁ X₁.warmed) with ⟨v, B, X', hpost, hsteps⟩ | ⟨q, B, X', hpost, hsteps⟩
  · exact Or.inl ⟨v, vm₁, B, X₁.warmed, X', hpost, fun target h => hstep₁ _ fun acts => by rw [doInvoke_state]; exact hsteps.trans h⟩
  · exact Or.inr ⟨q, vm₁, B, X₁.warmed, X', hpost, hstep₁ _ fun acts => by rw [doInvoke_state]; exact hsteps⟩
theorem vx_callSX (X : Stand p l e R s m args below meth c T locs cells slots) (hexec : p.tables.exec = Jvm.exec) {own : String} {index : Nat} {y : MethodName} {bytes : ByteArray} {maxL : Nat} {ret : Option FieldType} {hh : List (Nat × Nat × Nat × Nat)}
    (hown : s.vm.findClass own = some m.cls) (hlink : (Cond.methodLink own index y).before args s = true) (hstat : (Cond.static y).before args s = true) (hinit : (Cond.initialized y.cls).before args s = true)
    (hcode : (Cond.codeWith y bytes maxL ret hh).before args s = true) (hy : y.cls ≠ "java/lang/invoke/MethodHandle" ∧ y.cls ≠ "java/lang/invoke/VarHandle")
    {W9 : Nat} {Pre : Pt → Array Value → Prop} {Post : Pt → Array Value → Option Value → Pt → Prop} {PostX : Pt → Array Value → Addr → Pt → Prop} (hK : vx_Back l R p e below s args y 3 W9 Pre Post PostX)
    {g : JFrame} (hg : g.method = m) (hsize : g.locals.size = c.maxLocals) {argsL rest : List Value} (hlen : ∀ sig, parseMethodDescriptor y.desc = some sig → argsL.length = sig.parameters.length)
    (hstack : g.stack = argsL.reverse ++ rest) (hW : 2 * g.monitorRoom + (rest.map fun v => v.category).sum ≤ W9) (hdg : decode c.code g.pc = .ok (.invokestatic index, 3))
    (hpre : ∀ vm₁, s.WarmedH vm₁ → Pre ⟨T.setVm vm₁, locs, cells, slots⟩ argsL.toArray) :
    (∃ (v : Option Value) (vm₁ : Vm) (B : Pt), s.WarmedH vm₁ ∧ Stand p l e R s m args below meth c B.U B.locs B.cells B.slots ∧ Post ⟨T.setVm vm₁, locs, cells, slots⟩ argsL.toArray v B ∧
      ∀ target, Steps p.tables e below (B.U.setTop { g with pc := g.pc + 3, stack := v.toList ++ rest }) target → Steps p.tables e below (T.setTop g) target) ∨
    (∃ (q : Addr) (vm₁ : Vm) (B : Pt), s.WarmedH vm₁ ∧ Stand p l e R s m args below meth c B.U B.locs B.cells B.slots ∧ PostX ⟨T.setVm vm₁, locs, cells, slots⟩ argsL.toArray q B ∧
      Steps p.tables e below (T.setTop g) ((B.U.setTop { g with stack := rest }).pushFrame (.throwing q))) := by
  obtain ⟨mk, methM, cM, hnamed, hmethM, -, -, -, -, -, -, hsigM⟩ := Cond.codeWith_spec hcode
  have hstatic : methM.isStatic = true := Cond.static_spec hnamed hmethM hstat
  obtain ⟨kP, hkP, -⟩ := className_of_methodNamed hnamed
  have hinitP : kP.init = .initialized := Cond.initialized_spec (findClass_of_methodNamed hnamed) hkP hinit
  obtain ⟨vm₁, X₁, hstep₁⟩ := X.invokestatic hexec hown hlink hnamed hmethM hstatic hkP hinitP hy (g := g) hg (argsL := argsL) (rest := rest) (hlen _ hsigM) hstack hdg
  rcases hK m meth c ⟨T.setVm vm₁, locs, cells, slots⟩ { g with stack := rest } (.invokestatic index) mk argsL.toArray X₁ hg hsize hdg hW (X₁.named hnamed) (hpre vm₁ X₁.warmed) with ⟨v, B, X', hpost, hsteps⟩ | ⟨q, B, X', hpost, hsteps⟩
  · exact Or.inl ⟨v, vm₁, B, X₁.warmed, X', hpost, fun target h => hstep₁ _ fun acts => by rw [doInvoke_state]; exact hsteps.trans h⟩
  · exact Or.inr ⟨q, vm₁, B, X₁.warmed, X', hpost, hstep₁ _ fun acts => by rw [doInvoke_state]; exact hsteps⟩
theorem vx_callVW (X : Stand p l e R s m args below meth c T locs cells slots) (hexec : p.tables.exec = Jvm.exec) {own C : String} {index : Nat} {y : MethodName} {bytes : ByteArray} {maxL : Nat} {ret : Option FieldType} {hh : List (Nat × Nat × Nat × Nat)}
    (hown : s.vm.findClass own = some m.cls) (hlink : (Cond.methodLink own index y).before args s = true) (hinst : (Cond.instanceMethod y).before args s = true) (hsel : (Cond.selects C y y).before args s = true)
    (hcode : (Cond.codeWith y bytes maxL ret hh).before args s = true) (hy : y.cls ≠ "java/lang/invoke/MethodHandle" ∧ y.cls ≠ "java/lang/invoke/VarHandle")
    {W9 : Nat} {Pre : Pt → Array Value → Prop} {Post : Pt → Array Value → Option Value → Pt → Prop} (hK : Back l R p e below s args y 3 W9 Pre Post)
    {b : Addr} {cellB : Cell} (hcell : T.heap[b]? = some cellB) (hobj : cellB.vm.isStatics = false) (hcls : s.vm.findClass C = some cellB.cls)
    {g : JFrame} (hg : g.method = m) (hsize : g.locals.size = c.maxLocals) {argsL rest : List Value} (hlen : ∀ sig, parseMethodDescriptor y.desc = some sig → argsL.length = sig.parameters.length)
    (hstack : g.stack = argsL.reverse ++ .ref b :: rest) (hW : 2 * g.monitorRoom + (rest.map fun v => v.category).sum ≤ W9) (hdg : decode c.code g.pc = .ok (.invokevirtual index, 3))
    (hpre : ∀ vm₁, s.WarmedH vm₁ → Pre ⟨T.setVm vm₁, locs, cells, slots⟩ (Value.ref b :: argsL).toArray) :
    ∃ (v : Option Value) (vm₁ : Vm) (B : Pt), s.WarmedH vm₁ ∧ Stand p l e R s m args below meth c B.U B.locs B.cells B.slots ∧ Post ⟨T.setVm vm₁, locs, cells, slots⟩ (Value.ref b :: argsL).toArray v B ∧
      ∀ target, Steps p.tables e below (B.U.setTop { g with pc := g.pc + 3, stack := v.toList ++ rest }) target → Steps p.tables e below (T.setTop g) target := by
  obtain ⟨mk, methM, hnamed, hmethM, hstM, habM⟩ := Cond.instanceMethod_spec hinst
  obtain ⟨m8, methM', cM, hn8, hmethM', -, -, -, -, -, -, hsigM⟩ := Cond.codeWith_spec hcode
  cases Option.some.inj (hn8.symm.trans hnamed)
  cases hmethM.symm.trans hmethM'
  obtain ⟨c2, r2, m2, q1, q2, q3, q4, kP, hkP, hkPi⟩ := Cond.selects_spec hsel
  cases hcls.symm.trans q1
  cases (State.methodFound?_of_named hnamed hy).symm.trans q2
  cases hnamed.symm.trans q3
  have hselP : selectMethod e.platform s.vm cellB.cls mk = .method mk := by rw [Launch.admits_selectMethod X.admits]; exact q4
  obtain ⟨vm₁, X₁, hstep₁⟩ := X.invokevirtual hexec hown hlink hnamed hmethM hstM hkP hkPi hy (a := b) (cell := cellB) hcell
    (fun z h => by rw [h] at hobj; cases hobj) hselP hmethM habM hkP hkPi (g := g) hg (argsL := argsL) (rest := rest) (hlen _ hsigM) hstack hdg
  obtain ⟨v, B, X', hpost, hsteps⟩ := hK m meth c ⟨T.setVm vm₁, locs, cells, slots⟩ { g with stack := rest } (.invokevirtual index) mk (Value.ref b :: argsL).toArray X₁ hg hsize hdg hW (X₁.named hnamed) (hpre vm₁ X₁.warmed)
  exact ⟨v, vm₁, B, X₁.warmed, X', hpost, fun target h => hstep₁ _ fun acts => by rw [doInvoke_state]; exact hsteps.trans h⟩
abbrev vx_CVW (R : Room) (s : State) (args : Array Value) (own C : String) (index : Nat) (y : MethodName) (bytes : ByteArray) (maxL : Nat) (ret : Option FieldType) (hh : List (Nat × Nat × Nat × Nat)) (ws : List Cond) (rm : Room) (mc ms n : Nat) : Prop :=
  (rm.cells = mc ∧ rm.slots = ms ∧ rm.frames + 1 ≤ R.frames ∧ 8 + (maxL + 11) + rm.locals ≤ R.locals ∧ (∀ w ∈ ws, ∀ (a' : Array Value) (U : State), s.WarmedH U.vm → w.before a' U = true) ∧ Cond.codeWith y bytes maxL ret hh ∈ ws) ∧
  (Cond.codeWith y bytes maxL ret hh).before args s = true ∧ (Cond.initialized y.cls).before args s = true ∧ (y.cls ≠ "java/lang/invoke/MethodHandle" ∧ y.cls ≠ "java/lang/invoke/VarHandle") ∧
  (∀ sig, parseMethodDescriptor y.desc = some sig → n = sig.parameters.length) ∧ (Cond.methodLink own index y).before args s = true ∧ (Cond.instanceMethod y).before args s = true ∧ (Cond.selects C y y).before args s = true
theorem vx_cwVW {own C : String} {index maxL mc ms : Nat} {y : MethodName} {bytes : ByteArray} {ret : Option FieldType} {hh : List (Nat × Nat × Nat × Nat)} {Ts ws ws' : List Cond} {rm : Room} (n : Nat) (ht : ∀ w ∈ Ts, w.before args s = true) (hT : GoodIn Ts (wsV own index C y ws)) (hw : ws = Cond.codeWith y bytes maxL ret hh :: ws') (hrc : rm.cells = mc) (hrs : rm.slots = ms)
    (hd : y.cls = C ∧ y.cls ≠ "java/lang/invoke/MethodHandle" ∧ y.cls ≠ "java/lang/invoke/VarHandle" ∧ (parseMethodDescriptor y.desc).map (fun d => d.parameters.length) = some n) (hR : rm.frames + 1 ≤ R.frames ∧ 8 + (maxL + 11) + rm.locals ≤ R.locals) :
    vx_CVW R s args own C index y bytes maxL ret hh ws rm mc ms n := by
  obtain ⟨hC, hd⟩ := hd
  subst hC
  have ok : ∀ w ∈ wsV own index y.cls y ws, w.before args s = true := fun w h => ht w (hT w h).1
  have hG : GoodIn Ts ws := fun w h => hT w (by unfold wsV; exact List.mem_append_right _ h)
  have hc : Cond.codeWith y bytes maxL ret hh ∈ ws := by rw [hw]; exact List.mem_cons_self
  refine ⟨⟨hrc, hrs, hR.1, hR.2, pay_in ht hG, hc⟩, ht _ (hG _ hc).1, ok _ (by simp [wsV]), ⟨hd.1, hd.2.1⟩, fun sig h => ?_, ok _ (by simp [wsV]), ok _ (by simp [wsV]), ok _ (by simp [wsV])⟩
  have h2 := hd.2.2
  rw [h] at h2
  exact (Option.some.inj h2).symm
theorem vx_runVW {y : MethodName} {bytes cc : ByteArray} {maxL nL mc ms n index : Nat} {ret : Option FieldType} {hh : List (Nat × Nat × Nat × Nat)} {ws : List Cond} {rm : Room} {Pc : Array Value → State → Prop} {Qc : Array Value → State → Outcome → State → Prop} {free : Addr → Prop} {Ts : List Cond} {own C : String} {b : Addr} {As rest : List Value} {g : JFrame}
    (S : CallFix p m c cc nL s args Ts own) (hM : Met l y ws rm Pc Qc mc ms free) (cw : vx_CVW R s args own C index y bytes maxL ret hh ws rm mc ms n) (hp : PreV s H C b Pc As)
    (hg : g.method = m) (hn : As.length = n) (hsize : g.locals.size = nL) (hstack : g.stack = As.reverse ++ .ref b :: rest) (hW : 2 * g.monitorRoom + (rest.map fun v => v.category).sum ≤ 8) (hdg : decode cc g.pc = .ok (.invokevirtual index, 3)) (hf : cells + mc ≤ R.cells ∧ slots + ms ≤ R.slots) :
    va_Run p l e R s m args below meth c H locs cells slots mc ms g rest (Qc (Value.ref b :: As).toArray) free := by
  obtain ⟨⟨hrc, hrs, hfr, hlo, hws, hcw⟩, hcode, hini, hy, hlen, hl, hin, hse⟩ := cw
  have hK : Back l R p e below s args y 3 8 (PreOf R mc ms Pc) (PostOf Qc mc ms free) := va_backW (hh := hh) (bytes := bytes) (maxL := maxL) (ret := ret) hM hp.1 hrc hrs hfr hlo hws hcw (fun a' U hW => word_at hW (Or.inl (by first | rfl | simp [Cond.onTables, Cond.keeps, Cond.steady])) hini)
  obtain ⟨hx, hb, hml, ho, -⟩ := S
  obtain ⟨-, ⟨cellB, hcB, hoB, hclB⟩, hPc⟩ := hp
  intro T hT X
  obtain ⟨v, vm₁, ⟨U', l2, c2, s2⟩, hW₁, X', ⟨g', mk, t, L, e1, e2, hq, h1, hL, h2, h3⟩, st⟩ := vx_callVW X hx (C := C) (hh := hh) (bytes := bytes) (maxL := maxL) (ret := ret) ho hl hin hse hcode hy hK (by rw [hT]; exact hcB) hoB hclB hg (hsize.trans hml.symm) (argsL := As) (rest := rest) (fun sig h => hn.trans (hlen sig h)) hstack hW (by rw [hb]; exact hdg)
    (fun vm₁ hW₁ => ⟨hf.1, hf.2, hPc (T.setVm vm₁) hT hW₁⟩)
  dsimp only [Pt.U, Pt.locs, Pt.cells, Pt.slots] at X' e1 e2 h1 h2 h3 st
  subst h1; subst h2; subst h3
  exact ⟨v, (T.setVm vm₁).calling g' mk (Value.ref b :: As).toArray, t, U', L, hT, X', hL, e1, e2, hq, st⟩
section
variable {y : MethodName} {bytes cc : ByteArray} {maxL nL mc ms n index : Nat} {ret : Option FieldType} {ws : List Cond} {rm : Room} {Pc : Array Value → State → Prop} {Qc : Array Value → State → Outcome → State → Prop} {XC : String → State → State → Prop} {free : Addr → Prop} {Ts : List Cond} {own C : String} {b : Addr} {As rest : List Value} {g : JFrame}
theorem vx_runVX {hh : List (Nat × Nat × Nat × Nat)} (S : CallFix p m c cc nL s args Ts own) (hM : vx_Met l y ws rm Pc Qc XC mc ms free) (cw : vx_CVW R s args own C index y bytes maxL ret hh ws rm mc ms n) (hp : PreV s H C b Pc As)
    (hg : g.method = m) (hn : As.length = n) (hsize : g.locals.size = nL) (hstack : g.stack = As.reverse ++ .ref b :: rest) (hW : 2 * g.monitorRoom + (rest.map fun v => v.category).sum ≤ 8) (hdg : decode cc g.pc = .ok (.invokevirtual index, 3)) (hf : cells + mc ≤ R.cells ∧ slots + ms ≤ R.slots) :
    vx_Run p l e R s m args below meth c H locs cells slots mc ms g rest (Qc (Value.ref b :: As).toArray) XC free := by
  obtain ⟨⟨hrc, hrs, hfr, hlo, hws, hcw⟩, hcode, hini, hy, hlen, hl, hin, hse⟩ := cw
  have hK : vx_Back l R p e below s args y 3 8 (PreOf R mc ms Pc) (PostOf Qc mc ms free) (vx_Post XC mc ms free) := vx_backW (hh := hh) (bytes := bytes) (maxL := maxL) (ret := ret) hM hp.1 hrc hrs hfr hlo hws hcw (fun a' U hW => word_at hW (Or.inl (by first | rfl | simp [Cond.onTables, Cond.keeps, Cond.steady])) hini)
  obtain ⟨hx, hb, hml, ho, -⟩ := S
  obtain ⟨-, ⟨cellB, hcB, hoB, hclB⟩, hPc⟩ := hp
  intro T hT X
  rcases vx_callVX X hx (C := C) (hh := hh) (bytes := bytes) (maxL := maxL) (ret := ret) ho hl hin hse hcode hy hK (by rw [hT]; exact hcB) hoB hclB hg (hsize.trans hml.symm) (argsL := As) (rest := rest) (fun sig h => hn.trans (hlen sig h)) hstack hW (by rw [hb]; exact hdg)
    (fun vm₁ hW₁ => ⟨hf.1, hf.2, hPc (T.setVm vm₁) hT hW₁⟩) with ⟨v, vm₁, ⟨U', l2, c2, s2⟩, hW₁, X', ⟨g', mk, t, L, e1, e2, hq, h1, hL, h2, h3⟩, st⟩ | ⟨q, vm₁, ⟨U', l2, c2, s2⟩, hW₁, X', ⟨g', mk, t, L, E, ce, e1, e2, hq, hce, hcv, hcl, h1, hL, h2, h3⟩, st⟩
  · dsimp only [Pt.U, Pt.locs, Pt.cells, Pt.slots] at X' e1 e2 h1 h2 h3 st
    subst h1; subst h2; subst h3
    exact Or.inl ⟨v, (T.setVm vm₁).calling g' mk (Value.ref b :: As).toArray, t, U', L, hT, X', hL, e1, e2, hq, st⟩
  · dsimp only [Pt.U, Pt.locs, Pt.cells, Pt.slots] at X' e1 e2 h1 h2 h3 st hcl
    subst h1; subst h2; subst h3
    exact Or.inr ⟨q, (T.setVm vm₁).calling g' mk (Value.ref b :: As).toArray, t, U', L, E, ce, hT, X', hL, e1, e2, hq, hce, hcv, vx_cls hW₁ hcl, st⟩
theorem vx_runSX {hh : List (Nat × Nat × Nat × Nat)} (S : CallFix p m c cc nL s args Ts own) (hM : vx_Met l y ws rm Pc Qc XC mc ms free) (cw : vx_CSW R s args own index y bytes maxL ret hh ws rm mc ms n) (hp : PreS s H Pc As)
    (hg : g.method = m) (hn : As.length = n) (hsize : g.locals.size = nL) (hstack : g.stack = As.reverse ++ rest) (hW : 2 * g.monitorRoom + (rest.map fun v => v.category).sum ≤ 8) (hdg : decode cc g.pc = .ok (.invokestatic index, 3)) (hf : cells + mc ≤ R.cells ∧ slots + ms ≤ R.slots) :
    vx_Run p l e R s m args below meth c H locs cells slots mc ms g rest (Qc As.toArray) XC free := by
  obtain ⟨⟨hrc, hrs, hfr, hlo, hws, hcw⟩, hcode, hini, hy, hlen, hl, hstt⟩ := cw
  have hK : vx_Back l R p e below s args y 3 8 (PreOf R mc ms Pc) (PostOf Qc mc ms free) (vx_Post XC mc ms free) := vx_backW (hh := hh) (bytes := bytes) (maxL := maxL) (ret := ret) hM hp.1 hrc hrs hfr hlo hws hcw (fun a' U hW => word_at hW (Or.inl (by first | rfl | simp [Cond.onTables, Cond.keeps, Cond.steady])) hini)
  obtain ⟨hx, hb, hml, ho, -⟩ := S
  intro T hT X
  rcases vx_callSX X hx (hh := hh) (bytes := bytes) (maxL := maxL) (ret := ret) ho hl hstt hini hcode hy hK hg (hsize.trans hml.symm) (argsL := As) (rest := rest) (fun sig h => hn.trans (hlen sig h)) hstack hW (by rw [hb]; exact hdg)
    (fun vm₁ hW₁ => ⟨hf.1, hf.2, hp.2 (T.setVm vm₁) hT hW₁⟩) with ⟨v, vm₁, ⟨U', l2, c2, s2⟩, hW₁, X', ⟨g', mk, t, L, e1, e2, hq, h1, hL, h2, h3⟩, st⟩ | ⟨q, vm₁, ⟨U', l2, c2, s2⟩, hW₁, X', ⟨g', mk, t, L, E, ce, e1, e2, hq, hce, hcv, hcl, h1, hL, h2, h3⟩, st⟩
  · dsimp only [Pt.U, Pt.locs, Pt.cells, Pt.slots] at X' e1 e2 h1 h2 h3 st
    subst h1; subst h2; subst h3
    exact Or.inl ⟨v, (T.setVm vm₁).calling g' mk As.toArray, t, U', L, hT, X', hL, e1, e2, hq, st⟩
  · dsimp only [Pt.U, Pt.locs, Pt.cells, Pt.slots] at X' e1 e2 h1 h2 h3 st hcl
    subst h1; subst h2; subst h3
    exact Or.inr ⟨q, (T.setVm vm₁).calling g' mk As.toArray, t, U', L, E, ce, hT, X', hL, e1, e2, hq, hce, hcv, vx_cls hW₁ hcl, st⟩
end
end VXH
theorem vx_ofWH {l : Launch} {y : MethodName} {ws ws' : List Cond} {rm : Room} {Pc : Array Value → State → Prop} {Qc : Array Value → State → Outcome → State → Prop} {XC : String → State → State → Prop} {mc ms : Nat} {free : Addr → Prop} {cc : ByteArray} {maxL : Nat} {ret : Option FieldType} {hh : List (Nat × Nat × Nat × Nat)}
    (hy : plainName y.cls = true) (hw : ws = Cond.codeWith y cc maxL ret hh :: ws')
    (body : ∀ p e s m args below meth c s₁, BodyLoose p l y (headSpec ws rm) cc maxL ret e s m args below meth c s₁ → c.maxLocals = maxL → Pc args s →
      W p l e (headSpec ws rm).room s m args below meth c s.heap [] 0 0 (vx_MQ below Qc XC args s mc ms free) (entryFrame m args maxL)) : vx_Met l y ws rm Pc Qc XC mc ms free := by
  refine MetFree.of_bodyS (code := cc) (maxLocals := maxL) (ret := ret) hy ?_ ?_
  · intro args s m h hn
    obtain ⟨m9, meth, c, hn9, h1, h2, h3, h4, -, h5, h6, -⟩ := Cond.codeWith_spec (atoms_spec (ws := ws) h _ (by rw [hw]; exact List.mem_cons_self))
    cases hn.symm.trans hn9
    exact ⟨meth, c, h1, h2, h3, h4, h5, h6⟩
  · intro p e s m args below meth c s₁ B hml hP _
    have hh0 : s₁.heap = s.heap := by rw [B.state]; rfl
    obtain ⟨t, a1, o, b1, b2, b3⟩ := body p e s m args below meth c s₁ B hml hP s₁ hh0 (Stand.of_body B)
    exact ⟨t, o, a1, b1, b2, b3⟩
/-! ===== END ===== -/
end
section
def RX0 : String := "CaseTables$Compiler"
def TX0 : u_T := fun k => match k with
  | 0 => ("CaseTables$Compiler", "tokens", "LCaseTables$Tokens;", true)
  | 1 => ("CaseTables$Compiler", "program", "LCaseTables$Program;", true)
  | 2 => ("CaseTables$Compiler", "complaint", "I", false)
  | 3 => ("CaseTables$Compiler", "complaintAt", "I", false)
  | 4 => ("CaseTables$Compiler", "fun", "LCaseTables$Fun;", false)
  | _ => ("CaseTables$Compiler", "table", "LCaseTables$Table;", false)
def tyX0 : Nat → FieldType := fun k => match k with
  | 0 => .object "CaseTables$Tokens"
  | 1 => .object "CaseTables$Program"
  | 2 => .int
  | 3 => .int
  | 4 => .object "CaseTables$Fun"
  | _ => .object "CaseTables$Table"
abbrev wsX00 : List Cond := u_ws RX0 TX0 6
theorem nmX0 : ∀ a, a < 6 → ∀ b, b < 6 → a ≠ b → (TX0 a).2.1 ≠ (TX0 b).2.1 := by decide +kernel
theorem tyX0_ok : ∀ k, k < 6 → parseFieldDescriptor (TX0 k).2.2.1 = some (tyX0 k) := by decide +kernel
abbrev cX0_init : ByteArray := prog_2_method_1_code
def yX0_init : MethodName := ⟨RX0, "<init>", "(LCaseTables$Tokens;LCaseTables$Program;)V"⟩
abbrev cX0_translate : ByteArray := prog_2_method_2_code
def yX0_translate : MethodName := ⟨RX0, "translate", "()I"⟩
abbrev cX0_errorPlace : ByteArray := prog_2_method_3_code
def yX0_errorPlace : MethodName := ⟨RX0, "errorPlace", "()I"⟩
abbrev cX0_complain : ByteArray := prog_2_method_4_code
def yX0_complain : MethodName := ⟨RX0, "complain", "(II)V"⟩
abbrev cX0_readWhole : ByteArray := prog_2_method_5_code
def yX0_readWhole : MethodName := ⟨RX0, "readWhole", "(II)I"⟩
abbrev cX0_readItemName : ByteArray := prog_2_method_6_code
def yX0_readItemName : MethodName := ⟨RX0, "readItemName", "()J"⟩
abbrev cX0_readFun : ByteArray := prog_2_method_7_code
def yX0_readFun : MethodName := ⟨RX0, "readFun", "()V"⟩
abbrev cX0_readInput : ByteArray := prog_2_method_8_code
def yX0_readInput : MethodName := ⟨RX0, "readInput", "()V"⟩
abbrev cX0_readTable : ByteArray := prog_2_method_9_code
def yX0_readTable : MethodName := ⟨RX0, "readTable", "()V"⟩
abbrev cX0_readRow : ByteArray := prog_2_method_10_code
def yX0_readRow : MethodName := ⟨RX0, "readRow", "()V"⟩
abbrev cX0_readCell : ByteArray := prog_2_method_11_code
def yX0_readCell : MethodName := ⟨RX0, "readCell", "(LCaseTables$Row;I)V"⟩
abbrev cX0_readResult : ByteArray := prog_2_method_12_code
def yX0_readResult : MethodName := ⟨RX0, "readResult", "(LCaseTables$Row;)V"⟩
abbrev cX0_readBody : ByteArray := prog_2_method_13_code
def yX0_readBody : MethodName := ⟨RX0, "readBody", "()V"⟩
abbrev cX0_readExpression : ByteArray := prog_2_method_14_code
def yX0_readExpression : MethodName := ⟨RX0, "readExpression", "(I)V"⟩
abbrev cX0_readBoth : ByteArray := prog_2_method_15_code
def yX0_readBoth : MethodName := ⟨RX0, "readBoth", "(I)V"⟩
abbrev cX0_endSecond : ByteArray := prog_2_method_16_code
def yX0_endSecond : MethodName := ⟨RX0, "endSecond", "(I)V"⟩
abbrev cX0_readChoice : ByteArray := prog_2_method_17_code
def yX0_readChoice : MethodName := ⟨RX0, "readChoice", "(I)V"⟩
abbrev cX0_readRelation : ByteArray := prog_2_method_18_code
def yX0_readRelation : MethodName := ⟨RX0, "readRelation", "(I)V"⟩
abbrev cX0_readSum : ByteArray := prog_2_method_19_code
def yX0_readSum : MethodName := ⟨RX0, "readSum", "(I)V"⟩
abbrev cX0_readProduct : ByteArray := prog_2_method_20_code
def yX0_readProduct : MethodName := ⟨RX0, "readProduct", "(I)V"⟩
abbrev cX0_readFactor : ByteArray := prog_2_method_21_code
def yX0_readFactor : MethodName := ⟨RX0, "readFactor", "(I)V"⟩
abbrev cX0_readNamed : ByteArray := prog_2_method_22_code
def yX0_readNamed : MethodName := ⟨RX0, "readNamed", "(JII)V"⟩
abbrev cX0_readArguments : ByteArray := prog_2_method_23_code
def yX0_readArguments : MethodName := ⟨RX0, "readArguments", "(JII)V"⟩
def RX1 : String := "CaseTables$Fun"
def TX1 : u_T := fun k => match k with
  | 0 => ("CaseTables$Fun", "inputNames", "[J", true)
  | 1 => ("CaseTables$Fun", "ranges", "LCaseTables$Ranges;", true)
  | 2 => ("CaseTables$Fun", "operations", "[I", true)
  | 3 => ("CaseTables$Fun", "operands", "[I", true)
  | 4 => ("CaseTables$Fun", "places", "[I", true)
  | 5 => ("CaseTables$Fun", "name", "J", false)
  | 6 => ("CaseTables$Fun", "inputCount", "I", false)
  | 7 => ("CaseTables$Fun", "codeLength", "I", false)
  | 8 => ("CaseTables$Fun", "placeCount", "I", false)
  | _ => ("CaseTables$Fun", "size", "I", false)
def tyX1 : Nat → FieldType := fun k => match k with
  | 0 => .array .long
  | 1 => .object "CaseTables$Ranges"
  | 2 => .array .int
  | 3 => .array .int
  | 4 => .array .int
  | 5 => .long
  | 6 => .int
  | 7 => .int
  | 8 => .int
  | _ => .int
abbrev wsX10 : List Cond := u_ws RX1 TX1 10
theorem nmX1 : ∀ a, a < 10 → ∀ b, b < 10 → a ≠ b → (TX1 a).2.1 ≠ (TX1 b).2.1 := by decide +kernel
theorem tyX1_ok : ∀ k, k < 10 → parseFieldDescriptor (TX1 k).2.2.1 = some (tyX1 k) := by decide +kernel
abbrev cX1_init : ByteArray := prog_3_method_1_code
def yX1_init : MethodName := ⟨RX1, "<init>", "()V"⟩
abbrev cX1_clear : ByteArray := prog_3_method_2_code
def yX1_clear : MethodName := ⟨RX1, "clear", "()V"⟩
abbrev cX1_addInput : ByteArray := prog_3_method_3_code
def yX1_addInput : MethodName := ⟨RX1, "addInput", "(JII)V"⟩
abbrev cX1_inputNamed : ByteArray := prog_3_method_4_code
def yX1_inputNamed : MethodName := ⟨RX1, "inputNamed", "(J)I"⟩
abbrev cX1_nextPlace : ByteArray := prog_3_method_5_code
def yX1_nextPlace : MethodName := ⟨RX1, "nextPlace", "()I"⟩
abbrev cX1_emit : ByteArray := prog_3_method_6_code
def yX1_emit : MethodName := ⟨RX1, "emit", "(III)I"⟩
abbrev cX1_aimHere : ByteArray := prog_3_method_7_code
def yX1_aimHere : MethodName := ⟨RX1, "aimHere", "(I)V"⟩
abbrev cX1_operationAt : ByteArray := prog_3_method_8_code
def yX1_operationAt : MethodName := ⟨RX1, "operationAt", "(I)I"⟩
abbrev cX1_operandAt : ByteArray := prog_3_method_9_code
def yX1_operandAt : MethodName := ⟨RX1, "operandAt", "(I)I"⟩
abbrev cX1_placeAt : ByteArray := prog_3_method_10_code
def yX1_placeAt : MethodName := ⟨RX1, "placeAt", "(I)I"⟩
abbrev cX1_pairCount : ByteArray := prog_3_method_11_code
def yX1_pairCount : MethodName := ⟨RX1, "pairCount", "()I"⟩
def RX2 : String := "CaseTables$Machine"
def TX2 : u_T := fun k => match k with
  | 0 => ("CaseTables$Machine", "program", "LCaseTables$Program;", true)
  | 1 => ("CaseTables$Machine", "stack", "[J", true)
  | 2 => ("CaseTables$Machine", "thenCounts", "[I", true)
  | 3 => ("CaseTables$Machine", "elseCounts", "[I", true)
  | 4 => ("CaseTables$Machine", "top", "I", false)
  | 5 => ("CaseTables$Machine", "failed", "Z", false)
  | _ => ("CaseTables$Machine", "isCounting", "Z", false)
def tyX2 : Nat → FieldType := fun k => match k with
  | 0 => .object "CaseTables$Program"
  | 1 => .array .long
  | 2 => .array .int
  | 3 => .array .int
  | 4 => .int
  | 5 => .boolean
  | _ => .boolean
abbrev wsX20 : List Cond := u_ws RX2 TX2 7
theorem nmX2 : ∀ a, a < 7 → ∀ b, b < 7 → a ≠ b → (TX2 a).2.1 ≠ (TX2 b).2.1 := by decide +kernel
theorem tyX2_ok : ∀ k, k < 7 → parseFieldDescriptor (TX2 k).2.2.1 = some (tyX2 k) := by decide +kernel
abbrev cX2_init : ByteArray := prog_4_method_1_code
def yX2_init : MethodName := ⟨RX2, "<init>", "(LCaseTables$Program;)V"⟩
abbrev cX2_reckon : ByteArray := prog_4_method_2_code
def yX2_reckon : MethodName := ⟨RX2, "reckon", "(IIJJJ)J"⟩
abbrev cX2_hasFailed : ByteArray := prog_4_method_3_code
def yX2_hasFailed : MethodName := ⟨RX2, "hasFailed", "()Z"⟩
abbrev cX2_startCounting : ByteArray := prog_4_method_4_code
def yX2_startCounting : MethodName := ⟨RX2, "startCounting", "()V"⟩
abbrev cX2_stopCounting : ByteArray := prog_4_method_5_code
def yX2_stopCounting : MethodName := ⟨RX2, "stopCounting", "()V"⟩
abbrev cX2_branchCount : ByteArray := prog_4_method_6_code
def yX2_branchCount : MethodName := ⟨RX2, "branchCount", "(IZ)I"⟩
abbrev cX2_countBranch : ByteArray := prog_4_method_7_code
def yX2_countBranch : MethodName := ⟨RX2, "countBranch", "(IZ)V"⟩
abbrev cX2_push : ByteArray := prog_4_method_8_code
def yX2_push : MethodName := ⟨RX2, "push", "(J)V"⟩
abbrev cX2_pop : ByteArray := prog_4_method_9_code
def yX2_pop : MethodName := ⟨RX2, "pop", "()J"⟩
abbrev cX2_valueAt : ByteArray := prog_4_method_10_code
def yX2_valueAt : MethodName := ⟨RX2, "valueAt", "(I)J"⟩
abbrev cX2_run : ByteArray := prog_4_method_11_code
def yX2_run : MethodName := ⟨RX2, "run", "(III)V"⟩
abbrev cX2_runCalled : ByteArray := prog_4_method_12_code
def yX2_runCalled : MethodName := ⟨RX2, "runCalled", "(II)V"⟩
abbrev cX2_takesThen : ByteArray := prog_4_method_13_code
def yX2_takesThen : MethodName := ⟨RX2, "takesThen", "(IZ)Z"⟩
abbrev cX2_isDecided : ByteArray := prog_4_method_14_code
def yX2_isDecided : MethodName := ⟨RX2, "isDecided", "(Z)Z"⟩
abbrev cX2_apply : ByteArray := prog_4_method_15_code
def yX2_apply : MethodName := ⟨RX2, "apply", "(I)V"⟩
abbrev cX2_changedOperator : ByteArray := prog_4_method_16_code
def yX2_changedOperator : MethodName := ⟨RX2, "changedOperator", "(I)I"⟩
def RX3 : String := "CaseTables$Program"
def TX3 : u_T := fun k => match k with
  | 0 => ("CaseTables$Program", "funs", "[LCaseTables$Fun;", true)
  | 1 => ("CaseTables$Program", "tables", "[LCaseTables$Table;", true)
  | 2 => ("CaseTables$Program", "spareFun", "LCaseTables$Fun;", true)
  | 3 => ("CaseTables$Program", "spareTable", "LCaseTables$Table;", true)
  | 4 => ("CaseTables$Program", "funCount", "I", false)
  | 5 => ("CaseTables$Program", "tableCount", "I", false)
  | _ => ("CaseTables$Program", "ifCount", "I", false)
def tyX3 : Nat → FieldType := fun k => match k with
  | 0 => .array (.object "CaseTables$Fun")
  | 1 => .array (.object "CaseTables$Table")
  | 2 => .object "CaseTables$Fun"
  | 3 => .object "CaseTables$Table"
  | 4 => .int
  | 5 => .int
  | _ => .int
abbrev wsX30 : List Cond := u_ws RX3 TX3 7
theorem nmX3 : ∀ a, a < 7 → ∀ b, b < 7 → a ≠ b → (TX3 a).2.1 ≠ (TX3 b).2.1 := by decide +kernel
theorem tyX3_ok : ∀ k, k < 7 → parseFieldDescriptor (TX3 k).2.2.1 = some (tyX3 k) := by decide +kernel
abbrev cX3_init : ByteArray := prog_5_method_1_code
def yX3_init : MethodName := ⟨RX3, "<init>", "()V"⟩
abbrev cX3_clear : ByteArray := prog_5_method_2_code
def yX3_clear : MethodName := ⟨RX3, "clear", "()V"⟩
abbrev cX3_funAt : ByteArray := prog_5_method_3_code
def yX3_funAt : MethodName := ⟨RX3, "funAt", "(I)LCaseTables$Fun;"⟩
abbrev cX3_tableAt : ByteArray := prog_5_method_4_code
def yX3_tableAt : MethodName := ⟨RX3, "tableAt", "(I)LCaseTables$Table;"⟩
abbrev cX3_nextFun : ByteArray := prog_5_method_5_code
def yX3_nextFun : MethodName := ⟨RX3, "nextFun", "()LCaseTables$Fun;"⟩
abbrev cX3_keepFun : ByteArray := prog_5_method_6_code
def yX3_keepFun : MethodName := ⟨RX3, "keepFun", "()V"⟩
abbrev cX3_nextTable : ByteArray := prog_5_method_7_code
def yX3_nextTable : MethodName := ⟨RX3, "nextTable", "()LCaseTables$Table;"⟩
abbrev cX3_keepTable : ByteArray := prog_5_method_8_code
def yX3_keepTable : MethodName := ⟨RX3, "keepTable", "()V"⟩
abbrev cX3_nextIf : ByteArray := prog_5_method_9_code
def yX3_nextIf : MethodName := ⟨RX3, "nextIf", "()I"⟩
abbrev cX3_funNamed : ByteArray := prog_5_method_10_code
def yX3_funNamed : MethodName := ⟨RX3, "funNamed", "(J)I"⟩
abbrev cX3_hasItem : ByteArray := prog_5_method_11_code
def yX3_hasItem : MethodName := ⟨RX3, "hasItem", "(J)Z"⟩
abbrev cX3_tablesOf : ByteArray := prog_5_method_12_code
def yX3_tablesOf : MethodName := ⟨RX3, "tablesOf", "(I)I"⟩
abbrev cX3_caseCount : ByteArray := prog_5_method_13_code
def yX3_caseCount : MethodName := ⟨RX3, "caseCount", "()I"⟩
def RX4 : String := "CaseTables$Ranges"
def TX4 : u_T := fun k => match k with
  | 0 => ("CaseTables$Ranges", "lows", "[I", true)
  | _ => ("CaseTables$Ranges", "highs", "[I", true)
def tyX4 : Nat → FieldType := fun k => match k with
  | 0 => .array .int
  | _ => .array .int
abbrev wsX40 : List Cond := u_ws RX4 TX4 2
theorem nmX4 : ∀ a, a < 2 → ∀ b, b < 2 → a ≠ b → (TX4 a).2.1 ≠ (TX4 b).2.1 := by decide +kernel
theorem tyX4_ok : ∀ k, k < 2 → parseFieldDescriptor (TX4 k).2.2.1 = some (tyX4 k) := by decide +kernel
abbrev cX4_init : ByteArray := prog_6_method_1_code
def yX4_init : MethodName := ⟨RX4, "<init>", "()V"⟩
abbrev cX4_clear : ByteArray := prog_6_method_2_code
def yX4_clear : MethodName := ⟨RX4, "clear", "()V"⟩
abbrev cX4_put : ByteArray := prog_6_method_3_code
def yX4_put : MethodName := ⟨RX4, "put", "(III)V"⟩
abbrev cX4_low : ByteArray := prog_6_method_4_code
def yX4_low : MethodName := ⟨RX4, "low", "(I)I"⟩
abbrev cX4_high : ByteArray := prog_6_method_5_code
def yX4_high : MethodName := ⟨RX4, "high", "(I)I"⟩
abbrev cX4_width : ByteArray := prog_6_method_6_code
def yX4_width : MethodName := ⟨RX4, "width", "(I)I"⟩
abbrev cX4_rowCount : ByteArray := prog_6_method_7_code
def yX4_rowCount : MethodName := ⟨RX4, "rowCount", "()I"⟩
abbrev cX4_valueAt : ByteArray := prog_6_method_8_code
def yX4_valueAt : MethodName := ⟨RX4, "valueAt", "(II)I"⟩
def RX5 : String := "CaseTables$Row"
def TX5 : u_T := fun k => match k with
  | 0 => ("CaseTables$Row", "ranges", "LCaseTables$Ranges;", true)
  | 1 => ("CaseTables$Row", "result", "I", false)
  | 2 => ("CaseTables$Row", "number", "J", false)
  | 3 => ("CaseTables$Row", "found", "J", false)
  | _ => ("CaseTables$Row", "isSearched", "Z", false)
def tyX5 : Nat → FieldType := fun k => match k with
  | 0 => .object "CaseTables$Ranges"
  | 1 => .int
  | 2 => .long
  | 3 => .long
  | _ => .boolean
abbrev wsX50 : List Cond := u_ws RX5 TX5 5
theorem nmX5 : ∀ a, a < 5 → ∀ b, b < 5 → a ≠ b → (TX5 a).2.1 ≠ (TX5 b).2.1 := by decide +kernel
theorem tyX5_ok : ∀ k, k < 5 → parseFieldDescriptor (TX5 k).2.2.1 = some (tyX5 k) := by decide +kernel
abbrev cX5_init : ByteArray := prog_7_method_1_code
def yX5_init : MethodName := ⟨RX5, "<init>", "()V"⟩
abbrev cX5_clear : ByteArray := prog_7_method_2_code
def yX5_clear : MethodName := ⟨RX5, "clear", "()V"⟩
abbrev cX5_admits : ByteArray := prog_7_method_3_code
def yX5_admits : MethodName := ⟨RX5, "admits", "(ZJ)Z"⟩
def RX6 : String := "CaseTables$Runner"
def TX6 : u_T := fun k => match k with
  | 0 => ("CaseTables$Runner", "program", "LCaseTables$Program;", true)
  | 1 => ("CaseTables$Runner", "machine", "LCaseTables$Machine;", true)
  | _ => ("CaseTables$Runner", "isFresh", "Z", false)
def tyX6 : Nat → FieldType := fun k => match k with
  | 0 => .object "CaseTables$Program"
  | 1 => .object "CaseTables$Machine"
  | _ => .boolean
abbrev wsX60 : List Cond := u_ws RX6 TX6 3
theorem nmX6 : ∀ a, a < 3 → ∀ b, b < 3 → a ≠ b → (TX6 a).2.1 ≠ (TX6 b).2.1 := by decide +kernel
theorem tyX6_ok : ∀ k, k < 3 → parseFieldDescriptor (TX6 k).2.2.1 = some (tyX6 k) := by decide +kernel
abbrev cX6_init : ByteArray := prog_8_method_1_code
def yX6_init : MethodName := ⟨RX6, "<init>", "(LCaseTables$Program;LCaseTables$Machine;)V"⟩
abbrev cX6_forget : ByteArray := prog_8_method_2_code
def yX6_forget : MethodName := ⟨RX6, "forget", "()V"⟩
abbrev cX6_refresh : ByteArray := prog_8_method_3_code
def yX6_refresh : MethodName := ⟨RX6, "refresh", "()V"⟩
abbrev cX6_runTable : ByteArray := prog_8_method_4_code
def yX6_runTable : MethodName := ⟨RX6, "runTable", "(LCaseTables$Table;)V"⟩
abbrev cX6_isHolding : ByteArray := prog_8_method_5_code
def yX6_isHolding : MethodName := ⟨RX6, "isHolding", "(ILCaseTables$Row;II)Z"⟩
abbrev cX6_changesFound : ByteArray := prog_8_method_6_code
def yX6_changesFound : MethodName := ⟨RX6, "changesFound", "(LCaseTables$Table;LCaseTables$Row;)J"⟩
abbrev cX6_search : ByteArray := prog_8_method_7_code
def yX6_search : MethodName := ⟨RX6, "search", "(ILCaseTables$Row;)V"⟩
def RX7 : String := "CaseTables$Table"
def TX7 : u_T := fun k => match k with
  | 0 => ("CaseTables$Table", "rows", "[LCaseTables$Row;", true)
  | 1 => ("CaseTables$Table", "spareRow", "LCaseTables$Row;", true)
  | 2 => ("CaseTables$Table", "holding", "[Z", true)
  | 3 => ("CaseTables$Table", "name", "J", false)
  | 4 => ("CaseTables$Table", "fun", "I", false)
  | 5 => ("CaseTables$Table", "rowCount", "I", false)
  | _ => ("CaseTables$Table", "caseCount", "I", false)
def tyX7 : Nat → FieldType := fun k => match k with
  | 0 => .array (.object "CaseTables$Row")
  | 1 => .object "CaseTables$Row"
  | 2 => .array .boolean
  | 3 => .long
  | 4 => .int
  | 5 => .int
  | _ => .int
abbrev wsX70 : List Cond := u_ws RX7 TX7 7
theorem nmX7 : ∀ a, a < 7 → ∀ b, b < 7 → a ≠ b → (TX7 a).2.1 ≠ (TX7 b).2.1 := by decide +kernel
theorem tyX7_ok : ∀ k, k < 7 → parseFieldDescriptor (TX7 k).2.2.1 = some (tyX7 k) := by decide +kernel
abbrev cX7_init : ByteArray := prog_9_method_1_code
def yX7_init : MethodName := ⟨RX7, "<init>", "()V"⟩
abbrev cX7_clear : ByteArray := prog_9_method_2_code
def yX7_clear : MethodName := ⟨RX7, "clear", "()V"⟩
abbrev cX7_rowAt : ByteArray := prog_9_method_3_code
def yX7_rowAt : MethodName := ⟨RX7, "rowAt", "(I)LCaseTables$Row;"⟩
abbrev cX7_nextRow : ByteArray := prog_9_method_4_code
def yX7_nextRow : MethodName := ⟨RX7, "nextRow", "()LCaseTables$Row;"⟩
abbrev cX7_keepRow : ByteArray := prog_9_method_5_code
def yX7_keepRow : MethodName := ⟨RX7, "keepRow", "()V"⟩
abbrev cX7_drop : ByteArray := prog_9_method_6_code
def yX7_drop : MethodName := ⟨RX7, "drop", "(I)V"⟩
abbrev cX7_valueAt : ByteArray := prog_9_method_7_code
def yX7_valueAt : MethodName := ⟨RX7, "valueAt", "(II)I"⟩
abbrev cX7_note : ByteArray := prog_9_method_8_code
def yX7_note : MethodName := ⟨RX7, "note", "(IZ)V"⟩
abbrev cX7_isHolding : ByteArray := prog_9_method_9_code
def yX7_isHolding : MethodName := ⟨RX7, "isHolding", "(I)Z"⟩
abbrev cX7_tell : ByteArray := prog_9_method_10_code
def yX7_tell : MethodName := ⟨RX7, "tell", "(I)I"⟩
abbrev cX7_holdingCount : ByteArray := prog_9_method_11_code
def yX7_holdingCount : MethodName := ⟨RX7, "holdingCount", "()I"⟩
abbrev cX7_firstNotHolding : ByteArray := prog_9_method_12_code
def yX7_firstNotHolding : MethodName := ⟨RX7, "firstNotHolding", "()I"⟩
def RX8 : String := "CaseTables$Tape"
def TX8 : u_T := fun k => match k with
  | 0 => ("CaseTables$Tape", "bytes", "[B", true)
  | _ => ("CaseTables$Tape", "length", "I", false)
def tyX8 : Nat → FieldType := fun k => match k with
  | 0 => .array .byte
  | _ => .int
abbrev wsX80 : List Cond := u_ws RX8 TX8 2
theorem nmX8 : ∀ a, a < 2 → ∀ b, b < 2 → a ≠ b → (TX8 a).2.1 ≠ (TX8 b).2.1 := by decide +kernel
theorem tyX8_ok : ∀ k, k < 2 → parseFieldDescriptor (TX8 k).2.2.1 = some (tyX8 k) := by decide +kernel
abbrev cX8_init : ByteArray := prog_10_method_1_code
def yX8_init : MethodName := ⟨RX8, "<init>", "()V"⟩
abbrev cX8_length : ByteArray := prog_10_method_2_code
def yX8_length : MethodName := ⟨RX8, "length", "()I"⟩
abbrev cX8_room : ByteArray := prog_10_method_3_code
def yX8_room : MethodName := ⟨RX8, "room", "()I"⟩
abbrev cX8_cutTo : ByteArray := prog_10_method_4_code
def yX8_cutTo : MethodName := ⟨RX8, "cutTo", "(I)V"⟩
abbrev cX8_append : ByteArray := prog_10_method_5_code
def yX8_append : MethodName := ⟨RX8, "append", "(I)V"⟩
abbrev cX8_byteAt : ByteArray := prog_10_method_6_code
def yX8_byteAt : MethodName := ⟨RX8, "byteAt", "(I)I"⟩
def RX9 : String := "CaseTables$Tokens"
def TX9 : u_T := fun k => match k with
  | 0 => ("CaseTables$Tokens", "tape", "LCaseTables$Tape;", true)
  | 1 => ("CaseTables$Tokens", "kinds", "[I", true)
  | 2 => ("CaseTables$Tokens", "starts", "[I", true)
  | 3 => ("CaseTables$Tokens", "values", "[J", true)
  | 4 => ("CaseTables$Tokens", "next", "I", false)
  | 5 => ("CaseTables$Tokens", "kind", "I", false)
  | 6 => ("CaseTables$Tokens", "start", "I", false)
  | 7 => ("CaseTables$Tokens", "value", "J", false)
  | 8 => ("CaseTables$Tokens", "position", "I", false)
  | 9 => ("CaseTables$Tokens", "limit", "I", false)
  | _ => ("CaseTables$Tokens", "failed", "Z", false)
def tyX9 : Nat → FieldType := fun k => match k with
  | 0 => .object "CaseTables$Tape"
  | 1 => .array .int
  | 2 => .array .int
  | 3 => .array .long
  | 4 => .int
  | 5 => .int
  | 6 => .int
  | 7 => .long
  | 8 => .int
  | 9 => .int
  | _ => .boolean
abbrev wsX90 : List Cond := u_ws RX9 TX9 11
theorem nmX9 : ∀ a, a < 11 → ∀ b, b < 11 → a ≠ b → (TX9 a).2.1 ≠ (TX9 b).2.1 := by decide +kernel
theorem tyX9_ok : ∀ k, k < 11 → parseFieldDescriptor (TX9 k).2.2.1 = some (tyX9 k) := by decide +kernel
abbrev cX9_init : ByteArray := prog_11_method_1_code
def yX9_init : MethodName := ⟨RX9, "<init>", "(LCaseTables$Tape;)V"⟩
abbrev cX9_scan : ByteArray := prog_11_method_2_code
def yX9_scan : MethodName := ⟨RX9, "scan", "()V"⟩
abbrev cX9_sees : ByteArray := prog_11_method_3_code
def yX9_sees : MethodName := ⟨RX9, "sees", "(I)Z"⟩
abbrev cX9_passes : ByteArray := prog_11_method_4_code
def yX9_passes : MethodName := ⟨RX9, "passes", "(I)Z"⟩
abbrev cX9_expect : ByteArray := prog_11_method_5_code
def yX9_expect : MethodName := ⟨RX9, "expect", "(I)Z"⟩
abbrev cX9_oneOf : ByteArray := prog_11_method_6_code
def yX9_oneOf : MethodName := ⟨RX9, "oneOf", "(II)I"⟩
abbrev cX9_fail : ByteArray := prog_11_method_7_code
def yX9_fail : MethodName := ⟨RX9, "fail", "()V"⟩
abbrev cX9_startHere : ByteArray := prog_11_method_8_code
def yX9_startHere : MethodName := ⟨RX9, "startHere", "()I"⟩
abbrev cX9_valueHere : ByteArray := prog_11_method_9_code
def yX9_valueHere : MethodName := ⟨RX9, "valueHere", "()J"⟩
abbrev cX9_allow : ByteArray := prog_11_method_10_code
def yX9_allow : MethodName := ⟨RX9, "allow", "(I)V"⟩
abbrev cX9_allowAll : ByteArray := prog_11_method_11_code
def yX9_allowAll : MethodName := ⟨RX9, "allowAll", "()V"⟩
abbrev cX9_scanOne : ByteArray := prog_11_method_12_code
def yX9_scanOne : MethodName := ⟨RX9, "scanOne", "()V"⟩
abbrev cX9_skipBlanks : ByteArray := prog_11_method_13_code
def yX9_skipBlanks : MethodName := ⟨RX9, "skipBlanks", "()V"⟩
abbrev cX9_scanWord : ByteArray := prog_11_method_14_code
def yX9_scanWord : MethodName := ⟨RX9, "scanWord", "()V"⟩
abbrev cX9_wordKind : ByteArray := prog_11_method_15_code
def yX9_wordKind : MethodName := ⟨RX9, "wordKind", "()I"⟩
abbrev cX9_scanNumber : ByteArray := prog_11_method_16_code
def yX9_scanNumber : MethodName := ⟨RX9, "scanNumber", "()V"⟩
abbrev cX9_symbolKind : ByteArray := prog_11_method_17_code
def yX9_symbolKind : MethodName := ⟨RX9, "symbolKind", "(I)I"⟩
abbrev cX9_follows : ByteArray := prog_11_method_18_code
def yX9_follows : MethodName := ⟨RX9, "follows", "(I)Z"⟩
abbrev cX9_isBlank : ByteArray := prog_11_method_19_code
def yX9_isBlank : MethodName := ⟨RX9, "isBlank", "(I)Z"⟩
abbrev cX9_isLetter : ByteArray := prog_11_method_20_code
def yX9_isLetter : MethodName := ⟨RX9, "isLetter", "(I)Z"⟩
abbrev cX9_isDigit : ByteArray := prog_11_method_21_code
def yX9_isDigit : MethodName := ⟨RX9, "isDigit", "(I)Z"⟩
abbrev cX9_isWordSign : ByteArray := prog_11_method_22_code
def yX9_isWordSign : MethodName := ⟨RX9, "isWordSign", "(I)Z"⟩
def RX10 : String := "CaseTables$Untried"
def TX10 : u_T := fun k => match k with
  | 0 => ("CaseTables$Untried", "firstSecond", "[J", true)
  | 1 => ("CaseTables$Untried", "firstThird", "[J", true)
  | 2 => ("CaseTables$Untried", "secondThird", "[J", true)
  | 3 => ("CaseTables$Untried", "firstWidth", "I", false)
  | 4 => ("CaseTables$Untried", "secondWidth", "I", false)
  | _ => ("CaseTables$Untried", "thirdWidth", "I", false)
def tyX10 : Nat → FieldType := fun k => match k with
  | 0 => .array .long
  | 1 => .array .long
  | 2 => .array .long
  | 3 => .int
  | 4 => .int
  | _ => .int
abbrev wsX100 : List Cond := u_ws RX10 TX10 6
theorem nmX10 : ∀ a, a < 6 → ∀ b, b < 6 → a ≠ b → (TX10 a).2.1 ≠ (TX10 b).2.1 := by decide +kernel
theorem tyX10_ok : ∀ k, k < 6 → parseFieldDescriptor (TX10 k).2.2.1 = some (tyX10 k) := by decide +kernel
abbrev cX10_init : ByteArray := prog_12_method_1_code
def yX10_init : MethodName := ⟨RX10, "<init>", "()V"⟩
abbrev cX10_begin : ByteArray := prog_12_method_2_code
def yX10_begin : MethodName := ⟨RX10, "begin", "(LCaseTables$Fun;)V"⟩
abbrev cX10_strikeTable : ByteArray := prog_12_method_3_code
def yX10_strikeTable : MethodName := ⟨RX10, "strikeTable", "(LCaseTables$Ranges;LCaseTables$Table;)V"⟩
abbrev cX10_pairCount : ByteArray := prog_12_method_4_code
def yX10_pairCount : MethodName := ⟨RX10, "pairCount", "()I"⟩
abbrev cX10_bestRow : ByteArray := prog_12_method_5_code
def yX10_bestRow : MethodName := ⟨RX10, "bestRow", "()I"⟩
abbrev cX10_bestThird : ByteArray := prog_12_method_6_code
def yX10_bestThird : MethodName := ⟨RX10, "bestThird", "(II)I"⟩
abbrev cX10_pairsIn : ByteArray := prog_12_method_7_code
def yX10_pairsIn : MethodName := ⟨RX10, "pairsIn", "(III)I"⟩
abbrev cX10_fill : ByteArray := prog_12_method_8_code
def yX10_fill : MethodName := ⟨RX10, "fill", "([JII)V"⟩
abbrev cX10_strike : ByteArray := prog_12_method_9_code
def yX10_strike : MethodName := ⟨RX10, "strike", "([JLCaseTables$Ranges;LCaseTables$Ranges;II)V"⟩
abbrev cX10_lowestBit : ByteArray := prog_12_method_10_code
def yX10_lowestBit : MethodName := ⟨RX10, "lowestBit", "(J)I"⟩
abbrev cX10_upTo : ByteArray := prog_12_method_11_code
def yX10_upTo : MethodName := ⟨RX10, "upTo", "(I)J"⟩
abbrev cX10_bits : ByteArray := prog_12_method_12_code
def yX10_bits : MethodName := ⟨RX10, "bits", "([J)I"⟩
abbrev cX10_maskAt : ByteArray := prog_12_method_13_code
def yX10_maskAt : MethodName := ⟨RX10, "maskAt", "([JI)J"⟩
abbrev cX10_bitAt : ByteArray := prog_12_method_14_code
def yX10_bitAt : MethodName := ⟨RX10, "bitAt", "([JII)I"⟩
def RX11 : String := "CaseTables"
def TX11 : u_T := fun k => match k with
  | 0 => ("CaseTables", "tape", "LCaseTables$Tape;", true)
  | 1 => ("CaseTables", "tokens", "LCaseTables$Tokens;", true)
  | 2 => ("CaseTables", "program", "LCaseTables$Program;", true)
  | 3 => ("CaseTables", "compiler", "LCaseTables$Compiler;", true)
  | 4 => ("CaseTables", "machine", "LCaseTables$Machine;", true)
  | 5 => ("CaseTables", "runner", "LCaseTables$Runner;", true)
  | 6 => ("CaseTables", "untried", "LCaseTables$Untried;", true)
  | _ => ("CaseTables", "latestErrorAt", "I", false)
def tyX11 : Nat → FieldType := fun k => match k with
  | 0 => .object "CaseTables$Tape"
  | 1 => .object "CaseTables$Tokens"
  | 2 => .object "CaseTables$Program"
  | 3 => .object "CaseTables$Compiler"
  | 4 => .object "CaseTables$Machine"
  | 5 => .object "CaseTables$Runner"
  | 6 => .object "CaseTables$Untried"
  | _ => .int
abbrev wsX110 : List Cond := u_ws RX11 TX11 8
theorem nmX11 : ∀ a, a < 8 → ∀ b, b < 8 → a ≠ b → (TX11 a).2.1 ≠ (TX11 b).2.1 := by decide +kernel
theorem tyX11_ok : ∀ k, k < 8 → parseFieldDescriptor (TX11 k).2.2.1 = some (tyX11 k) := by decide +kernel
abbrev cX11_init : ByteArray := prog_1_method_1_code
def yX11_init : MethodName := ⟨RX11, "<init>", "()V"⟩
abbrev cX11_feed : ByteArray := prog_1_method_2_code
def yX11_feed : MethodName := ⟨RX11, "feed", "(IIIII)I"⟩
abbrev cX11_trim : ByteArray := prog_1_method_3_code
def yX11_trim : MethodName := ⟨RX11, "trim", "(I)I"⟩
abbrev cX11_compile : ByteArray := prog_1_method_4_code
def yX11_compile : MethodName := ⟨RX11, "compile", "()I"⟩
abbrev cX11_count : ByteArray := prog_1_method_6_code
def yX11_count : MethodName := ⟨RX11, "count", "(I)I"⟩
abbrev cX11_fun : ByteArray := prog_1_method_7_code
def yX11_fun : MethodName := ⟨RX11, "fun", "(II)I"⟩
abbrev cX11_propose : ByteArray := prog_1_method_11_code
def yX11_propose : MethodName := ⟨RX11, "propose", "(I)I"⟩
abbrev cX11_table : ByteArray := prog_1_method_12_code
def yX11_table : MethodName := ⟨RX11, "table", "(II)I"⟩
abbrev cX11_holds : ByteArray := prog_1_method_14_code
def yX11_holds : MethodName := ⟨RX11, "holds", "(II)Z"⟩
abbrev cX11_taken : ByteArray := prog_1_method_15_code
def yX11_taken : MethodName := ⟨RX11, "taken", "(IZ)I"⟩
abbrev cX11_finds : ByteArray := prog_1_method_16_code
def yX11_finds : MethodName := ⟨RX11, "finds", "(II)Z"⟩
abbrev cX11_score : ByteArray := prog_1_method_17_code
def yX11_score : MethodName := ⟨RX11, "score", "(I)D"⟩
abbrev cX11_grow : ByteArray := prog_1_method_18_code
def yX11_grow : MethodName := ⟨RX11, "grow", "(I)I"⟩
abbrev cX11_shorten : ByteArray := prog_1_method_19_code
def yX11_shorten : MethodName := ⟨RX11, "shorten", "(I)I"⟩
abbrev cX11_digest : ByteArray := prog_1_method_20_code
def yX11_digest : MethodName := ⟨RX11, "digest", "()J"⟩
abbrev cX11_addTable : ByteArray := prog_1_method_21_code
def yX11_addTable : MethodName := ⟨RX11, "addTable", "(JLCaseTables$Table;)J"⟩
abbrev cX11_requireBelow : ByteArray := prog_1_method_22_code
def yX11_requireBelow : MethodName := ⟨RX11, "requireBelow", "(II)V"⟩
abbrev cX11_existingFun : ByteArray := prog_1_method_23_code
def yX11_existingFun : MethodName := ⟨RX11, "existingFun", "(I)LCaseTables$Fun;"⟩
abbrev cX11_existingTable : ByteArray := prog_1_method_24_code
def yX11_existingTable : MethodName := ⟨RX11, "existingTable", "(I)LCaseTables$Table;"⟩
abbrev cX11_findUntried : ByteArray := prog_1_method_26_code
def yX11_findUntried : MethodName := ⟨RX11, "findUntried", "(I)V"⟩
abbrev cX11_addCase : ByteArray := prog_1_method_27_code
def yX11_addCase : MethodName := ⟨RX11, "addCase", "(LCaseTables$Table;I)V"⟩
abbrev cX11_isRelated : ByteArray := prog_1_method_28_code
def yX11_isRelated : MethodName := ⟨RX11, "isRelated", "(IJJ)Z"⟩
def RX12 : String := "CaseTablesModel"
def TX12 : u_T := fun k => match k with
  | _ => ("", "", "", false)
def tyX12 : Nat → FieldType := fun k => match k with
  | _ => .int
abbrev wsX120 : List Cond := u_ws RX12 TX12 0
theorem nmX12 : ∀ a, a < 0 → ∀ b, b < 0 → a ≠ b → (TX12 a).2.1 ≠ (TX12 b).2.1 := by decide +kernel
theorem tyX12_ok : ∀ k, k < 0 → parseFieldDescriptor (TX12 k).2.2.1 = some (tyX12 k) := by decide +kernel
def RJ13 : String := "java/lang/Long"
abbrev cJ13_bitCount_95d88 : ByteArray := prog_19_method_50_code
def yJ13_bitCount_95d88 : MethodName := ⟨RJ13, "bitCount", "(J)I"⟩
def RJ9 : String := "java/lang/Math"
abbrev cJ9_max_7cf53 : ByteArray := prog_20_method_65_code
def yJ9_max_7cf53 : MethodName := ⟨RJ9, "max", "(II)I"⟩
def RJ0 : String := "java/lang/String"
abbrev cJ0_length_8abf5 : ByteArray := prog_22_method_54_code
def yJ0_length_8abf5 : MethodName := ⟨RJ0, "length", "()I"⟩
abbrev cJ0_charAt_5068e : ByteArray := prog_22_method_56_code
def yJ0_charAt_5068e : MethodName := ⟨RJ0, "charAt", "(I)C"⟩
abbrev cJ0_coder_7d493 : ByteArray := prog_22_method_152_code
def yJ0_coder_7d493 : MethodName := ⟨RJ0, "coder", "()B"⟩
abbrev cJ0_isLatin1_aae02 : ByteArray := prog_22_method_154_code
def yJ0_isLatin1_aae02 : MethodName := ⟨RJ0, "isLatin1", "()Z"⟩
abbrev cJ0_checkIndex_df160 : ByteArray := prog_22_method_155_code
def yJ0_checkIndex_df160 : MethodName := ⟨RJ0, "checkIndex", "(II)V"⟩
def RJ1 : String := "java/lang/StringLatin1"
abbrev cJ1_charAt_3b067 : ByteArray := prog_23_method_2_code
def yJ1_charAt_3b067 : MethodName := ⟨RJ1, "charAt", "([BI)C"⟩
def RJ2 : String := "java/lang/StringUTF16"
abbrev cJ2_getChar_3b067 : ByteArray := prog_24_method_5_code
def yJ2_getChar_3b067 : MethodName := ⟨RJ2, "getChar", "([BI)C"⟩
abbrev cJ2_length_9d52b : ByteArray := prog_24_method_6_code
def yJ2_length_9d52b : MethodName := ⟨RJ2, "length", "([B)I"⟩
abbrev cJ2_charAt_3b067 : ByteArray := prog_24_method_83_code
def yJ2_charAt_3b067 : MethodName := ⟨RJ2, "charAt", "([BI)C"⟩
abbrev cJ2_checkIndex_2214a : ByteArray := prog_24_method_91_code
def yJ2_checkIndex_2214a : MethodName := ⟨RJ2, "checkIndex", "(I[B)V"⟩
def RJ3 : String := "jdk/internal/util/Preconditions"
abbrev cJ3_checkIndex_8e157 : ByteArray := prog_26_method_11_code
def yJ3_checkIndex_8e157 : MethodName := ⟨RJ3, "checkIndex", "(IILjava/util/function/BiFunction;)I"⟩
def RL : String := "CaseTablesLaw"
abbrev cL_below : ByteArray := method_2_code
def yL_below : MethodName := ⟨RL, "below", "(II)I"⟩
abbrev cL_cell : ByteArray := method_3_code
def yL_cell : MethodName := ⟨RL, "cell", "([II)I"⟩
abbrev cL_put : ByteArray := method_4_code
def yL_put : MethodName := ⟨RL, "put", "([ILjava/lang/String;)V"⟩
abbrev cL_put_ : ByteArray := method_5_code
def yL_put_ : MethodName := ⟨RL, "put", "([II)V"⟩
abbrev cL_lay : ByteArray := method_6_code
def yL_lay : MethodName := ⟨RL, "lay", "(LCaseTables;[I)Z"⟩
abbrev cL_law : ByteArray := code
def yL_law : MethodName := ⟨RL, "law", "([I)Z"⟩
abbrev vwCl : List vw_C := [(RX0, TX0, 6), (RX1, TX1, 10), (RX2, TX2, 7), (RX3, TX3, 7), (RX4, TX4, 2), (RX5, TX5, 5), (RX6, TX6, 3), (RX7, TX7, 7), (RX8, TX8, 2), (RX9, TX9, 11), (RX10, TX10, 6), (RX11, TX11, 8)]
end
section
/-! ===== the bench machine: values, worlds, rows, what a run comes to (pure; no JVM here) ===== -/
/-- a value: int, long, reference, double, a constant of the launch (a String, its bytes, a static row) -/
abbrev bm_V : Type := Int ⊕ (Int ⊕ (Option Nat ⊕ (UInt64 ⊕ (Nat × Nat))))
abbrev bm_i (x : Int) : bm_V := Sum.inl x
abbrev bm_l (x : Int) : bm_V := Sum.inr (Sum.inl x)
abbrev bm_r (x : Option Nat) : bm_V := Sum.inr (Sum.inr (Sum.inl x))
abbrev bm_d (x : UInt64) : bm_V := Sum.inr (Sum.inr (Sum.inr (Sum.inl x)))
abbrev bm_k (x : Nat × Nat) : bm_V := Sum.inr (Sum.inr (Sum.inr (Sum.inr x)))
abbrev bm_L : Type := List (Option bm_V)
/-- a world: ints, longs, references by address and place; the kind of an address (99: none), its length; the next address; slots made -/
abbrev bm_W : Type := (Nat → Nat → Int) × (Nat → Nat → Int) × (Nat → Nat → Option Nat) × (Nat → Nat) × (Nat → Nat) × Nat × Nat
def bm_gi (w : bm_W) : Nat → Nat → Int := w.1
def bm_gl (w : bm_W) : Nat → Nat → Int := w.2.1
def bm_gr (w : bm_W) : Nat → Nat → Option Nat := w.2.2.1
def bm_kt (w : bm_W) : Nat → Nat := w.2.2.2.1
def bm_kn (w : bm_W) : Nat → Nat := w.2.2.2.2.1
def bm_sz (w : bm_W) : Nat := w.2.2.2.2.2.1
def bm_sl (w : bm_W) : Nat := w.2.2.2.2.2.2
def bm_si (w : bm_W) (a k : Nat) (v : Int) : bm_W := (fun b j => if b = a ∧ j = k then v else w.1 b j, w.2)
def bm_sq (w : bm_W) (a k : Nat) (v : Int) : bm_W := (w.1, fun b j => if b = a ∧ j = k then v else w.2.1 b j, w.2.2)
def bm_sr (w : bm_W) (a k : Nat) (v : Option Nat) : bm_W := (w.1, w.2.1, fun b j => if b = a ∧ j = k then v else w.2.2.1 b j, w.2.2.2)
/-- a new cell of kind t, length n, with m slots -/
def bm_nw (w : bm_W) (t n m : Nat) : bm_W :=
  (fun b j => if b = bm_sz w then 0 else w.1 b j, fun b j => if b = bm_sz w then 0 else w.2.1 b j, fun b j => if b = bm_sz w then none else w.2.2.1 b j,
    fun b => if b = bm_sz w then t else w.2.2.2.1 b, fun b => if b = bm_sz w then n else w.2.2.2.2.1 b, bm_sz w + 1, bm_sl w + m)
/-- a new row that begins as a copy of the row a -/
def bm_cp (w : bm_W) (a : Nat) : bm_W :=
  (fun b j => if b = bm_sz w then w.1 a j else w.1 b j, fun b j => if b = bm_sz w then w.2.1 a j else w.2.1 b j, fun b j => if b = bm_sz w then none else w.2.2.1 b j,
    fun b => if b = bm_sz w then bm_kt w a else w.2.2.2.1 b, fun b => if b = bm_sz w then bm_kn w a else w.2.2.2.2.1 b, bm_sz w + 1, bm_sl w + bm_kn w a)
/-- n places of the row a, from p on, copied into the row b, from q on -/
def bm_ci (w : bm_W) (a p b q n : Nat) : bm_W := (fun c j => if c = b ∧ q ≤ j ∧ j < q + n then w.1 a (p + (j - q)) else w.1 c j, w.2)
def bm_cl (w : bm_W) (a p b q n : Nat) : bm_W := (w.1, fun c j => if c = b ∧ q ≤ j ∧ j < q + n then w.2.1 a (p + (j - q)) else w.2.1 c j, w.2.2)
/-- an exception has come: a cell of six slots at most -/
def bm_tw (w : bm_W) : bm_W := (w.1, w.2.1, w.2.2.1, w.2.2.2.1, w.2.2.2.2.1, bm_sz w + 1, bm_sl w + 6)
/-- wrap-around -/
def bm_w (x : Int) : Int := (x + 2147483648) % 4294967296 - 2147483648
def bm_x (x : Int) : Int := (x + 9223372036854775808) % 18446744073709551616 - 9223372036854775808
def bm_b8 (x : Int) : Int := (x + 128) % 256 - 128
def bm_InI (x : Int) : Prop := -2147483648 ≤ x ∧ x < 2147483648
def bm_InL (x : Int) : Prop := -9223372036854775808 ≤ x ∧ x < 9223372036854775808
/-- the i-th of a list, the locals -/
def bm_nth {α : Type} : List α → Nat → Option α
  | [], _ => none
  | a :: _, 0 => some a
  | _ :: l, n + 1 => bm_nth l n
def bm_kl (o : Option bm_V) : Nat → Option bm_V
  | 0 => match o with
    | some (.inr (.inl _)) => none
    | some (.inr (.inr (.inr (.inl _)))) => none
    | o => o
  | _ + 1 => o
def bm_st1 : bm_L → Nat → bm_V → bm_L
  | [], _, _ => []
  | _ :: r, 0, v => some v :: r
  | o :: r, i + 1, v => bm_kl o i :: bm_st1 r i v
def bm_st2 : bm_L → Nat → bm_V → bm_L
  | [], _, _ => []
  | [_], 0, v => [some v]
  | _ :: _ :: r, 0, v => some v :: none :: r
  | o :: r, i + 1, v => bm_kl o i :: bm_st2 r i v
def bm_mask : List Bool → bm_L → bm_L
  | [], l => l
  | _ :: _, [] => []
  | true :: m, o :: l => o :: bm_mask m l
  | false :: m, _ :: l => none :: bm_mask m l
abbrev bm_S : Type := Nat × bm_L × List bm_V × bm_W
abbrev bm_Rt : Type := Option bm_V ⊕ String
/-- a row of a method: plain; under a guard; a branch; a switch; a call (method, arguments, next, what it answers, its receiver: 0 none, 1 any object, 2 a String of the launch, t + 3 an object of class t); a return (0 void, 1 int, 2 truth, 3 long, 4 double, 5 reference, 6 char, 7 byte); a throw -/
abbrev bm_Row : Type := (bm_L → List bm_V → bm_W → Option bm_S) ⊕ ((bm_L → List bm_V → bm_W → Option (Prop × bm_S)) ⊕ ((bm_L → List bm_V → bm_W → Option (Bool × bm_S × bm_S)) ⊕ ((List bm_V → Option (Int × List (Int × Nat) × Nat × List bm_V)) ⊕ ((Nat × Nat × Nat × Nat × Nat) ⊕ (Nat ⊕ String)))))
abbrev bm_P (f : bm_L → List bm_V → bm_W → Option bm_S) : bm_Row := .inl f
abbrev bm_G (f : bm_L → List bm_V → bm_W → Option (Prop × bm_S)) : bm_Row := .inr (.inl f)
abbrev bm_B (f : bm_L → List bm_V → bm_W → Option (Bool × bm_S × bm_S)) : bm_Row := .inr (.inr (.inl f))
abbrev bm_Sw (f : List bm_V → Option (Int × List (Int × Nat) × Nat × List bm_V)) : bm_Row := .inr (.inr (.inr (.inl f)))
abbrev bm_C (y n nx rt rk : Nat) : bm_Row := .inr (.inr (.inr (.inr (.inl (y, n, nx, rt, rk)))))
abbrev bm_R (k : Nat) : bm_Row := .inr (.inr (.inr (.inr (.inr (.inl k)))))
abbrev bm_T (E : String) : bm_Row := .inr (.inr (.inr (.inr (.inr (.inr E)))))
abbrev bm_Tb : Type := List (Nat × List Bool × bm_Row)
def bm_look : bm_Tb → Nat → Option (List Bool × bm_Row)
  | [], _ => none
  | (p, r) :: l, n => if n.beq p = true then some r else bm_look l n
def bm_c0 (k : Prop) (kx : String → Prop) : bm_Rt → Prop
  | .inl none => k
  | .inl (some _) => False
  | .inr E => kx E
def bm_c1 (k : Int → Prop) (kx : String → Prop) : bm_Rt → Prop
  | .inl (some (.inl x)) => k x
  | .inl _ => False
  | .inr E => kx E
def bm_c2 (k : Int → Prop) (kx : String → Prop) : bm_Rt → Prop
  | .inl (some (.inr (.inl x))) => k x
  | .inl _ => False
  | .inr E => kx E
def bm_c3 (k : Nat → Prop) (kx : String → Prop) : bm_Rt → Prop
  | .inl (some (.inr (.inr (.inl (some x))))) => k x
  | .inl _ => False
  | .inr E => kx E
def bm_c4 (k : UInt64 → Prop) (kx : String → Prop) : bm_Rt → Prop
  | .inl (some (.inr (.inr (.inr (.inl x))))) => k x
  | .inl _ => False
  | .inr E => kx E
def bm_c5 (k : Prop) : bm_Rt → Prop
  | .inl none => k
  | .inl (some _) => False
  | .inr _ => False
def bm_sw (x : Int) (k : Nat → Prop) : List (Int × Nat) → Nat → Prop
  | [], d => k d
  | (a, p) :: r, d => if x = a then k p else bm_sw x k r d
/-- what lies under a call's arguments: at most 8 words -/
def bm_wt : List bm_V → Nat
  | [] => 0
  | .inr (.inl _) :: r => bm_wt r + 2
  | .inr (.inr (.inr (.inl _))) :: r => bm_wt r + 2
  | _ :: r => bm_wt r + 1
def bm_ok (n : Nat) (st : List bm_V) : Bool := match n.ble st.length with
  | true => (bm_wt (st.drop n)).ble 8
  | false => false
/-- the receiver of a call -/
def bm_rcv (w : bm_W) : Nat → List bm_V → Prop
  | 0, _ => True
  | 1, .inr (.inr (.inl (some _))) :: _ => True
  | 2, .inr (.inr (.inr (.inr (0, i)))) :: _ => i < 20
  | t + 3, .inr (.inr (.inl (some b))) :: _ => bm_kt w b = t
  | _, _ => False
abbrev bm_Ca : Type := Nat → List bm_V → bm_W → (bm_Rt → bm_W → Prop) → Prop
def bm_exe (C : bm_Ca) (r : bm_Row) (P : bm_S → Prop) (F : bm_Rt → bm_W → Prop) (lo : bm_L) (st : List bm_V) (w : bm_W) : Prop :=
  match r with
  | .inl f => match f lo st w with
    | some s => P s
    | none => False
  | .inr (.inl f) => match f lo st w with
    | some (g, s) => g ∧ P s
    | none => False
  | .inr (.inr (.inl f)) => match f lo st w with
    | some (b, s, t) => if b = true then P s else P t
    | none => False
  | .inr (.inr (.inr (.inl f))) => match f st with
    | some (x, cs, d, st') => bm_sw x (fun pc => P (pc, lo, st', w)) cs d
    | none => False
  | .inr (.inr (.inr (.inr (.inl (y, n, nx, rt, rk))))) => match bm_ok n st with
    | false => False
    | true => bm_rcv w rk (st.take n).reverse ∧ match rt with
      | 0 => C y (st.take n).reverse w (fun r w' => bm_c0 (P (nx, lo, st.drop n, w')) (fun E => F (.inr E) w') r)
      | 1 => C y (st.take n).reverse w (fun r w' => bm_c1 (fun x => P (nx, lo, bm_i x :: st.drop n, w')) (fun E => F (.inr E) w') r)
      | 2 => C y (st.take n).reverse w (fun r w' => bm_c2 (fun x => P (nx, lo, bm_l x :: st.drop n, w')) (fun E => F (.inr E) w') r)
      | 3 => C y (st.take n).reverse w (fun r w' => bm_c3 (fun x => P (nx, lo, bm_r (some x) :: st.drop n, w')) (fun E => F (.inr E) w') r)
      | 4 => C y (st.take n).reverse w (fun r w' => bm_c4 (fun x => P (nx, lo, bm_d x :: st.drop n, w')) (fun E => F (.inr E) w') r)
      | 5 => C y (st.take n).reverse w (fun r w' => bm_c5 (P (nx, lo, st.drop n, w')) r)
      | _ => C y (st.take n).reverse w (fun r w' => bm_c1 (fun x => P (nx, lo, bm_i x :: st.drop n, w')) (fun _ => False) r)
  | .inr (.inr (.inr (.inr (.inr (.inl k))))) => match k, st with
    | 0, [] => F (.inl none) w
    | 1, [.inl x] => F (.inl (some (.inl x))) w
    | 2, [.inl x] => (x = 0 ∨ x = 1) ∧ F (.inl (some (.inl x))) w
    | 3, [.inr (.inl x)] => F (.inl (some (.inr (.inl x)))) w
    | 4, [.inr (.inr (.inr (.inl x)))] => F (.inl (some (.inr (.inr (.inr (.inl x)))))) w
    | 5, [.inr (.inr (.inl x))] => F (.inl (some (.inr (.inr (.inl x))))) w
    | 6, [.inl x] => (0 ≤ x ∧ x < 65536) ∧ F (.inl (some (.inl x))) w
    | 7, [.inl x] => (-128 ≤ x ∧ x < 128) ∧ F (.inl (some (.inl x))) w
    | _, _ => False
  | .inr (.inr (.inr (.inr (.inr (.inr E))))) => match st with
    | [] => F (.inr E) (bm_tw w)
    | _ :: _ => False
def bm_stp (C : bm_Ca) (tb : bm_Tb) (P : bm_S → Prop) (F : bm_Rt → bm_W → Prop) (s : bm_S) : Prop :=
  match bm_look tb s.1 with
  | none => False
  | some (m, r) => bm_exe C r P F (bm_mask m s.2.1) s.2.2.1 s.2.2.2
/-- from s the run of the table comes to an end with F -/
def bm_Wp (C : bm_Ca) (tb : bm_Tb) (F : bm_Rt → bm_W → Prop) (s : bm_S) : Prop := ∀ P : bm_S → Prop, (∀ t, bm_stp C tb P F t → P t) → P s
def bm_mono (C : bm_Ca) : Prop := ∀ (y : Nat) (as : List bm_V) (w : bm_W) (F G : bm_Rt → bm_W → Prop), (∀ r w', F r w' → G r w') → C y as w F → C y as w G
theorem bm_c0_mono {k k' : Prop} {kx kx' : String → Prop} (h : k → k') (hx : ∀ E, kx E → kx' E) : ∀ r, bm_c0 k kx r → bm_c0 k' kx' r
  | .inl none, q => h q
  | .inl (some _), q => q
  | .inr E, q => hx E q
theorem bm_c1_mono {k k' : Int → Prop} {kx kx' : String → Prop} (h : ∀ x, k x → k' x) (hx : ∀ E, kx E → kx' E) : ∀ r, bm_c1 k kx r → bm_c1 k' kx' r
  | .inl (some (.inl x)), q => h x q
  | .inl none, q => q
  | .inl (some (.inr _)), q => q
  | .inr E, q => hx E q
theorem bm_c2_mono {k k' : Int → Prop} {kx kx' : String → Prop} (h : ∀ x, k x → k' x) (hx : ∀ E, kx E → kx' E) : ∀ r, bm_c2 k kx r → bm_c2 k' kx' r
  | .inl (some (.inr (.inl x))), q => h x q
  | .inl none, q => q
  | .inl (some (.inl _)), q => q
  | .inl (some (.inr (.inr _))), q => q
  | .inr E, q => hx E q
theorem bm_c3_mono {k k' : Nat → Prop} {kx kx' : String → Prop} (h : ∀ x, k x → k' x) (hx : ∀ E, kx E → kx' E) : ∀ r, bm_c3 k kx r → bm_c3 k' kx' r
  | .inl (some (.inr (.inr (.inl (some x))))), q => h x q
  | .inl (some (.inr (.inr (.inl none)))), q => q
  | .inl none, q => q
  | .inl (some (.inl _)), q => q
  | .inl (some (.inr (.inl _))), q => q
  | .inl (some (.inr (.inr (.inr _)))), q => q
  | .inr E, q => hx E q
theorem bm_c4_mono {k k' : UInt64 → Prop} {kx kx' : String → Prop} (h : ∀ x, k x → k' x) (hx : ∀ E, kx E → kx' E) : ∀ r, bm_c4 k kx r → bm_c4 k' kx' r
  | .inl (some (.inr (.inr (.inr (.inl x))))), q => h x q
  | .inl none, q => q
  | .inl (some (.inl _)), q => q
  | .inl (some (.inr (.inl _))), q => q
  | .inl (some (.inr (.inr (.inl _)))), q => q
  | .inl (some (.inr (.inr (.inr (.inr _))))), q => q
  | .inr E, q => hx E q
theorem bm_c5_mono {k k' : Prop} (h : k → k') : ∀ r, bm_c5 k r → bm_c5 k' r
  | .inl none, q => h q
  | .inl (some _), q => q
  | .inr _, q => q
theorem bm_sw_mono {x : Int} {k k' : Nat → Prop} (h : ∀ p, k p → k' p) : ∀ (cs : List (Int × Nat)) (d : Nat), bm_sw x k cs d → bm_sw x k' cs d
  | [], d, q => h d q
  | (a, p) :: r, d, q => by
    unfold bm_sw at q ⊢
    split
    · rename_i e; rw [if_pos e] at q; exact h p q
    · rename_i e; rw [if_neg e] at q; exact bm_sw_mono h r d q
theorem bm_exe_mono {C : bm_Ca} (hC : bm_mono C) {P P' : bm_S → Prop} {F F' : bm_Rt → bm_W → Prop} (hP : ∀ s, P s → P' s) (hF : ∀ r w, F r w → F' r w) (r : bm_Row) (lo : bm_L) (st : List bm_V) (w : bm_W) (h : bm_exe C r P F lo st w) : bm_exe C r P' F' lo st w := by
  rcases r with f | f | f | f | ⟨y, n, nx, rt, rk⟩ | k | E
  · simp only [bm_exe] at h ⊢
    cases e : f lo st w with
    | none => rw [e] at h; exact h
    | some s => rw [e] at h; exact hP s h
  · simp only [bm_exe] at h ⊢
    cases e : f lo st w with
    | none => rw [e] at h; exact h
    | some s => rw [e] at h; exact ⟨h.1, hP _ h.2⟩
  · simp only [bm_exe] at h ⊢
    cases e : f lo st w with
    | none => rw [e] at h; exact h
    | some s =>
      rw [e] at h
      obtain ⟨b, s1, s2⟩ := s
      cases b
      · exact hP _ h
      · exact hP _ h
  · simp only [bm_exe] at h ⊢
    cases e : f st with
    | none => rw [e] at h; exact h
    | some s =>
      rw [e] at h
      exact bm_sw_mono (fun p q => hP _ q) _ _ h
  · simp only [bm_exe] at h ⊢
    cases e : bm_ok n st with
    | false => rw [e] at h; exact h
    | true =>
    rw [e] at h
    refine ⟨h.1, ?_⟩
    replace h := h.2
    match rt, h with
    | 0, h => exact hC _ _ _ _ _ (fun r w' q => bm_c0_mono (fun z => hP _ z) (fun E z => hF _ _ z) r q) h
    | 1, h => exact hC _ _ _ _ _ (fun r w' q => bm_c1_mono (fun x z => hP _ z) (fun E z => hF _ _ z) r q) h
    | 2, h => exact hC _ _ _ _ _ (fun r w' q => bm_c2_mono (fun x z => hP _ z) (fun E z => hF _ _ z) r q) h
    | 3, h => exact hC _ _ _ _ _ (fun r w' q => bm_c3_mono (fun x z => hP _ z) (fun E z => hF _ _ z) r q) h
    | 4, h => exact hC _ _ _ _ _ (fun r w' q => bm_c4_mono (fun x z => hP _ z) (fun E z => hF _ _ z) r q) h
    | 5, h => exact hC _ _ _ _ _ (fun r w' q => bm_c5_mono (fun z => hP _ z) r q) h
    | _ + 6, h => exact hC _ _ _ _ _ (fun r w' q => bm_c1_mono (fun x z => hP _ z) (fun E z => z) r q) h
  · match k, st, h with
    | 0, [], h => exact hF _ _ h
    | 1, [.inl x], h => exact hF _ _ h
    | 2, [.inl x], h => exact ⟨h.1, hF _ _ h.2⟩
    | 3, [.inr (.inl x)], h => exact hF _ _ h
    | 4, [.inr (.inr (.inr (.inl x)))], h => exact hF _ _ h
    | 5, [.inr (.inr (.inl x))], h => exact hF _ _ h
    | 6, [.inl x], h => exact ⟨h.1, hF _ _ h.2⟩
    | 7, [.inl x], h => exact ⟨h.1, hF _ _ h.2⟩
  · match st, h with
    | [], h => exact hF _ _ h
theorem bm_stp_mono {C : bm_Ca} (hC : bm_mono C) {tb : bm_Tb} {P P' : bm_S → Prop} {F F' : bm_Rt → bm_W → Prop} (hP : ∀ s, P s → P' s) (hF : ∀ r w, F r w → F' r w) (s : bm_S) (h : bm_stp C tb P F s) : bm_stp C tb P' F' s := by
  unfold bm_stp at h ⊢
  cases e : bm_look tb s.1 with
  | none => rw [e] at h; exact h
  | some q =>
    rw [e] at h
    exact bm_exe_mono hC hP hF _ _ _ _ h
theorem bm_Wp.step {C : bm_Ca} (hC : bm_mono C) {tb : bm_Tb} {F : bm_Rt → bm_W → Prop} {s : bm_S} (h : bm_stp C tb (bm_Wp C tb F) F s) : bm_Wp C tb F s := fun P hP =>
  hP s (bm_stp_mono hC (fun t ht => ht P hP) (fun _ _ q => q) s h)
theorem bm_Wp.mono {C : bm_Ca} (hC : bm_mono C) {tb : bm_Tb} {F G : bm_Rt → bm_W → Prop} (hF : ∀ r w, F r w → G r w) {s : bm_S} (h : bm_Wp C tb F s) : bm_Wp C tb G s :=
  h (bm_Wp C tb G) (fun t ht => bm_Wp.step hC (bm_stp_mono hC (fun _ q => q) hF t ht))
theorem bm_Wp.inv {C : bm_Ca} (hC : bm_mono C) {tb : bm_Tb} {F : bm_Rt → bm_W → Prop} {s : bm_S} (h : bm_Wp C tb F s) : bm_stp C tb (bm_Wp C tb F) F s :=
  h (fun s => bm_stp C tb (bm_Wp C tb F) F s) (fun t ht => bm_stp_mono hC (fun _ q => bm_Wp.step hC q) (fun _ _ q => q) t ht)
theorem bm_mask_idem : ∀ (m : List Bool) (l : bm_L), bm_mask m (bm_mask m l) = bm_mask m l
  | [], _ => rfl
  | true :: _, [] => rfl
  | false :: _, [] => rfl
  | true :: m, o :: l => by simp only [bm_mask]; rw [bm_mask_idem m l]
  | false :: m, _ :: l => by simp only [bm_mask]; rw [bm_mask_idem m l]
def bm_msk (tb : bm_Tb) (s : bm_S) : bm_S := match bm_look tb s.1 with
  | none => s
  | some (m, _) => (s.1, bm_mask m s.2.1, s.2.2.1, s.2.2.2)
theorem bm_Wp.msk {C : bm_Ca} (hC : bm_mono C) {tb : bm_Tb} {F : bm_Rt → bm_W → Prop} {s : bm_S} (h : bm_Wp C tb F (bm_msk tb s)) : bm_Wp C tb F s := by
  refine bm_Wp.step hC ?_
  have h2 := bm_Wp.inv hC h
  unfold bm_msk at h2
  unfold bm_stp at h2 ⊢
  cases e : bm_look tb s.1 with
  | none => simp only [e] at h2
  | some q =>
    obtain ⟨m, r⟩ := q
    simp only [e] at h2
    rw [bm_mask_idem] at h2
    exact h2
/-- many rows at once, till one of the stops (seen at arrival) -/
def bm_vcg (C : bm_Ca) (tb : bm_Tb) (F : bm_Rt → bm_W → Prop) (stops : List Nat) : Nat → bm_S → Prop
  | 0, s => bm_Wp C tb F s
  | n + 1, s => bm_stp C tb (fun t => match stops.any (fun q => t.1.beq q) with
    | true => bm_Wp C tb F (bm_msk tb t)
    | false => bm_vcg C tb F stops n t) F s
theorem bm_go {C : bm_Ca} (hC : bm_mono C) {tb : bm_Tb} {F : bm_Rt → bm_W → Prop} (stops : List Nat) : ∀ (n : Nat) (s : bm_S), bm_vcg C tb F stops n s → bm_Wp C tb F s
  | 0, _, h => h
  | n + 1, s, h => by
    refine bm_Wp.step hC (bm_stp_mono hC (fun t ht => ?_) (fun _ _ q => q) s h)
    cases e : stops.any (fun q => t.1.beq q) with
    | true =>
      simp only [e] at ht
      exact bm_Wp.msk hC ht
    | false =>
      simp only [e] at ht
      exact bm_go hC stops n t ht
/-- the locals at a method's entry -/
def bm_arg : List bm_V → bm_L
  | [] => []
  | .inr (.inl x) :: r => some (.inr (.inl x)) :: none :: bm_arg r
  | .inr (.inr (.inr (.inl x))) :: r => some (.inr (.inr (.inr (.inl x)))) :: none :: bm_arg r
  | v :: r => some v :: bm_arg r
def bm_pad : Nat → bm_L → bm_L
  | 0, _ => []
  | n + 1, [] => none :: bm_pad n []
  | n + 1, o :: l => o :: bm_pad n l
abbrev bm_Pg : Type := Nat → bm_Tb × Nat
def bm_Call (pg : bm_Pg) : Nat → bm_Ca
  | 0 => fun _ _ _ _ => False
  | d + 1 => fun y as w F => (bm_arg as).length.ble (pg y).2 = true ∧ bm_Wp (bm_Call pg d) (pg y).1 F (0, bm_pad (pg y).2 (bm_arg as), [], w)
theorem bm_Call_mono (pg : bm_Pg) : ∀ d, bm_mono (bm_Call pg d)
  | 0 => fun _ _ _ _ _ _ h => h
  | d + 1 => fun _ _ _ _ _ hF h => ⟨h.1, bm_Wp.mono (bm_Call_mono pg d) hF h.2⟩
/-- a call comes to one end -/
def bm_det (C : bm_Ca) : Prop := ∀ (y : Nat) (as : List bm_V) (w : bm_W) (F : bm_Rt → bm_W → Prop), C y as w F → ∃ r w', F r w' ∧ C y as w (fun r2 w2 => r2 = r ∧ w2 = w')
theorem bm_sw_ex {x : Int} {k : Nat → Prop} : ∀ (cs : List (Int × Nat)) (d : Nat), bm_sw x k cs d → ∃ p, k p ∧ ∀ k' : Nat → Prop, k' p → bm_sw x k' cs d
  | [], d, q => ⟨d, q, fun _ h => h⟩
  | (a, p) :: r, d, q => by
    unfold bm_sw at q
    by_cases e : x = a
    · rw [if_pos e] at q
      exact ⟨p, q, fun k' h => by unfold bm_sw; rw [if_pos e]; exact h⟩
    · rw [if_neg e] at q
      obtain ⟨p2, h1, h2⟩ := bm_sw_ex r d q
      exact ⟨p2, h1, fun k' h => by unfold bm_sw; rw [if_neg e]; exact h2 k' h⟩
theorem bm_Wp.det {C : bm_Ca} (hC : bm_mono C) (hD : bm_det C) {tb : bm_Tb} {F : bm_Rt → bm_W → Prop} {s : bm_S} (h : bm_Wp C tb F s) : ∃ r w', F r w' ∧ bm_Wp C tb (fun r2 w2 => r2 = r ∧ w2 = w') s := by
  refine h (fun s => ∃ r w', F r w' ∧ bm_Wp C tb (fun r2 w2 => r2 = r ∧ w2 = w') s) (fun t ht => ?_)
  unfold bm_stp at ht
  cases e : bm_look tb t.1 with
  | none => rw [e] at ht; exact ht.elim
  | some q =>
    obtain ⟨m, row⟩ := q
    rw [e] at ht
    dsimp only at ht
    have key : ∀ G : bm_Rt → bm_W → Prop, bm_exe C row (bm_Wp C tb G) G (bm_mask m t.2.1) t.2.2.1 t.2.2.2 → bm_Wp C tb G t := fun G hG => bm_Wp.step hC (by unfold bm_stp; rw [e]; exact hG)
    generalize bm_mask m t.2.1 = lo at ht key
    generalize t.2.2.1 = st at ht key
    generalize t.2.2.2 = w at ht key
    rcases row with f | f | f | f | ⟨y, n, nx, rt, rk⟩ | k | E
    · simp only [bm_exe] at ht key
      cases e2 : f lo st w with
      | none => rw [e2] at ht; exact ht.elim
      | some s1 =>
        rw [e2] at ht
        obtain ⟨r, w', h1, h2⟩ := ht
        exact ⟨r, w', h1, key _ (by rw [e2]; exact h2)⟩
    · simp only [bm_exe] at ht key
      cases e2 : f lo st w with
      | none => rw [e2] at ht; exact ht.elim
      | some s1 =>
        rw [e2] at ht
        obtain ⟨hg, r, w', h1, h2⟩ := ht
        exact ⟨r, w', h1, key _ (by rw [e2]; exact ⟨hg, h2⟩)⟩
    · simp only [bm_exe] at ht key
      cases e2 : f lo st w with
      | none => rw [e2] at ht; exact ht.elim
      | some s1 =>
        rw [e2] at ht
        obtain ⟨b, s1, s2⟩ := s1
        cases b
        · obtain ⟨r, w', h1, h2⟩ := ht
          exact ⟨r, w', h1, key _ (by rw [e2]; exact h2)⟩
        · obtain ⟨r, w', h1, h2⟩ := ht
          exact ⟨r, w', h1, key _ (by rw [e2]; exact h2)⟩
    · simp only [bm_exe] at ht key
      cases e2 : f st with
      | none => rw [e2] at ht; exact ht.elim
      | some s1 =>
        rw [e2] at ht
        obtain ⟨p, ⟨r, w', h1, h2⟩, h3⟩ := bm_sw_ex _ _ ht
        exact ⟨r, w', h1, key _ (by rw [e2]; exact h3 _ h2)⟩
    · simp only [bm_exe] at ht key
      cases e2 : bm_ok n st with
      | false => rw [e2] at ht; exact ht.elim
      | true =>
      rw [e2] at ht key
      have hrc := ht.1
      replace ht := ht.2
      replace key := fun G (hG : _) => key G ⟨hrc, hG⟩
      match rt, ht, key with
      | 0, ht, key =>
        obtain ⟨r, w', h1, h2⟩ := hD _ _ _ _ ht
        match r, h1, h2 with
        | .inl none, ⟨r3, w3, g1, g2⟩, h2 => exact ⟨r3, w3, g1, key _ (hC _ _ _ _ _ (fun r4 w4 q => by obtain ⟨rfl, rfl⟩ := q; exact g2) h2)⟩
        | .inr E, h1, h2 => exact ⟨.inr E, w', h1, key _ (hC _ _ _ _ _ (fun r4 w4 q => by obtain ⟨rfl, rfl⟩ := q; exact ⟨rfl, rfl⟩) h2)⟩
      | 1, ht, key =>
        obtain ⟨r, w', h1, h2⟩ := hD _ _ _ _ ht
        match r, h1, h2 with
        | .inl (some (.inl x)), ⟨r3, w3, g1, g2⟩, h2 => exact ⟨r3, w3, g1, key _ (hC _ _ _ _ _ (fun r4 w4 q => by obtain ⟨rfl, rfl⟩ := q; exact g2) h2)⟩
        | .inr E, h1, h2 => exact ⟨.inr E, w', h1, key _ (hC _ _ _ _ _ (fun r4 w4 q => by obtain ⟨rfl, rfl⟩ := q; exact ⟨rfl, rfl⟩) h2)⟩
      | 2, ht, key =>
        obtain ⟨r, w', h1, h2⟩ := hD _ _ _ _ ht
        match r, h1, h2 with
        | .inl (some (.inr (.inl x))), ⟨r3, w3, g1, g2⟩, h2 => exact ⟨r3, w3, g1, key _ (hC _ _ _ _ _ (fun r4 w4 q => by obtain ⟨rfl, rfl⟩ := q; exact g2) h2)⟩
        | .inr E, h1, h2 => exact ⟨.inr E, w', h1, key _ (hC _ _ _ _ _ (fun r4 w4 q => by obtain ⟨rfl, rfl⟩ := q; exact ⟨rfl, rfl⟩) h2)⟩
      | 3, ht, key =>
        obtain ⟨r, w', h1, h2⟩ := hD _ _ _ _ ht
        match r, h1, h2 with
        | .inl (some (.inr (.inr (.inl (some x))))), ⟨r3, w3, g1, g2⟩, h2 => exact ⟨r3, w3, g1, key _ (hC _ _ _ _ _ (fun r4 w4 q => by obtain ⟨rfl, rfl⟩ := q; exact g2) h2)⟩
        | .inr E, h1, h2 => exact ⟨.inr E, w', h1, key _ (hC _ _ _ _ _ (fun r4 w4 q => by obtain ⟨rfl, rfl⟩ := q; exact ⟨rfl, rfl⟩) h2)⟩
      | 4, ht, key =>
        obtain ⟨r, w', h1, h2⟩ := hD _ _ _ _ ht
        match r, h1, h2 with
        | .inl (some (.inr (.inr (.inr (.inl x))))), ⟨r3, w3, g1, g2⟩, h2 => exact ⟨r3, w3, g1, key _ (hC _ _ _ _ _ (fun r4 w4 q => by obtain ⟨rfl, rfl⟩ := q; exact g2) h2)⟩
        | .inr E, h1, h2 => exact ⟨.inr E, w', h1, key _ (hC _ _ _ _ _ (fun r4 w4 q => by obtain ⟨rfl, rfl⟩ := q; exact ⟨rfl, rfl⟩) h2)⟩
      | 5, ht, key =>
        obtain ⟨r, w', h1, h2⟩ := hD _ _ _ _ ht
        match r, h1, h2 with
        | .inl none, ⟨r3, w3, g1, g2⟩, h2 => exact ⟨r3, w3, g1, key _ (hC _ _ _ _ _ (fun r4 w4 q => by obtain ⟨rfl, rfl⟩ := q; exact g2) h2)⟩
      | _ + 6, ht, key =>
        obtain ⟨r, w', h1, h2⟩ := hD _ _ _ _ ht
        match r, h1, h2 with
        | .inl (some (.inl x)), ⟨r3, w3, g1, g2⟩, h2 => exact ⟨r3, w3, g1, key _ (hC _ _ _ _ _ (fun r4 w4 q => by obtain ⟨rfl, rfl⟩ := q; exact g2) h2)⟩
    · match k, st, ht, key with
      | 0, [], ht, key => exact ⟨_, _, ht, key _ ⟨rfl, rfl⟩⟩
      | 1, [.inl x], ht, key => exact ⟨_, _, ht, key _ ⟨rfl, rfl⟩⟩
      | 2, [.inl x], ht, key => exact ⟨_, _, ht.2, key _ ⟨ht.1, rfl, rfl⟩⟩
      | 3, [.inr (.inl x)], ht, key => exact ⟨_, _, ht, key _ ⟨rfl, rfl⟩⟩
      | 4, [.inr (.inr (.inr (.inl x)))], ht, key => exact ⟨_, _, ht, key _ ⟨rfl, rfl⟩⟩
      | 5, [.inr (.inr (.inl x))], ht, key => exact ⟨_, _, ht, key _ ⟨rfl, rfl⟩⟩
      | 6, [.inl x], ht, key => exact ⟨_, _, ht.2, key _ ⟨ht.1, rfl, rfl⟩⟩
      | 7, [.inl x], ht, key => exact ⟨_, _, ht.2, key _ ⟨ht.1, rfl, rfl⟩⟩
    · match st, ht, key with
      | [], ht, key => exact ⟨_, _, ht, key _ ⟨rfl, rfl⟩⟩
theorem bm_Call_det (pg : bm_Pg) : ∀ d, bm_det (bm_Call pg d)
  | 0 => fun _ _ _ _ h => h.elim
  | d + 1 => fun _ _ _ _ h => (bm_Wp.det (bm_Call_mono pg d) (bm_Call_det pg d) h.2).elim fun r q => q.elim fun w' q => ⟨r, w', q.1, h.1, q.2⟩
theorem bm_enter {pg : bm_Pg} {d y : Nat} {as : List bm_V} {w : bm_W} {F : bm_Rt → bm_W → Prop} (h0 : (bm_arg as).length.ble (pg y).2 = true) (h : bm_Wp (bm_Call pg d) (pg y).1 F (0, bm_pad (pg y).2 (bm_arg as), [], w)) : bm_Call pg (d + 1) y as w F := ⟨h0, h⟩
/-- more depth does no harm -/
theorem bm_Wp.le {C C' : bm_Ca} (hC' : bm_mono C') (hCC : ∀ y as w F, C y as w F → C' y as w F) {tb : bm_Tb} {F : bm_Rt → bm_W → Prop} {s : bm_S} (h : bm_Wp C tb F s) : bm_Wp C' tb F s := by
  refine h (bm_Wp C' tb F) (fun t ht => bm_Wp.step hC' ?_)
  unfold bm_stp at ht ⊢
  cases e : bm_look tb t.1 with
  | none => rw [e] at ht; exact ht
  | some q =>
    obtain ⟨m, row⟩ := q
    rw [e] at ht
    dsimp only at ht ⊢
    rcases row with f | f | f | f | ⟨y, n, nx, rt, rk⟩ | k | E
    · exact ht
    · exact ht
    · exact ht
    · exact ht
    · simp only [bm_exe] at ht ⊢
      generalize t.2.2.1 = st at ht ⊢
      cases e2 : bm_ok n st with
      | false => rw [e2] at ht; exact ht
      | true =>
      rw [e2] at ht
      refine ⟨ht.1, ?_⟩
      replace ht := ht.2
      match rt, ht with
      | 0, ht => exact hCC _ _ _ _ ht
      | 1, ht => exact hCC _ _ _ _ ht
      | 2, ht => exact hCC _ _ _ _ ht
      | 3, ht => exact hCC _ _ _ _ ht
      | 4, ht => exact hCC _ _ _ _ ht
      | 5, ht => exact hCC _ _ _ _ ht
      | _ + 6, ht => exact hCC _ _ _ _ ht
    · exact ht
    · exact ht
theorem bm_Call_succ (pg : bm_Pg) : ∀ (d y : Nat) (as : List bm_V) (w : bm_W) (F : bm_Rt → bm_W → Prop), bm_Call pg d y as w F → bm_Call pg (d + 1) y as w F
  | 0 => fun _ _ _ _ h => h.elim
  | d + 1 => fun _ _ _ _ h => ⟨h.1, bm_Wp.le (bm_Call_mono pg (d + 1)) (bm_Call_succ pg d) h.2⟩
theorem bm_Call_le (pg : bm_Pg) {d d' y : Nat} {as : List bm_V} {w : bm_W} {F : bm_Rt → bm_W → Prop} (hd : d ≤ d') (h : bm_Call pg d y as w F) : bm_Call pg d' y as w F := by
  induction hd with
  | refl => exact h
  | step _ ih => exact bm_Call_succ pg _ _ _ _ _ ih
end
section
/-! ===== the bench machine stands over the JVM: what a row of a table owes ===== -/
abbrev bm_D : Type := va_G × (Nat → ClassId) × (Nat → Nat → Nat)
def bm_A (b0 : Nat) : Nat → Prop := fun q => b0 ≤ q
/-- a constant: a text, its bytes, a row of the class, or (3, j) a static field that is null or not -/
def bm_kv (D : bm_D) (k : Nat × Nat) : Value := bif Nat.beq k.1 3 then va_rf (bif Nat.beq (D.2.2 3 k.2) 0 then none else some (D.2.2 3 k.2 - 1)) else .ref (D.2.2 k.1 k.2)
theorem bm_kv_cat (D : bm_D) (k : Nat × Nat) : (bm_kv D k).category = 1 := by
  unfold bm_kv
  cases Nat.beq k.1 3
  · rfl
  · cases Nat.beq (D.2.2 3 k.2) 0 <;> rfl
theorem bm_kv_or (D : bm_D) (k : Nat × Nat) : bm_kv D k = .null ∨ ∃ a, bm_kv D k = .ref a := by
  unfold bm_kv
  cases Nat.beq k.1 3
  · exact Or.inr ⟨_, rfl⟩
  · cases Nat.beq (D.2.2 3 k.2) 0
    · exact Or.inr ⟨_, rfl⟩
    · exact Or.inl rfl
def bm_val (D : bm_D) : bm_V → Value
  | .inl x => .int (Int32.ofInt x)
  | .inr (.inl x) => .long (Int64.ofInt x)
  | .inr (.inr (.inl r)) => va_rf r
  | .inr (.inr (.inr (.inl d))) => .double d
  | .inr (.inr (.inr (.inr k))) => bm_kv D k
def bm_InV : bm_V → Prop
  | .inl x => bm_InI x
  | .inr (.inl x) => bm_InL x
  | _ => True
def bm_lv (D : bm_D) : Nat → bm_L → List (Nat × Value)
  | _, [] => []
  | i, none :: l => bm_lv D (i + 1) l
  | i, some v :: l => (i, bm_val D v) :: bm_lv D (i + 1) l
def bm_InLo (lo : bm_L) : Prop := ∀ v, some v ∈ lo → bm_InV v
def bm_InSt (st : List bm_V) : Prop := ∀ v ∈ st, bm_InV v
def bm_ty (t : Nat) : Nat → FieldType := match t with
  | 0 => tyX0 | 1 => tyX1 | 2 => tyX2 | 3 => tyX3 | 4 => tyX4 | 5 => tyX5 | 6 => tyX6 | 7 => tyX7 | 8 => tyX8 | 9 => tyX9 | 10 => tyX10 | 11 => tyX11 | _ => tyX12
def bm_fc (t : FieldType) : Nat := match t with
  | .long => 1
  | .object _ => 2
  | .array _ => 2
  | _ => 0
def bm_ec (t : Nat) : Nat := if t = 22 then 1 else if t < 24 then 0 else if t = 27 then 3 else 2
def bm_fv (c : Nat) (w : bm_W) (a k : Nat) : Value := match c with
  | 0 => .int (Int32.ofInt (bm_gi w a k))
  | 1 => .long (Int64.ofInt (bm_gl w a k))
  | 2 => va_rf (bm_gr w a k)
  | _ => .double (Int64.ofInt (bm_gl w a k)).toUInt64
def bm_cell (D : bm_D) (w : bm_W) (H : Heap) (a t : Nat) : Prop :=
  if t < 13 then ∃ r : vw_C, vwCl[t]? = some r ∧ t_OB a (D.1.1 t) r.2.2 (D.1.2 t) H (fun k => bm_fv (bm_fc (bm_ty t k)) w a k)
  else H[a]? = some (arrV (D.2.1 t) (bm_kn w a) (fun j => bm_fv (bm_ec t) w a j))
/-- the script (kind 91), and rows of texts (kind 92: the number of a text and 1, or 0) -/
def bm_tx (D : bm_D) (x : Int) : Value := if x ≤ 0 then .null else .ref (D.2.2 0 (x.toNat - 1))
def bm_HE (D : bm_D) (b0 : Nat) (w : bm_W) (H : Heap) : Prop := ∀ a, (bm_kt w a = 91 → a = D.2.2 4 0 ∧ bm_kn w a = D.2.2 5 0 ∧ ∀ k, bm_gi w a k = (Int32.ofNat (D.2.2 6 k)).toInt) ∧ (bm_kt w a = 92 → b0 ≤ a ∧ a < bm_sz w ∧ H[a]? = some (arrV (D.2.1 27) (bm_kn w a) (fun j => bm_tx D (bm_gi w a j))))
def bm_HC (D : bm_D) (b0 : Nat) (w : bm_W) (H : Heap) : Prop :=
  (∀ a k, bm_InI (bm_gi w a k) ∧ bm_InL (bm_gl w a k)) ∧ (∀ a, bm_kn w a < 2147483648) ∧ (∀ a, bm_kt w a < 90 → b0 ≤ a ∧ a < bm_sz w ∧ bm_cell D w H a (bm_kt w a)) ∧ (∀ a, bm_sz w ≤ a → bm_kt w a = 99) ∧ bm_HE D b0 w H
def bm_HR (D : bm_D) (b0 : Nat) (w : bm_W) (H : Heap) : Prop := H.size = bm_sz w ∧ bm_HC D b0 w H
def bm_HX (D : bm_D) (b0 : Nat) (w : bm_W) (H : Heap) : Prop := bm_HC D b0 (w.1, w.2.1, w.2.2.1, w.2.2.2.1, w.2.2.2.2.1, H.size, w.2.2.2.2.2.2) H
def bm_tys (D : bm_D) : List (ClassId × FieldType) := [(D.2.1 20, .byte), (D.2.1 21, .int), (D.2.1 22, .long), (D.2.1 23, .boolean), (D.2.1 24, .object "CaseTables$Fun"), (D.2.1 25, .object "CaseTables$Row"), (D.2.1 26, .object "CaseTables$Table"), (D.2.1 27, .object "java/lang/String")]
def bm_aty (t : Nat) : FieldType := match t with
  | 20 => .byte | 21 => .int | 22 => .long | 23 => .boolean | 24 => .object "CaseTables$Fun" | 25 => .object "CaseTables$Row" | _ => .object "CaseTables$Table"
theorem bm_tys_at (D : bm_D) {t : Nat} (h : 20 ≤ t) (h2 : t < 27) : (bm_tys D)[t - 20]? = some (D.2.1 t, bm_aty t) := by
  rcases (show t = 20 ∨ t = 21 ∨ t = 22 ∨ t = 23 ∨ t = 24 ∨ t = 25 ∨ t = 26 by omega) with rfl | rfl | rfl | rfl | rfl | rfl | rfl <;> rfl
/-- the words that calls hand on -/
def bm_ALL : List Cond := lw_tbl.filter goodWord
/-- words that only warm: nest mates, casts to Cloneable -/
def bm_nwk : Cond → Bool
  | .fieldLinkNest .. => true
  | .methodLinkNest .. => true
  | .castable .. => true
  | .declares .. => true
  | .arrayOver (.object _) => true
  | _ => false
def bm_NW : List Cond := lw_tbl.filter bm_nwk
theorem bm_nw_warm {w : Cond} (h : bm_nwk w = true) {s U : State} (hW : s.WarmedH U.vm) (hZ : va_Nw w s) : va_Nw w U := by
  cases w with
  | fieldLinkNest => exact va_Nw.warmF hW hZ
  | methodLinkNest => exact va_Nw.warmM hW hZ
  | castable => exact va_Nw.warmC hW hZ
  | declares => exact va_Nw.warmD hW hZ
  | arrayOver t => cases t with
    | object C => exact va_AO.moved hW.alike hZ
    | _ => exact absurd h (by simp [bm_nwk])
  | _ => exact absurd h (by simp [bm_nwk])
theorem bm_nw_use {w : Cond} (h : bm_nwk w = true) {A : Array Value} {U : State} (hZ : va_Nw w U) : w.before A U = true := by
  cases w with
  | fieldLinkNest => exact va_Nw.use rfl hZ
  | methodLinkNest => exact va_Nw.use rfl hZ
  | castable => exact va_Nw.use rfl hZ
  | declares => exact va_Nw.use rfl hZ
  | arrayOver t => cases t with
    | object C => exact va_AO.use hZ
    | _ => exact absurd h (by simp [bm_nwk])
  | _ => exact absurd h (by simp [bm_nwk])
/-- the launch's constants: Strings by number (their lengths, their bytes, where a class names them), static rows and numbers -/
abbrev bm_K : Type := (Nat × List Nat × List (List Int32)) × List (String × Nat × String × Nat) × List (String × String × String × bm_V) × (List Int64 × List Nat × List Nat)
def bm_ST (K : bm_K) (D : bm_D) (b0 : Nat) (U : State) (H : Heap) : Prop :=
  vk_S K.1.1 K.1.2.1 K.1.2.2 (D.2.2 0) (D.2.2 1) (bm_A b0) U H ∧ (∀ q ∈ K.2.1, vk_R q.1 q.2.1 q.2.2.1 (D.2.2 0 q.2.2.2) U) ∧ (∀ q ∈ K.2.2.1, va_Z q.1 q.2.1 q.2.2.1 (bm_val D q.2.2.2) (bm_A b0) U H) ∧
  va_T .long (D.2.2 2 0) K.2.2.2.1.length (fun k => .long (K.2.2.2.1.getD k 0)) (bm_A b0) U H ∧ va_T .int (D.2.2 4 0) (D.2.2 5 0) (fun k => .int (Int32.ofNat (D.2.2 6 k))) (bm_A b0) U H ∧ True ∧
  vx_Zq Bundle.tN "UNASSIGNED_STACK" Bundle.steD (bm_A b0) U H ∧ vx_Zq Bundle.tN "SUPPRESSED_SENTINEL" Bundle.listD (bm_A b0) U H ∧ ∀ w ∈ bm_NW, va_Nw w U
theorem bm_ST.moved {K : bm_K} {D : bm_D} {b0 : Nat} {s U : State} {H H1 : Heap} (hW : s.WarmedH U.vm) (hq : ∀ q : Nat, q < H.size → ¬ bm_A b0 q → H1[q]? = H[q]?) (h : bm_ST K D b0 s H) : bm_ST K D b0 U H1 := by
  obtain ⟨h1, h2, h3, h4, h5, h6, h7, h8, h9⟩ := h
  exact ⟨vk_S.moved hW.alike (vk_S.kept h1 hq), fun q hq2 => vk_R.warm hW (h2 q hq2), fun q hq2 => va_Z.moved hW.alike (va_Z.kept (h3 q hq2) hq), va_T.moved hW.alike (va_T.kept h4 hq), va_T.moved hW.alike (va_T.kept h5 hq), trivial,
    vx_Zq.moved hW.alike (h7.kept hq), vx_Zq.moved hW.alike (h8.kept hq), fun w hw => bm_nw_warm (List.mem_filter.mp hw).2 hW (h9 w hw)⟩
/-- a method's start, its end, its throw -/
def bm_Pc (K : bm_K) (D : bm_D) (b0 : Nat) (as : List bm_V) (w : bm_W) : Array Value → State → Prop :=
  va_Pc (as.map (bm_val D)) (fun U => b0 ≤ U.heap.size ∧ bm_HR D b0 w U.heap ∧ va_K D.1 vwCl (bm_tys D) U ∧ bm_ST K D b0 U U.heap)
def bm_Qc (D : bm_D) (b0 : Nat) (F : bm_Rt → bm_W → Prop) : Array Value → State → Outcome → State → Prop := fun _ st o t =>
  (∃ (r : Option bm_V) (w' : bm_W), o = .returned (r.map (bm_val D)) ∧ F (.inl r) w' ∧ (∀ v, r = some v → bm_InV v) ∧ bm_HR D b0 w' t.heap) ∧ va_F (bm_A b0) st t
def bm_XC (D : bm_D) (b0 : Nat) (F : bm_Rt → bm_W → Prop) : String → State → State → Prop := fun E st t =>
  (∃ w' : bm_W, F (.inr E) w' ∧ bm_HX D b0 w' t.heap) ∧ va_F (bm_A b0) st t
theorem bm_Pc.blind {K : bm_K} {D : bm_D} {b0 : Nat} {as : List bm_V} {w : bm_W} : FrameBlind (bm_Pc K D b0 as w) := fun a U g mk h => by
  obtain ⟨rfl, h1, h2, h3, h4⟩ := h
  exact ⟨rfl, h1, h2, va_K.moved (u := U) (U := U.calling g mk _) (Vm.Alike.refl U.vm) h3, bm_ST.moved (U := U.calling g mk _) (State.WarmedH.refl U) (fun _ _ _ => rfl) h4⟩
/-- the methods: by number, their names, bytes, answers -/
abbrev bm_Mi : Type := Nat → MethodName × ByteArray × Option FieldType
def bm_ws (mi : bm_Mi) (pg : bm_Pg) (y : Nat) : List Cond := Cond.code (mi y).1 (mi y).2.1 (pg y).2 (mi y).2.2 :: bm_ALL
def bm_rm (d mc ms : Nat) : Room := { frames := d + 12, cells := mc, slots := ms, locals := 40 * d + 400 }
def bm_le (w w' : bm_W) : Prop := bm_sz w ≤ bm_sz w' ∧ bm_sl w ≤ bm_sl w'
def bm_Bn (w0 : bm_W) (mc ms : Nat) (w : bm_W) : Prop := bm_sz w ≤ bm_sz w0 + mc ∧ bm_sl w ≤ bm_sl w0 + ms
/-- what depth d gives of every method -/
def bm_Con (K : bm_K) (pg : bm_Pg) (mi : bm_Mi) (l : Launch) (d : Nat) : Prop :=
  ∀ (D : bm_D) (b0 y : Nat) (as : List bm_V) (w : bm_W) (F : bm_Rt → bm_W → Prop) (mc ms : Nat), bm_InSt as → bm_Call pg d y as w F → (∀ r w', F r w' → bm_le w w' ∧ bm_Bn w mc ms w') →
    vx_Met l (mi y).1 (bm_ws mi pg y) (bm_rm d mc ms) (bm_Pc K D b0 as w) (bm_Qc D b0 F) (bm_XC D b0 F) mc ms (bm_A b0)
/-- a row never gives room back -/
def bm_Mo (r : bm_Row) : Prop := match r with
  | .inl f => ∀ lo st w t, f lo st w = some t → bm_le w t.2.2.2
  | .inr (.inl f) => ∀ lo st w g t, f lo st w = some (g, t) → g → bm_le w t.2.2.2
  | .inr (.inr (.inl f)) => ∀ lo st w b t u, f lo st w = some (b, t, u) → bm_le w t.2.2.2 ∧ bm_le w u.2.2.2
  | _ => True
theorem bm_le.rf {w : bm_W} : bm_le w w := ⟨Nat.le_refl _, Nat.le_refl _⟩
theorem bm_le.tr {a b c : bm_W} (h : bm_le a b) (h2 : bm_le b c) : bm_le a c := ⟨Nat.le_trans h.1 h2.1, Nat.le_trans h.2 h2.2⟩
def bm_CaMo (C : bm_Ca) : Prop := ∀ (y : Nat) (as : List bm_V) (w : bm_W) (F : bm_Rt → bm_W → Prop), C y as w F → C y as w (fun r w' => F r w' ∧ bm_le w w')
theorem bm_Wp.size {C : bm_Ca} (hC : bm_mono C) (hS : bm_CaMo C) {tb : bm_Tb} (hT : ∀ pc m r, bm_look tb pc = some (m, r) → bm_Mo r) {F : bm_Rt → bm_W → Prop} {s : bm_S} (h : bm_Wp C tb F s) : bm_Wp C tb (fun r w' => F r w' ∧ bm_le s.2.2.2 w') s := by
  refine h (fun s => bm_Wp C tb (fun r w' => F r w' ∧ bm_le s.2.2.2 w') s) (fun t ht => bm_Wp.step hC ?_)
  unfold bm_stp at ht ⊢
  cases e : bm_look tb t.1 with
  | none => rw [e] at ht; exact ht
  | some q =>
    obtain ⟨m, row⟩ := q
    have hm := hT _ _ _ e
    rw [e] at ht
    dsimp only at ht ⊢
    generalize bm_mask m t.2.1 = lo at ht ⊢
    generalize t.2.2.1 = st at ht ⊢
    generalize t.2.2.2 = w at ht ⊢
    have up : ∀ {w2 : bm_W} {u : bm_S}, u.2.2.2 = w2 → bm_le w w2 → bm_Wp C tb (fun r w' => F r w' ∧ bm_le u.2.2.2 w') u → bm_Wp C tb (fun r w' => F r w' ∧ bm_le w w') u := fun e2 h1 h2 => bm_Wp.mono hC (fun r w' q => ⟨q.1, bm_le.tr h1 (by rw [← e2]; exact q.2)⟩) h2
    rcases row with f | f | f | f | ⟨y, n, nx, rt, rk⟩ | k | E
    · simp only [bm_exe] at ht ⊢
      cases e2 : f lo st w with
      | none => rw [e2] at ht; exact ht
      | some u => rw [e2] at ht; exact up rfl (hm _ _ _ _ e2) ht
    · simp only [bm_exe] at ht ⊢
      cases e2 : f lo st w with
      | none => rw [e2] at ht; exact ht
      | some u => rw [e2] at ht; exact ⟨ht.1, up rfl (hm _ _ _ _ _ e2 ht.1) ht.2⟩
    · simp only [bm_exe] at ht ⊢
      cases e2 : f lo st w with
      | none => rw [e2] at ht; exact ht
      | some u =>
        obtain ⟨b, u1, u2⟩ := u
        rw [e2] at ht
        cases b
        · exact up rfl (hm _ _ _ _ _ _ e2).2 ht
        · exact up rfl (hm _ _ _ _ _ _ e2).1 ht
    · simp only [bm_exe] at ht ⊢
      cases e2 : f st with
      | none => rw [e2] at ht; exact ht
      | some u => rw [e2] at ht; exact ht
    · simp only [bm_exe] at ht ⊢
      cases e2 : bm_ok n st with
      | false => rw [e2] at ht; exact ht
      | true =>
      rw [e2] at ht
      refine ⟨ht.1, ?_⟩
      replace ht := ht.2
      match rt, ht with
      | 0, ht => exact hC _ _ _ _ _ (fun r w' q => bm_c0_mono (fun z => up rfl q.2 z) (fun E z => ⟨z, q.2⟩) r q.1) (hS _ _ _ _ ht)
      | 1, ht => exact hC _ _ _ _ _ (fun r w' q => bm_c1_mono (fun x z => up rfl q.2 z) (fun E z => ⟨z, q.2⟩) r q.1) (hS _ _ _ _ ht)
      | 2, ht => exact hC _ _ _ _ _ (fun r w' q => bm_c2_mono (fun x z => up rfl q.2 z) (fun E z => ⟨z, q.2⟩) r q.1) (hS _ _ _ _ ht)
      | 3, ht => exact hC _ _ _ _ _ (fun r w' q => bm_c3_mono (fun x z => up rfl q.2 z) (fun E z => ⟨z, q.2⟩) r q.1) (hS _ _ _ _ ht)
      | 4, ht => exact hC _ _ _ _ _ (fun r w' q => bm_c4_mono (fun x z => up rfl q.2 z) (fun E z => ⟨z, q.2⟩) r q.1) (hS _ _ _ _ ht)
      | 5, ht => exact hC _ _ _ _ _ (fun r w' q => bm_c5_mono (fun z => up rfl q.2 z) r q.1) (hS _ _ _ _ ht)
      | _ + 6, ht => exact hC _ _ _ _ _ (fun r w' q => bm_c1_mono (fun x z => up rfl q.2 z) (fun E z => z) r q.1) (hS _ _ _ _ ht)
    · match k, st, ht with
      | 0, [], ht => exact ⟨ht, bm_le.rf⟩
      | 1, [.inl x], ht => exact ⟨ht, bm_le.rf⟩
      | 2, [.inl x], ht => exact ⟨ht.1, ht.2, bm_le.rf⟩
      | 3, [.inr (.inl x)], ht => exact ⟨ht, bm_le.rf⟩
      | 4, [.inr (.inr (.inr (.inl x)))], ht => exact ⟨ht, bm_le.rf⟩
      | 5, [.inr (.inr (.inl x))], ht => exact ⟨ht, bm_le.rf⟩
      | 6, [.inl x], ht => exact ⟨ht.1, ht.2, bm_le.rf⟩
      | 7, [.inl x], ht => exact ⟨ht.1, ht.2, bm_le.rf⟩
    · match st, ht with
      | [], ht => exact ⟨ht, Nat.le_succ _, Nat.le_add_right _ 6⟩
theorem bm_Call_size {pg : bm_Pg} (hT : ∀ y pc m r, bm_look (pg y).1 pc = some (m, r) → bm_Mo r) : ∀ d, bm_CaMo (bm_Call pg d)
  | 0 => fun _ _ _ _ h => h
  | d + 1 => fun y _ _ _ h => ⟨h.1, bm_Wp.size (bm_Call_mono pg d) (bm_Call_size hT d) (hT y) h.2⟩
/-- where a walk of a method stands: machine, code, tables, constants, room -/
def bm_Cx (K : bm_K) (D : bm_D) (b0 mc ms d : Nat) (p : Program) (l : Launch) (R : Room) (s : State) (m : MethodId) (args : Array Value) (meth : Method) (c : Code) (cc : ByteArray) (nL : Nat) (own nm : String) (ret : Option FieldType) : Prop :=
  p.tables.exec = Jvm.exec ∧ c.code = cc ∧ c.maxLocals = nL ∧ s.vm.findClass own = some m.cls ∧ (∀ w ∈ bm_ALL, w.before args s = true) ∧ va_K D.1 vwCl (bm_tys D) s ∧ bm_ST K D b0 s s.heap ∧ meth.locks = false ∧ (∀ x ∈ c.exceptionTable.toList, False) ∧ l.stackTraces = false ∧
  b0 ≤ s.heap.size ∧ R.cells = mc ∧ R.slots = ms ∧ d + 13 ≤ R.frames ∧ 40 * d + 440 ≤ R.locals ∧ meth.sig.returnType = ret ∧ meth.name = nm
section BMW
variable {K : bm_K} {D : bm_D} {b0 mc ms d : Nat} {p : Program} {l : Launch} {e : Env} {R : Room} {s : State} {m : MethodId} {args : Array Value} {below : List Frame} {meth : Method} {c : Code} {cc : ByteArray} {nL : Nat} {own nm : String} {ret : Option FieldType} {w0 : bm_W} {F : bm_Rt → bm_W → Prop}
/-- the walk from a state of the bench machine -/
def bm_Wg (D : bm_D) (b0 mc ms : Nat) (p : Program) (l : Launch) (e : Env) (R : Room) (s : State) (m : MethodId) (args : Array Value) (below : List Frame) (meth : Method) (c : Code) (nL : Nat) (w0 : bm_W) (F : bm_Rt → bm_W → Prop) (t : bm_S) : Prop :=
  bm_Bn w0 mc ms t.2.2.2 ∧ ∀ (H : Heap) (locs : List Loc) (ls : Array Slot), t.2.1.length = nL → bm_InLo t.2.1 → bm_InSt t.2.2.1 → bm_HR D b0 t.2.2.2 H → va_S (bm_A b0) s.heap H locs → lv_has ls nL (bm_lv D 0 t.2.1) → bm_le w0 t.2.2.2 →
    W p l e R s m args below meth c H locs (bm_sz t.2.2.2 - bm_sz w0) (bm_sl t.2.2.2 - bm_sl w0) (vx_MQ below (bm_Qc D b0 F) (bm_XC D b0 F) args s mc ms (bm_A b0)) (F0 m t.1 ls (t.2.2.1.map (bm_val D)))
end BMW
/-- what a row owes -/
def bm_Sn (K : bm_K) (pg : bm_Pg) (mi : bm_Mi) (cc : ByteArray) (nL : Nat) (own nm : String) (ret : Option FieldType) (pc : Nat) (row : bm_Row) : Prop :=
  bm_Mo row ∧ ∀ (D : bm_D) (b0 mc ms d : Nat) (p : Program) (l : Launch) (e : Env) (R : Room) (s : State) (m : MethodId) (args : Array Value) (below : List Frame) (meth : Method) (c : Code) (w0 : bm_W) (F : bm_Rt → bm_W → Prop),
    bm_Cx K D b0 mc ms d p l R s m args meth c cc nL own nm ret → bm_Con K pg mi l d → bm_CaMo (bm_Call pg d) → (∀ r w', F r w' → bm_Bn w0 mc ms w') →
    ∀ (lo : bm_L) (st : List bm_V) (w : bm_W), bm_exe (bm_Call pg d) row (bm_Wg D b0 mc ms p l e R s m args below meth c nL w0 F) F lo st w → bm_Wg D b0 mc ms p l e R s m args below meth c nL w0 F (pc, lo, st, w)
theorem bm_lv_mask (D : bm_D) : ∀ (m : List Bool) (l : bm_L) (i : Nat), ∀ q ∈ bm_lv D i (bm_mask m l), q ∈ bm_lv D i l
  | [], l, i, q, h => h
  | _ :: _, [], i, q, h => by simp [bm_mask, bm_lv] at h
  | true :: m, none :: l, i, q, h => by
    simp only [bm_mask, bm_lv] at h ⊢
    exact bm_lv_mask D m l (i + 1) q h
  | true :: m, some v :: l, i, q, h => by
    simp only [bm_mask, bm_lv, List.mem_cons] at h ⊢
    exact h.imp id (bm_lv_mask D m l (i + 1) q)
  | false :: m, none :: l, i, q, h => by
    simp only [bm_mask, bm_lv] at h ⊢
    exact bm_lv_mask D m l (i + 1) q h
  | false :: m, some v :: l, i, q, h => by
    simp only [bm_mask, bm_lv, List.mem_cons] at h ⊢
    exact Or.inr (bm_lv_mask D m l (i + 1) q h)
theorem bm_in_mask : ∀ (m : List Bool) (l : bm_L) (v : bm_V), some v ∈ bm_mask m l → some v ∈ l
  | [], l, v, h => h
  | _ :: _, [], v, h => by simp [bm_mask] at h
  | true :: m, o :: l, v, h => by
    simp only [bm_mask, List.mem_cons] at h ⊢
    exact h.imp id (bm_in_mask m l v)
  | false :: m, _ :: l, v, h => by
    simp only [bm_mask, List.mem_cons] at h ⊢
    rcases h with h | h
    · cases h
    · exact Or.inr (bm_in_mask m l v h)
theorem bm_len_mask : ∀ (m : List Bool) (l : bm_L), m = [] ∨ m.length = l.length → (bm_mask m l).length = l.length
  | [], l, _ => rfl
  | _ :: _, [], h => by simp at h
  | true :: m, o :: l, h => by
    simp only [bm_mask, List.length_cons]
    rw [bm_len_mask m l (Or.inr (by simpa using h))]
  | false :: m, _ :: l, h => by
    simp only [bm_mask, List.length_cons]
    rw [bm_len_mask m l (Or.inr (by simpa using h))]
theorem bm_slc (v : Value) (vs : List Value) : (lg_sl (v :: vs)).length = (if v.category = 2 then 2 else 1) + (lg_sl vs).length := by
  unfold lg_sl
  rw [List.flatMap_cons, List.length_append]
  split <;> rfl
theorem bm_slot (D : bm_D) : ∀ as : List bm_V, (lg_sl (as.map (bm_val D))).length = (bm_arg as).length
  | [] => rfl
  | .inl x :: r => by rw [List.map_cons, bm_slc, bm_slot D r]; exact Nat.add_comm _ _
  | .inr (.inl x) :: r => by rw [List.map_cons, bm_slc, bm_slot D r]; exact Nat.add_comm _ _
  | .inr (.inr (.inl none)) :: r => by rw [List.map_cons, bm_slc, bm_slot D r]; exact Nat.add_comm _ _
  | .inr (.inr (.inl (some x))) :: r => by rw [List.map_cons, bm_slc, bm_slot D r]; exact Nat.add_comm _ _
  | .inr (.inr (.inr (.inl x))) :: r => by rw [List.map_cons, bm_slc, bm_slot D r]; exact Nat.add_comm _ _
  | .inr (.inr (.inr (.inr x))) :: r => by rw [List.map_cons, bm_slc, bm_slot D r, show (bm_val D (.inr (.inr (.inr (.inr x))))).category = 1 from bm_kv_cat D x]; exact Nat.add_comm _ _
theorem bm_lv_none (D : bm_D) : ∀ (n i : Nat), bm_lv D i (bm_pad n []) = []
  | 0, _ => rfl
  | n + 1, i => bm_lv_none D n (i + 1)
theorem bm_lv_pad (D : bm_D) : ∀ (n : Nat) (l : bm_L) (i : Nat), l.length ≤ n → bm_lv D i (bm_pad n l) = bm_lv D i l
  | 0, [], _, _ => rfl
  | 0, _ :: _, _, h => absurd h (by simp)
  | n + 1, [], i, _ => bm_lv_none D (n + 1) i
  | n + 1, none :: l, i, h => bm_lv_pad D n l (i + 1) (by simpa using h)
  | n + 1, some v :: l, i, h => by
    simp only [bm_pad, bm_lv]
    rw [bm_lv_pad D n l (i + 1) (by simpa using h)]
theorem bm_len_pad : ∀ (n : Nat) (l : bm_L), (bm_pad n l).length = n
  | 0, _ => rfl
  | n + 1, [] => by simp only [bm_pad, List.length_cons]; rw [bm_len_pad n []]
  | n + 1, _ :: l => by simp only [bm_pad, List.length_cons]; rw [bm_len_pad n l]
theorem bm_in_pad : ∀ (n : Nat) (l : bm_L) (v : bm_V), some v ∈ bm_pad n l → some v ∈ l
  | 0, _, v, h => by simp [bm_pad] at h
  | n + 1, [], v, h => by
    simp only [bm_pad, List.mem_cons] at h
    rcases h with h | h
    · cases h
    · exact bm_in_pad n [] v h
  | n + 1, o :: l, v, h => by
    simp only [bm_pad, List.mem_cons] at h ⊢
    exact h.imp id (bm_in_pad n l v)
theorem bm_lv_arg (D : bm_D) : ∀ (as : List bm_V) (i : Nat), bm_lv D i (bm_arg as) = lv_args i (as.map (bm_val D))
  | [], _ => rfl
  | .inl x :: r, i => by simp [bm_arg, bm_val, bm_lv, lv_args, Value.category, bm_lv_arg D r]
  | .inr (.inl x) :: r, i => by simp [bm_arg, bm_val, bm_lv, lv_args, Value.category, bm_lv_arg D r]
  | .inr (.inr (.inl none)) :: r, i => by simp [bm_arg, bm_val, bm_lv, lv_args, va_rf, Value.category, bm_lv_arg D r]
  | .inr (.inr (.inl (some x))) :: r, i => by simp [bm_arg, bm_val, bm_lv, lv_args, va_rf, Value.category, bm_lv_arg D r]
  | .inr (.inr (.inr (.inl x))) :: r, i => by simp [bm_arg, bm_val, bm_lv, lv_args, Value.category, bm_lv_arg D r]
  | .inr (.inr (.inr (.inr x))) :: r, i => by simp [bm_arg, bm_val, bm_lv, lv_args, bm_kv_cat, bm_lv_arg D r]
theorem bm_in_arg : ∀ (as : List bm_V) (v : bm_V), some v ∈ bm_arg as → v ∈ as
  | [], v, h => by simp [bm_arg] at h
  | .inl x :: r, v, h => by
    simp only [bm_arg, List.mem_cons, Option.some.injEq] at h ⊢
    exact h.imp id (bm_in_arg r v)
  | .inr (.inl x) :: r, v, h => by
    simp only [bm_arg, List.mem_cons, Option.some.injEq] at h ⊢
    rcases h with h | h | h
    · exact Or.inl h
    · cases h
    · exact Or.inr (bm_in_arg r v h)
  | .inr (.inr (.inl x)) :: r, v, h => by
    simp only [bm_arg, List.mem_cons, Option.some.injEq] at h ⊢
    exact h.imp id (bm_in_arg r v)
  | .inr (.inr (.inr (.inl x))) :: r, v, h => by
    simp only [bm_arg, List.mem_cons, Option.some.injEq] at h ⊢
    rcases h with h | h | h
    · exact Or.inl h
    · cases h
    · exact Or.inr (bm_in_arg r v h)
  | .inr (.inr (.inr (.inr x))) :: r, v, h => by
    simp only [bm_arg, List.mem_cons, Option.some.injEq] at h ⊢
    exact h.imp id (bm_in_arg r v)
/-- a method whose rows are sound keeps its contract -/
theorem bm_sound {K : bm_K} {pg : bm_Pg} {mi : bm_Mi} {l : Launch} (hl : l.stackTraces = false)
    (hR : ∀ y, plainName (mi y).1.cls = true ∧ ∀ pc m r, bm_look (pg y).1 pc = some (m, r) → (m = [] ∨ m.length = (pg y).2) ∧ bm_Sn K pg mi (mi y).2.1 (pg y).2 (mi y).1.cls (mi y).1.name (mi y).2.2 pc r) : ∀ d, bm_Con K pg mi l d := by
  have hS : ∀ d, bm_CaMo (bm_Call pg d) := bm_Call_size (fun y pc m r h => ((hR y).2 pc m r h).2.1)
  intro d
  induction d with
  | zero => intro D b0 y as w F mc ms _ h; exact h.elim
  | succ d ih =>
    intro D b0 y as w F mc ms hin hcall hF
    obtain ⟨ha, hcall⟩ := hcall
    have ha : (bm_arg as).length ≤ (pg y).2 := Nat.le_of_ble_eq_true ha
    refine vx_ofW (cc := (mi y).2.1) (maxL := (pg y).2) (ret := (mi y).2.2) (hR y).1 rfl ?_
    intro p e s m args below meth c s₁ B hml ht hPc
    obtain ⟨rfl, h1, h2, h3, h4⟩ := hPc
    have hat := atoms_spec (ws := bm_ws mi pg y) B.pre
    have hCx : bm_Cx K D b0 mc ms d p l (headSpec (bm_ws mi pg y) (bm_rm (d + 1) mc ms)).room s m (as.map (bm_val D)).toArray meth c (mi y).2.1 (pg y).2 (mi y).1.cls (mi y).1.name (mi y).2.2 :=
      ⟨B.exec, B.bytes, hml, findClass_of_methodNamed B.named, fun w hw => hat w (List.mem_cons_of_mem _ hw), h3, h4, B.notSynchronized, ht, hl, h1, rfl, rfl, Nat.le_refl _, Nat.le_of_eq (by show _ = 40 * (d + 1) + 400; omega), B.returns, (name_of_methodNamed B.named B.method).1⟩
    have main : bm_Wg D b0 mc ms p l e (headSpec (bm_ws mi pg y) (bm_rm (d + 1) mc ms)).room s m (as.map (bm_val D)).toArray below meth c (pg y).2 w F (0, bm_pad (pg y).2 (bm_arg as), [], w) := by
      refine hcall _ (fun t ht => ?_)
      unfold bm_stp at ht
      cases e2 : bm_look (pg y).1 t.1 with
      | none => rw [e2] at ht; exact ht.elim
      | some q =>
        obtain ⟨mk, row⟩ := q
        rw [e2] at ht
        dsimp only at ht
        obtain ⟨hmk, -, hsn⟩ := (hR y).2 _ _ _ e2
        obtain ⟨hb, hw⟩ := hsn D b0 mc ms d p l e _ s m _ below meth c w F hCx ih (hS d) (fun r w' q => (hF r w' q).2) _ _ _ ht
        refine ⟨hb, fun H locs ls g1 g2 g3 g4 g5 g6 g7 => ?_⟩
        have hlen : (bm_mask mk t.2.1).length = t.2.1.length := bm_len_mask _ _ (hmk.imp id fun q => q.trans g1.symm)
        exact hw H locs ls (hlen.trans g1) (fun v hv => g2 v (bm_in_mask _ _ _ hv)) g3 g4 g5 ⟨g6.1, g6.2.1, fun q hq => g6.2.2 q (bm_lv_mask D _ _ _ q hq)⟩ g7
    have hl0 := lv_entry (as.map (bm_val D)) (n := (pg y).2) (by rw [bm_slot]; exact ha)
    rw [lg_entry_eq]
    have h9 := main.2 s.heap [] _ (bm_len_pad _ _) (fun v hv => hin v (bm_in_arg as v (bm_in_pad _ _ v hv))) (fun v hv => by cases hv) h2 va_S.rf (by dsimp only; rw [bm_lv_pad D _ _ _ ha, bm_lv_arg]; exact hl0) bm_le.rf
    exact W.cs (Nat.sub_self _).symm (Nat.sub_self _).symm h9
end
section
/-! ===== rows that leave the heap as it is ===== -/
theorem bm_nth_lv (D : bm_D) : ∀ (l : bm_L) (i j : Nat) (v : bm_V), bm_nth l i = some (some v) → (j + i, bm_val D v) ∈ bm_lv D j l
  | [], i, j, v, h => by simp [bm_nth] at h
  | none :: l, 0, j, v, h => by simp [bm_nth] at h
  | some u :: l, 0, j, v, h => by
    simp only [bm_nth, Option.some.injEq] at h
    subst h
    exact List.mem_cons_self
  | none :: l, i + 1, j, v, h => by
    have h2 := bm_nth_lv D l i (j + 1) v h
    rw [show j + (i + 1) = j + 1 + i by omega]
    exact h2
  | some u :: l, i + 1, j, v, h => by
    have h2 := bm_nth_lv D l i (j + 1) v h
    rw [show j + (i + 1) = j + 1 + i by omega]
    exact List.mem_cons_of_mem _ h2
theorem bm_at {D : bm_D} {ls : Array Slot} {nL : Nat} {lo : bm_L} (h : lv_has ls nL (bm_lv D 0 lo)) {i : Nat} {v : bm_V} (hi : bm_nth lo i = some (some v)) : ls[i]? = some (.val (bm_val D v)) := by
  have h2 := h.2.2 _ (bm_nth_lv D lo i 0 v hi)
  simpa using h2
theorem bm_nth_mem {α : Type} : ∀ (l : List α) (i : Nat) (v : α), bm_nth l i = some v → v ∈ l
  | [], i, v, h => by simp [bm_nth] at h
  | a :: l, 0, v, h => by
    simp only [bm_nth, Option.some.injEq] at h
    subst h
    exact List.mem_cons_self
  | a :: l, i + 1, v, h => List.mem_cons_of_mem _ (bm_nth_mem l i v h)
theorem bm_lv_ge (D : bm_D) : ∀ (l : bm_L) (j : Nat) (q : Nat × Value), q ∈ bm_lv D j l → j ≤ q.1
  | [], j, q, h => by simp [bm_lv] at h
  | none :: l, j, q, h => by
    have := bm_lv_ge D l (j + 1) q h
    omega
  | some u :: l, j, q, h => by
    simp only [bm_lv, List.mem_cons] at h
    rcases h with h | h
    · rw [h]; exact Nat.le_refl _
    · have := bm_lv_ge D l (j + 1) q h
      omega
theorem bm_val_cat (D : bm_D) (v : bm_V) : (bm_val D v).category = 2 ↔ bm_kl (some v) 0 = none := by
  rcases v with x | x | r | x | x
  · simp [bm_val, bm_kl, Value.category]
  · simp [bm_val, bm_kl, Value.category]
  · cases r <;> simp [bm_val, bm_kl, va_rf, Value.category]
  · simp [bm_val, bm_kl, Value.category]
  · simp [bm_val, bm_kl, bm_kv_cat]
theorem bm_kl_or (o : Option bm_V) (i : Nat) : bm_kl o i = none ∨ (bm_kl o i = o ∧ (i = 0 → ∀ v, o = some v → ¬ bm_kl (some v) 0 = none)) := by
  cases i with
  | succ i => exact Or.inr ⟨rfl, fun h => by omega⟩
  | zero =>
    rcases o with _ | x | x | r | x | x
    · exact Or.inl rfl
    · exact Or.inr ⟨rfl, fun _ v e => by cases e; simp [bm_kl]⟩
    · exact Or.inl rfl
    · exact Or.inr ⟨rfl, fun _ v e => by cases e; simp [bm_kl]⟩
    · exact Or.inl rfl
    · exact Or.inr ⟨rfl, fun _ v e => by cases e; simp [bm_kl]⟩
theorem bm_kl_head {D : bm_D} {o : Option bm_V} {i j : Nat} {q : Nat × Value} {l l2 : bm_L} (hq : q ∈ bm_lv D j (bm_kl o i :: l)) : q ∈ bm_lv D (j + 1) l ∨ (q ∈ bm_lv D j (o :: l2) ∧ q.1 = j ∧ ¬ (i = 0 ∧ q.2.category = 2)) := by
  rcases bm_kl_or o i with h | ⟨h, h2⟩
  · rw [h] at hq; exact Or.inl hq
  · rw [h] at hq
    cases o with
    | none => exact Or.inl hq
    | some v =>
      simp only [bm_lv, List.mem_cons] at hq
      rcases hq with e | e
      · refine Or.inr ⟨by simp only [bm_lv, List.mem_cons]; exact Or.inl e, by rw [e], fun z => h2 z.1 v rfl ((bm_val_cat D v).mp (by have := z.2; rw [e] at this; exact this))⟩
      · exact Or.inl e
theorem bm_st1_lv (D : bm_D) (v : bm_V) : ∀ (l : bm_L) (i j : Nat) (q : Nat × Value), q ∈ bm_lv D j (bm_st1 l i v) → q = (j + i, bm_val D v) ∨ (q ∈ bm_lv D j l ∧ q.1 ≠ j + i ∧ ¬ (q.1 + 1 = j + i ∧ q.2.category = 2))
  | [], i, j, q, h => by simp [bm_st1, bm_lv] at h
  | o :: l, 0, j, q, h => by
    simp only [bm_st1, bm_lv, List.mem_cons] at h
    rcases h with h | h
    · exact Or.inl h
    · have h2 := bm_lv_ge D l (j + 1) q h
      refine Or.inr ⟨?_, by omega, by omega⟩
      cases o with
      | none => exact h
      | some u => exact List.mem_cons_of_mem _ h
  | o :: l, i + 1, j, q, h => by
    simp only [bm_st1] at h
    rcases bm_kl_head (l2 := l) h with h2 | ⟨h2, h3, h4⟩
    · rcases bm_st1_lv D v l i (j + 1) q h2 with h5 | ⟨h5, h6, h7⟩
      · exact Or.inl (by rw [h5]; congr 1; omega)
      · refine Or.inr ⟨?_, by omega, by omega⟩
        cases o with
        | none => exact h5
        | some u => exact List.mem_cons_of_mem _ h5
    · exact Or.inr ⟨h2, by omega, fun z => h4 ⟨by omega, z.2⟩⟩
theorem bm_st2_lv (D : bm_D) (v : bm_V) : ∀ (l : bm_L) (i j : Nat) (q : Nat × Value), q ∈ bm_lv D j (bm_st2 l i v) → q = (j + i, bm_val D v) ∨ (q ∈ bm_lv D j l ∧ q.1 ≠ j + i ∧ q.1 ≠ j + i + 1 ∧ ¬ (q.1 + 1 = j + i ∧ q.2.category = 2))
  | [], i, j, q, h => by simp [bm_st2, bm_lv] at h
  | [o], 0, j, q, h => by
    simp only [bm_st2, bm_lv, List.mem_cons] at h
    rcases h with h | h
    · exact Or.inl h
    · cases h
  | o :: o2 :: l, 0, j, q, h => by
    simp only [bm_st2, bm_lv, List.mem_cons] at h
    rcases h with h | h
    · exact Or.inl h
    · have h2 := bm_lv_ge D l (j + 1 + 1) q h
      refine Or.inr ⟨?_, by omega, by omega, by omega⟩
      cases o with
      | none => cases o2 with
        | none => exact h
        | some u => exact List.mem_cons_of_mem _ h
      | some u => cases o2 with
        | none => exact List.mem_cons_of_mem _ h
        | some u => exact List.mem_cons_of_mem _ (List.mem_cons_of_mem _ h)
  | o :: l, i + 1, j, q, h => by
    simp only [bm_st2] at h
    rcases bm_kl_head (l2 := l) h with h2 | ⟨h2, h3, h4⟩
    · rcases bm_st2_lv D v l i (j + 1) q h2 with h5 | ⟨h5, h6, h7, h8⟩
      · exact Or.inl (by rw [h5]; congr 1; omega)
      · refine Or.inr ⟨?_, by omega, by omega, by omega⟩
        cases o with
        | none => exact h5
        | some u => exact List.mem_cons_of_mem _ h5
    · exact Or.inr ⟨h2, by omega, by omega, fun z => h4 ⟨by omega, z.2⟩⟩
theorem bm_st1_len (v : bm_V) : ∀ (l : bm_L) (i : Nat), (bm_st1 l i v).length = l.length
  | [], _ => rfl
  | _ :: _, 0 => rfl
  | _ :: l, i + 1 => congrArg (· + 1) (bm_st1_len v l i)
theorem bm_st2_len (v : bm_V) : ∀ (l : bm_L) (i : Nat), (bm_st2 l i v).length = l.length
  | [], _ => rfl
  | [_], 0 => rfl
  | _ :: _ :: _, 0 => rfl
  | [_], i + 1 => congrArg (· + 1) (bm_st2_len v [] i)
  | _ :: o :: l, i + 1 => congrArg (· + 1) (bm_st2_len v (o :: l) i)
theorem bm_kl_in {o : Option bm_V} {i : Nat} {u : bm_V} (h : some u = bm_kl o i) : some u = o := by
  rcases bm_kl_or o i with h2 | ⟨h2, -⟩
  · rw [h2] at h; cases h
  · rw [h2] at h; exact h
theorem bm_st1_in (v : bm_V) : ∀ (l : bm_L) (i : Nat) (u : bm_V), some u ∈ bm_st1 l i v → u = v ∨ some u ∈ l
  | [], i, u, h => by simp [bm_st1] at h
  | o :: l, 0, u, h => by
    simp only [bm_st1, List.mem_cons, Option.some.injEq] at h ⊢
    exact h.imp id Or.inr
  | o :: l, i + 1, u, h => by
    simp only [bm_st1, List.mem_cons] at h ⊢
    rcases h with h | h
    · exact Or.inr (Or.inl (bm_kl_in h))
    · exact (bm_st1_in v l i u h).imp id Or.inr
theorem bm_st2_in (v : bm_V) : ∀ (l : bm_L) (i : Nat) (u : bm_V), some u ∈ bm_st2 l i v → u = v ∨ some u ∈ l
  | [], i, u, h => by simp [bm_st2] at h
  | [o], 0, u, h => by
    simp only [bm_st2, List.mem_cons, Option.some.injEq] at h ⊢
    rcases h with h | h
    · exact Or.inl h
    · cases h
  | o :: o2 :: l, 0, u, h => by
    simp only [bm_st2, List.mem_cons, Option.some.injEq] at h ⊢
    rcases h with h | h | h
    · exact Or.inl h
    · cases h
    · exact Or.inr (Or.inr (Or.inr h))
  | [o], i + 1, u, h => by
    simp only [bm_st2, List.mem_cons] at h ⊢
    rcases h with h | h
    · exact Or.inr (Or.inl (bm_kl_in h))
    · cases h
  | o :: o2 :: l, i + 1, u, h => by
    simp only [bm_st2, List.mem_cons] at h
    rcases h with h | h
    · exact Or.inr (List.mem_cons.mpr (Or.inl (bm_kl_in h)))
    · exact (bm_st2_in v (o2 :: l) i u h).imp id (fun q => List.mem_cons_of_mem _ q)
theorem bm_has1 {D : bm_D} {ls' : Array Slot} {nL : Nat} {lo : bm_L} {i : Nat} {v : bm_V} (h : lv_has ls' nL ((i, bm_val D v) :: (bm_lv D 0 lo).filter (fun q => !(q.1 == i) && !(q.1 + 1 == i && q.2.category == 2)))) : lv_has ls' nL (bm_lv D 0 (bm_st1 lo i v)) := by
  refine ⟨h.1, h.2.1, fun q hq => h.2.2 q ?_⟩
  rcases bm_st1_lv D v lo i 0 q hq with h2 | ⟨h2, h3, h4⟩
  · rw [h2]; simp
  · refine List.mem_cons_of_mem _ (List.mem_filter.mpr ⟨h2, ?_⟩)
    have e1 : (q.1 == i) = false := by simpa using h3
    have e2 : (q.1 + 1 == i && q.2.category == 2) = false := by
      cases e : (q.1 + 1 == i && q.2.category == 2) with
      | false => rfl
      | true =>
        simp only [Bool.and_eq_true, beq_iff_eq] at e
        exact absurd ⟨by omega, e.2⟩ h4
    rw [e1, e2]; rfl
theorem bm_has2 {D : bm_D} {ls' : Array Slot} {nL : Nat} {lo : bm_L} {i : Nat} {v : bm_V} (h : lv_has ls' nL ((i, bm_val D v) :: (bm_lv D 0 lo).filter (fun q => !(q.1 == i) && (!(q.1 == i + 1) && !(q.1 + 1 == i && q.2.category == 2))))) : lv_has ls' nL (bm_lv D 0 (bm_st2 lo i v)) := by
  refine ⟨h.1, h.2.1, fun q hq => h.2.2 q ?_⟩
  rcases bm_st2_lv D v lo i 0 q hq with h2 | ⟨h2, h3, h5, h4⟩
  · rw [h2]; simp
  · refine List.mem_cons_of_mem _ (List.mem_filter.mpr ⟨h2, ?_⟩)
    have e1 : (q.1 == i) = false := by simpa using h3
    have e3 : (q.1 == i + 1) = false := by simpa using h5
    have e2 : (q.1 + 1 == i && q.2.category == 2) = false := by
      cases e : (q.1 + 1 == i && q.2.category == 2) with
      | false => rfl
      | true =>
        simp only [Bool.and_eq_true, beq_iff_eq] at e
        exact absurd ⟨by omega, e.2⟩ h4
    rw [e1, e2, e3]; rfl
theorem bm_InSt.hd {v : bm_V} {st : List bm_V} (h : bm_InSt (v :: st)) : bm_InV v := h v List.mem_cons_self
theorem bm_InSt.tl {v : bm_V} {st : List bm_V} (h : bm_InSt (v :: st)) : bm_InSt st := fun u hu => h u (List.mem_cons_of_mem _ hu)
theorem bm_InSt.cons {v : bm_V} {st : List bm_V} (h : bm_InV v) (h2 : bm_InSt st) : bm_InSt (v :: st) := fun u hu => (List.mem_cons.mp hu).elim (fun e => by rw [e]; exact h) (h2 u)
theorem bm_ofI (x : Int) : Int32.ofInt (bm_w x) = Int32.ofInt x := by
  rw [Int32.ofInt_eq_iff_bmod_eq_toInt, Int32.toInt_ofInt]
  unfold bm_w
  simp only [Int32.size, Int.bmod]
  omega
theorem bm_ofL (x : Int) : Int64.ofInt (bm_x x) = Int64.ofInt x := by
  rw [Int64.ofInt_eq_iff_bmod_eq_toInt, Int64.toInt_ofInt]
  unfold bm_x
  simp only [Int64.size, Int.bmod]
  omega
theorem bm_w_in (x : Int) : bm_InI (bm_w x) := by unfold bm_InI bm_w; omega
theorem bm_x_in (x : Int) : bm_InL (bm_x x) := by unfold bm_InL bm_x; omega
theorem bm_toI {x : Int} (h : bm_InI x) : (Int32.ofInt x).toInt = x := Int32.toInt_ofInt_of_le (by have := h.1; omega) (by have := h.2; omega)
theorem bm_toL {x : Int} (h : bm_InL x) : (Int64.ofInt x).toInt = x := Int64.toInt_ofInt_of_le (by have := h.1; omega) (by have := h.2; omega)
theorem bm_I_in (x : Int32) : bm_InI x.toInt := ⟨by have := x.le_toInt; omega, by have := x.toInt_lt; omega⟩
theorem bm_L_in (x : Int64) : bm_InL x.toInt := ⟨by have := x.le_toInt; omega, by have := x.toInt_lt; omega⟩
theorem bm_ltI {x y : Int} (hx : bm_InI x) (hy : bm_InI y) : Int32.ofInt x < Int32.ofInt y ↔ x < y := by rw [Int32.lt_iff_toInt_lt, bm_toI hx, bm_toI hy]
theorem bm_leI {x y : Int} (hx : bm_InI x) (hy : bm_InI y) : Int32.ofInt x ≤ Int32.ofInt y ↔ x ≤ y := by rw [Int32.le_iff_toInt_le, bm_toI hx, bm_toI hy]
theorem bm_eqI {x y : Int} (hx : bm_InI x) (hy : bm_InI y) : Int32.ofInt x = Int32.ofInt y ↔ x = y := by rw [← Int32.toInt_inj, bm_toI hx, bm_toI hy]
theorem bm_ltL {x y : Int} (hx : bm_InL x) (hy : bm_InL y) : Int64.ofInt x < Int64.ofInt y ↔ x < y := by rw [Int64.lt_iff_toInt_lt, bm_toL hx, bm_toL hy]
theorem bm_leL {x y : Int} (hx : bm_InL x) (hy : bm_InL y) : Int64.ofInt x ≤ Int64.ofInt y ↔ x ≤ y := by rw [Int64.le_iff_toInt_le, bm_toL hx, bm_toL hy]
theorem bm_eqL {x y : Int} (hx : bm_InL x) (hy : bm_InL y) : Int64.ofInt x = Int64.ofInt y ↔ x = y := by rw [← Int64.toInt_inj, bm_toL hx, bm_toL hy]
theorem bm_nd {c : Prop} [Decidable c] (h : ¬ c) : (!decide c) = true := by rw [decide_eq_false h]; rfl
theorem bm_nt {c : Prop} [Decidable c] (h : c) : (!decide c) = false := by rw [decide_eq_true h]; rfl
theorem bm_In0 : bm_InI 0 := by unfold bm_InI; omega
theorem bm_I0 : Int32.ofInt 0 = 0 := rfl
/-! the rows themselves -/
def bm_oK (v : bm_V) (nx : Nat) : bm_L → List bm_V → bm_W → Option bm_S := fun lo st w => some (nx, lo, v :: st, w)
def bm_oLi (i nx : Nat) : bm_L → List bm_V → bm_W → Option bm_S := fun lo st w => match bm_nth lo i with
  | some (some (.inl x)) => some (nx, lo, .inl x :: st, w)
  | _ => none
def bm_oLl (i nx : Nat) : bm_L → List bm_V → bm_W → Option bm_S := fun lo st w => match bm_nth lo i with
  | some (some (.inr (.inl x))) => some (nx, lo, .inr (.inl x) :: st, w)
  | _ => none
def bm_oLa (i nx : Nat) : bm_L → List bm_V → bm_W → Option bm_S := fun lo st w => match bm_nth lo i with
  | some (some (.inr (.inr (.inl x)))) => some (nx, lo, .inr (.inr (.inl x)) :: st, w)
  | some (some (.inr (.inr (.inr (.inr x))))) => some (nx, lo, .inr (.inr (.inr (.inr x))) :: st, w)
  | _ => none
def bm_oSi (i nx : Nat) : bm_L → List bm_V → bm_W → Option bm_S := fun lo st w => match st with
  | .inl x :: r => match i.blt lo.length with
    | true => some (nx, bm_st1 lo i (.inl x), r, w)
    | false => none
  | _ => none
def bm_oSl (i nx : Nat) : bm_L → List bm_V → bm_W → Option bm_S := fun lo st w => match st with
  | .inr (.inl x) :: r => match (i + 1).blt lo.length with
    | true => some (nx, bm_st2 lo i (.inr (.inl x)), r, w)
    | false => none
  | _ => none
def bm_oSa (i nx : Nat) : bm_L → List bm_V → bm_W → Option bm_S := fun lo st w => match st with
  | .inr (.inr (.inl x)) :: r => match i.blt lo.length with
    | true => some (nx, bm_st1 lo i (.inr (.inr (.inl x))), r, w)
    | false => none
  | .inr (.inr (.inr (.inr x))) :: r => match i.blt lo.length with
    | true => some (nx, bm_st1 lo i (.inr (.inr (.inr (.inr x)))), r, w)
    | false => none
  | _ => none
def bm_oInc (i : Nat) (n : Int) (nx : Nat) : bm_L → List bm_V → bm_W → Option bm_S := fun lo st w => match bm_nth lo i with
  | some (some (.inl x)) => some (nx, bm_st1 lo i (.inl (bm_w (x + n))), st, w)
  | _ => none
def bm_o2 (f : Int → Int → Int) (nx : Nat) : bm_L → List bm_V → bm_W → Option bm_S := fun lo st w => match st with
  | .inl y :: .inl x :: r => some (nx, lo, .inl (f x y) :: r, w)
  | _ => none
def bm_o2l (f : Int → Int → Int) (nx : Nat) : bm_L → List bm_V → bm_W → Option bm_S := fun lo st w => match st with
  | .inr (.inl y) :: .inr (.inl x) :: r => some (nx, lo, .inr (.inl (f x y)) :: r, w)
  | _ => none
def bm_o2s (f : Int → Int → Int) (nx : Nat) : bm_L → List bm_V → bm_W → Option bm_S := fun lo st w => match st with
  | .inl y :: .inr (.inl x) :: r => some (nx, lo, .inr (.inl (f x y)) :: r, w)
  | _ => none
def bm_o1 (f : Int → Int) (nx : Nat) : bm_L → List bm_V → bm_W → Option bm_S := fun lo st w => match st with
  | .inl x :: r => some (nx, lo, .inl (f x) :: r, w)
  | _ => none
def bm_o1l (f : Int → Int) (nx : Nat) : bm_L → List bm_V → bm_W → Option bm_S := fun lo st w => match st with
  | .inr (.inl x) :: r => some (nx, lo, .inr (.inl (f x)) :: r, w)
  | _ => none
def bm_oil (nx : Nat) : bm_L → List bm_V → bm_W → Option bm_S := fun lo st w => match st with
  | .inl x :: r => some (nx, lo, .inr (.inl x) :: r, w)
  | _ => none
def bm_oli (nx : Nat) : bm_L → List bm_V → bm_W → Option bm_S := fun lo st w => match st with
  | .inr (.inl x) :: r => some (nx, lo, .inl (bm_w x) :: r, w)
  | _ => none
def bm_oPop (nx : Nat) : bm_L → List bm_V → bm_W → Option bm_S := fun lo st w => match st with
  | .inl _ :: r => some (nx, lo, r, w)
  | .inr (.inr (.inl _)) :: r => some (nx, lo, r, w)
  | _ => none
def bm_oPop2 (nx : Nat) : bm_L → List bm_V → bm_W → Option bm_S := fun lo st w => match st with
  | .inr (.inl _) :: r => some (nx, lo, r, w)
  | _ => none
def bm_oDup (nx : Nat) : bm_L → List bm_V → bm_W → Option bm_S := fun lo st w => match st with
  | .inl x :: r => some (nx, lo, .inl x :: .inl x :: r, w)
  | .inr (.inr (.inl x)) :: r => some (nx, lo, .inr (.inr (.inl x)) :: .inr (.inr (.inl x)) :: r, w)
  | _ => none
def bm_oDup2 (nx : Nat) : bm_L → List bm_V → bm_W → Option bm_S := fun lo st w => match st with
  | .inl y :: .inr (.inr (.inl x)) :: r => some (nx, lo, .inl y :: .inr (.inr (.inl x)) :: .inl y :: .inr (.inr (.inl x)) :: r, w)
  | _ => none
def bm_oDupX1 (nx : Nat) : bm_L → List bm_V → bm_W → Option bm_S := fun lo st w => match st with
  | .inl y :: .inr (.inr (.inl x)) :: r => some (nx, lo, .inl y :: .inr (.inr (.inl x)) :: .inl y :: r, w)
  | _ => none
def bm_oGo (nx : Nat) : bm_L → List bm_V → bm_W → Option bm_S := fun lo st w => some (nx, lo, st, w)
def bm_oDi (f : Int → Int → Int) (nx : Nat) : bm_L → List bm_V → bm_W → Option (Prop × bm_S) := fun lo st w => match st with
  | .inl y :: .inl x :: r => some (¬ y = 0, nx, lo, .inl (f x y) :: r, w)
  | _ => none
def bm_oDl (f : Int → Int → Int) (nx : Nat) : bm_L → List bm_V → bm_W → Option (Prop × bm_S) := fun lo st w => match st with
  | .inr (.inl y) :: .inr (.inl x) :: r => some (¬ y = 0, nx, lo, .inr (.inl (f x y)) :: r, w)
  | _ => none
def bm_bz (f : Int → Bool) (tg nx : Nat) : bm_L → List bm_V → bm_W → Option (Bool × bm_S × bm_S) := fun lo st w => match st with
  | .inl x :: r => some (f x, (tg, lo, r, w), (nx, lo, r, w))
  | _ => none
def bm_bi (f : Int → Int → Bool) (tg nx : Nat) : bm_L → List bm_V → bm_W → Option (Bool × bm_S × bm_S) := fun lo st w => match st with
  | .inl y :: .inl x :: r => some (f x y, (tg, lo, r, w), (nx, lo, r, w))
  | _ => none
def bm_bl (f : Int → Int → Bool) (tg nx : Nat) : bm_L → List bm_V → bm_W → Option (Bool × bm_S × bm_S) := fun lo st w => match st with
  | .inr (.inl y) :: .inr (.inl x) :: r => some (f x y, (tg, lo, r, w), (nx, lo, r, w))
  | _ => none
def bm_bnn (tg nx : Nat) : bm_L → List bm_V → bm_W → Option (Bool × bm_S × bm_S) := fun lo st w => match st with
  | .inr (.inr (.inl x)) :: r => some (x.isSome, (tg, lo, r, w), (nx, lo, r, w))
  | _ => none
def bm_ba (f : Option Nat → Option Nat → Bool) (tg nx : Nat) : bm_L → List bm_V → bm_W → Option (Bool × bm_S × bm_S) := fun lo st w => match st with
  | .inr (.inr (.inl y)) :: .inr (.inr (.inl x)) :: r => some (f x y, (tg, lo, r, w), (nx, lo, r, w))
  | _ => none
section BMR
variable {K : bm_K} {pg : bm_Pg} {mi : bm_Mi} {cc : ByteArray} {nL : Nat} {own nm : String} {ret : Option FieldType} {pc : Nat}
/-- a walk that leaves heap and world alone, from (lo, st) at pc to t -/
def bm_Go (K : bm_K) (cc : ByteArray) (nL : Nat) (own nm : String) (ret : Option FieldType) (pc : Nat) (lo : bm_L) (st : List bm_V) (t : Nat × bm_L × List bm_V) : Prop :=
  ∀ (D : bm_D) (b0 mc ms d : Nat) (p : Program) (l : Launch) (e : Env) (R : Room) (s : State) (m : MethodId) (args : Array Value) (below : List Frame) (meth : Method) (c : Code) (H : Heap) (locs : List Loc) (cells slots : Nat) (Q : State → Prop) (ls : Array Slot),
    bm_Cx K D b0 mc ms d p l R s m args meth c cc nL own nm ret → va_S (bm_A b0) s.heap H locs → lv_has ls nL (bm_lv D 0 lo) →
    (∀ ls' : Array Slot, lv_has ls' nL (bm_lv D 0 t.2.1) → W p l e R s m args below meth c H locs cells slots Q (F0 m t.1 ls' (t.2.2.map (bm_val D)))) → W p l e R s m args below meth c H locs cells slots Q (F0 m pc ls (st.map (bm_val D)))
theorem bm_Sn.still {f : bm_L → List bm_V → bm_W → Option bm_S}
    (h : ∀ lo st w t, f lo st w = some t → t.2.2.2 = w ∧ (lo.length = nL → bm_InLo lo → bm_InSt st → (t.2.1.length = nL ∧ bm_InLo t.2.1 ∧ bm_InSt t.2.2.1) ∧ bm_Go K cc nL own nm ret pc lo st (t.1, t.2.1, t.2.2.1))) : bm_Sn K pg mi cc nL own nm ret pc (bm_P f) := by
  refine ⟨fun lo st w t e => by rw [(h lo st w t e).1]; exact bm_le.rf, ?_⟩
  intro D b0 mc ms d p l e R s m args below meth c w0 F hCx hCon hS hF lo st w hex
  simp only [bm_exe] at hex
  cases e2 : f lo st w with
  | none => rw [e2] at hex; exact hex.elim
  | some t =>
    rw [e2] at hex
    obtain ⟨hw, hgo⟩ := h lo st w t e2
    obtain ⟨pc', lo', st', w'⟩ := t
    dsimp only at hw hgo
    subst hw
    refine ⟨hex.1, fun H locs ls g1 g2 g3 g4 g5 g6 g7 => ?_⟩
    obtain ⟨⟨i1, i2, i3⟩, hgo⟩ := hgo g1 g2 g3
    exact hgo D b0 mc ms d p l e R s m args below meth c H locs _ _ _ ls hCx g5 g6 (fun ls' hl' => hex.2 H locs ls' i1 i2 i3 g4 g5 hl' g7)
theorem bm_Sn.stillG {f : bm_L → List bm_V → bm_W → Option (Prop × bm_S)}
    (h : ∀ lo st w g t, f lo st w = some (g, t) → t.2.2.2 = w ∧ (g → lo.length = nL → bm_InLo lo → bm_InSt st → (t.2.1.length = nL ∧ bm_InLo t.2.1 ∧ bm_InSt t.2.2.1) ∧ bm_Go K cc nL own nm ret pc lo st (t.1, t.2.1, t.2.2.1))) : bm_Sn K pg mi cc nL own nm ret pc (bm_G f) := by
  refine ⟨fun lo st w g t e _ => by rw [(h lo st w g t e).1]; exact bm_le.rf, ?_⟩
  intro D b0 mc ms d p l e R s m args below meth c w0 F hCx hCon hS hF lo st w hex
  simp only [bm_exe] at hex
  cases e2 : f lo st w with
  | none => rw [e2] at hex; exact hex.elim
  | some t =>
    rw [e2] at hex
    obtain ⟨g, pc', lo', st', w'⟩ := t
    obtain ⟨hw, hgo⟩ := h lo st w _ _ e2
    dsimp only at hw hgo
    subst hw
    obtain ⟨hg, hex⟩ := hex
    refine ⟨hex.1, fun H locs ls g1 g2 g3 g4 g5 g6 g7 => ?_⟩
    obtain ⟨⟨i1, i2, i3⟩, hgo⟩ := hgo hg g1 g2 g3
    exact hgo D b0 mc ms d p l e R s m args below meth c H locs _ _ _ ls hCx g5 g6 (fun ls' hl' => hex.2 H locs ls' i1 i2 i3 g4 g5 hl' g7)
/-- a branch -/
def bm_Br (K : bm_K) (cc : ByteArray) (nL : Nat) (own nm : String) (ret : Option FieldType) (pc : Nat) (st : List bm_V) (b : Bool) (tg nx : Nat) (st' : List bm_V) : Prop :=
  ∀ (D : bm_D) (b0 mc ms d : Nat) (p : Program) (l : Launch) (e : Env) (R : Room) (s : State) (m : MethodId) (args : Array Value) (below : List Frame) (meth : Method) (c : Code) (H : Heap) (locs : List Loc) (cells slots : Nat) (Q : State → Prop) (ls : Array Slot),
    bm_Cx K D b0 mc ms d p l R s m args meth c cc nL own nm ret → 
    (b = true → W p l e R s m args below meth c H locs cells slots Q (F0 m tg ls (st'.map (bm_val D)))) → (b = false → W p l e R s m args below meth c H locs cells slots Q (F0 m nx ls (st'.map (bm_val D)))) → W p l e R s m args below meth c H locs cells slots Q (F0 m pc ls (st.map (bm_val D)))
theorem bm_Sn.stillB {f : bm_L → List bm_V → bm_W → Option (Bool × bm_S × bm_S)} (tg nx : Nat)
    (h : ∀ lo st w b t u, f lo st w = some (b, t, u) → ∃ st', t = (tg, lo, st', w) ∧ u = (nx, lo, st', w) ∧ (bm_InSt st → bm_InSt st' ∧ bm_Br K cc nL own nm ret pc st b tg nx st')) : bm_Sn K pg mi cc nL own nm ret pc (bm_B f) := by
  refine ⟨fun lo st w b t u e => by obtain ⟨st', rfl, rfl, -⟩ := h lo st w b t u e; exact ⟨bm_le.rf, bm_le.rf⟩, ?_⟩
  intro D b0 mc ms d p l e R s m args below meth c w0 F hCx hCon hS hF lo st w hex
  simp only [bm_exe] at hex
  cases e2 : f lo st w with
  | none => rw [e2] at hex; exact hex.elim
  | some t =>
    rw [e2] at hex
    obtain ⟨b, t, u⟩ := t
    obtain ⟨st', rfl, rfl, hgo⟩ := h lo st w _ _ _ e2
    cases b with
    | true =>
      refine ⟨hex.1, fun H locs ls g1 g2 g3 g4 g5 g6 g7 => ?_⟩
      obtain ⟨i3, hgo⟩ := hgo g3
      exact hgo D b0 mc ms d p l e R s m args below meth c H locs _ _ _ ls hCx (fun _ => hex.2 H locs ls g1 g2 i3 g4 g5 g6 g7) (fun z => by cases z)
    | false =>
      refine ⟨hex.1, fun H locs ls g1 g2 g3 g4 g5 g6 g7 => ?_⟩
      obtain ⟨i3, hgo⟩ := hgo g3
      exact hgo D b0 mc ms d p l e R s m args below meth c H locs _ _ _ ls hCx (fun z => by cases z) (fun _ => hex.2 H locs ls g1 g2 i3 g4 g5 g6 g7)
theorem bm_s_iconst {n : Int} (nx : Nat) (hdg : decode cc pc = .ok (.iconst n, 1)) (hv : bm_InI n) (hn : nx = pc + 1 := by rfl) : bm_Sn K pg mi cc nL own nm ret pc (bm_P (bm_oK (.inl n) nx)) := by
  subst hn
  refine bm_Sn.still (fun lo st w t he => ?_)
  simp only [bm_oK, Option.some.injEq] at he
  subst he
  refine ⟨rfl, fun h1 h2 h3 => ⟨⟨h1, h2, bm_InSt.cons (hv) h3⟩, ?_⟩⟩
  intro D b0 mc ms d p l e R s m args below meth c H locs cells slots Q ls hCx hS hl k
  obtain ⟨hx, hb, -⟩ := hCx
  exact lv_iconst hx hb hdg rfl (k ls hl)
theorem bm_s_bipush {n : Int} (nx : Nat) (hdg : decode cc pc = .ok (.bipush n, 2)) (hv : (Int8.ofInt n).toInt32 = Int32.ofInt n ∧ bm_InI n) (hn : nx = pc + 2 := by rfl) : bm_Sn K pg mi cc nL own nm ret pc (bm_P (bm_oK (.inl n) nx)) := by
  subst hn
  refine bm_Sn.still (fun lo st w t he => ?_)
  simp only [bm_oK, Option.some.injEq] at he
  subst he
  refine ⟨rfl, fun h1 h2 h3 => ⟨⟨h1, h2, bm_InSt.cons (hv.2) h3⟩, ?_⟩⟩
  intro D b0 mc ms d p l e R s m args below meth c H locs cells slots Q ls hCx hS hl k
  obtain ⟨hx, hb, -⟩ := hCx
  exact lv_bipush hx hb hdg hv.1 (k ls hl)
theorem bm_s_sipush {n : Int} (nx : Nat) (hdg : decode cc pc = .ok (.sipush n, 3)) (hv : (Int16.ofInt n).toInt32 = Int32.ofInt n ∧ bm_InI n) (hn : nx = pc + 3 := by rfl) : bm_Sn K pg mi cc nL own nm ret pc (bm_P (bm_oK (.inl n) nx)) := by
  subst hn
  refine bm_Sn.still (fun lo st w t he => ?_)
  simp only [bm_oK, Option.some.injEq] at he
  subst he
  refine ⟨rfl, fun h1 h2 h3 => ⟨⟨h1, h2, bm_InSt.cons (hv.2) h3⟩, ?_⟩⟩
  intro D b0 mc ms d p l e R s m args below meth c H locs cells slots Q ls hCx hS hl k
  obtain ⟨hx, hb, -⟩ := hCx
  exact lv_sipush hx hb hdg hv.1 (k ls hl)
theorem bm_s_lconst {n : Fin 2} {z : Int} (nx : Nat) (hdg : decode cc pc = .ok (.lconst n, 1)) (hv : Int64.ofNat (n : Nat) = Int64.ofInt z ∧ bm_InL z) (hn : nx = pc + 1 := by rfl) : bm_Sn K pg mi cc nL own nm ret pc (bm_P (bm_oK (.inr (.inl z)) nx)) := by
  subst hn
  refine bm_Sn.still (fun lo st w t he => ?_)
  simp only [bm_oK, Option.some.injEq] at he
  subst he
  refine ⟨rfl, fun h1 h2 h3 => ⟨⟨h1, h2, bm_InSt.cons (hv.2) h3⟩, ?_⟩⟩
  intro D b0 mc ms d p l e R s m args below meth c H locs cells slots Q ls hCx hS hl k
  obtain ⟨hx, hb, -⟩ := hCx
  exact lv_lconst hx hb hdg hv.1 (k ls hl)
theorem bm_s_null  (nx : Nat) (hdg : decode cc pc = .ok (.aconst_null, 1)) (hn : nx = pc + 1 := by rfl) : bm_Sn K pg mi cc nL own nm ret pc (bm_P (bm_oK (.inr (.inr (.inl none))) nx)) := by
  subst hn
  refine bm_Sn.still (fun lo st w t he => ?_)
  simp only [bm_oK, Option.some.injEq] at he
  subst he
  refine ⟨rfl, fun h1 h2 h3 => ⟨⟨h1, h2, bm_InSt.cons (trivial) h3⟩, ?_⟩⟩
  intro D b0 mc ms d p l e R s m args below meth c H locs cells slots Q ls hCx hS hl k
  obtain ⟨hx, hb, -⟩ := hCx
  exact lv_null hx hb hdg (k ls hl)
theorem bm_s_iload_n {k : Fin 4} {i : Nat} (nx : Nat) (hdg : decode cc pc = .ok (.iload_n k, 1)) (hi0 : (k : Nat) = i) (hn : nx = pc + 1 := by rfl) : bm_Sn K pg mi cc nL own nm ret pc (bm_P (bm_oLi i nx)) := by
  subst hn
  refine bm_Sn.still (fun lo st w t he => ?_)
  unfold bm_oLi at he
  split at he
  · rename_i x hi
    cases he
    refine ⟨rfl, fun h1 h2 h3 => ⟨⟨h1, h2, bm_InSt.cons (h2 _ (bm_nth_mem _ _ _ hi)) h3⟩, ?_⟩⟩
    intro D b0 mc ms d p l e R s m args below meth c H locs cells slots Q ls hCx hS hl k
    obtain ⟨hx, hb, -⟩ := hCx
    exact lv_iload_n hx hb hdg hi0 (bm_at hl hi) (k ls hl)
  · cases he
theorem bm_s_iload {i : Nat} (nx : Nat) (hdg : decode cc pc = .ok (.iload i, 2)) (hn : nx = pc + 2 := by rfl) : bm_Sn K pg mi cc nL own nm ret pc (bm_P (bm_oLi i nx)) := by
  subst hn
  refine bm_Sn.still (fun lo st w t he => ?_)
  unfold bm_oLi at he
  split at he
  · rename_i x hi
    cases he
    refine ⟨rfl, fun h1 h2 h3 => ⟨⟨h1, h2, bm_InSt.cons (h2 _ (bm_nth_mem _ _ _ hi)) h3⟩, ?_⟩⟩
    intro D b0 mc ms d p l e R s m args below meth c H locs cells slots Q ls hCx hS hl k
    obtain ⟨hx, hb, -⟩ := hCx
    exact lv_iload hx hb hdg (bm_at hl hi) (k ls hl)
  · cases he
theorem bm_s_lload_n {k : Fin 4} {i : Nat} (nx : Nat) (hdg : decode cc pc = .ok (.lload_n k, 1)) (hi0 : (k : Nat) = i) (hn : nx = pc + 1 := by rfl) : bm_Sn K pg mi cc nL own nm ret pc (bm_P (bm_oLl i nx)) := by
  subst hn
  refine bm_Sn.still (fun lo st w t he => ?_)
  unfold bm_oLl at he
  split at he
  · rename_i x hi
    cases he
    refine ⟨rfl, fun h1 h2 h3 => ⟨⟨h1, h2, bm_InSt.cons (h2 _ (bm_nth_mem _ _ _ hi)) h3⟩, ?_⟩⟩
    intro D b0 mc ms d p l e R s m args below meth c H locs cells slots Q ls hCx hS hl k
    obtain ⟨hx, hb, -⟩ := hCx
    exact lv_lload_n hx hb hdg hi0 (bm_at hl hi) (k ls hl)
  · cases he
theorem bm_s_lload {i : Nat} (nx : Nat) (hdg : decode cc pc = .ok (.lload i, 2)) (hn : nx = pc + 2 := by rfl) : bm_Sn K pg mi cc nL own nm ret pc (bm_P (bm_oLl i nx)) := by
  subst hn
  refine bm_Sn.still (fun lo st w t he => ?_)
  unfold bm_oLl at he
  split at he
  · rename_i x hi
    cases he
    refine ⟨rfl, fun h1 h2 h3 => ⟨⟨h1, h2, bm_InSt.cons (h2 _ (bm_nth_mem _ _ _ hi)) h3⟩, ?_⟩⟩
    intro D b0 mc ms d p l e R s m args below meth c H locs cells slots Q ls hCx hS hl k
    obtain ⟨hx, hb, -⟩ := hCx
    exact lv_lload hx hb hdg (bm_at hl hi) (k ls hl)
  · cases he
theorem bm_s_aload_n {k : Fin 4} {i : Nat} (nx : Nat) (hdg : decode cc pc = .ok (.aload_n k, 1)) (hi0 : (k : Nat) = i) (hn : nx = pc + 1 := by rfl) : bm_Sn K pg mi cc nL own nm ret pc (bm_P (bm_oLa i nx)) := by
  subst hn
  refine bm_Sn.still (fun lo st w t he => ?_)
  unfold bm_oLa at he
  split at he
  · rename_i x hi
    cases he
    refine ⟨rfl, fun h1 h2 h3 => ⟨⟨h1, h2, bm_InSt.cons (h2 _ (bm_nth_mem _ _ _ hi)) h3⟩, ?_⟩⟩
    intro D b0 mc ms d p l e R s m args below meth c H locs cells slots Q ls hCx hS hl k
    obtain ⟨hx, hb, -⟩ := hCx
    cases x with
    | none => exact lv_aload_nN hx hb hdg hi0 (bm_at hl hi) (k ls hl)
    | some x => exact lv_aload_n hx hb hdg hi0 (bm_at hl hi) (k ls hl)
  · rename_i x hi
    cases he
    refine ⟨rfl, fun h1 h2 h3 => ⟨⟨h1, h2, bm_InSt.cons (h2 _ (bm_nth_mem _ _ _ hi)) h3⟩, ?_⟩⟩
    intro D b0 mc ms d p l e R s m args below meth c H locs cells slots Q ls hCx hS hl k
    obtain ⟨hx, hb, -⟩ := hCx
    have ha : ls[i]? = some (.val (bm_kv D x)) := bm_at hl hi
    have hk : W p l e R s m args below meth c H locs cells slots Q (F0 m (pc + 1) ls (bm_kv D x :: st.map (bm_val D))) := k ls hl
    rcases bm_kv_or D x with z | ⟨y, z⟩
    · rw [z] at ha hk
      exact lv_aload_nN hx hb hdg hi0 ha hk
    · rw [z] at ha hk
      exact lv_aload_n hx hb hdg hi0 ha hk
  · cases he
theorem bm_s_aload {i : Nat} (nx : Nat) (hdg : decode cc pc = .ok (.aload i, 2)) (hn : nx = pc + 2 := by rfl) : bm_Sn K pg mi cc nL own nm ret pc (bm_P (bm_oLa i nx)) := by
  subst hn
  refine bm_Sn.still (fun lo st w t he => ?_)
  unfold bm_oLa at he
  split at he
  · rename_i x hi
    cases he
    refine ⟨rfl, fun h1 h2 h3 => ⟨⟨h1, h2, bm_InSt.cons (h2 _ (bm_nth_mem _ _ _ hi)) h3⟩, ?_⟩⟩
    intro D b0 mc ms d p l e R s m args below meth c H locs cells slots Q ls hCx hS hl k
    obtain ⟨hx, hb, -⟩ := hCx
    cases x with
    | none => exact lv_aloadN hx hb hdg (bm_at hl hi) (k ls hl)
    | some x => exact lv_aload hx hb hdg (bm_at hl hi) (k ls hl)
  · rename_i x hi
    cases he
    refine ⟨rfl, fun h1 h2 h3 => ⟨⟨h1, h2, bm_InSt.cons (h2 _ (bm_nth_mem _ _ _ hi)) h3⟩, ?_⟩⟩
    intro D b0 mc ms d p l e R s m args below meth c H locs cells slots Q ls hCx hS hl k
    obtain ⟨hx, hb, -⟩ := hCx
    have ha : ls[i]? = some (.val (bm_kv D x)) := bm_at hl hi
    have hk : W p l e R s m args below meth c H locs cells slots Q (F0 m (pc + 2) ls (bm_kv D x :: st.map (bm_val D))) := k ls hl
    rcases bm_kv_or D x with z | ⟨y, z⟩
    · rw [z] at ha hk
      exact lv_aloadN hx hb hdg ha hk
    · rw [z] at ha hk
      exact lv_aload hx hb hdg ha hk
  · cases he
theorem bm_s_istore_n {k : Fin 4} {i : Nat} (nx : Nat) (hdg : decode cc pc = .ok (.istore_n k, 1)) (hi0 : (k : Nat) = i) (hn : nx = pc + 1 := by rfl) : bm_Sn K pg mi cc nL own nm ret pc (bm_P (bm_oSi i nx)) := by
  subst hn
  refine bm_Sn.still (fun lo st w t he => ?_)
  unfold bm_oSi at he
  split at he
  · rename_i x r
    split at he
    · rename_i hlt
      cases he
      refine ⟨rfl, fun h1 h2 h3 => ⟨⟨(bm_st1_len _ _ _).trans h1, fun v hv => (bm_st1_in _ _ _ _ hv).elim (fun z => by rw [z]; exact h3.hd) (h2 v), h3.tl⟩, ?_⟩⟩
      intro D b0 mc ms d p l e R s m args below meth c H locs cells slots Q ls hCx hS hl k
      obtain ⟨hx, hb, -⟩ := hCx
      have hlt2 : i < nL := by have := Nat.blt_eq.mp hlt; omega
      exact lv_istore_n hx hb hdg hi0 hl hlt2 rfl (fun ls2 hl2 => k ls2 (bm_has1 hl2))
    · cases he
  · cases he
theorem bm_s_istore {i : Nat} (nx : Nat) (hdg : decode cc pc = .ok (.istore i, 2)) (hn : nx = pc + 2 := by rfl) : bm_Sn K pg mi cc nL own nm ret pc (bm_P (bm_oSi i nx)) := by
  subst hn
  refine bm_Sn.still (fun lo st w t he => ?_)
  unfold bm_oSi at he
  split at he
  · rename_i x r
    split at he
    · rename_i hlt
      cases he
      refine ⟨rfl, fun h1 h2 h3 => ⟨⟨(bm_st1_len _ _ _).trans h1, fun v hv => (bm_st1_in _ _ _ _ hv).elim (fun z => by rw [z]; exact h3.hd) (h2 v), h3.tl⟩, ?_⟩⟩
      intro D b0 mc ms d p l e R s m args below meth c H locs cells slots Q ls hCx hS hl k
      obtain ⟨hx, hb, -⟩ := hCx
      have hlt2 : i < nL := by have := Nat.blt_eq.mp hlt; omega
      exact lv_istore hx hb hdg hl hlt2 rfl (fun ls2 hl2 => k ls2 (bm_has1 hl2))
    · cases he
  · cases he
theorem bm_s_lstore_n {k : Fin 4} {i : Nat} (nx : Nat) (hdg : decode cc pc = .ok (.lstore_n k, 1)) (hi0 : (k : Nat) = i) (hn : nx = pc + 1 := by rfl) : bm_Sn K pg mi cc nL own nm ret pc (bm_P (bm_oSl i nx)) := by
  subst hn
  refine bm_Sn.still (fun lo st w t he => ?_)
  unfold bm_oSl at he
  split at he
  · rename_i x r
    split at he
    · rename_i hlt
      cases he
      refine ⟨rfl, fun h1 h2 h3 => ⟨⟨(bm_st2_len _ _ _).trans h1, fun v hv => (bm_st2_in _ _ _ _ hv).elim (fun z => by rw [z]; exact h3.hd) (h2 v), h3.tl⟩, ?_⟩⟩
      intro D b0 mc ms d p l e R s m args below meth c H locs cells slots Q ls hCx hS hl k
      obtain ⟨hx, hb, -⟩ := hCx
      have hlt2 : i + 1 < nL := by have := Nat.blt_eq.mp hlt; omega
      exact lv_lstore_n hx hb hdg hi0 hl hlt2 rfl (fun ls2 hl2 => k ls2 (bm_has2 hl2))
    · cases he
  · cases he
theorem bm_s_lstore {i : Nat} (nx : Nat) (hdg : decode cc pc = .ok (.lstore i, 2)) (hn : nx = pc + 2 := by rfl) : bm_Sn K pg mi cc nL own nm ret pc (bm_P (bm_oSl i nx)) := by
  subst hn
  refine bm_Sn.still (fun lo st w t he => ?_)
  unfold bm_oSl at he
  split at he
  · rename_i x r
    split at he
    · rename_i hlt
      cases he
      refine ⟨rfl, fun h1 h2 h3 => ⟨⟨(bm_st2_len _ _ _).trans h1, fun v hv => (bm_st2_in _ _ _ _ hv).elim (fun z => by rw [z]; exact h3.hd) (h2 v), h3.tl⟩, ?_⟩⟩
      intro D b0 mc ms d p l e R s m args below meth c H locs cells slots Q ls hCx hS hl k
      obtain ⟨hx, hb, -⟩ := hCx
      have hlt2 : i + 1 < nL := by have := Nat.blt_eq.mp hlt; omega
      exact lv_lstore hx hb hdg hl hlt2 rfl (fun ls2 hl2 => k ls2 (bm_has2 hl2))
    · cases he
  · cases he
theorem bm_s_astore_n {k : Fin 4} {i : Nat} (nx : Nat) (hdg : decode cc pc = .ok (.astore_n k, 1)) (hi0 : (k : Nat) = i) (hn : nx = pc + 1 := by rfl) : bm_Sn K pg mi cc nL own nm ret pc (bm_P (bm_oSa i nx)) := by
  subst hn
  refine bm_Sn.still (fun lo st w t he => ?_)
  unfold bm_oSa at he
  split at he
  · rename_i x r
    split at he
    · rename_i hlt
      cases he
      refine ⟨rfl, fun h1 h2 h3 => ⟨⟨(bm_st1_len _ _ _).trans h1, fun v hv => (bm_st1_in _ _ _ _ hv).elim (fun z => by rw [z]; exact h3.hd) (h2 v), h3.tl⟩, ?_⟩⟩
      intro D b0 mc ms d p l e R s m args below meth c H locs cells slots Q ls hCx hS hl k
      obtain ⟨hx, hb, -⟩ := hCx
      have hlt2 : i < nL := by have := Nat.blt_eq.mp hlt; omega
      cases x with
      | none => exact lv_astore_nN hx hb hdg hi0 hl hlt2 rfl (fun ls2 hl2 => k ls2 (bm_has1 hl2))
      | some x => exact lv_astore_n hx hb hdg hi0 hl hlt2 rfl (fun ls2 hl2 => k ls2 (bm_has1 hl2))
    · cases he
  · rename_i x r
    split at he
    · rename_i hlt
      cases he
      refine ⟨rfl, fun h1 h2 h3 => ⟨⟨(bm_st1_len _ _ _).trans h1, fun v hv => (bm_st1_in _ _ _ _ hv).elim (fun z => by rw [z]; exact h3.hd) (h2 v), h3.tl⟩, ?_⟩⟩
      intro D b0 mc ms d p l e R s m args below meth c H locs cells slots Q ls hCx hS hl k
      obtain ⟨hx, hb, -⟩ := hCx
      have hlt2 : i < nL := by have := Nat.blt_eq.mp hlt; omega
      show W p l e R s m args below meth c H locs cells slots Q (F0 m pc ls (bm_kv D x :: r.map (bm_val D)))
      have hk : ∀ ls2, lv_has ls2 nL ((i, bm_kv D x) :: (bm_lv D 0 lo).filter (fun q => !(q.1 == i) && !(q.1 + 1 == i && q.2.category == 2))) → _ := fun ls2 hl2 => k ls2 (bm_has1 hl2)
      rcases bm_kv_or D x with z | ⟨y, z⟩
      · rw [z] at hk ⊢
        exact lv_astore_nN hx hb hdg hi0 hl hlt2 rfl hk
      · rw [z] at hk ⊢
        exact lv_astore_n hx hb hdg hi0 hl hlt2 rfl hk
    · cases he
  · cases he
theorem bm_s_astore {i : Nat} (nx : Nat) (hdg : decode cc pc = .ok (.astore i, 2)) (hn : nx = pc + 2 := by rfl) : bm_Sn K pg mi cc nL own nm ret pc (bm_P (bm_oSa i nx)) := by
  subst hn
  refine bm_Sn.still (fun lo st w t he => ?_)
  unfold bm_oSa at he
  split at he
  · rename_i x r
    split at he
    · rename_i hlt
      cases he
      refine ⟨rfl, fun h1 h2 h3 => ⟨⟨(bm_st1_len _ _ _).trans h1, fun v hv => (bm_st1_in _ _ _ _ hv).elim (fun z => by rw [z]; exact h3.hd) (h2 v), h3.tl⟩, ?_⟩⟩
      intro D b0 mc ms d p l e R s m args below meth c H locs cells slots Q ls hCx hS hl k
      obtain ⟨hx, hb, -⟩ := hCx
      have hlt2 : i < nL := by have := Nat.blt_eq.mp hlt; omega
      cases x with
      | none => exact lv_astoreN hx hb hdg hl hlt2 rfl (fun ls2 hl2 => k ls2 (bm_has1 hl2))
      | some x => exact lv_astore hx hb hdg hl hlt2 rfl (fun ls2 hl2 => k ls2 (bm_has1 hl2))
    · cases he
  · rename_i x r
    split at he
    · rename_i hlt
      cases he
      refine ⟨rfl, fun h1 h2 h3 => ⟨⟨(bm_st1_len _ _ _).trans h1, fun v hv => (bm_st1_in _ _ _ _ hv).elim (fun z => by rw [z]; exact h3.hd) (h2 v), h3.tl⟩, ?_⟩⟩
      intro D b0 mc ms d p l e R s m args below meth c H locs cells slots Q ls hCx hS hl k
      obtain ⟨hx, hb, -⟩ := hCx
      have hlt2 : i < nL := by have := Nat.blt_eq.mp hlt; omega
      show W p l e R s m args below meth c H locs cells slots Q (F0 m pc ls (bm_kv D x :: r.map (bm_val D)))
      have hk : ∀ ls2, lv_has ls2 nL ((i, bm_kv D x) :: (bm_lv D 0 lo).filter (fun q => !(q.1 == i) && !(q.1 + 1 == i && q.2.category == 2))) → _ := fun ls2 hl2 => k ls2 (bm_has1 hl2)
      rcases bm_kv_or D x with z | ⟨y, z⟩
      · rw [z] at hk ⊢
        exact lv_astoreN hx hb hdg hl hlt2 rfl hk
      · rw [z] at hk ⊢
        exact lv_astore hx hb hdg hl hlt2 rfl hk
    · cases he
  · cases he
theorem bm_nth_lt {α : Type} : ∀ (l : List α) (i : Nat) (v : α), bm_nth l i = some v → i < l.length
  | [], i, v, h => by simp [bm_nth] at h
  | a :: l, 0, v, h => Nat.zero_lt_succ _
  | a :: l, i + 1, v, h => Nat.succ_lt_succ (bm_nth_lt l i v h)
theorem bm_lv_pos (D : bm_D) : ∀ (l : bm_L) (i j : Nat) (v : bm_V), bm_nth l i = some (some v) → ∃ k : Nat, (bm_lv D j l)[k]? = some (j + i, bm_val D v) := fun l i j v h => List.getElem?_of_mem (bm_nth_lv D l i j v h)
theorem bm_s_iinc {i : Nat} {n : Int} (nx : Nat) (hdg : decode cc pc = .ok (.iinc i n, 3)) (hn : nx = pc + 3 := by rfl) : bm_Sn K pg mi cc nL own nm ret pc (bm_P (bm_oInc i n nx)) := by
  subst hn
  refine bm_Sn.still (fun lo st w t he => ?_)
  unfold bm_oInc at he
  split at he
  · rename_i x hi
    cases he
    refine ⟨rfl, fun h1 h2 h3 => ⟨⟨(bm_st1_len _ _ _).trans h1, fun v hv => (bm_st1_in _ _ _ _ hv).elim (fun z => by rw [z]; exact bm_w_in _) (h2 v), h3⟩, ?_⟩⟩
    intro D b0 mc ms d p l e R s m args below meth c H locs cells slots Q ls hCx hS hl k
    obtain ⟨hx, hb, -⟩ := hCx
    obtain ⟨q, hq⟩ := bm_lv_pos D lo i 0 _ hi
    rw [Nat.zero_add] at hq
    exact lv_iinc hx hb hdg hl hq (by rw [← Int32.ofInt_add, ← bm_ofI]) (by have := bm_nth_lt _ _ _ hi; omega) rfl (fun ls2 hl2 => k ls2 (bm_has1 hl2))
  · cases he
theorem bm_s_iadd (nx : Nat) (hdg : decode cc pc = .ok (.iadd, 1)) (hn : nx = pc + 1 := by rfl) : bm_Sn K pg mi cc nL own nm ret pc (bm_P (bm_o2 (fun x y => bm_w (x + y)) nx)) := by
  subst hn
  refine bm_Sn.still (fun lo st w t he => ?_)
  unfold bm_o2 at he
  split at he
  · rename_i y x r
    cases he
    refine ⟨rfl, fun h1 h2 h3 => ⟨⟨h1, h2, bm_InSt.cons (bm_w_in _) h3.tl.tl⟩, ?_⟩⟩
    intro D b0 mc ms d p l e R s m args below meth c H locs cells slots Q ls hCx hS hl k
    obtain ⟨hx, hb, -⟩ := hCx
    have kk := k ls hl
    exact lv_iadd hx hb hdg (by simpa only [List.map_cons, bm_val, bm_ofI, Int32.ofInt_add] using kk)
  · cases he
theorem bm_s_isub (nx : Nat) (hdg : decode cc pc = .ok (.isub, 1)) (hn : nx = pc + 1 := by rfl) : bm_Sn K pg mi cc nL own nm ret pc (bm_P (bm_o2 (fun x y => bm_w (x - y)) nx)) := by
  subst hn
  refine bm_Sn.still (fun lo st w t he => ?_)
  unfold bm_o2 at he
  split at he
  · rename_i y x r
    cases he
    refine ⟨rfl, fun h1 h2 h3 => ⟨⟨h1, h2, bm_InSt.cons (bm_w_in _) h3.tl.tl⟩, ?_⟩⟩
    intro D b0 mc ms d p l e R s m args below meth c H locs cells slots Q ls hCx hS hl k
    obtain ⟨hx, hb, -⟩ := hCx
    have kk := k ls hl
    exact lv_isub hx hb hdg (by simpa only [List.map_cons, bm_val, bm_ofI, Int32.ofInt_sub] using kk)
  · cases he
theorem bm_s_imul (nx : Nat) (hdg : decode cc pc = .ok (.imul, 1)) (hn : nx = pc + 1 := by rfl) : bm_Sn K pg mi cc nL own nm ret pc (bm_P (bm_o2 (fun x y => bm_w (x * y)) nx)) := by
  subst hn
  refine bm_Sn.still (fun lo st w t he => ?_)
  unfold bm_o2 at he
  split at he
  · rename_i y x r
    cases he
    refine ⟨rfl, fun h1 h2 h3 => ⟨⟨h1, h2, bm_InSt.cons (bm_w_in _) h3.tl.tl⟩, ?_⟩⟩
    intro D b0 mc ms d p l e R s m args below meth c H locs cells slots Q ls hCx hS hl k
    obtain ⟨hx, hb, -⟩ := hCx
    have kk := k ls hl
    exact lv_imul hx hb hdg (by simpa only [List.map_cons, bm_val, bm_ofI, Int32.ofInt_mul] using kk)
  · cases he
theorem bm_s_ladd (nx : Nat) (hdg : decode cc pc = .ok (.ladd, 1)) (hn : nx = pc + 1 := by rfl) : bm_Sn K pg mi cc nL own nm ret pc (bm_P (bm_o2l (fun x y => bm_x (x + y)) nx)) := by
  subst hn
  refine bm_Sn.still (fun lo st w t he => ?_)
  unfold bm_o2l at he
  split at he
  · rename_i y x r
    cases he
    refine ⟨rfl, fun h1 h2 h3 => ⟨⟨h1, h2, bm_InSt.cons (bm_x_in _) h3.tl.tl⟩, ?_⟩⟩
    intro D b0 mc ms d p l e R s m args below meth c H locs cells slots Q ls hCx hS hl k
    obtain ⟨hx, hb, -⟩ := hCx
    have kk := k ls hl
    exact lv_ladd hx hb hdg (by simpa only [List.map_cons, bm_val, bm_ofL, Int64.ofInt_add] using kk)
  · cases he
theorem bm_s_lsub (nx : Nat) (hdg : decode cc pc = .ok (.lsub, 1)) (hn : nx = pc + 1 := by rfl) : bm_Sn K pg mi cc nL own nm ret pc (bm_P (bm_o2l (fun x y => bm_x (x - y)) nx)) := by
  subst hn
  refine bm_Sn.still (fun lo st w t he => ?_)
  unfold bm_o2l at he
  split at he
  · rename_i y x r
    cases he
    refine ⟨rfl, fun h1 h2 h3 => ⟨⟨h1, h2, bm_InSt.cons (bm_x_in _) h3.tl.tl⟩, ?_⟩⟩
    intro D b0 mc ms d p l e R s m args below meth c H locs cells slots Q ls hCx hS hl k
    obtain ⟨hx, hb, -⟩ := hCx
    have kk := k ls hl
    exact lv_lsub hx hb hdg (by simpa only [List.map_cons, bm_val, bm_ofL, Int64.ofInt_sub] using kk)
  · cases he
theorem bm_s_lmul (nx : Nat) (hdg : decode cc pc = .ok (.lmul, 1)) (hn : nx = pc + 1 := by rfl) : bm_Sn K pg mi cc nL own nm ret pc (bm_P (bm_o2l (fun x y => bm_x (x * y)) nx)) := by
  subst hn
  refine bm_Sn.still (fun lo st w t he => ?_)
  unfold bm_o2l at he
  split at he
  · rename_i y x r
    cases he
    refine ⟨rfl, fun h1 h2 h3 => ⟨⟨h1, h2, bm_InSt.cons (bm_x_in _) h3.tl.tl⟩, ?_⟩⟩
    intro D b0 mc ms d p l e R s m args below meth c H locs cells slots Q ls hCx hS hl k
    obtain ⟨hx, hb, -⟩ := hCx
    have kk := k ls hl
    exact lv_lmul hx hb hdg (by simpa only [List.map_cons, bm_val, bm_ofL, Int64.ofInt_mul] using kk)
  · cases he
theorem bm_s_iand (nx : Nat) (hdg : decode cc pc = .ok (.iand, 1)) (hn : nx = pc + 1 := by rfl) : bm_Sn K pg mi cc nL own nm ret pc (bm_P (bm_o2 (fun x y => (Int32.ofInt x &&& Int32.ofInt y).toInt) nx)) := by
  subst hn
  refine bm_Sn.still (fun lo st w t he => ?_)
  unfold bm_o2 at he
  split at he
  · rename_i y x r
    cases he
    refine ⟨rfl, fun h1 h2 h3 => ⟨⟨h1, h2, bm_InSt.cons (bm_I_in _) h3.tl.tl⟩, ?_⟩⟩
    intro D b0 mc ms d p l e R s m args below meth c H locs cells slots Q ls hCx hS hl k
    obtain ⟨hx, hb, -⟩ := hCx
    have kk := k ls hl
    exact lv_iand hx hb hdg (by simpa only [List.map_cons, bm_val, Int32.ofInt_toInt] using kk)
  · cases he
theorem bm_s_ior (nx : Nat) (hdg : decode cc pc = .ok (.ior, 1)) (hn : nx = pc + 1 := by rfl) : bm_Sn K pg mi cc nL own nm ret pc (bm_P (bm_o2 (fun x y => (Int32.ofInt x ||| Int32.ofInt y).toInt) nx)) := by
  subst hn
  refine bm_Sn.still (fun lo st w t he => ?_)
  unfold bm_o2 at he
  split at he
  · rename_i y x r
    cases he
    refine ⟨rfl, fun h1 h2 h3 => ⟨⟨h1, h2, bm_InSt.cons (bm_I_in _) h3.tl.tl⟩, ?_⟩⟩
    intro D b0 mc ms d p l e R s m args below meth c H locs cells slots Q ls hCx hS hl k
    obtain ⟨hx, hb, -⟩ := hCx
    have kk := k ls hl
    exact lv_ior hx hb hdg (by simpa only [List.map_cons, bm_val, Int32.ofInt_toInt] using kk)
  · cases he
theorem bm_s_ixor (nx : Nat) (hdg : decode cc pc = .ok (.ixor, 1)) (hn : nx = pc + 1 := by rfl) : bm_Sn K pg mi cc nL own nm ret pc (bm_P (bm_o2 (fun x y => (Int32.ofInt x ^^^ Int32.ofInt y).toInt) nx)) := by
  subst hn
  refine bm_Sn.still (fun lo st w t he => ?_)
  unfold bm_o2 at he
  split at he
  · rename_i y x r
    cases he
    refine ⟨rfl, fun h1 h2 h3 => ⟨⟨h1, h2, bm_InSt.cons (bm_I_in _) h3.tl.tl⟩, ?_⟩⟩
    intro D b0 mc ms d p l e R s m args below meth c H locs cells slots Q ls hCx hS hl k
    obtain ⟨hx, hb, -⟩ := hCx
    have kk := k ls hl
    exact lv_ixor hx hb hdg (by simpa only [List.map_cons, bm_val, Int32.ofInt_toInt] using kk)
  · cases he
theorem bm_s_land (nx : Nat) (hdg : decode cc pc = .ok (.land, 1)) (hn : nx = pc + 1 := by rfl) : bm_Sn K pg mi cc nL own nm ret pc (bm_P (bm_o2l (fun x y => (Int64.ofInt x &&& Int64.ofInt y).toInt) nx)) := by
  subst hn
  refine bm_Sn.still (fun lo st w t he => ?_)
  unfold bm_o2l at he
  split at he
  · rename_i y x r
    cases he
    refine ⟨rfl, fun h1 h2 h3 => ⟨⟨h1, h2, bm_InSt.cons (bm_L_in _) h3.tl.tl⟩, ?_⟩⟩
    intro D b0 mc ms d p l e R s m args below meth c H locs cells slots Q ls hCx hS hl k
    obtain ⟨hx, hb, -⟩ := hCx
    have kk := k ls hl
    exact lv_land hx hb hdg (by simpa only [List.map_cons, bm_val, Int64.ofInt_toInt] using kk)
  · cases he
theorem bm_s_lor (nx : Nat) (hdg : decode cc pc = .ok (.lor, 1)) (hn : nx = pc + 1 := by rfl) : bm_Sn K pg mi cc nL own nm ret pc (bm_P (bm_o2l (fun x y => (Int64.ofInt x ||| Int64.ofInt y).toInt) nx)) := by
  subst hn
  refine bm_Sn.still (fun lo st w t he => ?_)
  unfold bm_o2l at he
  split at he
  · rename_i y x r
    cases he
    refine ⟨rfl, fun h1 h2 h3 => ⟨⟨h1, h2, bm_InSt.cons (bm_L_in _) h3.tl.tl⟩, ?_⟩⟩
    intro D b0 mc ms d p l e R s m args below meth c H locs cells slots Q ls hCx hS hl k
    obtain ⟨hx, hb, -⟩ := hCx
    have kk := k ls hl
    exact lv_lor hx hb hdg (by simpa only [List.map_cons, bm_val, Int64.ofInt_toInt] using kk)
  · cases he
theorem bm_s_lxor (nx : Nat) (hdg : decode cc pc = .ok (.lxor, 1)) (hn : nx = pc + 1 := by rfl) : bm_Sn K pg mi cc nL own nm ret pc (bm_P (bm_o2l (fun x y => (Int64.ofInt x ^^^ Int64.ofInt y).toInt) nx)) := by
  subst hn
  refine bm_Sn.still (fun lo st w t he => ?_)
  unfold bm_o2l at he
  split at he
  · rename_i y x r
    cases he
    refine ⟨rfl, fun h1 h2 h3 => ⟨⟨h1, h2, bm_InSt.cons (bm_L_in _) h3.tl.tl⟩, ?_⟩⟩
    intro D b0 mc ms d p l e R s m args below meth c H locs cells slots Q ls hCx hS hl k
    obtain ⟨hx, hb, -⟩ := hCx
    have kk := k ls hl
    exact lv_lxor hx hb hdg (by simpa only [List.map_cons, bm_val, Int64.ofInt_toInt] using kk)
  · cases he
theorem bm_s_ishr (nx : Nat) (hdg : decode cc pc = .ok (.ishr, 1)) (hn : nx = pc + 1 := by rfl) : bm_Sn K pg mi cc nL own nm ret pc (bm_P (bm_o2 (fun x y => (Int32.ofInt x >>> (Int32.ofInt y &&& 31)).toInt) nx)) := by
  subst hn
  refine bm_Sn.still (fun lo st w t he => ?_)
  unfold bm_o2 at he
  split at he
  · rename_i y x r
    cases he
    refine ⟨rfl, fun h1 h2 h3 => ⟨⟨h1, h2, bm_InSt.cons (bm_I_in _) h3.tl.tl⟩, ?_⟩⟩
    intro D b0 mc ms d p l e R s m args below meth c H locs cells slots Q ls hCx hS hl k
    obtain ⟨hx, hb, -⟩ := hCx
    have kk := k ls hl
    exact lv_ishr hx hb hdg (by simpa only [List.map_cons, bm_val, Int32.ofInt_toInt] using kk)
  · cases he
theorem bm_s_ishl (nx : Nat) (hdg : decode cc pc = .ok (.ishl, 1)) (hn : nx = pc + 1 := by rfl) : bm_Sn K pg mi cc nL own nm ret pc (bm_P (bm_o2 (fun x y => (Int32.ofInt x <<< (Int32.ofInt y &&& 31)).toInt) nx)) := by
  subst hn
  refine bm_Sn.still (fun lo st w t he => ?_)
  unfold bm_o2 at he
  split at he
  · rename_i y x r
    cases he
    refine ⟨rfl, fun h1 h2 h3 => ⟨⟨h1, h2, bm_InSt.cons (bm_I_in _) h3.tl.tl⟩, ?_⟩⟩
    intro D b0 mc ms d p l e R s m args below meth c H locs cells slots Q ls hCx hS hl k
    obtain ⟨hx, hb, -⟩ := hCx
    have kk := k ls hl
    exact lv_ishl hx hb hdg (by simpa only [List.map_cons, bm_val, Int32.ofInt_toInt] using kk)
  · cases he
theorem bm_s_lshl (nx : Nat) (hdg : decode cc pc = .ok (.lshl, 1)) (hn : nx = pc + 1 := by rfl) : bm_Sn K pg mi cc nL own nm ret pc (bm_P (bm_o2s (fun x y => (Int64.ofInt x <<< ((Int32.ofInt y).toInt64 &&& 63)).toInt) nx)) := by
  subst hn
  refine bm_Sn.still (fun lo st w t he => ?_)
  unfold bm_o2s at he
  split at he
  · rename_i y x r
    cases he
    refine ⟨rfl, fun h1 h2 h3 => ⟨⟨h1, h2, bm_InSt.cons (bm_L_in _) h3.tl.tl⟩, ?_⟩⟩
    intro D b0 mc ms d p l e R s m args below meth c H locs cells slots Q ls hCx hS hl k
    obtain ⟨hx, hb, -⟩ := hCx
    have kk := k ls hl
    simp only [List.map_cons, bm_val, Int64.ofInt_toInt] at kk
    exact lv_lshl hx hb hdg rfl kk
  · cases he
theorem bm_s_lshr (nx : Nat) (hdg : decode cc pc = .ok (.lshr, 1)) (hn : nx = pc + 1 := by rfl) : bm_Sn K pg mi cc nL own nm ret pc (bm_P (bm_o2s (fun x y => (Int64.ofInt x >>> ((Int32.ofInt y).toInt64 &&& 63)).toInt) nx)) := by
  subst hn
  refine bm_Sn.still (fun lo st w t he => ?_)
  unfold bm_o2s at he
  split at he
  · rename_i y x r
    cases he
    refine ⟨rfl, fun h1 h2 h3 => ⟨⟨h1, h2, bm_InSt.cons (bm_L_in _) h3.tl.tl⟩, ?_⟩⟩
    intro D b0 mc ms d p l e R s m args below meth c H locs cells slots Q ls hCx hS hl k
    obtain ⟨hx, hb, -⟩ := hCx
    have kk := k ls hl
    simp only [List.map_cons, bm_val, Int64.ofInt_toInt] at kk
    exact lv_lshr hx hb hdg rfl kk
  · cases he
theorem bm_s_lushr (nx : Nat) (hdg : decode cc pc = .ok (.lushr, 1)) (hn : nx = pc + 1 := by rfl) : bm_Sn K pg mi cc nL own nm ret pc (bm_P (bm_o2s (fun x y => ((Int64.ofInt x).toUInt64 >>> ((Int32.ofInt y).toInt64.toUInt64 &&& Int64.toUInt64 63)).toInt64.toInt) nx)) := by
  subst hn
  refine bm_Sn.still (fun lo st w t he => ?_)
  unfold bm_o2s at he
  split at he
  · rename_i y x r
    cases he
    refine ⟨rfl, fun h1 h2 h3 => ⟨⟨h1, h2, bm_InSt.cons (bm_L_in _) h3.tl.tl⟩, ?_⟩⟩
    intro D b0 mc ms d p l e R s m args below meth c H locs cells slots Q ls hCx hS hl k
    obtain ⟨hx, hb, -⟩ := hCx
    have kk := k ls hl
    simp only [List.map_cons, bm_val, Int64.ofInt_toInt] at kk
    exact lv_lushr hx hb hdg rfl kk
  · cases he
theorem bm_tdivi {x y : Int} (hx : bm_InI x) (hy : bm_InI y) : Int32.ofInt x / Int32.ofInt y = Int32.ofInt (bm_w (x.tdiv y)) := by
  rw [bm_ofI]
  refine (Int32.ofInt_eq_iff_bmod_eq_toInt _ _).mpr ?_ |>.symm
  rw [Int32.toInt_div, bm_toI hx, bm_toI hy]
theorem bm_tmodi {x y : Int} (hx : bm_InI x) (hy : bm_InI y) : Int32.ofInt x - Int32.ofInt x / Int32.ofInt y * Int32.ofInt y = Int32.ofInt (bm_w (x.tmod y)) := by
  rw [bm_tdivi hx hy, bm_ofI, bm_ofI, ← Int32.ofInt_mul, ← Int32.ofInt_sub, Int.tmod_def, Int.mul_comm]
theorem bm_s_idiv (nx : Nat) (hdg : decode cc pc = .ok (.idiv, 1)) (hn : nx = pc + 1 := by rfl) : bm_Sn K pg mi cc nL own nm ret pc (bm_G (bm_oDi (fun x y => bm_w (x.tdiv y)) nx)) := by
  subst hn
  refine bm_Sn.stillG (fun lo st w g t he => ?_)
  unfold bm_oDi at he
  split at he
  · rename_i y x r
    cases he
    refine ⟨rfl, fun hg h1 h2 h3 => ⟨⟨h1, h2, bm_InSt.cons (bm_w_in _) h3.tl.tl⟩, ?_⟩⟩
    intro D b0 mc ms d p l e R s m args below meth c H locs cells slots Q ls hCx hS hl k
    obtain ⟨hx, hb, -⟩ := hCx
    have hiy : bm_InI y := h3.hd
    have hix : bm_InI x := h3.tl.hd
    have kk := k ls hl
    simp only [List.map_cons, bm_val] at kk
    rw [← bm_tdivi hix hiy] at kk
    exact lv_idiv hx hb hdg (fun z => hg ((bm_eqI hiy bm_In0).mp (z.trans (show Int32.ofInt 0 = 0 from rfl).symm))) kk
  · cases he
theorem bm_s_irem (nx : Nat) (hdg : decode cc pc = .ok (.irem, 1)) (hn : nx = pc + 1 := by rfl) : bm_Sn K pg mi cc nL own nm ret pc (bm_G (bm_oDi (fun x y => bm_w (x.tmod y)) nx)) := by
  subst hn
  refine bm_Sn.stillG (fun lo st w g t he => ?_)
  unfold bm_oDi at he
  split at he
  · rename_i y x r
    cases he
    refine ⟨rfl, fun hg h1 h2 h3 => ⟨⟨h1, h2, bm_InSt.cons (bm_w_in _) h3.tl.tl⟩, ?_⟩⟩
    intro D b0 mc ms d p l e R s m args below meth c H locs cells slots Q ls hCx hS hl k
    obtain ⟨hx, hb, -⟩ := hCx
    have hiy : bm_InI y := h3.hd
    have hix : bm_InI x := h3.tl.hd
    have kk := k ls hl
    simp only [List.map_cons, bm_val] at kk
    rw [← bm_tmodi hix hiy] at kk
    exact lv_irem hx hb hdg (fun z => hg ((bm_eqI hiy bm_In0).mp (z.trans (show Int32.ofInt 0 = 0 from rfl).symm))) kk
  · cases he
theorem bm_tdivl {x y : Int} (hx : bm_InL x) (hy : bm_InL y) : Int64.ofInt x / Int64.ofInt y = Int64.ofInt (bm_x (x.tdiv y)) := by
  rw [bm_ofL]
  refine (Int64.ofInt_eq_iff_bmod_eq_toInt _ _).mpr ?_ |>.symm
  rw [Int64.toInt_div, bm_toL hx, bm_toL hy]
theorem bm_tmodl {x y : Int} (hx : bm_InL x) (hy : bm_InL y) : Int64.ofInt x - Int64.ofInt x / Int64.ofInt y * Int64.ofInt y = Int64.ofInt (bm_x (x.tmod y)) := by
  rw [bm_tdivl hx hy, bm_ofL, bm_ofL, ← Int64.ofInt_mul, ← Int64.ofInt_sub, Int.tmod_def, Int.mul_comm]
theorem bm_s_ldiv (nx : Nat) (hdg : decode cc pc = .ok (.ldiv, 1)) (hn : nx = pc + 1 := by rfl) : bm_Sn K pg mi cc nL own nm ret pc (bm_G (bm_oDl (fun x y => bm_x (x.tdiv y)) nx)) := by
  subst hn
  refine bm_Sn.stillG (fun lo st w g t he => ?_)
  unfold bm_oDl at he
  split at he
  · rename_i y x r
    cases he
    refine ⟨rfl, fun hg h1 h2 h3 => ⟨⟨h1, h2, bm_InSt.cons (bm_x_in _) h3.tl.tl⟩, ?_⟩⟩
    intro D b0 mc ms d p l e R s m args below meth c H locs cells slots Q ls hCx hS hl k
    obtain ⟨hx, hb, -⟩ := hCx
    have hiy : bm_InL y := h3.hd
    have hix : bm_InL x := h3.tl.hd
    have kk := k ls hl
    simp only [List.map_cons, bm_val] at kk
    rw [← bm_tdivl hix hiy] at kk
    exact lv_ldiv hx hb hdg (fun z => hg ((bm_eqL hiy (show bm_InL 0 by unfold bm_InL; omega)).mp (z.trans (show Int64.ofInt 0 = 0 from rfl).symm))) kk
  · cases he
theorem bm_s_lrem (nx : Nat) (hdg : decode cc pc = .ok (.lrem, 1)) (hn : nx = pc + 1 := by rfl) : bm_Sn K pg mi cc nL own nm ret pc (bm_G (bm_oDl (fun x y => bm_x (x.tmod y)) nx)) := by
  subst hn
  refine bm_Sn.stillG (fun lo st w g t he => ?_)
  unfold bm_oDl at he
  split at he
  · rename_i y x r
    cases he
    refine ⟨rfl, fun hg h1 h2 h3 => ⟨⟨h1, h2, bm_InSt.cons (bm_x_in _) h3.tl.tl⟩, ?_⟩⟩
    intro D b0 mc ms d p l e R s m args below meth c H locs cells slots Q ls hCx hS hl k
    obtain ⟨hx, hb, -⟩ := hCx
    have hiy : bm_InL y := h3.hd
    have hix : bm_InL x := h3.tl.hd
    have kk := k ls hl
    simp only [List.map_cons, bm_val] at kk
    rw [← bm_tmodl hix hiy] at kk
    exact lv_lrem hx hb hdg (fun z => hg ((bm_eqL hiy (show bm_InL 0 by unfold bm_InL; omega)).mp (z.trans (show Int64.ofInt 0 = 0 from rfl).symm))) kk
  · cases he
theorem bm_s_ineg (nx : Nat) (hdg : decode cc pc = .ok (.ineg, 1)) (hn : nx = pc + 1 := by rfl) : bm_Sn K pg mi cc nL own nm ret pc (bm_P (bm_o1 (fun x => bm_w (-x)) nx)) := by
  subst hn
  refine bm_Sn.still (fun lo st w t he => ?_)
  unfold bm_o1 at he
  split at he
  · rename_i x r
    cases he
    refine ⟨rfl, fun h1 h2 h3 => ⟨⟨h1, h2, bm_InSt.cons (bm_w_in _) h3.tl⟩, ?_⟩⟩
    intro D b0 mc ms d p l e R s m args below meth c H locs cells slots Q ls hCx hS hl k
    obtain ⟨hx, hb, -⟩ := hCx
    have hix := h3.hd
    have kk := k ls hl
    simp only [List.map_cons, bm_val] at kk
    exact lv_ineg hx hb hdg (by simpa only [bm_ofI, Int32.ofInt_neg] using kk)
  · cases he
theorem bm_s_lneg (nx : Nat) (hdg : decode cc pc = .ok (.lneg, 1)) (hn : nx = pc + 1 := by rfl) : bm_Sn K pg mi cc nL own nm ret pc (bm_P (bm_o1l (fun x => bm_x (-x)) nx)) := by
  subst hn
  refine bm_Sn.still (fun lo st w t he => ?_)
  unfold bm_o1l at he
  split at he
  · rename_i x r
    cases he
    refine ⟨rfl, fun h1 h2 h3 => ⟨⟨h1, h2, bm_InSt.cons (bm_x_in _) h3.tl⟩, ?_⟩⟩
    intro D b0 mc ms d p l e R s m args below meth c H locs cells slots Q ls hCx hS hl k
    obtain ⟨hx, hb, -⟩ := hCx
    have hix := h3.hd
    have kk := k ls hl
    simp only [List.map_cons, bm_val] at kk
    exact lv_lneg hx hb hdg (by simpa only [bm_ofL, Int64.ofInt_neg] using kk)
  · cases he
theorem bm_s_i2b (nx : Nat) (hdg : decode cc pc = .ok (.i2b, 1)) (hn : nx = pc + 1 := by rfl) : bm_Sn K pg mi cc nL own nm ret pc (bm_P (bm_o1 (fun x => (Int32.ofInt x).toInt8.toInt32.toInt) nx)) := by
  subst hn
  refine bm_Sn.still (fun lo st w t he => ?_)
  unfold bm_o1 at he
  split at he
  · rename_i x r
    cases he
    refine ⟨rfl, fun h1 h2 h3 => ⟨⟨h1, h2, bm_InSt.cons (bm_I_in _) h3.tl⟩, ?_⟩⟩
    intro D b0 mc ms d p l e R s m args below meth c H locs cells slots Q ls hCx hS hl k
    obtain ⟨hx, hb, -⟩ := hCx
    have hix := h3.hd
    have kk := k ls hl
    simp only [List.map_cons, bm_val] at kk
    exact lv_i2b hx hb hdg rfl (by simpa only [Int32.ofInt_toInt] using kk)
  · cases he
theorem bm_s_i2c (nx : Nat) (hdg : decode cc pc = .ok (.i2c, 1)) (hn : nx = pc + 1 := by rfl) : bm_Sn K pg mi cc nL own nm ret pc (bm_P (bm_o1 (fun x => ((Int32.ofInt x).toUInt32 % 65536).toInt32.toInt) nx)) := by
  subst hn
  refine bm_Sn.still (fun lo st w t he => ?_)
  unfold bm_o1 at he
  split at he
  · rename_i x r
    cases he
    refine ⟨rfl, fun h1 h2 h3 => ⟨⟨h1, h2, bm_InSt.cons (bm_I_in _) h3.tl⟩, ?_⟩⟩
    intro D b0 mc ms d p l e R s m args below meth c H locs cells slots Q ls hCx hS hl k
    obtain ⟨hx, hb, -⟩ := hCx
    have hix := h3.hd
    have kk := k ls hl
    simp only [List.map_cons, bm_val] at kk
    exact lv_i2c hx hb hdg rfl (by simpa only [Int32.ofInt_toInt] using kk)
  · cases he
theorem bm_s_i2l (nx : Nat) (hdg : decode cc pc = .ok (.i2l, 1)) (hn : nx = pc + 1 := by rfl) : bm_Sn K pg mi cc nL own nm ret pc (bm_P (bm_oil nx)) := by
  subst hn
  refine bm_Sn.still (fun lo st w t he => ?_)
  unfold bm_oil at he
  split at he
  · rename_i x r
    cases he
    refine ⟨rfl, fun h1 h2 h3 => ⟨⟨h1, h2, bm_InSt.cons ((by have h4 : bm_InI x := h3.hd; exact (⟨by have := h4.1; omega, by have := h4.2; omega⟩ : bm_InL x))) h3.tl⟩, ?_⟩⟩
    intro D b0 mc ms d p l e R s m args below meth c H locs cells slots Q ls hCx hS hl k
    obtain ⟨hx, hb, -⟩ := hCx
    have hix := h3.hd
    have kk := k ls hl
    simp only [List.map_cons, bm_val] at kk
    have h4 : bm_InI x := hix
    refine lv_i2l hx hb hdg ?_ kk
    rw [← Int64.toInt_inj, Int32.toInt_toInt64, bm_toI h4, bm_toL (show bm_InL x from ⟨by have := h4.1; omega, by have := h4.2; omega⟩)]
  · cases he
theorem bm_s_l2i (nx : Nat) (hdg : decode cc pc = .ok (.l2i, 1)) (hn : nx = pc + 1 := by rfl) : bm_Sn K pg mi cc nL own nm ret pc (bm_P (bm_oli nx)) := by
  subst hn
  refine bm_Sn.still (fun lo st w t he => ?_)
  unfold bm_oli at he
  split at he
  · rename_i x r
    cases he
    refine ⟨rfl, fun h1 h2 h3 => ⟨⟨h1, h2, bm_InSt.cons (bm_w_in _) h3.tl⟩, ?_⟩⟩
    intro D b0 mc ms d p l e R s m args below meth c H locs cells slots Q ls hCx hS hl k
    obtain ⟨hx, hb, -⟩ := hCx
    have hix := h3.hd
    have kk := k ls hl
    simp only [List.map_cons, bm_val] at kk
    refine lv_l2i hx hb hdg ?_ kk
    rw [bm_ofI, Int64.toInt32_ofInt]
  · cases he
theorem bm_s_pop (nx : Nat) (hdg : decode cc pc = .ok (.pop, 1)) (hn : nx = pc + 1 := by rfl) : bm_Sn K pg mi cc nL own nm ret pc (bm_P (bm_oPop nx)) := by
  subst hn
  refine bm_Sn.still (fun lo st w t he => ?_)
  unfold bm_oPop at he
  split at he
  · rename_i x r
    cases he
    refine ⟨rfl, fun h1 h2 h3 => ⟨⟨h1, h2, h3.tl⟩, ?_⟩⟩
    intro D b0 mc ms d p l e R s m args below meth c H locs cells slots Q ls hCx hS hl k
    obtain ⟨hx, hb, -⟩ := hCx
    have kk := k ls hl
    exact lv_pop hx hb hdg rfl kk
  · rename_i x r
    cases he
    refine ⟨rfl, fun h1 h2 h3 => ⟨⟨h1, h2, h3.tl⟩, ?_⟩⟩
    intro D b0 mc ms d p l e R s m args below meth c H locs cells slots Q ls hCx hS hl k
    obtain ⟨hx, hb, -⟩ := hCx
    have kk := k ls hl
    exact lv_pop hx hb hdg (by first | rfl | (cases x <;> rfl)) kk
  · cases he
theorem bm_s_pop2 (nx : Nat) (hdg : decode cc pc = .ok (.pop2, 1)) (hn : nx = pc + 1 := by rfl) : bm_Sn K pg mi cc nL own nm ret pc (bm_P (bm_oPop2 nx)) := by
  subst hn
  refine bm_Sn.still (fun lo st w t he => ?_)
  unfold bm_oPop2 at he
  split at he
  · rename_i x r
    cases he
    refine ⟨rfl, fun h1 h2 h3 => ⟨⟨h1, h2, h3.tl⟩, ?_⟩⟩
    intro D b0 mc ms d p l e R s m args below meth c H locs cells slots Q ls hCx hS hl k
    obtain ⟨hx, hb, -⟩ := hCx
    have kk := k ls hl
    exact lv_pop2_2 hx hb hdg rfl kk
  · cases he
theorem bm_s_dup (nx : Nat) (hdg : decode cc pc = .ok (.dup, 1)) (hn : nx = pc + 1 := by rfl) : bm_Sn K pg mi cc nL own nm ret pc (bm_P (bm_oDup nx)) := by
  subst hn
  refine bm_Sn.still (fun lo st w t he => ?_)
  unfold bm_oDup at he
  split at he
  · rename_i x r
    cases he
    refine ⟨rfl, fun h1 h2 h3 => ⟨⟨h1, h2, bm_InSt.cons h3.hd h3⟩, ?_⟩⟩
    intro D b0 mc ms d p l e R s m args below meth c H locs cells slots Q ls hCx hS hl k
    obtain ⟨hx, hb, -⟩ := hCx
    have kk := k ls hl
    exact lv_dup hx hb hdg rfl kk
  · rename_i x r
    cases he
    refine ⟨rfl, fun h1 h2 h3 => ⟨⟨h1, h2, bm_InSt.cons h3.hd h3⟩, ?_⟩⟩
    intro D b0 mc ms d p l e R s m args below meth c H locs cells slots Q ls hCx hS hl k
    obtain ⟨hx, hb, -⟩ := hCx
    have kk := k ls hl
    exact lv_dup hx hb hdg (va := va_rf x) (by cases x <;> rfl) kk
  · cases he
theorem bm_s_dup2 (nx : Nat) (hdg : decode cc pc = .ok (.dup2, 1)) (hn : nx = pc + 1 := by rfl) : bm_Sn K pg mi cc nL own nm ret pc (bm_P (bm_oDup2 nx)) := by
  subst hn
  refine bm_Sn.still (fun lo st w t he => ?_)
  unfold bm_oDup2 at he
  split at he
  · rename_i y x r
    cases he
    refine ⟨rfl, fun h1 h2 h3 => ⟨⟨h1, h2, bm_InSt.cons h3.hd (bm_InSt.cons trivial h3)⟩, ?_⟩⟩
    intro D b0 mc ms d p l e R s m args below meth c H locs cells slots Q ls hCx hS hl k
    obtain ⟨hx, hb, -⟩ := hCx
    have kk := k ls hl
    exact lv_dup2_11 hx hb hdg (vb := va_rf x) rfl (by cases x <;> rfl) kk
  · cases he
theorem bm_s_dup_x1 (nx : Nat) (hdg : decode cc pc = .ok (.dup_x1, 1)) (hn : nx = pc + 1 := by rfl) : bm_Sn K pg mi cc nL own nm ret pc (bm_P (bm_oDupX1 nx)) := by
  subst hn
  refine bm_Sn.still (fun lo st w t he => ?_)
  unfold bm_oDupX1 at he
  split at he
  · rename_i y x r
    cases he
    refine ⟨rfl, fun h1 h2 h3 => ⟨⟨h1, h2, bm_InSt.cons h3.hd (bm_InSt.cons trivial (bm_InSt.cons h3.hd h3.tl.tl))⟩, ?_⟩⟩
    intro D b0 mc ms d p l e R s m args below meth c H locs cells slots Q ls hCx hS hl k
    obtain ⟨hx, hb, -⟩ := hCx
    have kk := k ls hl
    exact lv_dup_x1 hx hb hdg (vb := va_rf x) rfl (by cases x <;> rfl) kk
  · cases he
theorem bm_s_goto {off : Int} (nx : Nat) (hdg : decode cc pc = .ok (.goto off, 3)) (hn : (pc : Int) + off = (nx : Int) := by decide) : bm_Sn K pg mi cc nL own nm ret pc (bm_P (bm_oGo nx)) := by
  refine bm_Sn.still (fun lo st w t he => ?_)
  cases he
  refine ⟨rfl, fun h1 h2 h3 => ⟨⟨h1, h2, h3⟩, ?_⟩⟩
  intro D b0 mc ms d p l e R s m args below meth c H locs cells slots Q ls hCx hS hl k
  obtain ⟨hx, hb, -⟩ := hCx
  exact lv_goto hx hb hdg hn (k ls hl)
theorem bm_s_ifz_eq {off : Int} (tg nx : Nat) (hdg : decode cc pc = .ok (.ifCond .eq off, 3)) (ht : (pc : Int) + off = (tg : Int) := by decide) (hn : nx = pc + 3 := by rfl) : bm_Sn K pg mi cc nL own nm ret pc (bm_B (bm_bz (fun x => decide (x = 0)) tg nx)) := by
  subst hn
  refine bm_Sn.stillB tg (pc + 3) (fun lo st w b t u he => ?_)
  unfold bm_bz at he
  split at he
  · rename_i x r
    cases he
    refine ⟨r, rfl, rfl, fun h3 => ⟨h3.tl, ?_⟩⟩
    have hix : bm_InI x := h3.hd
    intro D b0 mc ms d p l e R s m args below meth c H locs cells slots Q ls hCx kt kf
    obtain ⟨hx, hb, -⟩ := hCx
    exact lv_if_eq hx hb hdg ht (fun z => kt (decide_eq_true ((bm_eqI hix bm_In0).mp z))) (fun z => kf (decide_eq_false (fun q => z ((bm_eqI hix bm_In0).mpr q))))
  · cases he
theorem bm_s_ifz_ne {off : Int} (tg nx : Nat) (hdg : decode cc pc = .ok (.ifCond .ne off, 3)) (ht : (pc : Int) + off = (tg : Int) := by decide) (hn : nx = pc + 3 := by rfl) : bm_Sn K pg mi cc nL own nm ret pc (bm_B (bm_bz (fun x => !decide (x = 0)) tg nx)) := by
  subst hn
  refine bm_Sn.stillB tg (pc + 3) (fun lo st w b t u he => ?_)
  unfold bm_bz at he
  split at he
  · rename_i x r
    cases he
    refine ⟨r, rfl, rfl, fun h3 => ⟨h3.tl, ?_⟩⟩
    have hix : bm_InI x := h3.hd
    intro D b0 mc ms d p l e R s m args below meth c H locs cells slots Q ls hCx kt kf
    obtain ⟨hx, hb, -⟩ := hCx
    exact lv_if_ne hx hb hdg ht (fun z => kt (bm_nd (fun q => z ((bm_eqI hix bm_In0).mpr q)))) (fun z => kf (bm_nt ((bm_eqI hix bm_In0).mp z)))
  · cases he
theorem bm_s_ifz_lt {off : Int} (tg nx : Nat) (hdg : decode cc pc = .ok (.ifCond .lt off, 3)) (ht : (pc : Int) + off = (tg : Int) := by decide) (hn : nx = pc + 3 := by rfl) : bm_Sn K pg mi cc nL own nm ret pc (bm_B (bm_bz (fun x => decide (x < 0)) tg nx)) := by
  subst hn
  refine bm_Sn.stillB tg (pc + 3) (fun lo st w b t u he => ?_)
  unfold bm_bz at he
  split at he
  · rename_i x r
    cases he
    refine ⟨r, rfl, rfl, fun h3 => ⟨h3.tl, ?_⟩⟩
    have hix : bm_InI x := h3.hd
    intro D b0 mc ms d p l e R s m args below meth c H locs cells slots Q ls hCx kt kf
    obtain ⟨hx, hb, -⟩ := hCx
    exact lv_if_lt hx hb hdg ht (fun z => kt (decide_eq_true ((bm_ltI hix bm_In0).mp z))) (fun z => kf (decide_eq_false (fun q => z ((bm_ltI hix bm_In0).mpr q))))
  · cases he
theorem bm_s_ifz_ge {off : Int} (tg nx : Nat) (hdg : decode cc pc = .ok (.ifCond .ge off, 3)) (ht : (pc : Int) + off = (tg : Int) := by decide) (hn : nx = pc + 3 := by rfl) : bm_Sn K pg mi cc nL own nm ret pc (bm_B (bm_bz (fun x => decide (0 ≤ x)) tg nx)) := by
  subst hn
  refine bm_Sn.stillB tg (pc + 3) (fun lo st w b t u he => ?_)
  unfold bm_bz at he
  split at he
  · rename_i x r
    cases he
    refine ⟨r, rfl, rfl, fun h3 => ⟨h3.tl, ?_⟩⟩
    have hix : bm_InI x := h3.hd
    intro D b0 mc ms d p l e R s m args below meth c H locs cells slots Q ls hCx kt kf
    obtain ⟨hx, hb, -⟩ := hCx
    exact lv_if_ge hx hb hdg ht (fun z => kt (decide_eq_true ((bm_leI bm_In0 hix).mp z))) (fun z => kf (decide_eq_false (fun q => z ((bm_leI bm_In0 hix).mpr q))))
  · cases he
theorem bm_s_ifz_gt {off : Int} (tg nx : Nat) (hdg : decode cc pc = .ok (.ifCond .gt off, 3)) (ht : (pc : Int) + off = (tg : Int) := by decide) (hn : nx = pc + 3 := by rfl) : bm_Sn K pg mi cc nL own nm ret pc (bm_B (bm_bz (fun x => decide (0 < x)) tg nx)) := by
  subst hn
  refine bm_Sn.stillB tg (pc + 3) (fun lo st w b t u he => ?_)
  unfold bm_bz at he
  split at he
  · rename_i x r
    cases he
    refine ⟨r, rfl, rfl, fun h3 => ⟨h3.tl, ?_⟩⟩
    have hix : bm_InI x := h3.hd
    intro D b0 mc ms d p l e R s m args below meth c H locs cells slots Q ls hCx kt kf
    obtain ⟨hx, hb, -⟩ := hCx
    exact lv_if_gt hx hb hdg ht (fun z => kt (decide_eq_true ((bm_ltI bm_In0 hix).mp z))) (fun z => kf (decide_eq_false (fun q => z ((bm_ltI bm_In0 hix).mpr q))))
  · cases he
theorem bm_s_ifz_le {off : Int} (tg nx : Nat) (hdg : decode cc pc = .ok (.ifCond .le off, 3)) (ht : (pc : Int) + off = (tg : Int) := by decide) (hn : nx = pc + 3 := by rfl) : bm_Sn K pg mi cc nL own nm ret pc (bm_B (bm_bz (fun x => decide (x ≤ 0)) tg nx)) := by
  subst hn
  refine bm_Sn.stillB tg (pc + 3) (fun lo st w b t u he => ?_)
  unfold bm_bz at he
  split at he
  · rename_i x r
    cases he
    refine ⟨r, rfl, rfl, fun h3 => ⟨h3.tl, ?_⟩⟩
    have hix : bm_InI x := h3.hd
    intro D b0 mc ms d p l e R s m args below meth c H locs cells slots Q ls hCx kt kf
    obtain ⟨hx, hb, -⟩ := hCx
    exact lv_if_le hx hb hdg ht (fun z => kt (decide_eq_true ((bm_leI hix bm_In0).mp z))) (fun z => kf (decide_eq_false (fun q => z ((bm_leI hix bm_In0).mpr q))))
  · cases he
theorem bm_s_if_icmp_eq {off : Int} (tg nx : Nat) (hdg : decode cc pc = .ok (.if_icmp .eq off, 3)) (ht : (pc : Int) + off = (tg : Int) := by decide) (hn : nx = pc + 3 := by rfl) : bm_Sn K pg mi cc nL own nm ret pc (bm_B (bm_bi (fun x y => decide (x = y)) tg nx)) := by
  subst hn
  refine bm_Sn.stillB tg (pc + 3) (fun lo st w b t u he => ?_)
  unfold bm_bi at he
  split at he
  · rename_i y x r
    cases he
    refine ⟨r, rfl, rfl, fun h3 => ⟨h3.tl.tl, ?_⟩⟩
    have hiy : bm_InI y := h3.hd
    have hix : bm_InI x := h3.tl.hd
    intro D b0 mc ms d p l e R s m args below meth c H locs cells slots Q ls hCx kt kf
    obtain ⟨hx, hb, -⟩ := hCx
    exact lv_icmp_eq hx hb hdg ht (fun z => kt (decide_eq_true ((bm_eqI hix hiy).mp z))) (fun z => kf (decide_eq_false (fun q => z ((bm_eqI hix hiy).mpr q))))
  · cases he
theorem bm_s_if_icmp_ne {off : Int} (tg nx : Nat) (hdg : decode cc pc = .ok (.if_icmp .ne off, 3)) (ht : (pc : Int) + off = (tg : Int) := by decide) (hn : nx = pc + 3 := by rfl) : bm_Sn K pg mi cc nL own nm ret pc (bm_B (bm_bi (fun x y => !decide (x = y)) tg nx)) := by
  subst hn
  refine bm_Sn.stillB tg (pc + 3) (fun lo st w b t u he => ?_)
  unfold bm_bi at he
  split at he
  · rename_i y x r
    cases he
    refine ⟨r, rfl, rfl, fun h3 => ⟨h3.tl.tl, ?_⟩⟩
    have hiy : bm_InI y := h3.hd
    have hix : bm_InI x := h3.tl.hd
    intro D b0 mc ms d p l e R s m args below meth c H locs cells slots Q ls hCx kt kf
    obtain ⟨hx, hb, -⟩ := hCx
    exact lv_icmp_ne hx hb hdg ht (fun z => kt (bm_nd (fun q => z ((bm_eqI hix hiy).mpr q)))) (fun z => kf (bm_nt ((bm_eqI hix hiy).mp z)))
  · cases he
theorem bm_s_if_icmp_lt {off : Int} (tg nx : Nat) (hdg : decode cc pc = .ok (.if_icmp .lt off, 3)) (ht : (pc : Int) + off = (tg : Int) := by decide) (hn : nx = pc + 3 := by rfl) : bm_Sn K pg mi cc nL own nm ret pc (bm_B (bm_bi (fun x y => decide (x < y)) tg nx)) := by
  subst hn
  refine bm_Sn.stillB tg (pc + 3) (fun lo st w b t u he => ?_)
  unfold bm_bi at he
  split at he
  · rename_i y x r
    cases he
    refine ⟨r, rfl, rfl, fun h3 => ⟨h3.tl.tl, ?_⟩⟩
    have hiy : bm_InI y := h3.hd
    have hix : bm_InI x := h3.tl.hd
    intro D b0 mc ms d p l e R s m args below meth c H locs cells slots Q ls hCx kt kf
    obtain ⟨hx, hb, -⟩ := hCx
    exact lv_icmp_lt hx hb hdg ht (fun z => kt (decide_eq_true ((bm_ltI hix hiy).mp z))) (fun z => kf (decide_eq_false (fun q => z ((bm_ltI hix hiy).mpr q))))
  · cases he
theorem bm_s_if_icmp_ge {off : Int} (tg nx : Nat) (hdg : decode cc pc = .ok (.if_icmp .ge off, 3)) (ht : (pc : Int) + off = (tg : Int) := by decide) (hn : nx = pc + 3 := by rfl) : bm_Sn K pg mi cc nL own nm ret pc (bm_B (bm_bi (fun x y => decide (y ≤ x)) tg nx)) := by
  subst hn
  refine bm_Sn.stillB tg (pc + 3) (fun lo st w b t u he => ?_)
  unfold bm_bi at he
  split at he
  · rename_i y x r
    cases he
    refine ⟨r, rfl, rfl, fun h3 => ⟨h3.tl.tl, ?_⟩⟩
    have hiy : bm_InI y := h3.hd
    have hix : bm_InI x := h3.tl.hd
    intro D b0 mc ms d p l e R s m args below meth c H locs cells slots Q ls hCx kt kf
    obtain ⟨hx, hb, -⟩ := hCx
    exact lv_icmp_ge hx hb hdg ht (fun z => kt (decide_eq_true ((bm_leI hiy hix).mp z))) (fun z => kf (decide_eq_false (fun q => z ((bm_leI hiy hix).mpr q))))
  · cases he
theorem bm_s_if_icmp_gt {off : Int} (tg nx : Nat) (hdg : decode cc pc = .ok (.if_icmp .gt off, 3)) (ht : (pc : Int) + off = (tg : Int) := by decide) (hn : nx = pc + 3 := by rfl) : bm_Sn K pg mi cc nL own nm ret pc (bm_B (bm_bi (fun x y => decide (y < x)) tg nx)) := by
  subst hn
  refine bm_Sn.stillB tg (pc + 3) (fun lo st w b t u he => ?_)
  unfold bm_bi at he
  split at he
  · rename_i y x r
    cases he
    refine ⟨r, rfl, rfl, fun h3 => ⟨h3.tl.tl, ?_⟩⟩
    have hiy : bm_InI y := h3.hd
    have hix : bm_InI x := h3.tl.hd
    intro D b0 mc ms d p l e R s m args below meth c H locs cells slots Q ls hCx kt kf
    obtain ⟨hx, hb, -⟩ := hCx
    exact lv_icmp_gt hx hb hdg ht (fun z => kt (decide_eq_true ((bm_ltI hiy hix).mp z))) (fun z => kf (decide_eq_false (fun q => z ((bm_ltI hiy hix).mpr q))))
  · cases he
theorem bm_s_if_icmp_le {off : Int} (tg nx : Nat) (hdg : decode cc pc = .ok (.if_icmp .le off, 3)) (ht : (pc : Int) + off = (tg : Int) := by decide) (hn : nx = pc + 3 := by rfl) : bm_Sn K pg mi cc nL own nm ret pc (bm_B (bm_bi (fun x y => decide (x ≤ y)) tg nx)) := by
  subst hn
  refine bm_Sn.stillB tg (pc + 3) (fun lo st w b t u he => ?_)
  unfold bm_bi at he
  split at he
  · rename_i y x r
    cases he
    refine ⟨r, rfl, rfl, fun h3 => ⟨h3.tl.tl, ?_⟩⟩
    have hiy : bm_InI y := h3.hd
    have hix : bm_InI x := h3.tl.hd
    intro D b0 mc ms d p l e R s m args below meth c H locs cells slots Q ls hCx kt kf
    obtain ⟨hx, hb, -⟩ := hCx
    exact lv_icmp_le hx hb hdg ht (fun z => kt (decide_eq_true ((bm_leI hix hiy).mp z))) (fun z => kf (decide_eq_false (fun q => z ((bm_leI hix hiy).mpr q))))
  · cases he
theorem bm_s_lcmp_eq {off : Int} (tg nx : Nat) (hdg : decode cc pc = .ok (.lcmp, 1)) (hdg2 : decode cc (pc + 1) = .ok (.ifCond .eq off, 3)) (ht : ((pc + 1 : Nat) : Int) + off = (tg : Int) := by decide) (hn : nx = pc + 4 := by rfl) : bm_Sn K pg mi cc nL own nm ret pc (bm_B (bm_bl (fun x y => decide (x = y)) tg nx)) := by
  subst hn
  refine bm_Sn.stillB tg (pc + 4) (fun lo st w b t u he => ?_)
  unfold bm_bl at he
  split at he
  · rename_i y x r
    cases he
    refine ⟨r, rfl, rfl, fun h3 => ⟨h3.tl.tl, ?_⟩⟩
    have hiy : bm_InL y := h3.hd
    have hix : bm_InL x := h3.tl.hd
    intro D b0 mc ms d p l e R s m args below meth c H locs cells slots Q ls hCx kt kf
    obtain ⟨hx, hb, -⟩ := hCx
    exact W.lcmp hx hb hdg (lv_if_eq hx hb hdg2 ht (fun z => kt (decide_eq_true ((bm_eqL hix hiy).mp ((lg_cmp_eq _ _).mp z)))) (fun z => kf (decide_eq_false (fun q => z ((lg_cmp_eq _ _).mpr ((bm_eqL hix hiy).mpr q))))))
  · cases he
theorem bm_s_lcmp_ne {off : Int} (tg nx : Nat) (hdg : decode cc pc = .ok (.lcmp, 1)) (hdg2 : decode cc (pc + 1) = .ok (.ifCond .ne off, 3)) (ht : ((pc + 1 : Nat) : Int) + off = (tg : Int) := by decide) (hn : nx = pc + 4 := by rfl) : bm_Sn K pg mi cc nL own nm ret pc (bm_B (bm_bl (fun x y => !decide (x = y)) tg nx)) := by
  subst hn
  refine bm_Sn.stillB tg (pc + 4) (fun lo st w b t u he => ?_)
  unfold bm_bl at he
  split at he
  · rename_i y x r
    cases he
    refine ⟨r, rfl, rfl, fun h3 => ⟨h3.tl.tl, ?_⟩⟩
    have hiy : bm_InL y := h3.hd
    have hix : bm_InL x := h3.tl.hd
    intro D b0 mc ms d p l e R s m args below meth c H locs cells slots Q ls hCx kt kf
    obtain ⟨hx, hb, -⟩ := hCx
    exact W.lcmp hx hb hdg (lv_if_ne hx hb hdg2 ht (fun z => kt (bm_nd (fun q => z ((lg_cmp_eq _ _).mpr ((bm_eqL hix hiy).mpr q))))) (fun z => kf (bm_nt ((bm_eqL hix hiy).mp ((lg_cmp_eq _ _).mp z)))))
  · cases he
theorem bm_s_lcmp_lt {off : Int} (tg nx : Nat) (hdg : decode cc pc = .ok (.lcmp, 1)) (hdg2 : decode cc (pc + 1) = .ok (.ifCond .lt off, 3)) (ht : ((pc + 1 : Nat) : Int) + off = (tg : Int) := by decide) (hn : nx = pc + 4 := by rfl) : bm_Sn K pg mi cc nL own nm ret pc (bm_B (bm_bl (fun x y => decide (x < y)) tg nx)) := by
  subst hn
  refine bm_Sn.stillB tg (pc + 4) (fun lo st w b t u he => ?_)
  unfold bm_bl at he
  split at he
  · rename_i y x r
    cases he
    refine ⟨r, rfl, rfl, fun h3 => ⟨h3.tl.tl, ?_⟩⟩
    have hiy : bm_InL y := h3.hd
    have hix : bm_InL x := h3.tl.hd
    intro D b0 mc ms d p l e R s m args below meth c H locs cells slots Q ls hCx kt kf
    obtain ⟨hx, hb, -⟩ := hCx
    exact W.lcmp hx hb hdg (lv_if_lt hx hb hdg2 ht (fun z => kt (decide_eq_true ((bm_ltL hix hiy).mp ((lg_cmp_lt _ _).mp z)))) (fun z => kf (decide_eq_false (fun q => z ((lg_cmp_lt _ _).mpr ((bm_ltL hix hiy).mpr q))))))
  · cases he
theorem bm_s_lcmp_ge {off : Int} (tg nx : Nat) (hdg : decode cc pc = .ok (.lcmp, 1)) (hdg2 : decode cc (pc + 1) = .ok (.ifCond .ge off, 3)) (ht : ((pc + 1 : Nat) : Int) + off = (tg : Int) := by decide) (hn : nx = pc + 4 := by rfl) : bm_Sn K pg mi cc nL own nm ret pc (bm_B (bm_bl (fun x y => decide (y ≤ x)) tg nx)) := by
  subst hn
  refine bm_Sn.stillB tg (pc + 4) (fun lo st w b t u he => ?_)
  unfold bm_bl at he
  split at he
  · rename_i y x r
    cases he
    refine ⟨r, rfl, rfl, fun h3 => ⟨h3.tl.tl, ?_⟩⟩
    have hiy : bm_InL y := h3.hd
    have hix : bm_InL x := h3.tl.hd
    intro D b0 mc ms d p l e R s m args below meth c H locs cells slots Q ls hCx kt kf
    obtain ⟨hx, hb, -⟩ := hCx
    exact W.lcmp hx hb hdg (lv_if_ge hx hb hdg2 ht (fun z => kt (decide_eq_true ((bm_leL hiy hix).mp ((lg_cmp_ge _ _).mp z)))) (fun z => kf (decide_eq_false (fun q => z ((lg_cmp_ge _ _).mpr ((bm_leL hiy hix).mpr q))))))
  · cases he
theorem bm_s_lcmp_gt {off : Int} (tg nx : Nat) (hdg : decode cc pc = .ok (.lcmp, 1)) (hdg2 : decode cc (pc + 1) = .ok (.ifCond .gt off, 3)) (ht : ((pc + 1 : Nat) : Int) + off = (tg : Int) := by decide) (hn : nx = pc + 4 := by rfl) : bm_Sn K pg mi cc nL own nm ret pc (bm_B (bm_bl (fun x y => decide (y < x)) tg nx)) := by
  subst hn
  refine bm_Sn.stillB tg (pc + 4) (fun lo st w b t u he => ?_)
  unfold bm_bl at he
  split at he
  · rename_i y x r
    cases he
    refine ⟨r, rfl, rfl, fun h3 => ⟨h3.tl.tl, ?_⟩⟩
    have hiy : bm_InL y := h3.hd
    have hix : bm_InL x := h3.tl.hd
    intro D b0 mc ms d p l e R s m args below meth c H locs cells slots Q ls hCx kt kf
    obtain ⟨hx, hb, -⟩ := hCx
    exact W.lcmp hx hb hdg (lv_if_gt hx hb hdg2 ht (fun z => kt (decide_eq_true ((bm_ltL hiy hix).mp ((lg_cmp_gt _ _).mp z)))) (fun z => kf (decide_eq_false (fun q => z ((lg_cmp_gt _ _).mpr ((bm_ltL hiy hix).mpr q))))))
  · cases he
theorem bm_s_lcmp_le {off : Int} (tg nx : Nat) (hdg : decode cc pc = .ok (.lcmp, 1)) (hdg2 : decode cc (pc + 1) = .ok (.ifCond .le off, 3)) (ht : ((pc + 1 : Nat) : Int) + off = (tg : Int) := by decide) (hn : nx = pc + 4 := by rfl) : bm_Sn K pg mi cc nL own nm ret pc (bm_B (bm_bl (fun x y => decide (x ≤ y)) tg nx)) := by
  subst hn
  refine bm_Sn.stillB tg (pc + 4) (fun lo st w b t u he => ?_)
  unfold bm_bl at he
  split at he
  · rename_i y x r
    cases he
    refine ⟨r, rfl, rfl, fun h3 => ⟨h3.tl.tl, ?_⟩⟩
    have hiy : bm_InL y := h3.hd
    have hix : bm_InL x := h3.tl.hd
    intro D b0 mc ms d p l e R s m args below meth c H locs cells slots Q ls hCx kt kf
    obtain ⟨hx, hb, -⟩ := hCx
    exact W.lcmp hx hb hdg (lv_if_le hx hb hdg2 ht (fun z => kt (decide_eq_true ((bm_leL hix hiy).mp ((lg_cmp_le _ _).mp z)))) (fun z => kf (decide_eq_false (fun q => z ((lg_cmp_le _ _).mpr ((bm_leL hix hiy).mpr q))))))
  · cases he
theorem bm_s_ifnonnull {off : Int} (tg nx : Nat) (hdg : decode cc pc = .ok (.ifnonnull off, 3)) (ht : (pc : Int) + off = (tg : Int) := by decide) (hn : nx = pc + 3 := by rfl) : bm_Sn K pg mi cc nL own nm ret pc (bm_B (bm_bnn tg nx)) := by
  subst hn
  refine bm_Sn.stillB tg (pc + 3) (fun lo st w b t u he => ?_)
  unfold bm_bnn at he
  split at he
  · rename_i x r
    cases he
    refine ⟨r, rfl, rfl, fun h3 => ⟨h3.tl, ?_⟩⟩
    intro D b0 mc ms d p l e R s m args below meth c H locs cells slots Q ls hCx kt kf
    obtain ⟨hx, hb, -⟩ := hCx
    cases x with
    | none => exact lv_ifnonnullN hx hb hdg (kf rfl)
    | some x => exact lv_ifnonnull hx hb hdg ht (kt rfl)
  · cases he
theorem bm_s_acmp_eq {off : Int} (tg nx : Nat) (hdg : decode cc pc = .ok (.if_acmp .eq off, 3)) (ht : (pc : Int) + off = (tg : Int) := by decide) (hn : nx = pc + 3 := by rfl) : bm_Sn K pg mi cc nL own nm ret pc (bm_B (bm_ba (fun x y => decide (x = y)) tg nx)) := by
  subst hn
  refine bm_Sn.stillB tg (pc + 3) (fun lo st w b t u he => ?_)
  unfold bm_ba at he
  split at he
  · rename_i y x r
    cases he
    refine ⟨r, rfl, rfl, fun h3 => ⟨h3.tl.tl, ?_⟩⟩
    intro D b0 mc ms d p l e R s m args below meth c H locs cells slots Q ls hCx kt kf
    obtain ⟨hx, hb, -⟩ := hCx
    exact lv_acmp_eq hx hb hdg ht (fun z => kt (decide_eq_true z)) (fun z => kf (decide_eq_false z))
  · cases he
end BMR
end
section
/-! ===== rows that read and write the heap ===== -/
def bm_u : Option Nat → Nat
  | some x => x
  | none => 0
/-- what a cell is stays, where heap and world stay -/
theorem bm_cell.kept {D : bm_D} {w w' : bm_W} {H H1 : Heap} {a t : Nat} (h : bm_cell D w H a t) (hq : H1[a]? = H[a]?) (hk : bm_kn w' a = bm_kn w a) (hs : ∀ k, bm_gi w' a k = bm_gi w a k ∧ bm_gl w' a k = bm_gl w a k ∧ bm_gr w' a k = bm_gr w a k) : bm_cell D w' H1 a t := by
  have hv : ∀ c k, bm_fv c w' a k = bm_fv c w a k := by
    intro c k
    obtain ⟨h1, h2, h3⟩ := hs k
    match c with
    | 0 => show Value.int _ = Value.int _; rw [h1]
    | 1 => show Value.long _ = Value.long _; rw [h2]
    | 2 => show va_rf _ = va_rf _; rw [h3]
    | _ + 3 => show Value.double _ = Value.double _; rw [h2]
  unfold bm_cell at h ⊢
  split
  · rename_i ht
    rw [if_pos ht] at h
    obtain ⟨r, h1, h2⟩ := h
    exact ⟨r, h1, (h2.kept hq).to (fun k _ => (hv _ k).symm)⟩
  · rename_i ht
    rw [if_neg ht] at h
    rw [hq, h, hk]
    congr 2
    funext j
    exact (hv _ j).symm
theorem bm_HE.put {D : bm_D} {b0 : Nat} {w w' : bm_W} {H H1 : Heap} {a : Nat} (e6 : bm_HE D b0 w H) (h1 : bm_kt w' = bm_kt w) (h2 : bm_kn w' = bm_kn w) (h3 : bm_sz w' = bm_sz w) (ho : ∀ q : Nat, q ≠ a → H1[q]? = H[q]?) (hs : ∀ b, b ≠ a → ∀ k, bm_gi w' b k = bm_gi w b k ∧ bm_gl w' b k = bm_gl w b k ∧ bm_gr w' b k = bm_gr w b k) (h9 : bm_kt w a < 90) : bm_HE D b0 w' H1 := by
  intro b
  rw [h1, h2, h3]
  refine ⟨fun q => ?_, fun q => ?_⟩
  · have hb : b ≠ a := fun e => by rw [e] at q; omega
    obtain ⟨k1, k2, k3⟩ := (e6 b).1 q
    exact ⟨k1, k2, fun k => ((hs b hb k).1).trans (k3 k)⟩
  · have hb : b ≠ a := fun e => by rw [e] at q; omega
    obtain ⟨k1, k2, k3⟩ := (e6 b).2 q
    refine ⟨k1, k2, ?_⟩
    have e : (fun j => bm_tx D (bm_gi w' b j)) = (fun j => bm_tx D (bm_gi w b j)) := funext fun j => by rw [(hs b hb j).1]
    rw [ho b hb, k3, e]
/-- one cell is written -/
theorem bm_HR.put {D : bm_D} {b0 : Nat} {w w' : bm_W} {H H1 : Heap} {a : Nat} (h : bm_HR D b0 w H) (h1 : bm_kt w' = bm_kt w) (h2 : bm_kn w' = bm_kn w) (h3 : bm_sz w' = bm_sz w) (hr : ∀ b k, bm_InI (bm_gi w' b k) ∧ bm_InL (bm_gl w' b k))
    (hc : bm_cell D w' H1 a (bm_kt w a)) (hz : H1.size = H.size) (ho : ∀ q : Nat, q ≠ a → H1[q]? = H[q]?) (hs : ∀ b, b ≠ a → ∀ k, bm_gi w' b k = bm_gi w b k ∧ bm_gl w' b k = bm_gl w b k ∧ bm_gr w' b k = bm_gr w b k) (h9 : bm_kt w a < 90 := by omega) : bm_HR D b0 w' H1 := by
  obtain ⟨e1, e2, e3, e4, e5, e6⟩ := h
  refine ⟨by rw [hz, h3]; exact e1, hr, by rw [h2]; exact e3, fun b hb => ?_, by rw [h3, h1]; exact e5, e6.put h1 h2 h3 ho hs h9⟩
  rw [h1] at hb ⊢
  obtain ⟨g1, g2, g3⟩ := e4 b hb
  refine ⟨g1, by rw [h3]; exact g2, ?_⟩
  by_cases hba : b = a
  · rw [hba]; exact hc
  · exact g3.kept (ho b hba) (by rw [h2]) (hs b hba)
theorem bm_si_kt (w : bm_W) (a k : Nat) (v : Int) : bm_kt (bm_si w a k v) = bm_kt w := rfl
theorem bm_si_kn (w : bm_W) (a k : Nat) (v : Int) : bm_kn (bm_si w a k v) = bm_kn w := rfl
theorem bm_si_sz (w : bm_W) (a k : Nat) (v : Int) : bm_sz (bm_si w a k v) = bm_sz w := rfl
theorem bm_si_sl (w : bm_W) (a k : Nat) (v : Int) : bm_sl (bm_si w a k v) = bm_sl w := rfl
theorem bm_si_gl (w : bm_W) (a k : Nat) (v : Int) : bm_gl (bm_si w a k v) = bm_gl w := rfl
theorem bm_si_gr (w : bm_W) (a k : Nat) (v : Int) : bm_gr (bm_si w a k v) = bm_gr w := rfl
theorem bm_si_gi (w : bm_W) (a k : Nat) (v : Int) (b j : Nat) : bm_gi (bm_si w a k v) b j = if b = a ∧ j = k then v else bm_gi w b j := rfl
theorem bm_sq_kt (w : bm_W) (a k : Nat) (v : Int) : bm_kt (bm_sq w a k v) = bm_kt w := rfl
theorem bm_sq_kn (w : bm_W) (a k : Nat) (v : Int) : bm_kn (bm_sq w a k v) = bm_kn w := rfl
theorem bm_sq_sz (w : bm_W) (a k : Nat) (v : Int) : bm_sz (bm_sq w a k v) = bm_sz w := rfl
theorem bm_sq_sl (w : bm_W) (a k : Nat) (v : Int) : bm_sl (bm_sq w a k v) = bm_sl w := rfl
theorem bm_sq_gi (w : bm_W) (a k : Nat) (v : Int) : bm_gi (bm_sq w a k v) = bm_gi w := rfl
theorem bm_sq_gr (w : bm_W) (a k : Nat) (v : Int) : bm_gr (bm_sq w a k v) = bm_gr w := rfl
theorem bm_sq_gl (w : bm_W) (a k : Nat) (v : Int) (b j : Nat) : bm_gl (bm_sq w a k v) b j = if b = a ∧ j = k then v else bm_gl w b j := rfl
theorem bm_sr_kt (w : bm_W) (a k : Nat) (v : Option Nat) : bm_kt (bm_sr w a k v) = bm_kt w := rfl
theorem bm_sr_kn (w : bm_W) (a k : Nat) (v : Option Nat) : bm_kn (bm_sr w a k v) = bm_kn w := rfl
theorem bm_sr_sz (w : bm_W) (a k : Nat) (v : Option Nat) : bm_sz (bm_sr w a k v) = bm_sz w := rfl
theorem bm_sr_sl (w : bm_W) (a k : Nat) (v : Option Nat) : bm_sl (bm_sr w a k v) = bm_sl w := rfl
theorem bm_sr_gi (w : bm_W) (a k : Nat) (v : Option Nat) : bm_gi (bm_sr w a k v) = bm_gi w := rfl
theorem bm_sr_gl (w : bm_W) (a k : Nat) (v : Option Nat) : bm_gl (bm_sr w a k v) = bm_gl w := rfl
theorem bm_sr_gr (w : bm_W) (a k : Nat) (v : Option Nat) (b j : Nat) : bm_gr (bm_sr w a k v) b j = if b = a ∧ j = k then v else bm_gr w b j := rfl
/-- a walk that may change heap and world -/
def bm_Gw (K : bm_K) (cc : ByteArray) (nL : Nat) (own nm : String) (ret : Option FieldType) (pc : Nat) (lo : bm_L) (st : List bm_V) (w : bm_W) (t : bm_S) : Prop :=
  ∀ (D : bm_D) (b0 mc ms d : Nat) (p : Program) (l : Launch) (e : Env) (R : Room) (s : State) (m : MethodId) (args : Array Value) (below : List Frame) (meth : Method) (c : Code) (H : Heap) (locs : List Loc) (w0 : bm_W) (Q : State → Prop) (ls : Array Slot),
    bm_Cx K D b0 mc ms d p l R s m args meth c cc nL own nm ret → bm_Bn w0 mc ms t.2.2.2 → bm_le w0 w → lo.length = nL → bm_InLo lo → bm_InSt st → bm_HR D b0 w H → va_S (bm_A b0) s.heap H locs → lv_has ls nL (bm_lv D 0 lo) →
    (∀ (H1 : Heap) (locs1 : List Loc) (ls' : Array Slot), t.2.1.length = nL → bm_InLo t.2.1 → bm_InSt t.2.2.1 → bm_HR D b0 t.2.2.2 H1 → va_S (bm_A b0) s.heap H1 locs1 → lv_has ls' nL (bm_lv D 0 t.2.1) → W p l e R s m args below meth c H1 locs1 (bm_sz t.2.2.2 - bm_sz w0) (bm_sl t.2.2.2 - bm_sl w0) Q (F0 m t.1 ls' (t.2.2.1.map (bm_val D)))) →
    W p l e R s m args below meth c H locs (bm_sz w - bm_sz w0) (bm_sl w - bm_sl w0) Q (F0 m pc ls (st.map (bm_val D)))
section BMH
variable {K : bm_K} {pg : bm_Pg} {mi : bm_Mi} {cc : ByteArray} {nL : Nat} {own nm : String} {ret : Option FieldType} {pc : Nat}
theorem bm_Sn.heapG {f : bm_L → List bm_V → bm_W → Option (Prop × bm_S)}
    (h : ∀ lo st w g t, f lo st w = some (g, t) → g → bm_le w t.2.2.2 ∧ bm_Gw K cc nL own nm ret pc lo st w t) : bm_Sn K pg mi cc nL own nm ret pc (bm_G f) := by
  refine ⟨fun lo st w g t e hg => (h lo st w g t e hg).1, ?_⟩
  intro D b0 mc ms d p l e R s m args below meth c w0 F hCx hCon hS hF lo st w hex
  simp only [bm_exe] at hex
  cases e2 : f lo st w with
  | none => rw [e2] at hex; exact hex.elim
  | some t =>
    rw [e2] at hex
    obtain ⟨g, t⟩ := t
    obtain ⟨hg, hb, hex⟩ := hex
    obtain ⟨hle, hgo⟩ := h lo st w g t e2 hg
    exact ⟨⟨Nat.le_trans hle.1 hb.1, Nat.le_trans hle.2 hb.2⟩, fun H locs ls g1 g2 g3 g4 g5 g6 g7 => hgo D b0 mc ms d p l e R s m args below meth c H locs w0 _ ls hCx hb g7 g1 g2 g3 g4 g5 g6 (fun H1 locs1 ls' i1 i2 i3 i4 i5 i6 => hex H1 locs1 ls' i1 i2 i3 i4 i5 i6 (bm_le.tr g7 hle))⟩
theorem bm_Sn.heapP {f : bm_L → List bm_V → bm_W → Option bm_S}
    (h : ∀ lo st w t, f lo st w = some t → bm_le w t.2.2.2 ∧ bm_Gw K cc nL own nm ret pc lo st w t) : bm_Sn K pg mi cc nL own nm ret pc (bm_P f) := by
  refine ⟨fun lo st w t e => (h lo st w t e).1, ?_⟩
  intro D b0 mc ms d p l e R s m args below meth c w0 F hCx hCon hS hF lo st w hex
  simp only [bm_exe] at hex
  cases e2 : f lo st w with
  | none => rw [e2] at hex; exact hex.elim
  | some t =>
    rw [e2] at hex
    obtain ⟨hb, hex⟩ := hex
    obtain ⟨hle, hgo⟩ := h lo st w t e2
    exact ⟨⟨Nat.le_trans hle.1 hb.1, Nat.le_trans hle.2 hb.2⟩, fun H locs ls g1 g2 g3 g4 g5 g6 g7 => hgo D b0 mc ms d p l e R s m args below meth c H locs w0 _ ls hCx hb g7 g1 g2 g3 g4 g5 g6 (fun H1 locs1 ls' i1 i2 i3 i4 i5 i6 => hex H1 locs1 ls' i1 i2 i3 i4 i5 i6 (bm_le.tr g7 hle))⟩
/-- a class: its number, name, fields, count; its words among all; its fields' types, names apart -/
def bm_Cl (t : Nat) (C : String) (T : u_T) (N : Nat) : Prop :=
  t < 13 ∧ vwCl[t]? = some (C, T, N) ∧ (∀ w ∈ u_ws C T N, w ∈ bm_ALL) ∧ (∀ k, k < N → parseFieldDescriptor (T k).2.2.1 = some (bm_ty t k)) ∧ ∀ a, a < N → ∀ b, b < N → a ≠ b → (T a).2.1 ≠ (T b).2.1
theorem bm_ob {D : bm_D} {b0 : Nat} {w : bm_W} {H : Heap} {a t N : Nat} {C : String} {T : u_T} (hC : bm_Cl t C T N) (hH : bm_HR D b0 w H) (ha : bm_kt w a = t) : t_OB a (D.1.1 t) N (D.1.2 t) H (fun k => bm_fv (bm_fc (bm_ty t k)) w a k) := by
  obtain ⟨h1, h2, -⟩ := hC
  have h3 := (hH.2.2.2.1 a (by rw [ha]; omega)).2.2
  rw [ha] at h3
  unfold bm_cell at h3
  rw [if_pos h1] at h3
  obtain ⟨r, e1, e2⟩ := h3
  cases e1.symm.trans h2
  exact e2
/-- a field's link, own or a nest mate's -/
def bm_lk (own : String) (index : Nat) (ref n d : String) : Prop := Cond.fieldLink own index ref n d ∈ bm_ALL ∨ ∃ h : String, Cond.fieldLinkNest own index ref n d h ∈ bm_NW
theorem bm_getW {D : bm_D} {b0 mc ms d : Nat} {p : Program} {l : Launch} {e : Env} {R : Room} {s : State} {m : MethodId} {args : Array Value} {below : List Frame} {meth : Method} {c : Code} {H : Heap} {locs : List Loc} {cells slots : Nat} {Q : State → Prop} {ls : Array Slot} {rest : List Value} {w : bm_W} {a t N k index : Nat} {C : String} {T : u_T}
    (hCx : bm_Cx K D b0 mc ms d p l R s m args meth c cc nL own nm ret) (hC : bm_Cl t C T N) (hH : bm_HR D b0 w H) (ha : bm_kt w a = t) (hk : k < N) (hl : bm_lk own index (T k).1 (T k).2.1 (T k).2.2.1) (hdg : decode cc pc = .ok (.getfield index, 3))
    (kk : W p l e R s m args below meth c H locs cells slots Q (F0 m (pc + 3) ls (bm_fv (bm_fc (bm_ty t k)) w a k :: rest))) : W p l e R s m args below meth c H locs cells slots Q (F0 m pc ls (.ref a :: rest)) := by
  obtain ⟨hx, hb, -, hown, hts, hK, hST, -⟩ := hCx
  obtain ⟨cell, q1, q2, q3, q4⟩ := bm_ob hC hH ha
  obtain ⟨-, hc, hin, -⟩ := hC
  obtain ⟨hS, hfc, kC, hkC, hkind⟩ := hK.1 t _ hc
  obtain ⟨cf, kf, fi, f, hi, hsl⟩ := hS k hk
  have hst := (u_facts hfc hkC (u_lays hts hin hk) hi).1
  rcases hl with hl | ⟨h, hl⟩
  · exact W.getf hx hb hown (hts _ hl) hi hst q1 (by rw [q3]; exact fun h => by cases h) (by rw [hsl, q4 k hk]) rfl rfl hdg kk
  · exact va_Wgetf hx hb hown (va_Nw.use rfl (hST.2.2.2.2.2.2.2.2 _ hl)) hi hst q1 (by rw [q3]; exact fun h => by cases h) (by rw [hsl, q4 k hk]) rfl rfl hdg kk
def bm_gI (t k nx : Nat) : bm_L → List bm_V → bm_W → Option (Prop × bm_S) := fun lo st w => match st with
  | .inr (.inr (.inl (some a))) :: r => some (bm_kt w a = t, nx, lo, .inl (bm_gi w a k) :: r, w)
  | _ => none
def bm_gL (t k nx : Nat) : bm_L → List bm_V → bm_W → Option (Prop × bm_S) := fun lo st w => match st with
  | .inr (.inr (.inl (some a))) :: r => some (bm_kt w a = t, nx, lo, .inr (.inl (bm_gl w a k)) :: r, w)
  | _ => none
def bm_gN (t k nx : Nat) : bm_L → List bm_V → bm_W → Option (Prop × bm_S) := fun lo st w => match st with
  | .inr (.inr (.inl (some a))) :: r => some (bm_kt w a = t ∧ bm_gr w a k = some (bm_u (bm_gr w a k)), nx, lo, .inr (.inr (.inl (some (bm_u (bm_gr w a k))))) :: r, w)
  | _ => none
theorem bm_Gw.still {lo : bm_L} {st st' : List bm_V} {w : bm_W} {nx : Nat}
    (h : ∀ (D : bm_D) (b0 mc ms d : Nat) (p : Program) (l : Launch) (e : Env) (R : Room) (s : State) (m : MethodId) (args : Array Value) (below : List Frame) (meth : Method) (c : Code) (H : Heap) (locs : List Loc) (cells slots : Nat) (Q : State → Prop) (ls : Array Slot),
      bm_Cx K D b0 mc ms d p l R s m args meth c cc nL own nm ret → bm_InSt st → bm_HR D b0 w H → va_S (bm_A b0) s.heap H locs → ls.size = nL → bm_InSt st' ∧
      (W p l e R s m args below meth c H locs cells slots Q (F0 m nx ls (st'.map (bm_val D))) → W p l e R s m args below meth c H locs cells slots Q (F0 m pc ls (st.map (bm_val D))))) : bm_Gw K cc nL own nm ret pc lo st w (nx, lo, st', w) := by
  intro D b0 mc ms d p l e R s m args below meth c H locs w0 Q ls hCx hB hle g1 g2 g3 g4 g5 g6 k
  obtain ⟨h1, h2⟩ := h D b0 mc ms d p l e R s m args below meth c H locs _ _ Q ls hCx g3 g4 g5 g6.1
  exact h2 (k H locs ls g1 g2 h1 g4 g5 g6)
theorem bm_s_getI {t N k index : Nat} {C : String} {T : u_T} (nx : Nat) (hdg : decode cc pc = .ok (.getfield index, 3)) (hC : bm_Cl t C T N) (hk : k < N) (hl : bm_lk own index (T k).1 (T k).2.1 (T k).2.2.1) (hty : bm_fc (bm_ty t k) = 0) (hn : nx = pc + 3 := by rfl) : bm_Sn K pg mi cc nL own nm ret pc (bm_G (bm_gI t k nx)) := by
  subst hn
  refine bm_Sn.heapG (fun lo st w g u he hg => ?_)
  unfold bm_gI at he
  split at he
  · rename_i a r
    cases he
    refine ⟨bm_le.rf, bm_Gw.still (fun D b0 mc ms d p l e R s m args below meth c H locs cells slots Q ls hCx h3 hH hS hz => ⟨bm_InSt.cons (hH.2.1 a k).1 h3.tl, fun kk => ?_⟩)⟩
    refine bm_getW hCx hC hH hg hk hl hdg ?_
    rw [hty]; exact kk
  · cases he
theorem bm_s_getL {t N k index : Nat} {C : String} {T : u_T} (nx : Nat) (hdg : decode cc pc = .ok (.getfield index, 3)) (hC : bm_Cl t C T N) (hk : k < N) (hl : bm_lk own index (T k).1 (T k).2.1 (T k).2.2.1) (hty : bm_fc (bm_ty t k) = 1) (hn : nx = pc + 3 := by rfl) : bm_Sn K pg mi cc nL own nm ret pc (bm_G (bm_gL t k nx)) := by
  subst hn
  refine bm_Sn.heapG (fun lo st w g u he hg => ?_)
  unfold bm_gL at he
  split at he
  · rename_i a r
    cases he
    refine ⟨bm_le.rf, bm_Gw.still (fun D b0 mc ms d p l e R s m args below meth c H locs cells slots Q ls hCx h3 hH hS hz => ⟨bm_InSt.cons (hH.2.1 a k).2 h3.tl, fun kk => ?_⟩)⟩
    refine bm_getW hCx hC hH hg hk hl hdg ?_
    rw [hty]; exact kk
  · cases he
theorem bm_s_getN {t N k index : Nat} {C : String} {T : u_T} (nx : Nat) (hdg : decode cc pc = .ok (.getfield index, 3)) (hC : bm_Cl t C T N) (hk : k < N) (hl : bm_lk own index (T k).1 (T k).2.1 (T k).2.2.1) (hty : bm_fc (bm_ty t k) = 2) (hn : nx = pc + 3 := by rfl) : bm_Sn K pg mi cc nL own nm ret pc (bm_G (bm_gN t k nx)) := by
  subst hn
  refine bm_Sn.heapG (fun lo st w g u he hg => ?_)
  unfold bm_gN at he
  split at he
  · rename_i a r
    cases he
    refine ⟨bm_le.rf, bm_Gw.still (fun D b0 mc ms d p l e R s m args below meth c H locs cells slots Q ls hCx h3 hH hS hz => ⟨bm_InSt.cons trivial h3.tl, fun kk => ?_⟩)⟩
    refine bm_getW hCx hC hH hg.1 hk hl hdg ?_
    rw [hty]
    show W p l e R s m args below meth c H locs cells slots Q (F0 m (pc + 3) ls (va_rf (bm_gr w a k) :: _))
    rw [hg.2]; exact kk
  · cases he
/-! writing a field -/
theorem bm_putW {D : bm_D} {b0 mc ms d : Nat} {p : Program} {l : Launch} {e : Env} {R : Room} {s : State} {m : MethodId} {args : Array Value} {below : List Frame} {meth : Method} {c : Code} {H : Heap} {locs : List Loc} {cells slots : Nat} {Q : State → Prop} {ls : Array Slot} {rest : List Value} {w w' : bm_W} {a t N k index : Nat} {C : String} {T : u_T} {v : Value}
    (hCx : bm_Cx K D b0 mc ms d p l R s m args meth c cc nL own nm ret) (hC : bm_Cl t C T N) (hH : bm_HR D b0 w H) (hSv : va_S (bm_A b0) s.heap H locs) (ha : bm_kt w a = t) (hk : k < N) (hl : bm_lk own index (T k).1 (T k).2.1 (T k).2.2.1) (hfin : (T k).2.2.2 = false ∨ ((T k).2.2.2 = true ∧ nm = "<init>" ∧ (T k).1 = own ∧ Cond.fieldLink own index (T k).1 (T k).2.1 (T k).2.2.1 ∈ bm_ALL)) (hdg : decode cc pc = .ok (.putfield index, 3))
    (hn : narrow (bm_ty t k) v = v) (hfit : fits (bm_ty t k) v = true)
    (h1 : bm_kt w' = bm_kt w) (h2 : bm_kn w' = bm_kn w) (h3 : bm_sz w' = bm_sz w) (hr : ∀ b j, bm_InI (bm_gi w' b j) ∧ bm_InL (bm_gl w' b j)) (hs : ∀ b j, ¬ (b = a ∧ j = k) → bm_gi w' b j = bm_gi w b j ∧ bm_gl w' b j = bm_gl w b j ∧ bm_gr w' b j = bm_gr w b j) (hv : bm_fv (bm_fc (bm_ty t k)) w' a k = v)
    (kk : ∀ (H1 : Heap) (locs1 : List Loc), bm_HR D b0 w' H1 → va_S (bm_A b0) s.heap H1 locs1 → W p l e R s m args below meth c H1 locs1 cells slots Q (F0 m (pc + 3) ls rest)) : W p l e R s m args below meth c H locs cells slots Q (F0 m pc ls (v :: .ref a :: rest)) := by
  obtain ⟨hx, hb, -, hown, hts, hK, hST, -, -, -, -, -, -, -, -, -, hmn⟩ := hCx
  have hba : b0 ≤ a := (hH.2.2.2.1 a (by rw [ha]; exact Nat.lt_trans hC.1 (by omega))).1
  have hOB := bm_ob hC hH ha
  obtain ⟨cell, q1, q2, q3, q4⟩ := hOB
  obtain ⟨ht13, hc, hin, hty, hnm⟩ := hC
  have hap := va_apart (D := D.1) (own := own) hts hin (bm_ty t) hty hnm hK hc
  obtain ⟨hS, hfc, kC, hkC, hkind⟩ := hK.1 t _ hc
  obtain ⟨cf, kf, fi, f, hi, hsl⟩ := hS k hk
  have hst := (u_facts hfc hkC (u_lays hts hin hk) hi).1
  have fin : ∀ (H1 : Heap), H1[a]? = some (cell.setSlot (D.1.2 t k) v) → H1.size = H.size → (∀ q : Nat, q ≠ a → H1[q]? = H[q]?) → W p l e R s m args below meth c H1 (locs ++ [⟨a, D.1.2 t k⟩]) cells slots Q (F0 m (pc + 3) ls rest) := by
    intro H1 e1 e2 e3
    refine kk H1 _ (hH.put h1 h2 h3 hr ?_ e2 e3 (fun b hb2 j => hs b j (fun z => hb2 z.1))) (hSv.put e2 e3 hba)
    rw [ha]
    unfold bm_cell
    rw [if_pos ht13]
    refine ⟨_, hc, t_OB.to (V := updV (fun j => bm_fv (bm_fc (bm_ty t j)) w a j) k v) ⟨_, e1, q2, q3, t_set q4 hap hk v⟩ (fun j _ => ?_)⟩
    unfold updV
    by_cases hjk : j = k
    · rw [if_pos hjk, hjk]; exact hv.symm
    · rw [if_neg hjk]
      obtain ⟨g1, g2, g3⟩ := hs a j (fun z => hjk z.2)
      show bm_fv (bm_fc (bm_ty t j)) w a j = bm_fv (bm_fc (bm_ty t j)) w' a j
      generalize bm_fc (bm_ty t j) = cd
      match cd with
      | 0 => show Value.int _ = Value.int _; rw [g1]
      | 1 => show Value.long _ = Value.long _; rw [g2]
      | 2 => show va_rf _ = va_rf _; rw [g3]
      | _ + 3 => show Value.double _ = Value.double _; rw [g2]
  have hlay := hts _ (hin _ (u_in_lay hk))
  rcases hfin with hfin | ⟨hfin, hini, hdecl, hl2⟩
  · unfold u_lay at hlay
    rw [if_neg (by rw [hfin]; decide)] at hlay
    have h6 := u_store hfc hkC hkind hlay hi (hty k hk) hn hfit
    rcases hl with hl | ⟨h, hl⟩
    · refine W.putK hx hb (f := f) ⟨hown, hts _ hl, ⟨_, _, _, hi⟩, hst⟩ (by rw [q2]; exact h6) q1 q3 (by rw [hsl]; exact k2_hasslot (q4 k hk)) rfl rfl hdg fun H' e1 e2 e3 => ?_
      rw [hsl] at e1 ⊢
      exact fin H' e1 e2 e3
    · refine va_WputK hx hb hown (va_Nw.use rfl (hST.2.2.2.2.2.2.2.2 _ hl)) hi hst (by rw [q2]; exact h6) q1 q3 (by rw [hsl]; exact k2_hasslot (q4 k hk)) rfl rfl hdg fun H' e1 e2 e3 => ?_
      rw [hsl] at e1 ⊢
      exact fin H' e1 e2 e3
  · unfold u_lay at hlay
    rw [if_pos hfin] at hlay
    have hcf : m.cls = cf := by
      obtain ⟨_, _, c', _, _, _, -, -, hf', -, -, -, hown2, -⟩ := Cond.laysFinal_spec hlay
      have e1 : c' = cf := by have := hi.symm.trans hf'; simp at this; exact this.1.symm
      rw [hdecl] at hown2
      rw [← e1]; exact Option.some.inj (hown.symm.trans hown2)
    have h6 := u_fits hfc hkC hkind (Or.inr hlay) hi (hty k hk) hn hfit
    refine W.putFinK hx hb hown (hts _ hl2) hi hst hcf (hmn.trans hini) (by rw [q2]; exact h6) q1 q3 (by rw [hsl]; exact k2_hasslot (q4 k hk)) rfl rfl hdg fun H' e1 e2 e3 => ?_
    rw [hsl] at e1 ⊢
    exact fin H' e1 e2 e3
def bm_pI (t k nx : Nat) : bm_L → List bm_V → bm_W → Option (Prop × bm_S) := fun lo st w => match st with
  | .inl x :: .inr (.inr (.inl (some a))) :: r => some (bm_kt w a = t, nx, lo, r, bm_si w a k x)
  | _ => none
def bm_pZ (t k nx : Nat) : bm_L → List bm_V → bm_W → Option (Prop × bm_S) := fun lo st w => match st with
  | .inl x :: .inr (.inr (.inl (some a))) :: r => some (bm_kt w a = t ∧ (x = 0 ∨ x = 1), nx, lo, r, bm_si w a k x)
  | _ => none
def bm_pL (t k nx : Nat) : bm_L → List bm_V → bm_W → Option (Prop × bm_S) := fun lo st w => match st with
  | .inr (.inl x) :: .inr (.inr (.inl (some a))) :: r => some (bm_kt w a = t, nx, lo, r, bm_sq w a k x)
  | _ => none
def bm_pR (t k nx : Nat) : bm_L → List bm_V → bm_W → Option (Prop × bm_S) := fun lo st w => match st with
  | .inr (.inr (.inl x)) :: .inr (.inr (.inl (some a))) :: r => some (bm_kt w a = t, nx, lo, r, bm_sr w a k x)
  | _ => none
/-- whether a field may be written here -/
def bm_fin (own nm : String) (index : Nat) (q : String × String × String × Bool) : Prop := q.2.2.2 = false ∨ (q.2.2.2 = true ∧ nm = "<init>" ∧ q.1 = own ∧ Cond.fieldLink own index q.1 q.2.1 q.2.2.1 ∈ bm_ALL)
theorem bm_range_si {w : bm_W} {a k : Nat} {x : Int} (h : ∀ b j, bm_InI (bm_gi w b j) ∧ bm_InL (bm_gl w b j)) (hx : bm_InI x) : ∀ b j, bm_InI (bm_gi (bm_si w a k x) b j) ∧ bm_InL (bm_gl (bm_si w a k x) b j) := by
  intro b j
  refine ⟨?_, (h b j).2⟩
  rw [bm_si_gi]
  split
  · exact hx
  · exact (h b j).1
theorem bm_range_sq {w : bm_W} {a k : Nat} {x : Int} (h : ∀ b j, bm_InI (bm_gi w b j) ∧ bm_InL (bm_gl w b j)) (hx : bm_InL x) : ∀ b j, bm_InI (bm_gi (bm_sq w a k x) b j) ∧ bm_InL (bm_gl (bm_sq w a k x) b j) := by
  intro b j
  refine ⟨(h b j).1, ?_⟩
  rw [bm_sq_gl]
  split
  · exact hx
  · exact (h b j).2
theorem bm_ofB {x : Int} (h : x = 0 ∨ x = 1) : narrow .boolean (.int (Int32.ofInt x)) = .int (Int32.ofInt x) ∧ fits .boolean (.int (Int32.ofInt x)) = true := by
  rcases h with rfl | rfl <;> exact ⟨by decide, by decide⟩
theorem bm_s_putI {t N k index : Nat} {C : String} {T : u_T} (nx : Nat) (hdg : decode cc pc = .ok (.putfield index, 3)) (hC : bm_Cl t C T N) (hk : k < N) (hl : bm_lk own index (T k).1 (T k).2.1 (T k).2.2.1) (hf : bm_fin own nm index (T k)) (hty : bm_ty t k = .int) (hn : nx = pc + 3 := by rfl) : bm_Sn K pg mi cc nL own nm ret pc (bm_G (bm_pI t k nx)) := by
  subst hn
  refine bm_Sn.heapG (fun lo st w g u he hg => ?_)
  unfold bm_pI at he
  split at he
  · rename_i x a r
    cases he
    refine ⟨⟨Nat.le_refl _, Nat.le_refl _⟩, fun D b0 mc ms d p l e R s m args below meth c H locs w0 Q ls hCx hB hle g1 g2 g3 g4 g5 g6 kk => ?_⟩
    refine bm_putW hCx hC g4 g5 hg hk hl hf hdg (by rw [hty]; rfl) (by rw [hty]; rfl) (bm_si_kt w a k x) (bm_si_kn w a k x) (bm_si_sz w a k x) (bm_range_si g4.2.1 g3.hd) (fun b j hbj => ⟨by rw [bm_si_gi, if_neg hbj], rfl, rfl⟩) (by rw [hty]; show Value.int (Int32.ofInt (bm_gi (bm_si w a k x) a k)) = _; rw [bm_si_gi, if_pos ⟨rfl, rfl⟩]; rfl) (fun H1 locs1 i4 i5 => ?_)
    exact kk H1 locs1 ls g1 g2 g3.tl.tl i4 i5 g6
  · cases he
theorem bm_s_putZ {t N k index : Nat} {C : String} {T : u_T} (nx : Nat) (hdg : decode cc pc = .ok (.putfield index, 3)) (hC : bm_Cl t C T N) (hk : k < N) (hl : bm_lk own index (T k).1 (T k).2.1 (T k).2.2.1) (hf : bm_fin own nm index (T k)) (hty : bm_ty t k = .boolean) (hn : nx = pc + 3 := by rfl) : bm_Sn K pg mi cc nL own nm ret pc (bm_G (bm_pZ t k nx)) := by
  subst hn
  refine bm_Sn.heapG (fun lo st w g u he hg => ?_)
  unfold bm_pZ at he
  split at he
  · rename_i x a r
    cases he
    refine ⟨⟨Nat.le_refl _, Nat.le_refl _⟩, fun D b0 mc ms d p l e R s m args below meth c H locs w0 Q ls hCx hB hle g1 g2 g3 g4 g5 g6 kk => ?_⟩
    refine bm_putW hCx hC g4 g5 hg.1 hk hl hf hdg (by rw [hty]; exact (bm_ofB hg.2).1) (by rw [hty]; exact (bm_ofB hg.2).2) (bm_si_kt w a k x) (bm_si_kn w a k x) (bm_si_sz w a k x) (bm_range_si g4.2.1 g3.hd) (fun b j hbj => ⟨by rw [bm_si_gi, if_neg hbj], rfl, rfl⟩) (by rw [hty]; show Value.int (Int32.ofInt (bm_gi (bm_si w a k x) a k)) = _; rw [bm_si_gi, if_pos ⟨rfl, rfl⟩]; rfl) (fun H1 locs1 i4 i5 => ?_)
    exact kk H1 locs1 ls g1 g2 g3.tl.tl i4 i5 g6
  · cases he
theorem bm_s_putL {t N k index : Nat} {C : String} {T : u_T} (nx : Nat) (hdg : decode cc pc = .ok (.putfield index, 3)) (hC : bm_Cl t C T N) (hk : k < N) (hl : bm_lk own index (T k).1 (T k).2.1 (T k).2.2.1) (hf : bm_fin own nm index (T k)) (hty : bm_ty t k = .long) (hn : nx = pc + 3 := by rfl) : bm_Sn K pg mi cc nL own nm ret pc (bm_G (bm_pL t k nx)) := by
  subst hn
  refine bm_Sn.heapG (fun lo st w g u he hg => ?_)
  unfold bm_pL at he
  split at he
  · rename_i x a r
    cases he
    refine ⟨⟨Nat.le_refl _, Nat.le_refl _⟩, fun D b0 mc ms d p l e R s m args below meth c H locs w0 Q ls hCx hB hle g1 g2 g3 g4 g5 g6 kk => ?_⟩
    refine bm_putW hCx hC g4 g5 hg hk hl hf hdg (by rw [hty]; rfl) (by rw [hty]; rfl) (bm_sq_kt w a k x) (bm_sq_kn w a k x) (bm_sq_sz w a k x) (bm_range_sq g4.2.1 g3.hd) (fun b j hbj => ⟨rfl, by rw [bm_sq_gl, if_neg hbj], rfl⟩) (by rw [hty]; show Value.long (Int64.ofInt (bm_gl (bm_sq w a k x) a k)) = _; rw [bm_sq_gl, if_pos ⟨rfl, rfl⟩]; rfl) (fun H1 locs1 i4 i5 => ?_)
    exact kk H1 locs1 ls g1 g2 g3.tl.tl i4 i5 g6
  · cases he
theorem bm_ofR {ty : FieldType} (h : bm_fc ty = 2) (r : Option Nat) : narrow ty (va_rf r) = va_rf r ∧ fits ty (va_rf r) = true := by
  cases ty <;> first | (exact absurd h (by decide)) | (cases r <;> exact ⟨rfl, rfl⟩)
theorem bm_s_putR {t N k index : Nat} {C : String} {T : u_T} (nx : Nat) (hdg : decode cc pc = .ok (.putfield index, 3)) (hC : bm_Cl t C T N) (hk : k < N) (hl : bm_lk own index (T k).1 (T k).2.1 (T k).2.2.1) (hf : bm_fin own nm index (T k)) (hty : bm_fc (bm_ty t k) = 2) (hn : nx = pc + 3 := by rfl) : bm_Sn K pg mi cc nL own nm ret pc (bm_G (bm_pR t k nx)) := by
  subst hn
  refine bm_Sn.heapG (fun lo st w g u he hg => ?_)
  unfold bm_pR at he
  split at he
  · rename_i x a r
    cases he
    refine ⟨⟨Nat.le_refl _, Nat.le_refl _⟩, fun D b0 mc ms d p l e R s m args below meth c H locs w0 Q ls hCx hB hle g1 g2 g3 g4 g5 g6 kk => ?_⟩
    refine bm_putW hCx hC g4 g5 hg hk hl hf hdg (bm_ofR hty x).1 (bm_ofR hty x).2 (bm_sr_kt w a k x) (bm_sr_kn w a k x) (bm_sr_sz w a k x) g4.2.1 (fun b j hbj => ⟨rfl, rfl, by rw [bm_sr_gr, if_neg hbj]⟩) (by rw [hty]; show va_rf (bm_gr (bm_sr w a k x) a k) = _; rw [bm_sr_gr, if_pos ⟨rfl, rfl⟩]; rfl) (fun H1 locs1 i4 i5 => ?_)
    exact kk H1 locs1 ls g1 g2 g3.tl.tl i4 i5 g6
  · cases he
end BMH
end
section
/-! ===== rows over arrays; what is made ===== -/
section BMA
variable {K : bm_K} {pg : bm_Pg} {mi : bm_Mi} {cc : ByteArray} {nL : Nat} {own nm : String} {ret : Option FieldType} {pc : Nat}
def bm_in (i : Int) (n : Nat) : Prop := 0 ≤ i ∧ i < n
theorem bm_ix {i : Int} {n : Nat} (hi : bm_InI i) (h : bm_in i n) : ¬ (Int32.ofInt i < 0 ∨ n ≤ (Int32.ofInt i).toNatClampNeg) ∧ (Int32.ofInt i).toNatClampNeg = i.toNat ∧ i.toNat < n := by
  have e : (Int32.ofInt i).toNatClampNeg = i.toNat := Int32.toNatClampNeg_ofInt_of_le (by have := hi.1; omega) (by have := hi.2; omega)
  have h2 : i.toNat < n := by have := h.1; have := h.2; omega
  refine ⟨fun q => ?_, e, h2⟩
  rcases q with q | q
  · have q2 := (bm_ltI hi bm_In0).mp q
    have := h.1; omega
  · rw [e] at q; omega
theorem bm_arr {D : bm_D} {b0 : Nat} {w : bm_W} {H : Heap} {a t : Nat} (hH : bm_HR D b0 w H) (ha : bm_kt w a = t) (h13 : 20 ≤ t) (h27 : t < 27) : H[a]? = some (arrV (D.2.1 t) (bm_kn w a) (fun j => bm_fv (bm_ec t) w a j)) ∧ b0 ≤ a := by
  have h3 := hH.2.2.2.1 a (by rw [ha]; omega)
  refine ⟨?_, h3.1⟩
  have h4 := h3.2.2
  rw [ha] at h4
  unfold bm_cell at h4
  rw [if_neg (by omega)] at h4
  exact h4
def bm_aI (t nx : Nat) : bm_L → List bm_V → bm_W → Option (Prop × bm_S) := fun lo st w => match st with
  | .inl i :: .inr (.inr (.inl (some a))) :: r => some (bm_kt w a = t ∧ bm_in i (bm_kn w a), nx, lo, .inl (bm_gi w a i.toNat) :: r, w)
  | _ => none
def bm_aL (t nx : Nat) : bm_L → List bm_V → bm_W → Option (Prop × bm_S) := fun lo st w => match st with
  | .inl i :: .inr (.inr (.inl (some a))) :: r => some (bm_kt w a = t ∧ bm_in i (bm_kn w a), nx, lo, .inr (.inl (bm_gl w a i.toNat)) :: r, w)
  | _ => none
def bm_aR (t nx : Nat) : bm_L → List bm_V → bm_W → Option (Prop × bm_S) := fun lo st w => match st with
  | .inl i :: .inr (.inr (.inl (some a))) :: r => some (bm_kt w a = t ∧ bm_in i (bm_kn w a), nx, lo, .inr (.inr (.inl (bm_gr w a i.toNat))) :: r, w)
  | _ => none
def bm_aN (nx : Nat) : bm_L → List bm_V → bm_W → Option (Prop × bm_S) := fun lo st w => match st with
  | .inr (.inr (.inl (some a))) :: r => some (20 ≤ bm_kt w a ∧ bm_kt w a < 27, nx, lo, .inl (bm_kn w a : Nat) :: r, w)
  | _ => none
-- BEGIN laid by program
theorem bm_s_iaload (nx : Nat) (hdg : decode cc pc = .ok (.iaload, 1)) (hn : nx = pc + 1 := by rfl) : bm_Sn K pg mi cc nL own nm ret pc (bm_G (bm_aI 21 nx)) := by
  subst hn
  refine bm_Sn.heapG (fun lo st w g u he hg => ?_)
  unfold bm_aI at he
  split at he
  · rename_i i a r
    cases he
    refine ⟨bm_le.rf, bm_Gw.still (fun D b0 mc ms d p l e R s m args below meth c H locs cells slots Q ls hCx h3 hH hS hz => ⟨bm_InSt.cons ((hH.2.1 a i.toNat).1) h3.tl.tl, fun kk => ?_⟩)⟩
    obtain ⟨hx, hb, -, -, -, hK, -⟩ := hCx
    obtain ⟨h1, h2⟩ := hg
    obtain ⟨q1, q2, q3⟩ := bm_ix h3.hd h2
    obtain ⟨e1, -⟩ := bm_arr hH h1 (by omega) (by omega)
    have hA := (hK.2 _ _ (bm_tys_at D (t := 21) (by omega) (by omega))).1 (bm_kn w a) (fun j => bm_fv (bm_ec 21) w a j)
    refine W.iald (v := .int (Int32.ofInt (bm_gi w a i.toNat))) hx hb e1 hA (fun q => by cases q) (by rw [arrV_size]; exact q1) (by rw [q2, arrV_read _ _ q3]; rfl) rfl rfl hdg kk
  · cases he
theorem bm_s_baload (nx : Nat) (hdg : decode cc pc = .ok (.baload, 1)) (hn : nx = pc + 1 := by rfl) : bm_Sn K pg mi cc nL own nm ret pc (bm_G (bm_aI 20 nx)) := by
  subst hn
  refine bm_Sn.heapG (fun lo st w g u he hg => ?_)
  unfold bm_aI at he
  split at he
  · rename_i i a r
    cases he
    refine ⟨bm_le.rf, bm_Gw.still (fun D b0 mc ms d p l e R s m args below meth c H locs cells slots Q ls hCx h3 hH hS hz => ⟨bm_InSt.cons ((hH.2.1 a i.toNat).1) h3.tl.tl, fun kk => ?_⟩)⟩
    obtain ⟨hx, hb, -, -, -, hK, -⟩ := hCx
    obtain ⟨h1, h2⟩ := hg
    obtain ⟨q1, q2, q3⟩ := bm_ix h3.hd h2
    obtain ⟨e1, -⟩ := bm_arr hH h1 (by omega) (by omega)
    have hA := (hK.2 _ _ (bm_tys_at D (t := 20) (by omega) (by omega))).1 (bm_kn w a) (fun j => bm_fv (bm_ec 20) w a j)
    refine W.bald (v := .int (Int32.ofInt (bm_gi w a i.toNat))) hx hb e1 hA (fun q => by cases q) (by rw [arrV_size]; exact q1) (by rw [q2, arrV_read _ _ q3]; rfl) rfl rfl hdg kk
  · cases he
theorem bm_s_zaload (nx : Nat) (hdg : decode cc pc = .ok (.baload, 1)) (hn : nx = pc + 1 := by rfl) : bm_Sn K pg mi cc nL own nm ret pc (bm_G (bm_aI 23 nx)) := by
  subst hn
  refine bm_Sn.heapG (fun lo st w g u he hg => ?_)
  unfold bm_aI at he
  split at he
  · rename_i i a r
    cases he
    refine ⟨bm_le.rf, bm_Gw.still (fun D b0 mc ms d p l e R s m args below meth c H locs cells slots Q ls hCx h3 hH hS hz => ⟨bm_InSt.cons ((hH.2.1 a i.toNat).1) h3.tl.tl, fun kk => ?_⟩)⟩
    obtain ⟨hx, hb, -, -, -, hK, -⟩ := hCx
    obtain ⟨h1, h2⟩ := hg
    obtain ⟨q1, q2, q3⟩ := bm_ix h3.hd h2
    obtain ⟨e1, -⟩ := bm_arr hH h1 (by omega) (by omega)
    have hA := (hK.2 _ _ (bm_tys_at D (t := 23) (by omega) (by omega))).1 (bm_kn w a) (fun j => bm_fv (bm_ec 23) w a j)
    refine W.zald (v := .int (Int32.ofInt (bm_gi w a i.toNat))) hx hb e1 hA (fun q => by cases q) (by rw [arrV_size]; exact q1) (by rw [q2, arrV_read _ _ q3]; rfl) rfl rfl hdg kk
  · cases he
theorem bm_s_laload (nx : Nat) (hdg : decode cc pc = .ok (.laload, 1)) (hn : nx = pc + 1 := by rfl) : bm_Sn K pg mi cc nL own nm ret pc (bm_G (bm_aL 22 nx)) := by
  subst hn
  refine bm_Sn.heapG (fun lo st w g u he hg => ?_)
  unfold bm_aL at he
  split at he
  · rename_i i a r
    cases he
    refine ⟨bm_le.rf, bm_Gw.still (fun D b0 mc ms d p l e R s m args below meth c H locs cells slots Q ls hCx h3 hH hS hz => ⟨bm_InSt.cons ((hH.2.1 a i.toNat).2) h3.tl.tl, fun kk => ?_⟩)⟩
    obtain ⟨hx, hb, -, -, -, hK, -⟩ := hCx
    obtain ⟨h1, h2⟩ := hg
    obtain ⟨q1, q2, q3⟩ := bm_ix h3.hd h2
    obtain ⟨e1, -⟩ := bm_arr hH h1 (by omega) (by omega)
    have hA := (hK.2 _ _ (bm_tys_at D (t := 22) (by omega) (by omega))).1 (bm_kn w a) (fun j => bm_fv (bm_ec 22) w a j)
    refine W.lald (v := .long (Int64.ofInt (bm_gl w a i.toNat))) hx hb e1 hA (fun q => by cases q) (by rw [arrV_size]; exact q1) (by rw [q2, arrV_read _ _ q3]; rfl) rfl rfl hdg kk
  · cases he
theorem bm_s_aaload24 (nx : Nat) (hdg : decode cc pc = .ok (.aaload, 1)) (hn : nx = pc + 1 := by rfl) : bm_Sn K pg mi cc nL own nm ret pc (bm_G (bm_aR 24 nx)) := by
  subst hn
  refine bm_Sn.heapG (fun lo st w g u he hg => ?_)
  unfold bm_aR at he
  split at he
  · rename_i i a r
    cases he
    refine ⟨bm_le.rf, bm_Gw.still (fun D b0 mc ms d p l e R s m args below meth c H locs cells slots Q ls hCx h3 hH hS hz => ⟨bm_InSt.cons (trivial) h3.tl.tl, fun kk => ?_⟩)⟩
    obtain ⟨hx, hb, -, -, -, hK, -⟩ := hCx
    obtain ⟨h1, h2⟩ := hg
    obtain ⟨q1, q2, q3⟩ := bm_ix h3.hd h2
    obtain ⟨e1, -⟩ := bm_arr hH h1 (by omega) (by omega)
    have hA := (hK.2 _ _ (bm_tys_at D (t := 24) (by omega) (by omega))).1 (bm_kn w a) (fun j => bm_fv (bm_ec 24) w a j)
    refine W.aald (v := va_rf (bm_gr w a i.toNat)) hx hb e1 hA rfl (fun q => by cases q) (by rw [arrV_size]; exact q1) (by rw [q2, arrV_read _ _ q3]; rfl) rfl rfl hdg kk
  · cases he
theorem bm_s_aaload25 (nx : Nat) (hdg : decode cc pc = .ok (.aaload, 1)) (hn : nx = pc + 1 := by rfl) : bm_Sn K pg mi cc nL own nm ret pc (bm_G (bm_aR 25 nx)) := by
  subst hn
  refine bm_Sn.heapG (fun lo st w g u he hg => ?_)
  unfold bm_aR at he
  split at he
  · rename_i i a r
    cases he
    refine ⟨bm_le.rf, bm_Gw.still (fun D b0 mc ms d p l e R s m args below meth c H locs cells slots Q ls hCx h3 hH hS hz => ⟨bm_InSt.cons (trivial) h3.tl.tl, fun kk => ?_⟩)⟩
    obtain ⟨hx, hb, -, -, -, hK, -⟩ := hCx
    obtain ⟨h1, h2⟩ := hg
    obtain ⟨q1, q2, q3⟩ := bm_ix h3.hd h2
    obtain ⟨e1, -⟩ := bm_arr hH h1 (by omega) (by omega)
    have hA := (hK.2 _ _ (bm_tys_at D (t := 25) (by omega) (by omega))).1 (bm_kn w a) (fun j => bm_fv (bm_ec 25) w a j)
    refine W.aald (v := va_rf (bm_gr w a i.toNat)) hx hb e1 hA rfl (fun q => by cases q) (by rw [arrV_size]; exact q1) (by rw [q2, arrV_read _ _ q3]; rfl) rfl rfl hdg kk
  · cases he
theorem bm_s_aaload26 (nx : Nat) (hdg : decode cc pc = .ok (.aaload, 1)) (hn : nx = pc + 1 := by rfl) : bm_Sn K pg mi cc nL own nm ret pc (bm_G (bm_aR 26 nx)) := by
  subst hn
  refine bm_Sn.heapG (fun lo st w g u he hg => ?_)
  unfold bm_aR at he
  split at he
  · rename_i i a r
    cases he
    refine ⟨bm_le.rf, bm_Gw.still (fun D b0 mc ms d p l e R s m args below meth c H locs cells slots Q ls hCx h3 hH hS hz => ⟨bm_InSt.cons (trivial) h3.tl.tl, fun kk => ?_⟩)⟩
    obtain ⟨hx, hb, -, -, -, hK, -⟩ := hCx
    obtain ⟨h1, h2⟩ := hg
    obtain ⟨q1, q2, q3⟩ := bm_ix h3.hd h2
    obtain ⟨e1, -⟩ := bm_arr hH h1 (by omega) (by omega)
    have hA := (hK.2 _ _ (bm_tys_at D (t := 26) (by omega) (by omega))).1 (bm_kn w a) (fun j => bm_fv (bm_ec 26) w a j)
    refine W.aald (v := va_rf (bm_gr w a i.toNat)) hx hb e1 hA rfl (fun q => by cases q) (by rw [arrV_size]; exact q1) (by rw [q2, arrV_read _ _ q3]; rfl) rfl rfl hdg kk
  · cases he
theorem bm_s_alen (nx : Nat) (hdg : decode cc pc = .ok (.arraylength, 1)) (hn : nx = pc + 1 := by rfl) : bm_Sn K pg mi cc nL own nm ret pc (bm_G (bm_aN nx)) := by
  subst hn
  refine bm_Sn.heapG (fun lo st w g u he hg => ?_)
  unfold bm_aN at he
  split at he
  · rename_i a r
    cases he
    refine ⟨bm_le.rf, bm_Gw.still (fun D b0 mc ms d p l e R s m args below meth c H locs cells slots Q ls hCx h3 hH hS hz => ⟨bm_InSt.cons (by have := hH.2.2.1 a; show bm_InI _; unfold bm_InI; omega) h3.tl, fun kk => ?_⟩)⟩
    obtain ⟨hx, hb, -, -, -, hK, -⟩ := hCx
    obtain ⟨e1, -⟩ := bm_arr hH rfl hg.1 hg.2
    have hA := (hK.2 _ _ (bm_tys_at D hg.1 hg.2)).1 (bm_kn w a) (fun j => bm_fv (bm_ec (bm_kt w a)) w a j)
    exact W.alen (n := Int32.ofInt (bm_kn w a : Nat)) hx hb e1 hA (by rw [arrV_size, Int32.ofInt_eq_ofNat]) rfl rfl hdg kk
  · cases he
def bm_xI (t nx : Nat) : bm_L → List bm_V → bm_W → Option (Prop × bm_S) := fun lo st w => match st with
  | .inl x :: .inl i :: .inr (.inr (.inl (some a))) :: r => some ((bm_kt w a = t ∧ bm_in i (bm_kn w a)), nx, lo, r, bm_si w a i.toNat x)
  | _ => none
theorem bm_s_iastore (nx : Nat) (hdg : decode cc pc = .ok (.iastore, 1)) (hn : nx = pc + 1 := by rfl) : bm_Sn K pg mi cc nL own nm ret pc (bm_G (bm_xI 21 nx)) := by
  subst hn
  refine bm_Sn.heapG (fun lo st w g u he hg => ?_)
  unfold bm_xI at he
  split at he
  · rename_i x i a r
    cases he
    refine ⟨⟨Nat.le_refl _, Nat.le_refl _⟩, fun D b0 mc ms d p l e R s m args below meth c H locs w0 Q ls hCx hB hle g1 g2 g3 g4 g5 g6 kk => ?_⟩
    obtain ⟨hx, hb, -, -, -, hK, -⟩ := hCx
    have hg0 : bm_kt w a = 21 ∧ bm_in i (bm_kn w a) := hg
    obtain ⟨h1, h2⟩ := hg0
    obtain ⟨q1, q2, q3⟩ := bm_ix g3.tl.hd h2
    obtain ⟨e1, hba⟩ := bm_arr g4 h1 (by omega) (by omega)
    have hA := (hK.2 _ _ (bm_tys_at D (t := 21) (by omega) (by omega))).1 (bm_kn w a) (fun j => bm_fv (bm_ec 21) w a j)
    refine W.iast hx hb e1 hA (fun q => by cases q) (by rw [arrV_size]; exact q1) rfl rfl hdg fun H1 e z oq => ?_
    refine kk H1 _ ls g1 g2 g3.tl.tl.tl (g4.put (a := a) (bm_si_kt w a i.toNat (x)) (bm_si_kn w a i.toNat (x)) (bm_si_sz w a i.toNat (x)) (bm_range_si g4.2.1 g3.hd) ?_ z oq (fun b hb2 k => ⟨by rw [bm_si_gi, if_neg (fun q => hb2 q.1)], rfl, rfl⟩)) (g5.put z oq hba) g6
    rw [h1]
    unfold bm_cell
    rw [if_neg (by omega), e, q2, arrV_store]
    congr 2
    funext j
    unfold updV
    by_cases hj : j = i.toNat
    · rw [if_pos hj, hj]
      show _ = Value.int _
      rw [bm_si_gi, if_pos ⟨rfl, rfl⟩]
    · rw [if_neg hj]
      show Value.int _ = Value.int _
      rw [bm_si_gi, if_neg (fun q => hj q.2)]
  · cases he
def bm_xB (t nx : Nat) : bm_L → List bm_V → bm_W → Option (Prop × bm_S) := fun lo st w => match st with
  | .inl x :: .inl i :: .inr (.inr (.inl (some a))) :: r => some ((bm_kt w a = t ∧ bm_in i (bm_kn w a)), nx, lo, r, bm_si w a i.toNat ((Int32.ofInt x).toInt8.toInt32.toInt))
  | _ => none
theorem bm_s_bastore (nx : Nat) (hdg : decode cc pc = .ok (.bastore, 1)) (hn : nx = pc + 1 := by rfl) : bm_Sn K pg mi cc nL own nm ret pc (bm_G (bm_xB 20 nx)) := by
  subst hn
  refine bm_Sn.heapG (fun lo st w g u he hg => ?_)
  unfold bm_xB at he
  split at he
  · rename_i x i a r
    cases he
    refine ⟨⟨Nat.le_refl _, Nat.le_refl _⟩, fun D b0 mc ms d p l e R s m args below meth c H locs w0 Q ls hCx hB hle g1 g2 g3 g4 g5 g6 kk => ?_⟩
    obtain ⟨hx, hb, -, -, -, hK, -⟩ := hCx
    have hg0 : bm_kt w a = 20 ∧ bm_in i (bm_kn w a) := hg
    obtain ⟨h1, h2⟩ := hg0
    obtain ⟨q1, q2, q3⟩ := bm_ix g3.tl.hd h2
    obtain ⟨e1, hba⟩ := bm_arr g4 h1 (by omega) (by omega)
    have hA := (hK.2 _ _ (bm_tys_at D (t := 20) (by omega) (by omega))).1 (bm_kn w a) (fun j => bm_fv (bm_ec 20) w a j)
    refine W.bast hx hb e1 hA (fun q => by cases q) (by rw [arrV_size]; exact q1) rfl rfl hdg fun H1 e z oq => ?_
    refine kk H1 _ ls g1 g2 g3.tl.tl.tl (g4.put (a := a) (bm_si_kt w a i.toNat (((Int32.ofInt x).toInt8.toInt32.toInt))) (bm_si_kn w a i.toNat (((Int32.ofInt x).toInt8.toInt32.toInt))) (bm_si_sz w a i.toNat (((Int32.ofInt x).toInt8.toInt32.toInt))) (bm_range_si g4.2.1 (bm_I_in _)) ?_ z oq (fun b hb2 k => ⟨by rw [bm_si_gi, if_neg (fun q => hb2 q.1)], rfl, rfl⟩)) (g5.put z oq hba) g6
    rw [h1]
    unfold bm_cell
    rw [if_neg (by omega), e, q2, arrV_store]
    congr 2
    funext j
    unfold updV
    by_cases hj : j = i.toNat
    · rw [if_pos hj, hj]
      show _ = Value.int _
      rw [bm_si_gi, if_pos ⟨rfl, rfl⟩]
      rw [Int32.ofInt_toInt]; rfl
    · rw [if_neg hj]
      show Value.int _ = Value.int _
      rw [bm_si_gi, if_neg (fun q => hj q.2)]
  · cases he
def bm_xZ (t nx : Nat) : bm_L → List bm_V → bm_W → Option (Prop × bm_S) := fun lo st w => match st with
  | .inl x :: .inl i :: .inr (.inr (.inl (some a))) :: r => some ((bm_kt w a = t ∧ bm_in i (bm_kn w a)) ∧ (x = 0 ∨ x = 1), nx, lo, r, bm_si w a i.toNat x)
  | _ => none
theorem bm_s_zastore (nx : Nat) (hdg : decode cc pc = .ok (.bastore, 1)) (hn : nx = pc + 1 := by rfl) : bm_Sn K pg mi cc nL own nm ret pc (bm_G (bm_xZ 23 nx)) := by
  subst hn
  refine bm_Sn.heapG (fun lo st w g u he hg => ?_)
  unfold bm_xZ at he
  split at he
  · rename_i x i a r
    cases he
    refine ⟨⟨Nat.le_refl _, Nat.le_refl _⟩, fun D b0 mc ms d p l e R s m args below meth c H locs w0 Q ls hCx hB hle g1 g2 g3 g4 g5 g6 kk => ?_⟩
    obtain ⟨hx, hb, -, -, -, hK, -⟩ := hCx
    have hg0 : bm_kt w a = 23 ∧ bm_in i (bm_kn w a) := hg.1
    obtain ⟨h1, h2⟩ := hg0
    obtain ⟨q1, q2, q3⟩ := bm_ix g3.tl.hd h2
    obtain ⟨e1, hba⟩ := bm_arr g4 h1 (by omega) (by omega)
    have hA := (hK.2 _ _ (bm_tys_at D (t := 23) (by omega) (by omega))).1 (bm_kn w a) (fun j => bm_fv (bm_ec 23) w a j)
    refine W.zast hx hb e1 hA (fun q => by cases q) (by rw [arrV_size]; exact q1) rfl rfl hdg fun H1 e z oq => ?_
    refine kk H1 _ ls g1 g2 g3.tl.tl.tl (g4.put (a := a) (bm_si_kt w a i.toNat (x)) (bm_si_kn w a i.toNat (x)) (bm_si_sz w a i.toNat (x)) (bm_range_si g4.2.1 g3.hd) ?_ z oq (fun b hb2 k => ⟨by rw [bm_si_gi, if_neg (fun q => hb2 q.1)], rfl, rfl⟩)) (g5.put z oq hba) g6
    rw [h1]
    unfold bm_cell
    rw [if_neg (by omega), e, q2, arrV_store]
    congr 2
    funext j
    unfold updV
    by_cases hj : j = i.toNat
    · rw [if_pos hj, hj]
      show _ = Value.int _
      rw [bm_si_gi, if_pos ⟨rfl, rfl⟩]
      exact (bm_ofB hg.2).1
    · rw [if_neg hj]
      show Value.int _ = Value.int _
      rw [bm_si_gi, if_neg (fun q => hj q.2)]
  · cases he
def bm_xL (t nx : Nat) : bm_L → List bm_V → bm_W → Option (Prop × bm_S) := fun lo st w => match st with
  | .inr (.inl x) :: .inl i :: .inr (.inr (.inl (some a))) :: r => some ((bm_kt w a = t ∧ bm_in i (bm_kn w a)), nx, lo, r, bm_sq w a i.toNat x)
  | _ => none
theorem bm_s_lastore (nx : Nat) (hdg : decode cc pc = .ok (.lastore, 1)) (hn : nx = pc + 1 := by rfl) : bm_Sn K pg mi cc nL own nm ret pc (bm_G (bm_xL 22 nx)) := by
  subst hn
  refine bm_Sn.heapG (fun lo st w g u he hg => ?_)
  unfold bm_xL at he
  split at he
  · rename_i x i a r
    cases he
    refine ⟨⟨Nat.le_refl _, Nat.le_refl _⟩, fun D b0 mc ms d p l e R s m args below meth c H locs w0 Q ls hCx hB hle g1 g2 g3 g4 g5 g6 kk => ?_⟩
    obtain ⟨hx, hb, -, -, -, hK, -⟩ := hCx
    have hg0 : bm_kt w a = 22 ∧ bm_in i (bm_kn w a) := hg
    obtain ⟨h1, h2⟩ := hg0
    obtain ⟨q1, q2, q3⟩ := bm_ix g3.tl.hd h2
    obtain ⟨e1, hba⟩ := bm_arr g4 h1 (by omega) (by omega)
    have hA := (hK.2 _ _ (bm_tys_at D (t := 22) (by omega) (by omega))).1 (bm_kn w a) (fun j => bm_fv (bm_ec 22) w a j)
    refine W.last hx hb e1 hA (fun q => by cases q) (by rw [arrV_size]; exact q1) rfl rfl hdg fun H1 e z oq => ?_
    refine kk H1 _ ls g1 g2 g3.tl.tl.tl (g4.put (a := a) (bm_sq_kt w a i.toNat (x)) (bm_sq_kn w a i.toNat (x)) (bm_sq_sz w a i.toNat (x)) (bm_range_sq g4.2.1 g3.hd) ?_ z oq (fun b hb2 k => ⟨rfl, by rw [bm_sq_gl, if_neg (fun q => hb2 q.1)], rfl⟩)) (g5.put z oq hba) g6
    rw [h1]
    unfold bm_cell
    rw [if_neg (by omega), e, q2, arrV_store]
    congr 2
    funext j
    unfold updV
    by_cases hj : j = i.toNat
    · rw [if_pos hj, hj]
      show _ = Value.long _
      rw [bm_sq_gl, if_pos ⟨rfl, rfl⟩]
    · rw [if_neg hj]
      show Value.long _ = Value.long _
      rw [bm_sq_gl, if_neg (fun q => hj q.2)]
  · cases he
/-! what is made -/
theorem bm_nw_kt (w : bm_W) (t n m b : Nat) : bm_kt (bm_nw w t n m) b = if b = bm_sz w then t else bm_kt w b := rfl
theorem bm_nw_kn (w : bm_W) (t n m b : Nat) : bm_kn (bm_nw w t n m) b = if b = bm_sz w then n else bm_kn w b := rfl
theorem bm_nw_gi (w : bm_W) (t n m b j : Nat) : bm_gi (bm_nw w t n m) b j = if b = bm_sz w then 0 else bm_gi w b j := rfl
theorem bm_nw_gl (w : bm_W) (t n m b j : Nat) : bm_gl (bm_nw w t n m) b j = if b = bm_sz w then 0 else bm_gl w b j := rfl
theorem bm_nw_gr (w : bm_W) (t n m b j : Nat) : bm_gr (bm_nw w t n m) b j = if b = bm_sz w then none else bm_gr w b j := rfl
theorem bm_nw_sz (w : bm_W) (t n m : Nat) : bm_sz (bm_nw w t n m) = bm_sz w + 1 := rfl
theorem bm_nw_sl (w : bm_W) (t n m : Nat) : bm_sl (bm_nw w t n m) = bm_sl w + m := rfl
theorem bm_cp_kt (w : bm_W) (a b : Nat) : bm_kt (bm_cp w a) b = if b = bm_sz w then bm_kt w a else bm_kt w b := rfl
theorem bm_cp_kn (w : bm_W) (a b : Nat) : bm_kn (bm_cp w a) b = if b = bm_sz w then bm_kn w a else bm_kn w b := rfl
theorem bm_cp_gi (w : bm_W) (a b j : Nat) : bm_gi (bm_cp w a) b j = if b = bm_sz w then bm_gi w a j else bm_gi w b j := rfl
theorem bm_cp_gl (w : bm_W) (a b j : Nat) : bm_gl (bm_cp w a) b j = if b = bm_sz w then bm_gl w a j else bm_gl w b j := rfl
theorem bm_cp_gr (w : bm_W) (a b j : Nat) : bm_gr (bm_cp w a) b j = if b = bm_sz w then none else bm_gr w b j := rfl
theorem bm_cp_sz (w : bm_W) (a : Nat) : bm_sz (bm_cp w a) = bm_sz w + 1 := rfl
theorem bm_cp_sl (w : bm_W) (a : Nat) : bm_sl (bm_cp w a) = bm_sl w + bm_kn w a := rfl
theorem bm_InL0 : bm_InL 0 := by unfold bm_InL; omega
/-- a cell has come -/
theorem bm_HR.pushG {D : bm_D} {b0 : Nat} {w w' : bm_W} {H H1 : Heap} {t : Nat} (h : bm_HR D b0 w H) (hb : b0 ≤ bm_sz w) (hsz : bm_sz w' = bm_sz w + 1) (hz : H1.size = H.size + 1) (ho : ∀ q : Nat, q < H.size → H1[q]? = H[q]?)
    (hold : ∀ b, b ≠ bm_sz w → bm_kt w' b = bm_kt w b ∧ bm_kn w' b = bm_kn w b ∧ ∀ k, bm_gi w' b k = bm_gi w b k ∧ bm_gl w' b k = bm_gl w b k ∧ bm_gr w' b k = bm_gr w b k)
    (hk : bm_kt w' (bm_sz w) = t) (hn : bm_kn w' (bm_sz w) < 2147483648) (hr : ∀ k, bm_InI (bm_gi w' (bm_sz w) k) ∧ bm_InL (bm_gl w' (bm_sz w) k)) (hc : t < 90 → bm_cell D w' H1 (bm_sz w) t) (h91 : t ≠ 91) (h92 : t = 92 → H1[bm_sz w]? = some (arrV (D.2.1 27) (bm_kn w' (bm_sz w)) (fun j => bm_tx D (bm_gi w' (bm_sz w) j)))) (hsc : ∀ a, bm_kt w a = 91 → a < bm_sz w) : bm_HR D b0 w' H1 := by
  obtain ⟨e1, e2, e3, e4, e5, e6⟩ := h
  refine ⟨by rw [hz, hsz, e1], fun a k => ?_, fun a => ?_, fun a ha => ?_, fun a ha => ?_, fun a => ⟨fun q => ?_, fun q => ?_⟩⟩
  · by_cases h : a = bm_sz w
    · rw [h]; exact hr k
    · obtain ⟨-, -, q⟩ := hold a h
      rw [(q k).1, (q k).2.1]; exact e2 a k
  · by_cases h : a = bm_sz w
    · rw [h]; exact hn
    · rw [(hold a h).2.1]; exact e3 a
  · by_cases h : a = bm_sz w
    · rw [h, hk] at ha
      rw [h, hk]
      exact ⟨hb, by rw [hsz]; exact Nat.lt_succ_self _, hc ha⟩
    · obtain ⟨q1, q2, q3⟩ := hold a h
      rw [q1] at ha ⊢
      obtain ⟨g1, g2, g3⟩ := e4 a ha
      exact ⟨g1, by rw [hsz]; exact Nat.lt_succ_of_lt g2, g3.kept (ho a (by rw [e1]; exact g2)) q2 q3⟩
  · rw [hsz] at ha
    rw [(hold a (by omega)).1]
    exact e5 a (by omega)
  · by_cases h : a = bm_sz w
    · rw [h, hk] at q; exact absurd q h91
    · obtain ⟨q1, q2, q3⟩ := hold a h
      rw [q1] at q
      obtain ⟨g1, g2, g3⟩ := (e6 a).1 q
      exact ⟨g1, q2.trans g2, fun k => ((q3 k).1).trans (g3 k)⟩
  · by_cases h : a = bm_sz w
    · rw [h, hk] at q
      rw [h]
      exact ⟨hb, by rw [hsz]; exact Nat.lt_succ_self _, h92 q⟩
    · obtain ⟨q1, q2, q3⟩ := hold a h
      rw [q1] at q
      obtain ⟨g1, g2, g3⟩ := (e6 a).2 q
      have e : (fun j => bm_tx D (bm_gi w' a j)) = (fun j => bm_tx D (bm_gi w a j)) := funext fun j => by rw [(q3 j).1]
      exact ⟨g1, by rw [hsz]; exact Nat.lt_succ_of_lt g2, by rw [ho a (by rw [e1]; exact g2), g3, q2, e]⟩
theorem bm_HR.sc {D : bm_D} {b0 : Nat} {w : bm_W} {H : Heap} (h : bm_HR D b0 w H) : ∀ a, bm_kt w a = 91 → a < bm_sz w := fun a ha => by
  have := h.2.2.2.2.1 a
  by_cases q : bm_sz w ≤ a
  · have := this q; omega
  · omega
theorem bm_HR.push {D : bm_D} {b0 : Nat} {w w' : bm_W} {H H1 : Heap} {t : Nat} (h : bm_HR D b0 w H) (hb : b0 ≤ bm_sz w) (hsz : bm_sz w' = bm_sz w + 1) (hz : H1.size = H.size + 1) (ho : ∀ q : Nat, q < H.size → H1[q]? = H[q]?)
    (hold : ∀ b, b ≠ bm_sz w → bm_kt w' b = bm_kt w b ∧ bm_kn w' b = bm_kn w b ∧ ∀ k, bm_gi w' b k = bm_gi w b k ∧ bm_gl w' b k = bm_gl w b k ∧ bm_gr w' b k = bm_gr w b k)
    (hk : bm_kt w' (bm_sz w) = t) (hn : bm_kn w' (bm_sz w) < 2147483648) (hr : ∀ k, bm_InI (bm_gi w' (bm_sz w) k) ∧ bm_InL (bm_gl w' (bm_sz w) k)) (hc : bm_cell D w' H1 (bm_sz w) t) (h9 : t < 90 := by omega) : bm_HR D b0 w' H1 :=
  h.pushG hb hsz hz ho hold hk hn hr (fun _ => hc) (by omega) (fun q => by omega) h.sc
theorem bm_va_push {b0 : Nat} {H0 H H1 : Heap} {locs : List Loc} (h : va_S (bm_A b0) H0 H locs) (hz : H1.size = H.size + 1) (ho : ∀ q : Nat, q < H.size → H1[q]? = H[q]?) : va_S (bm_A b0) H0 H1 locs :=
  ⟨by rw [hz]; exact Nat.le_succ_of_le h.1, fun q h1 h2 => (ho q (Nat.lt_of_lt_of_le h1 h.1)).trans (h.2.1 q h1 h2), h.2.2⟩
def bm_oN (t N nx : Nat) : bm_L → List bm_V → bm_W → Option bm_S := fun lo st w => some (nx, lo, .inr (.inr (.inl (some (bm_sz w)))) :: st, bm_nw w t 0 N)
theorem bm_dflt {ty : FieldType} (h : ty = .int ∨ ty = .boolean ∨ ty = .long ∨ bm_fc ty = 2) {w : bm_W} {t n m k : Nat} : defaultValue ty = bm_fv (bm_fc ty) (bm_nw w t n m) (bm_sz w) k := by
  rcases h with rfl | rfl | rfl | h
  · show Value.int 0 = Value.int _; rw [bm_nw_gi, if_pos rfl]; rfl
  · show Value.int 0 = Value.int _; rw [bm_nw_gi, if_pos rfl]; rfl
  · show Value.long 0 = Value.long _; rw [bm_nw_gl, if_pos rfl]; rfl
  · have h2 : bm_fv (bm_fc ty) (bm_nw w t n m) (bm_sz w) k = Value.null := by
      rw [h]; show va_rf _ = _; rw [bm_nw_gr, if_pos rfl]; rfl
    rw [h2]
    cases ty <;> first | (exact absurd h (by decide)) | rfl
theorem bm_s_new {t N index : Nat} {C : String} {T : u_T} (nx : Nat) (hdg : decode cc pc = .ok (.new index, 3)) (hC : bm_Cl t C T N) (hcl : Cond.classLink own index C ∈ bm_ALL) (hins : Cond.instantiable C N ∈ bm_ALL) (hini : Cond.initialized C ∈ bm_ALL) (hty : ∀ k, k < N → bm_ty t k = .int ∨ bm_ty t k = .boolean ∨ bm_ty t k = .long ∨ bm_fc (bm_ty t k) = 2) (hn : nx = pc + 3 := by rfl) : bm_Sn K pg mi cc nL own nm ret pc (bm_P (bm_oN t N nx)) := by
  subst hn
  refine bm_Sn.heapP (fun lo st w u he => ?_)
  cases he
  refine ⟨⟨Nat.le_succ _, Nat.le_add_right _ _⟩, fun D b0 mc ms d p l e R s m args below meth c H locs w0 Q ls hCx hB hle g1 g2 g3 g4 g5 g6 kk => ?_⟩
  obtain ⟨hx, hb, -, hown, hts, hK, -, -, -, -, hb0, hRc, hRs, -⟩ := hCx
  obtain ⟨ht13, hc, hin, htyd, hnm⟩ := hC
  have hKn := hK.1 t _ hc
  obtain ⟨hB1, hB2⟩ := hB
  dsimp only [bm_nw_sz, bm_nw_sl] at hB1 hB2 kk
  obtain ⟨hl1, hl2⟩ := hle
  refine W.newcK hx hb hown (hts _ hcl) (hts _ hins) (hts _ hini) rfl hdg (by rw [hRc]; omega) (by rw [hRs]; omega) hKn.2.1 rfl fun H1 kC hkC e1 z1 o1 => ?_
  rw [g4.1] at e1
  refine W.cs (show _ = bm_sz w + 1 - bm_sz w0 by omega) (show _ = bm_sl w + N - bm_sl w0 by omega) ?_
  have e9 := kk H1 locs ls g1 g2 (bm_InSt.cons trivial g3) (g4.push (t := t) (by rw [← g4.1]; exact Nat.le_trans hb0 g5.1) rfl z1 o1 (fun b hb2 => ⟨by rw [bm_nw_kt, if_neg hb2], by rw [bm_nw_kn, if_neg hb2], fun k => ⟨by rw [bm_nw_gi, if_neg hb2], by rw [bm_nw_gl, if_neg hb2], by rw [bm_nw_gr, if_neg hb2]⟩⟩)
    (by rw [bm_nw_kt, if_pos rfl]) (by rw [bm_nw_kn, if_pos rfl]; omega) (fun k => ⟨by rw [bm_nw_gi, if_pos rfl]; exact bm_In0, by rw [bm_nw_gl, if_pos rfl]; exact bm_InL0⟩) (by
      unfold bm_cell
      rw [if_pos ht13]
      exact ⟨_, hc, (u_born (bm_ty t) hts hin hKn hkC e1 htyd).to (fun k hk => bm_dflt (hty k hk))⟩)) (bm_va_push g5 z1 o1) g6
  rw [g4.1]
  exact e9
def bm_oA (t nx : Nat) : bm_L → List bm_V → bm_W → Option (Prop × bm_S) := fun lo st w => match st with
  | .inl n :: r => some (0 ≤ n ∧ n ≤ 100000, nx, lo, .inr (.inr (.inl (some (bm_sz w)))) :: r, bm_nw w t n.toNat n.toNat)
  | _ => none
theorem bm_s_newa_byte (nx : Nat) (hdg : decode cc pc = .ok (.newarray .byte, 2)) (harr : Cond.arrayClass .byte ∈ bm_ALL) (hn : nx = pc + 2 := by rfl) : bm_Sn K pg mi cc nL own nm ret pc (bm_G (bm_oA 20 nx)) := by
  subst hn
  refine bm_Sn.heapG (fun lo st w g u he hg => ?_)
  unfold bm_oA at he
  split at he
  · rename_i n r
    cases he
    refine ⟨⟨Nat.le_succ _, Nat.le_add_right _ _⟩, fun D b0 mc ms d p l e R s m args below meth c H locs w0 Q ls hCx hB hle g1 g2 g3 g4 g5 g6 kk => ?_⟩
    obtain ⟨hx, hb, -, hown, hts, hK, -, -, -, -, hb0, hRc, hRs, -⟩ := hCx
    obtain ⟨hB1, hB2⟩ := hB
    dsimp only [bm_nw_sz, bm_nw_sl] at hB1 hB2 kk
    obtain ⟨hl1, hl2⟩ := hle
    have hni : bm_InI n := g3.hd
    have hN : (Int32.ofInt n).toNatClampNeg = n.toNat := Int32.toNatClampNeg_ofInt_of_le (by have := hni.1; omega) (by have := hni.2; omega)
    obtain ⟨hA, hRA⟩ := hK.2 _ _ (bm_tys_at D (t := 20) (by omega) (by omega))
    refine va_newaK (h := bm_sz w) hx hb (atype := .byte) (hts _ harr) rfl hdg rfl (fun q => by have := (bm_ltI hni bm_In0).mp q; have := hg.1; omega) hN (by have h1 : n.toNat ≤ 100000 := (by have := hg.2; omega); have h2 : componentBytes (newarray.typeOf .byte) ≤ 8 := (by decide); exact Nat.le_trans (Nat.mul_le_mul h1 h2) (by omega)) (by rw [hRc]; omega) (by rw [hRs]; omega) g4.1 fun H1 cA e1 z1 o1 hAr hNm => ?_
    have hcA : cA = D.2.1 20 := Option.some.inj (hNm.symm.trans hRA)
    rw [← g4.1] at z1 o1
    refine W.cs (show _ = bm_sz w + 1 - bm_sz w0 by omega) (show _ = bm_sl w + n.toNat - bm_sl w0 by omega) ?_
    exact kk H1 locs ls g1 g2 (bm_InSt.cons trivial g3.tl) (g4.push (t := 20) (by rw [← g4.1]; exact Nat.le_trans hb0 g5.1) rfl z1 o1 (fun b hb2 => ⟨by rw [bm_nw_kt, if_neg hb2], by rw [bm_nw_kn, if_neg hb2], fun k => ⟨by rw [bm_nw_gi, if_neg hb2], by rw [bm_nw_gl, if_neg hb2], by rw [bm_nw_gr, if_neg hb2]⟩⟩)
      (by rw [bm_nw_kt, if_pos rfl]) (by rw [bm_nw_kn, if_pos rfl]; have := hg.2; omega) (fun k => ⟨by rw [bm_nw_gi, if_pos rfl]; exact bm_In0, by rw [bm_nw_gl, if_pos rfl]; exact bm_InL0⟩) (by
        unfold bm_cell
        rw [if_neg (by omega), e1, hcA, bm_nw_kn, if_pos rfl]
        congr 2
        funext j
        exact bm_dflt (ty := .int) (by decide))) (bm_va_push g5 z1 o1) g6
  · cases he
theorem bm_s_newa_int (nx : Nat) (hdg : decode cc pc = .ok (.newarray .int, 2)) (harr : Cond.arrayClass .int ∈ bm_ALL) (hn : nx = pc + 2 := by rfl) : bm_Sn K pg mi cc nL own nm ret pc (bm_G (bm_oA 21 nx)) := by
  subst hn
  refine bm_Sn.heapG (fun lo st w g u he hg => ?_)
  unfold bm_oA at he
  split at he
  · rename_i n r
    cases he
    refine ⟨⟨Nat.le_succ _, Nat.le_add_right _ _⟩, fun D b0 mc ms d p l e R s m args below meth c H locs w0 Q ls hCx hB hle g1 g2 g3 g4 g5 g6 kk => ?_⟩
    obtain ⟨hx, hb, -, hown, hts, hK, -, -, -, -, hb0, hRc, hRs, -⟩ := hCx
    obtain ⟨hB1, hB2⟩ := hB
    dsimp only [bm_nw_sz, bm_nw_sl] at hB1 hB2 kk
    obtain ⟨hl1, hl2⟩ := hle
    have hni : bm_InI n := g3.hd
    have hN : (Int32.ofInt n).toNatClampNeg = n.toNat := Int32.toNatClampNeg_ofInt_of_le (by have := hni.1; omega) (by have := hni.2; omega)
    obtain ⟨hA, hRA⟩ := hK.2 _ _ (bm_tys_at D (t := 21) (by omega) (by omega))
    refine va_newaK (h := bm_sz w) hx hb (atype := .int) (hts _ harr) rfl hdg rfl (fun q => by have := (bm_ltI hni bm_In0).mp q; have := hg.1; omega) hN (by have h1 : n.toNat ≤ 100000 := (by have := hg.2; omega); have h2 : componentBytes (newarray.typeOf .int) ≤ 8 := (by decide); exact Nat.le_trans (Nat.mul_le_mul h1 h2) (by omega)) (by rw [hRc]; omega) (by rw [hRs]; omega) g4.1 fun H1 cA e1 z1 o1 hAr hNm => ?_
    have hcA : cA = D.2.1 21 := Option.some.inj (hNm.symm.trans hRA)
    rw [← g4.1] at z1 o1
    refine W.cs (show _ = bm_sz w + 1 - bm_sz w0 by omega) (show _ = bm_sl w + n.toNat - bm_sl w0 by omega) ?_
    exact kk H1 locs ls g1 g2 (bm_InSt.cons trivial g3.tl) (g4.push (t := 21) (by rw [← g4.1]; exact Nat.le_trans hb0 g5.1) rfl z1 o1 (fun b hb2 => ⟨by rw [bm_nw_kt, if_neg hb2], by rw [bm_nw_kn, if_neg hb2], fun k => ⟨by rw [bm_nw_gi, if_neg hb2], by rw [bm_nw_gl, if_neg hb2], by rw [bm_nw_gr, if_neg hb2]⟩⟩)
      (by rw [bm_nw_kt, if_pos rfl]) (by rw [bm_nw_kn, if_pos rfl]; have := hg.2; omega) (fun k => ⟨by rw [bm_nw_gi, if_pos rfl]; exact bm_In0, by rw [bm_nw_gl, if_pos rfl]; exact bm_InL0⟩) (by
        unfold bm_cell
        rw [if_neg (by omega), e1, hcA, bm_nw_kn, if_pos rfl]
        congr 2
        funext j
        exact bm_dflt (ty := .int) (by decide))) (bm_va_push g5 z1 o1) g6
  · cases he
theorem bm_s_newa_long (nx : Nat) (hdg : decode cc pc = .ok (.newarray .long, 2)) (harr : Cond.arrayClass .long ∈ bm_ALL) (hn : nx = pc + 2 := by rfl) : bm_Sn K pg mi cc nL own nm ret pc (bm_G (bm_oA 22 nx)) := by
  subst hn
  refine bm_Sn.heapG (fun lo st w g u he hg => ?_)
  unfold bm_oA at he
  split at he
  · rename_i n r
    cases he
    refine ⟨⟨Nat.le_succ _, Nat.le_add_right _ _⟩, fun D b0 mc ms d p l e R s m args below meth c H locs w0 Q ls hCx hB hle g1 g2 g3 g4 g5 g6 kk => ?_⟩
    obtain ⟨hx, hb, -, hown, hts, hK, -, -, -, -, hb0, hRc, hRs, -⟩ := hCx
    obtain ⟨hB1, hB2⟩ := hB
    dsimp only [bm_nw_sz, bm_nw_sl] at hB1 hB2 kk
    obtain ⟨hl1, hl2⟩ := hle
    have hni : bm_InI n := g3.hd
    have hN : (Int32.ofInt n).toNatClampNeg = n.toNat := Int32.toNatClampNeg_ofInt_of_le (by have := hni.1; omega) (by have := hni.2; omega)
    obtain ⟨hA, hRA⟩ := hK.2 _ _ (bm_tys_at D (t := 22) (by omega) (by omega))
    refine va_newaK (h := bm_sz w) hx hb (atype := .long) (hts _ harr) rfl hdg rfl (fun q => by have := (bm_ltI hni bm_In0).mp q; have := hg.1; omega) hN (by have h1 : n.toNat ≤ 100000 := (by have := hg.2; omega); have h2 : componentBytes (newarray.typeOf .long) ≤ 8 := (by decide); exact Nat.le_trans (Nat.mul_le_mul h1 h2) (by omega)) (by rw [hRc]; omega) (by rw [hRs]; omega) g4.1 fun H1 cA e1 z1 o1 hAr hNm => ?_
    have hcA : cA = D.2.1 22 := Option.some.inj (hNm.symm.trans hRA)
    rw [← g4.1] at z1 o1
    refine W.cs (show _ = bm_sz w + 1 - bm_sz w0 by omega) (show _ = bm_sl w + n.toNat - bm_sl w0 by omega) ?_
    exact kk H1 locs ls g1 g2 (bm_InSt.cons trivial g3.tl) (g4.push (t := 22) (by rw [← g4.1]; exact Nat.le_trans hb0 g5.1) rfl z1 o1 (fun b hb2 => ⟨by rw [bm_nw_kt, if_neg hb2], by rw [bm_nw_kn, if_neg hb2], fun k => ⟨by rw [bm_nw_gi, if_neg hb2], by rw [bm_nw_gl, if_neg hb2], by rw [bm_nw_gr, if_neg hb2]⟩⟩)
      (by rw [bm_nw_kt, if_pos rfl]) (by rw [bm_nw_kn, if_pos rfl]; have := hg.2; omega) (fun k => ⟨by rw [bm_nw_gi, if_pos rfl]; exact bm_In0, by rw [bm_nw_gl, if_pos rfl]; exact bm_InL0⟩) (by
        unfold bm_cell
        rw [if_neg (by omega), e1, hcA, bm_nw_kn, if_pos rfl]
        congr 2
        funext j
        exact bm_dflt (ty := .long) (by decide))) (bm_va_push g5 z1 o1) g6
  · cases he
theorem bm_s_newa_boolean (nx : Nat) (hdg : decode cc pc = .ok (.newarray .boolean, 2)) (harr : Cond.arrayClass .boolean ∈ bm_ALL) (hn : nx = pc + 2 := by rfl) : bm_Sn K pg mi cc nL own nm ret pc (bm_G (bm_oA 23 nx)) := by
  subst hn
  refine bm_Sn.heapG (fun lo st w g u he hg => ?_)
  unfold bm_oA at he
  split at he
  · rename_i n r
    cases he
    refine ⟨⟨Nat.le_succ _, Nat.le_add_right _ _⟩, fun D b0 mc ms d p l e R s m args below meth c H locs w0 Q ls hCx hB hle g1 g2 g3 g4 g5 g6 kk => ?_⟩
    obtain ⟨hx, hb, -, hown, hts, hK, -, -, -, -, hb0, hRc, hRs, -⟩ := hCx
    obtain ⟨hB1, hB2⟩ := hB
    dsimp only [bm_nw_sz, bm_nw_sl] at hB1 hB2 kk
    obtain ⟨hl1, hl2⟩ := hle
    have hni : bm_InI n := g3.hd
    have hN : (Int32.ofInt n).toNatClampNeg = n.toNat := Int32.toNatClampNeg_ofInt_of_le (by have := hni.1; omega) (by have := hni.2; omega)
    obtain ⟨hA, hRA⟩ := hK.2 _ _ (bm_tys_at D (t := 23) (by omega) (by omega))
    refine va_newaK (h := bm_sz w) hx hb (atype := .boolean) (hts _ harr) rfl hdg rfl (fun q => by have := (bm_ltI hni bm_In0).mp q; have := hg.1; omega) hN (by have h1 : n.toNat ≤ 100000 := (by have := hg.2; omega); have h2 : componentBytes (newarray.typeOf .boolean) ≤ 8 := (by decide); exact Nat.le_trans (Nat.mul_le_mul h1 h2) (by omega)) (by rw [hRc]; omega) (by rw [hRs]; omega) g4.1 fun H1 cA e1 z1 o1 hAr hNm => ?_
    have hcA : cA = D.2.1 23 := Option.some.inj (hNm.symm.trans hRA)
    rw [← g4.1] at z1 o1
    refine W.cs (show _ = bm_sz w + 1 - bm_sz w0 by omega) (show _ = bm_sl w + n.toNat - bm_sl w0 by omega) ?_
    exact kk H1 locs ls g1 g2 (bm_InSt.cons trivial g3.tl) (g4.push (t := 23) (by rw [← g4.1]; exact Nat.le_trans hb0 g5.1) rfl z1 o1 (fun b hb2 => ⟨by rw [bm_nw_kt, if_neg hb2], by rw [bm_nw_kn, if_neg hb2], fun k => ⟨by rw [bm_nw_gi, if_neg hb2], by rw [bm_nw_gl, if_neg hb2], by rw [bm_nw_gr, if_neg hb2]⟩⟩)
      (by rw [bm_nw_kt, if_pos rfl]) (by rw [bm_nw_kn, if_pos rfl]; have := hg.2; omega) (fun k => ⟨by rw [bm_nw_gi, if_pos rfl]; exact bm_In0, by rw [bm_nw_gl, if_pos rfl]; exact bm_InL0⟩) (by
        unfold bm_cell
        rw [if_neg (by omega), e1, hcA, bm_nw_kn, if_pos rfl]
        congr 2
        funext j
        exact bm_dflt (ty := .boolean) (by decide))) (bm_va_push g5 z1 o1) g6
  · cases he
theorem bm_s_anewa24 {index : Nat} (nx : Nat) (hdg : decode cc pc = .ok (.anewarray index, 3)) (hcl : Cond.classLink own index "CaseTables$Fun" ∈ bm_ALL) (hov : Cond.arrayOver (.object "CaseTables$Fun") ∈ bm_NW) (hn : nx = pc + 3 := by rfl) : bm_Sn K pg mi cc nL own nm ret pc (bm_G (bm_oA 24 nx)) := by
  subst hn
  refine bm_Sn.heapG (fun lo st w g u he hg => ?_)
  unfold bm_oA at he
  split at he
  · rename_i n r
    cases he
    refine ⟨⟨Nat.le_succ _, Nat.le_add_right _ _⟩, fun D b0 mc ms d p l e R s m args below meth c H locs w0 Q ls hCx hB hle g1 g2 g3 g4 g5 g6 kk => ?_⟩
    obtain ⟨hx, hb, -, hown, hts, hK, hST, -, -, -, hb0, hRc, hRs, -⟩ := hCx
    obtain ⟨hB1, hB2⟩ := hB
    dsimp only [bm_nw_sz, bm_nw_sl] at hB1 hB2 kk
    obtain ⟨hl1, hl2⟩ := hle
    have hni : bm_InI n := g3.hd
    have hN : (Int32.ofInt n).toNatClampNeg = n.toNat := Int32.toNatClampNeg_ofInt_of_le (by have := hni.1; omega) (by have := hni.2; omega)
    obtain ⟨hA, kA0, comp0, hRA1, hRA2, hRA3, hRA⟩ := hK.2 _ _ (bm_tys_at D (t := 24) (by omega) (by omega))
    refine W.anew hx hb hown (hts _ hcl) (va_AO.use (hST.2.2.2.2.2.2.2.2 _ hov)) rfl hdg rfl (fun q => by have := (bm_ltI hni bm_In0).mp q; have := hg.1; omega) (by rw [hN]; have h1 : n.toNat ≤ 100000 := (by have := hg.2; omega); omega) (by rw [hRc]; omega) (by rw [hRs, hN]; omega) fun cA kA comp f1 f2 f3 f4 => ?_
    rw [hN]
    have hcA : cA = D.2.1 24 := Option.some.inj (f1.symm.trans hRA)
    generalize hH1 : H.push ({ cls := cA, slots := Array.replicate n.toNat .null, vm := .none } : Cell) = H1
    have z1 : H1.size = H.size + 1 := by rw [← hH1, Array.size_push]
    have e1 : H1[H.size]? = some (arrV cA n.toNat (fun _ => .null)) := by rw [← hH1, Array.getElem?_push_size, ← arrV_new]
    have o1 : ∀ q : Nat, q < H.size → H1[q]? = H[q]? := fun q hq => by rw [← hH1, Array.getElem?_push, if_neg (Nat.ne_of_lt hq)]
    rw [g4.1] at e1 ⊢
    refine W.cs (show _ = bm_sz w + 1 - bm_sz w0 by omega) (show _ = bm_sl w + n.toNat - bm_sl w0 by omega) ?_
    exact kk H1 locs ls g1 g2 (bm_InSt.cons trivial g3.tl) (g4.push (t := 24) (by rw [← g4.1]; exact Nat.le_trans hb0 g5.1) rfl z1 o1 (fun b hb2 => ⟨by rw [bm_nw_kt, if_neg hb2], by rw [bm_nw_kn, if_neg hb2], fun k => ⟨by rw [bm_nw_gi, if_neg hb2], by rw [bm_nw_gl, if_neg hb2], by rw [bm_nw_gr, if_neg hb2]⟩⟩)
      (by rw [bm_nw_kt, if_pos rfl]) (by rw [bm_nw_kn, if_pos rfl]; have := hg.2; omega) (fun k => ⟨by rw [bm_nw_gi, if_pos rfl]; exact bm_In0, by rw [bm_nw_gl, if_pos rfl]; exact bm_InL0⟩) (by
        unfold bm_cell
        rw [if_neg (by omega), e1, hcA, bm_nw_kn, if_pos rfl]
        congr 2
        funext j
        show Value.null = va_rf _
        rw [bm_nw_gr, if_pos rfl]; rfl)) (bm_va_push g5 z1 o1) g6
  · cases he
theorem bm_s_anewa25 {index : Nat} (nx : Nat) (hdg : decode cc pc = .ok (.anewarray index, 3)) (hcl : Cond.classLink own index "CaseTables$Row" ∈ bm_ALL) (hov : Cond.arrayOver (.object "CaseTables$Row") ∈ bm_NW) (hn : nx = pc + 3 := by rfl) : bm_Sn K pg mi cc nL own nm ret pc (bm_G (bm_oA 25 nx)) := by
  subst hn
  refine bm_Sn.heapG (fun lo st w g u he hg => ?_)
  unfold bm_oA at he
  split at he
  · rename_i n r
    cases he
    refine ⟨⟨Nat.le_succ _, Nat.le_add_right _ _⟩, fun D b0 mc ms d p l e R s m args below meth c H locs w0 Q ls hCx hB hle g1 g2 g3 g4 g5 g6 kk => ?_⟩
    obtain ⟨hx, hb, -, hown, hts, hK, hST, -, -, -, hb0, hRc, hRs, -⟩ := hCx
    obtain ⟨hB1, hB2⟩ := hB
    dsimp only [bm_nw_sz, bm_nw_sl] at hB1 hB2 kk
    obtain ⟨hl1, hl2⟩ := hle
    have hni : bm_InI n := g3.hd
    have hN : (Int32.ofInt n).toNatClampNeg = n.toNat := Int32.toNatClampNeg_ofInt_of_le (by have := hni.1; omega) (by have := hni.2; omega)
    obtain ⟨hA, kA0, comp0, hRA1, hRA2, hRA3, hRA⟩ := hK.2 _ _ (bm_tys_at D (t := 25) (by omega) (by omega))
    refine W.anew hx hb hown (hts _ hcl) (va_AO.use (hST.2.2.2.2.2.2.2.2 _ hov)) rfl hdg rfl (fun q => by have := (bm_ltI hni bm_In0).mp q; have := hg.1; omega) (by rw [hN]; have h1 : n.toNat ≤ 100000 := (by have := hg.2; omega); omega) (by rw [hRc]; omega) (by rw [hRs, hN]; omega) fun cA kA comp f1 f2 f3 f4 => ?_
    rw [hN]
    have hcA : cA = D.2.1 25 := Option.some.inj (f1.symm.trans hRA)
    generalize hH1 : H.push ({ cls := cA, slots := Array.replicate n.toNat .null, vm := .none } : Cell) = H1
    have z1 : H1.size = H.size + 1 := by rw [← hH1, Array.size_push]
    have e1 : H1[H.size]? = some (arrV cA n.toNat (fun _ => .null)) := by rw [← hH1, Array.getElem?_push_size, ← arrV_new]
    have o1 : ∀ q : Nat, q < H.size → H1[q]? = H[q]? := fun q hq => by rw [← hH1, Array.getElem?_push, if_neg (Nat.ne_of_lt hq)]
    rw [g4.1] at e1 ⊢
    refine W.cs (show _ = bm_sz w + 1 - bm_sz w0 by omega) (show _ = bm_sl w + n.toNat - bm_sl w0 by omega) ?_
    exact kk H1 locs ls g1 g2 (bm_InSt.cons trivial g3.tl) (g4.push (t := 25) (by rw [← g4.1]; exact Nat.le_trans hb0 g5.1) rfl z1 o1 (fun b hb2 => ⟨by rw [bm_nw_kt, if_neg hb2], by rw [bm_nw_kn, if_neg hb2], fun k => ⟨by rw [bm_nw_gi, if_neg hb2], by rw [bm_nw_gl, if_neg hb2], by rw [bm_nw_gr, if_neg hb2]⟩⟩)
      (by rw [bm_nw_kt, if_pos rfl]) (by rw [bm_nw_kn, if_pos rfl]; have := hg.2; omega) (fun k => ⟨by rw [bm_nw_gi, if_pos rfl]; exact bm_In0, by rw [bm_nw_gl, if_pos rfl]; exact bm_InL0⟩) (by
        unfold bm_cell
        rw [if_neg (by omega), e1, hcA, bm_nw_kn, if_pos rfl]
        congr 2
        funext j
        show Value.null = va_rf _
        rw [bm_nw_gr, if_pos rfl]; rfl)) (bm_va_push g5 z1 o1) g6
  · cases he
theorem bm_s_anewa26 {index : Nat} (nx : Nat) (hdg : decode cc pc = .ok (.anewarray index, 3)) (hcl : Cond.classLink own index "CaseTables$Table" ∈ bm_ALL) (hov : Cond.arrayOver (.object "CaseTables$Table") ∈ bm_NW) (hn : nx = pc + 3 := by rfl) : bm_Sn K pg mi cc nL own nm ret pc (bm_G (bm_oA 26 nx)) := by
  subst hn
  refine bm_Sn.heapG (fun lo st w g u he hg => ?_)
  unfold bm_oA at he
  split at he
  · rename_i n r
    cases he
    refine ⟨⟨Nat.le_succ _, Nat.le_add_right _ _⟩, fun D b0 mc ms d p l e R s m args below meth c H locs w0 Q ls hCx hB hle g1 g2 g3 g4 g5 g6 kk => ?_⟩
    obtain ⟨hx, hb, -, hown, hts, hK, hST, -, -, -, hb0, hRc, hRs, -⟩ := hCx
    obtain ⟨hB1, hB2⟩ := hB
    dsimp only [bm_nw_sz, bm_nw_sl] at hB1 hB2 kk
    obtain ⟨hl1, hl2⟩ := hle
    have hni : bm_InI n := g3.hd
    have hN : (Int32.ofInt n).toNatClampNeg = n.toNat := Int32.toNatClampNeg_ofInt_of_le (by have := hni.1; omega) (by have := hni.2; omega)
    obtain ⟨hA, kA0, comp0, hRA1, hRA2, hRA3, hRA⟩ := hK.2 _ _ (bm_tys_at D (t := 26) (by omega) (by omega))
    refine W.anew hx hb hown (hts _ hcl) (va_AO.use (hST.2.2.2.2.2.2.2.2 _ hov)) rfl hdg rfl (fun q => by have := (bm_ltI hni bm_In0).mp q; have := hg.1; omega) (by rw [hN]; have h1 : n.toNat ≤ 100000 := (by have := hg.2; omega); omega) (by rw [hRc]; omega) (by rw [hRs, hN]; omega) fun cA kA comp f1 f2 f3 f4 => ?_
    rw [hN]
    have hcA : cA = D.2.1 26 := Option.some.inj (f1.symm.trans hRA)
    generalize hH1 : H.push ({ cls := cA, slots := Array.replicate n.toNat .null, vm := .none } : Cell) = H1
    have z1 : H1.size = H.size + 1 := by rw [← hH1, Array.size_push]
    have e1 : H1[H.size]? = some (arrV cA n.toNat (fun _ => .null)) := by rw [← hH1, Array.getElem?_push_size, ← arrV_new]
    have o1 : ∀ q : Nat, q < H.size → H1[q]? = H[q]? := fun q hq => by rw [← hH1, Array.getElem?_push, if_neg (Nat.ne_of_lt hq)]
    rw [g4.1] at e1 ⊢
    refine W.cs (show _ = bm_sz w + 1 - bm_sz w0 by omega) (show _ = bm_sl w + n.toNat - bm_sl w0 by omega) ?_
    exact kk H1 locs ls g1 g2 (bm_InSt.cons trivial g3.tl) (g4.push (t := 26) (by rw [← g4.1]; exact Nat.le_trans hb0 g5.1) rfl z1 o1 (fun b hb2 => ⟨by rw [bm_nw_kt, if_neg hb2], by rw [bm_nw_kn, if_neg hb2], fun k => ⟨by rw [bm_nw_gi, if_neg hb2], by rw [bm_nw_gl, if_neg hb2], by rw [bm_nw_gr, if_neg hb2]⟩⟩)
      (by rw [bm_nw_kt, if_pos rfl]) (by rw [bm_nw_kn, if_pos rfl]; have := hg.2; omega) (fun k => ⟨by rw [bm_nw_gi, if_pos rfl]; exact bm_In0, by rw [bm_nw_gl, if_pos rfl]; exact bm_InL0⟩) (by
        unfold bm_cell
        rw [if_neg (by omega), e1, hcA, bm_nw_kn, if_pos rfl]
        congr 2
        funext j
        show Value.null = va_rf _
        rw [bm_nw_gr, if_pos rfl]; rfl)) (bm_va_push g5 z1 o1) g6
  · cases he
def bm_xR (t ci nx : Nat) : bm_L → List bm_V → bm_W → Option (Prop × bm_S) := fun lo st w => match st with
  | .inr (.inr (.inl (some v))) :: .inl i :: .inr (.inr (.inl (some a))) :: r => some ((bm_kt w a = t ∧ bm_in i (bm_kn w a)) ∧ bm_kt w v = ci, nx, lo, r, bm_sr w a i.toNat (some v))
  | _ => none
theorem bm_s_aastore24 (nx : Nat) (hdg : decode cc pc = .ok (.aastore, 1)) (hC : bm_Cl 1 "CaseTables$Fun" TX1 (vwCl.getD 1 ("", TX0, 0)).2.2) (hn : nx = pc + 1 := by rfl) : bm_Sn K pg mi cc nL own nm ret pc (bm_G (bm_xR 24 1 nx)) := by
  subst hn
  refine bm_Sn.heapG (fun lo st w g u he hg => ?_)
  unfold bm_xR at he
  split at he
  · rename_i v i a r
    cases he
    refine ⟨⟨Nat.le_refl _, Nat.le_refl _⟩, fun D b0 mc ms d p l e R s m args below meth c H locs w0 Q ls hCx hB hle g1 g2 g3 g4 g5 g6 kk => ?_⟩
    obtain ⟨hx, hb, -, -, -, hK, -⟩ := hCx
    obtain ⟨⟨h1, h2⟩, h3⟩ := hg
    obtain ⟨q1, q2, q3⟩ := bm_ix g3.tl.hd h2
    obtain ⟨e1, hba⟩ := bm_arr g4 h1 (by omega) (by omega)
    obtain ⟨hA, kA, comp, k1, k2, k3, -⟩ := hK.2 _ _ (bm_tys_at D (t := 24) (by omega) (by omega))
    obtain ⟨cellV, v1, v2, v3, -⟩ := bm_ob hC g4 h3
    have hcls := (hK.1 1 _ hC.2.1).2
    have hcomp : comp = D.1.1 1 := Option.some.inj (k3.symm.trans hcls.1)
    subst hcomp
    obtain ⟨kC, hkC, -⟩ := hcls.2
    refine W.aast hx hb e1 (fun q h => by cases h) (fun h => by cases h) k1 k2 rfl hkC ⟨fun q => q1 (Or.inl q), by show _ < (arrV _ _ _).slots.size; rw [arrV_size, q2]; exact q3⟩ v1 (fun q h => by rw [v3] at h; cases h) (by rw [v2]; exact hkC) (by rw [v2]; exact va_assign hcls) rfl rfl hdg fun H1 e z oq => ?_
    refine kk H1 _ ls g1 g2 g3.tl.tl.tl (g4.put (a := a) (bm_sr_kt w a i.toNat (some v)) (bm_sr_kn w a i.toNat (some v)) (bm_sr_sz w a i.toNat (some v)) g4.2.1 ?_ z oq (fun b hb2 k => ⟨rfl, rfl, by rw [bm_sr_gr, if_neg (fun q => hb2 q.1)]⟩)) (g5.put z oq hba) g6
    rw [h1]
    unfold bm_cell
    rw [if_neg (by omega), e, q2, arrV_store]
    congr 2
    funext j
    unfold updV
    by_cases hj : j = i.toNat
    · rw [if_pos hj, hj]
      show Value.ref v = va_rf _
      rw [bm_sr_gr, if_pos ⟨rfl, rfl⟩]; rfl
    · rw [if_neg hj]
      show va_rf _ = va_rf _
      rw [bm_sr_gr, if_neg (fun q => hj q.2)]
  · cases he
theorem bm_s_aastore25 (nx : Nat) (hdg : decode cc pc = .ok (.aastore, 1)) (hC : bm_Cl 5 "CaseTables$Row" TX5 (vwCl.getD 5 ("", TX0, 0)).2.2) (hn : nx = pc + 1 := by rfl) : bm_Sn K pg mi cc nL own nm ret pc (bm_G (bm_xR 25 5 nx)) := by
  subst hn
  refine bm_Sn.heapG (fun lo st w g u he hg => ?_)
  unfold bm_xR at he
  split at he
  · rename_i v i a r
    cases he
    refine ⟨⟨Nat.le_refl _, Nat.le_refl _⟩, fun D b0 mc ms d p l e R s m args below meth c H locs w0 Q ls hCx hB hle g1 g2 g3 g4 g5 g6 kk => ?_⟩
    obtain ⟨hx, hb, -, -, -, hK, -⟩ := hCx
    obtain ⟨⟨h1, h2⟩, h3⟩ := hg
    obtain ⟨q1, q2, q3⟩ := bm_ix g3.tl.hd h2
    obtain ⟨e1, hba⟩ := bm_arr g4 h1 (by omega) (by omega)
    obtain ⟨hA, kA, comp, k1, k2, k3, -⟩ := hK.2 _ _ (bm_tys_at D (t := 25) (by omega) (by omega))
    obtain ⟨cellV, v1, v2, v3, -⟩ := bm_ob hC g4 h3
    have hcls := (hK.1 5 _ hC.2.1).2
    have hcomp : comp = D.1.1 5 := Option.some.inj (k3.symm.trans hcls.1)
    subst hcomp
    obtain ⟨kC, hkC, -⟩ := hcls.2
    refine W.aast hx hb e1 (fun q h => by cases h) (fun h => by cases h) k1 k2 rfl hkC ⟨fun q => q1 (Or.inl q), by show _ < (arrV _ _ _).slots.size; rw [arrV_size, q2]; exact q3⟩ v1 (fun q h => by rw [v3] at h; cases h) (by rw [v2]; exact hkC) (by rw [v2]; exact va_assign hcls) rfl rfl hdg fun H1 e z oq => ?_
    refine kk H1 _ ls g1 g2 g3.tl.tl.tl (g4.put (a := a) (bm_sr_kt w a i.toNat (some v)) (bm_sr_kn w a i.toNat (some v)) (bm_sr_sz w a i.toNat (some v)) g4.2.1 ?_ z oq (fun b hb2 k => ⟨rfl, rfl, by rw [bm_sr_gr, if_neg (fun q => hb2 q.1)]⟩)) (g5.put z oq hba) g6
    rw [h1]
    unfold bm_cell
    rw [if_neg (by omega), e, q2, arrV_store]
    congr 2
    funext j
    unfold updV
    by_cases hj : j = i.toNat
    · rw [if_pos hj, hj]
      show Value.ref v = va_rf _
      rw [bm_sr_gr, if_pos ⟨rfl, rfl⟩]; rfl
    · rw [if_neg hj]
      show va_rf _ = va_rf _
      rw [bm_sr_gr, if_neg (fun q => hj q.2)]
  · cases he
theorem bm_s_aastore26 (nx : Nat) (hdg : decode cc pc = .ok (.aastore, 1)) (hC : bm_Cl 7 "CaseTables$Table" TX7 (vwCl.getD 7 ("", TX0, 0)).2.2) (hn : nx = pc + 1 := by rfl) : bm_Sn K pg mi cc nL own nm ret pc (bm_G (bm_xR 26 7 nx)) := by
  subst hn
  refine bm_Sn.heapG (fun lo st w g u he hg => ?_)
  unfold bm_xR at he
  split at he
  · rename_i v i a r
    cases he
    refine ⟨⟨Nat.le_refl _, Nat.le_refl _⟩, fun D b0 mc ms d p l e R s m args below meth c H locs w0 Q ls hCx hB hle g1 g2 g3 g4 g5 g6 kk => ?_⟩
    obtain ⟨hx, hb, -, -, -, hK, -⟩ := hCx
    obtain ⟨⟨h1, h2⟩, h3⟩ := hg
    obtain ⟨q1, q2, q3⟩ := bm_ix g3.tl.hd h2
    obtain ⟨e1, hba⟩ := bm_arr g4 h1 (by omega) (by omega)
    obtain ⟨hA, kA, comp, k1, k2, k3, -⟩ := hK.2 _ _ (bm_tys_at D (t := 26) (by omega) (by omega))
    obtain ⟨cellV, v1, v2, v3, -⟩ := bm_ob hC g4 h3
    have hcls := (hK.1 7 _ hC.2.1).2
    have hcomp : comp = D.1.1 7 := Option.some.inj (k3.symm.trans hcls.1)
    subst hcomp
    obtain ⟨kC, hkC, -⟩ := hcls.2
    refine W.aast hx hb e1 (fun q h => by cases h) (fun h => by cases h) k1 k2 rfl hkC ⟨fun q => q1 (Or.inl q), by show _ < (arrV _ _ _).slots.size; rw [arrV_size, q2]; exact q3⟩ v1 (fun q h => by rw [v3] at h; cases h) (by rw [v2]; exact hkC) (by rw [v2]; exact va_assign hcls) rfl rfl hdg fun H1 e z oq => ?_
    refine kk H1 _ ls g1 g2 g3.tl.tl.tl (g4.put (a := a) (bm_sr_kt w a i.toNat (some v)) (bm_sr_kn w a i.toNat (some v)) (bm_sr_sz w a i.toNat (some v)) g4.2.1 ?_ z oq (fun b hb2 k => ⟨rfl, rfl, by rw [bm_sr_gr, if_neg (fun q => hb2 q.1)]⟩)) (g5.put z oq hba) g6
    rw [h1]
    unfold bm_cell
    rw [if_neg (by omega), e, q2, arrV_store]
    congr 2
    funext j
    unfold updV
    by_cases hj : j = i.toNat
    · rw [if_pos hj, hj]
      show Value.ref v = va_rf _
      rw [bm_sr_gr, if_pos ⟨rfl, rfl⟩]; rfl
    · rw [if_neg hj]
      show va_rf _ = va_rf _
      rw [bm_sr_gr, if_neg (fun q => hj q.2)]
  · cases he
end BMA
end
section
/-! ===== calls, returns, throws, switches, constants ===== -/
theorem bm_ok_of {n : Nat} {st : List bm_V} (h : bm_ok n st = true) : n ≤ st.length ∧ bm_wt (st.drop n) ≤ 8 := by
  unfold bm_ok at h
  cases e : n.ble st.length with
  | false => rw [e] at h; cases h
  | true => rw [e] at h; exact ⟨Nat.le_of_ble_eq_true e, Nat.le_of_ble_eq_true h⟩
theorem bm_exe_call {C : bm_Ca} (hm : bm_mono C) (hd : bm_det C) (hs : bm_CaMo C) {P : bm_S → Prop} {F : bm_Rt → bm_W → Prop} {lo : bm_L} {st : List bm_V} {w : bm_W} {y n nx rt rk : Nat} (h : bm_exe C (bm_C y n nx rt rk) P F lo st w) :
    (n ≤ st.length ∧ bm_wt (st.drop n) ≤ 8) ∧ bm_rcv w rk (st.take n).reverse ∧ ∃ r w', bm_le w w' ∧ C y (st.take n).reverse w (fun r2 w2 => r2 = r ∧ w2 = w') ∧ (∀ v, r = .inl v → P (nx, lo, v.toList ++ st.drop n, w')) ∧ (∀ E, r = .inr E → rt < 5 ∧ F (.inr E) w') := by
  simp only [bm_exe] at h
  cases e : bm_ok n st with
  | false => rw [e] at h; exact h.elim
  | true =>
    rw [e] at h
    obtain ⟨h1, h2⟩ := h
    refine ⟨bm_ok_of e, h1, ?_⟩
    match rt, h2 with
    | 0, h2 =>
      obtain ⟨r, w', ⟨g1, g2⟩, g3⟩ := hd _ _ _ _ (hs _ _ _ _ h2)
      refine ⟨r, w', g2, g3, fun v hv => ?_, fun E hE => ?_⟩
      · subst hv; rcases v with _ | v
        · exact g1
        · exact g1.elim
      · subst hE; exact ⟨by omega, g1⟩
    | 1, h2 =>
      obtain ⟨r, w', ⟨g1, g2⟩, g3⟩ := hd _ _ _ _ (hs _ _ _ _ h2)
      refine ⟨r, w', g2, g3, fun v hv => ?_, fun E hE => ?_⟩
      · subst hv; rcases v with _ | v | v
        · exact g1.elim
        · exact g1
        · exact g1.elim
      · subst hE; exact ⟨by omega, g1⟩
    | 2, h2 =>
      obtain ⟨r, w', ⟨g1, g2⟩, g3⟩ := hd _ _ _ _ (hs _ _ _ _ h2)
      refine ⟨r, w', g2, g3, fun v hv => ?_, fun E hE => ?_⟩
      · subst hv; rcases v with _ | v | v | v
        · exact g1.elim
        · exact g1.elim
        · exact g1
        · exact g1.elim
      · subst hE; exact ⟨by omega, g1⟩
    | 3, h2 =>
      obtain ⟨r, w', ⟨g1, g2⟩, g3⟩ := hd _ _ _ _ (hs _ _ _ _ h2)
      refine ⟨r, w', g2, g3, fun v hv => ?_, fun E hE => ?_⟩
      · subst hv; rcases v with _ | v | v | (_ | v) | v
        · exact g1.elim
        · exact g1.elim
        · exact g1.elim
        · exact g1.elim
        · exact g1
        · exact g1.elim
      · subst hE; exact ⟨by omega, g1⟩
    | 4, h2 =>
      obtain ⟨r, w', ⟨g1, g2⟩, g3⟩ := hd _ _ _ _ (hs _ _ _ _ h2)
      refine ⟨r, w', g2, g3, fun v hv => ?_, fun E hE => ?_⟩
      · subst hv; rcases v with _ | v | v | v | v | v
        · exact g1.elim
        · exact g1.elim
        · exact g1.elim
        · exact g1.elim
        · exact g1
        · exact g1.elim
      · subst hE; exact ⟨by omega, g1⟩
    | 5, h2 =>
      obtain ⟨r, w', ⟨g1, g2⟩, g3⟩ := hd _ _ _ _ (hs _ _ _ _ h2)
      refine ⟨r, w', g2, g3, fun v hv => ?_, fun E hE => ?_⟩
      · subst hv; rcases v with _ | v
        · exact g1
        · exact g1.elim
      · subst hE; exact g1.elim
    | _ + 6, h2 =>
      obtain ⟨r, w', ⟨g1, g2⟩, g3⟩ := hd _ _ _ _ (hs _ _ _ _ h2)
      refine ⟨r, w', g2, g3, fun v hv => ?_, fun E hE => ?_⟩
      · subst hv; rcases v with _ | v | v
        · exact g1.elim
        · exact g1
        · exact g1.elim
      · subst hE; exact g1.elim
theorem bm_cats (D : bm_D) : ∀ st : List bm_V, ((st.map (bm_val D)).map fun v => v.category).sum = bm_wt st
  | [] => rfl
  | .inl x :: r => by rw [List.map_cons, List.map_cons, List.sum_cons, bm_cats D r, Nat.add_comm]; rfl
  | .inr (.inl x) :: r => by rw [List.map_cons, List.map_cons, List.sum_cons, bm_cats D r, Nat.add_comm]; rfl
  | .inr (.inr (.inl none)) :: r => by rw [List.map_cons, List.map_cons, List.sum_cons, bm_cats D r, Nat.add_comm]; rfl
  | .inr (.inr (.inl (some x))) :: r => by rw [List.map_cons, List.map_cons, List.sum_cons, bm_cats D r, Nat.add_comm]; rfl
  | .inr (.inr (.inr (.inl x))) :: r => by rw [List.map_cons, List.map_cons, List.sum_cons, bm_cats D r, Nat.add_comm]; rfl
  | .inr (.inr (.inr (.inr x))) :: r => by rw [List.map_cons, List.map_cons, List.sum_cons, bm_cats D r, Nat.add_comm, show (bm_val D (.inr (.inr (.inr (.inr x))))).category = 1 from bm_kv_cat D x]; rfl
theorem bm_met_of {l : Launch} {y : MethodName} {ws : List Cond} {rm : Room} {Pc : Array Value → State → Prop} {Qc : Array Value → State → Outcome → State → Prop} {XC : String → State → State → Prop} {mc ms : Nat} {free : Addr → Prop} (h : vx_Met l y ws rm Pc Qc XC mc ms free) (hX : ∀ E s t, ¬ XC E s t) : Met l y ws rm Pc Qc mc ms free := by
  intro p e ha hc hk s m args below hf happ hP hK
  obtain ⟨n, o, h1, h2, h3, h4⟩ := h p e ha hc hk s m args below hf happ hP hK
  refine ⟨n, o, h1, h2, h3, ?_⟩
  rcases h4 with h4 | ⟨q, -, E, ce, L, hx, -⟩
  · exact h4
  · exact absurd hx (hX E _ _)
section BMC
variable {K : bm_K} {pg : bm_Pg} {mi : bm_Mi} {cc : ByteArray} {nL : Nat} {own nm : String} {ret : Option FieldType} {pc : Nat}
/-- from a callee's run to the caller's walk -/
theorem bm_callGo {D : bm_D} {b0 mc ms mc' ms' : Nat} {p : Program} {l : Launch} {e : Env} {R : Room} {s : State} {m : MethodId} {args a9 : Array Value} {below : List Frame} {meth : Method} {c : Code} {H : Heap} {locs : List Loc} {ls : Array Slot} {w w' w0 : bm_W} {F : bm_Rt → bm_W → Prop} {r : bm_Rt} {lo : bm_L} {st0 rest : List bm_V} {d : Nat}
    (hCx : bm_Cx K D b0 mc ms d p l R s m args meth c cc nL own nm ret)
    (hr : vx_Run p l e R s m args below meth c H locs (bm_sz w - bm_sz w0) (bm_sl w - bm_sl w0) mc' ms' (F0 m pc ls (st0.map (bm_val D))) (rest.map (bm_val D)) (bm_Qc D b0 (fun r2 w2 => r2 = r ∧ w2 = w') a9) (bm_XC D b0 (fun r2 w2 => r2 = r ∧ w2 = w')) (bm_A b0))
    (e1 : bm_sz w + mc' = bm_sz w') (e2 : bm_sl w + ms' = bm_sl w') (hle : bm_le w0 w) (g1 : lo.length = nL) (g2 : bm_InLo lo) (g3 : bm_InSt rest) (g5 : va_S (bm_A b0) s.heap H locs) (g6 : lv_has ls nL (bm_lv D 0 lo))
    (hv : ∀ v, r = .inl v → bm_Wg D b0 mc ms p l e R s m args below meth c nL w0 F (pc + 3, lo, v.toList ++ rest, w'))
    (hE : ∀ E, r = .inr E → F (.inr E) w' ∧ bm_Bn w0 mc ms w') :
    W p l e R s m args below meth c H locs (bm_sz w - bm_sz w0) (bm_sl w - bm_sl w0) (vx_MQ below (bm_Qc D b0 F) (bm_XC D b0 F) args s mc ms (bm_A b0)) (F0 m pc ls (st0.map (bm_val D))) := by
  obtain ⟨hl1, hl2⟩ := hle
  have c1 : bm_sz w - bm_sz w0 + mc' = bm_sz w' - bm_sz w0 := by omega
  have c2 : bm_sl w - bm_sl w0 + ms' = bm_sl w' - bm_sl w0 := by omega
  intro T hT X
  rcases hr T hT X with ⟨v, st₀, t, T', L, h0, X', hL, f1, f2, ⟨⟨r2, w2, hv2, ⟨hr2, rfl⟩, hin, hHR⟩, hF⟩, stp⟩ | ⟨q, st₀, t, T', L, E, ce, h0, X', hL, f1, f2, ⟨⟨w2, ⟨hr2, rfl⟩, hHX⟩, hF⟩, hce, hcv, hcl, stp⟩
  · cases hv2
    obtain ⟨k1, k2, k3⟩ := vx_keep (A0 := bm_A b0) h0 f1 g5 (fun q _ h => h) (fun q h => h) hL hF
    obtain ⟨hb, hw⟩ := hv r2 hr2.symm
    rw [c1, c2] at X'
    obtain ⟨t2, a1, b1⟩ := hw T'.heap (locs ++ L) ls g1 g2 (by
      cases r2 with
      | none => exact g3
      | some u => exact bm_InSt.cons (hin u rfl) g3) (by rw [f1]; exact hHR) k3 g6 ⟨by show bm_sz w0 ≤ bm_sz w2; omega, by show bm_sl w0 ≤ bm_sl w2; omega⟩ T' rfl X'
    refine ⟨t2, stp t2 ?_, b1⟩
    cases r2 with
    | none => exact a1
    | some u => exact a1
  · obtain ⟨hFE, hBn⟩ := hE E hr2.symm
    obtain ⟨k1, k2, k3⟩ := vx_keep (A0 := bm_A b0) h0 f1 g5 (fun q _ h => h) (fun q h => h) hL hF
    obtain ⟨hx, hb, hml, hown, hts, hK, hST, hlk, hex, -⟩ := hCx
    rw [c1, c2] at X'
    have hout := vx_out (p := p) (l := l) (e := e) (R := R) (s := s) (m := m) (args := args) (below := below) (meth := meth) (c := c) (H := T'.heap) (locs := locs ++ L) (cells := bm_sz w2 - bm_sz w0) (slots := bm_sl w2 - bm_sl w0) (Qc := bm_Qc D b0 F) (XC := bm_XC D b0 F) (mc := mc) (ms := ms) (free := bm_A b0) (ls := ls) (rest := rest.map (bm_val D)) (pc := pc) (E := E) (ce := ce) (q := q)
      (fun x hx2 => (hex x hx2).elim) hlk (by rw [f1]; exact hce) hcv hcl (fun t3 ht3 hvm3 => ⟨⟨w2, hFE, by rw [ht3, f1]; exact hHX⟩, k3.F ht3⟩) k3.2.2 (by have := hBn.1; omega) (by have := hBn.2; omega)
    obtain ⟨t2, a1, b1⟩ := hout T' rfl X'
    exact ⟨t2, stp.trans a1, b1⟩
/-- what a call row needs of the words -/
def bm_cw (mi : bm_Mi) (pg : bm_Pg) (y n : Nat) : Prop := Cond.code (mi y).1 (mi y).2.1 (pg y).2 (mi y).2.2 ∈ bm_ALL ∧ Cond.initialized (mi y).1.cls ∈ bm_ALL ∧ ((mi y).1.cls ≠ "java/lang/invoke/MethodHandle" ∧ (mi y).1.cls ≠ "java/lang/invoke/VarHandle") ∧ (parseMethodDescriptor (mi y).1.desc).map (fun d => d.parameters.length) = some n ∧ (pg y).2 ≤ 21
theorem bm_ws_ok {mi : bm_Mi} {pg : bm_Pg} {y n : Nat} {s : State} {args : Array Value} (h : bm_cw mi pg y n) (hts : ∀ w ∈ bm_ALL, w.before args s = true) : ∀ w ∈ bm_ws mi pg y, ∀ (a' : Array Value) (U : State), s.WarmedH U.vm → w.before a' U = true := by
  intro w hw a' U hW
  have hw2 : w ∈ bm_ALL := (List.mem_cons.mp hw).elim (fun q => by rw [q]; exact h.1) id
  exact word_at hW (good_of_word (List.mem_filter.mp hw2).2) (hts w hw2)
set_option maxRecDepth 100000 in
theorem bm_lo_ok {a b c : Nat} (h : a ≤ 21) (h2 : 40 * b + 440 ≤ c) : 8 + (a + 11) + (40 * b + 400) ≤ c := by omega
theorem bm_callB {mi : bm_Mi} {pg : bm_Pg} {y n index d mc' ms' : Nat} {R : Room} {s : State} {args : Array Value} (h : bm_cw mi pg y n) (hts : ∀ w ∈ bm_ALL, w.before args s = true) (hl : Cond.methodLink own index (mi y).1 ∈ bm_ALL) (hf : d + 13 ≤ R.frames) (hlo : 40 * d + 440 ≤ R.locals) : CallB R s args own index (mi y).1 (mi y).2.1 (pg y).2 (mi y).2.2 (bm_ws mi pg y) (bm_rm d mc' ms') mc' ms' n := by
  have h21 := h.2.2.2.2
  have f1 : (bm_rm d mc' ms').frames + 1 ≤ R.frames := hf
  have f2 : 8 + ((pg y).2 + 11) + (bm_rm d mc' ms').locals ≤ R.locals := bm_lo_ok h21 hlo
  refine ⟨rfl, rfl, f1, f2, bm_ws_ok h hts, List.mem_cons_self, hts _ h.1, hts _ h.2.1, h.2.2.1, fun sig hsg => ?_, hts _ hl⟩
  have h2 := h.2.2.2.1
  rw [hsg] at h2
  exact (Option.some.inj h2).symm
theorem bm_pre {D : bm_D} {b0 mc ms d : Nat} {p : Program} {l : Launch} {R : Room} {s : State} {m : MethodId} {args : Array Value} {meth : Method} {c : Code} {H : Heap} {locs : List Loc} {w : bm_W} {as : List bm_V} (hCx : bm_Cx K D b0 mc ms d p l R s m args meth c cc nL own nm ret) (hH : bm_HR D b0 w H) (hS : va_S (bm_A b0) s.heap H locs) :
    ∀ U : State, U.heap = H → s.WarmedH U.vm → bm_Pc K D b0 as w (as.map (bm_val D)).toArray U := by
  intro U hU hW
  obtain ⟨-, -, -, -, -, hK, hST, -, -, -, hb0, -⟩ := hCx
  exact ⟨rfl, by rw [hU]; exact Nat.le_trans hb0 hS.1, by rw [hU]; exact hH, va_K.moved hW.alike hK, by rw [hU]; exact hST.moved hW hS.2.1⟩
theorem bm_stk (D : bm_D) {st : List bm_V} {n : Nat} : st.map (bm_val D) = ((st.take n).reverse.map (bm_val D)).reverse ++ (st.drop n).map (bm_val D) := by
  rw [List.map_reverse, List.reverse_reverse, ← List.map_append, List.take_append_drop]
/-- the frame of all four kinds of call -/
theorem bm_Sn.call {y n rt rk : Nat}
    (h : ∀ (D : bm_D) (b0 mc ms mc' ms' d : Nat) (p : Program) (l : Launch) (e : Env) (R : Room) (s : State) (m : MethodId) (args : Array Value) (below : List Frame) (meth : Method) (c : Code) (H : Heap) (locs : List Loc) (ls : Array Slot) (w w' : bm_W) (r : bm_Rt) (cells slots : Nat) (st : List bm_V),
      bm_Cx K D b0 mc ms d p l R s m args meth c cc nL own nm ret → n ≤ st.length → bm_rcv w rk (st.take n).reverse → (rt < 5 ∨ ∀ E, ¬ r = .inr E) →
      vx_Met l (mi y).1 (bm_ws mi pg y) (bm_rm d mc' ms') (bm_Pc K D b0 (st.take n).reverse w) (bm_Qc D b0 (fun r2 w2 => r2 = r ∧ w2 = w')) (bm_XC D b0 (fun r2 w2 => r2 = r ∧ w2 = w')) mc' ms' (bm_A b0) →
      bm_HR D b0 w H → va_S (bm_A b0) s.heap H locs → ls.size = nL → (((st.drop n).map (bm_val D)).map fun v => v.category).sum ≤ 8 → (cells + mc' ≤ R.cells ∧ slots + ms' ≤ R.slots) →
      vx_Run p l e R s m args below meth c H locs cells slots mc' ms' (F0 m pc ls (st.map (bm_val D))) ((st.drop n).map (bm_val D)) (bm_Qc D b0 (fun r2 w2 => r2 = r ∧ w2 = w') ((st.take n).reverse.map (bm_val D)).toArray) (bm_XC D b0 (fun r2 w2 => r2 = r ∧ w2 = w')) (bm_A b0)) :
    bm_Sn K pg mi cc nL own nm ret pc (bm_C y n (pc + 3) rt rk) := by
  refine ⟨trivial, ?_⟩
  intro D b0 mc ms d p l e R s m args below meth c w0 F hCx hCon hS hF lo st w hex
  obtain ⟨⟨hn, hwt⟩, hrc, r, w', hle, hC, hv, hE⟩ := bm_exe_call (bm_Call_mono pg d) (bm_Call_det pg d) hS hex
  have hle1 : bm_sz w ≤ bm_sz w' := hle.1
  have hle2 : bm_sl w ≤ bm_sl w' := hle.2
  have c1 : bm_sz w + (bm_sz w' - bm_sz w) = bm_sz w' := Nat.add_sub_cancel' hle1
  have c2 : bm_sl w + (bm_sl w' - bm_sl w) = bm_sl w' := Nat.add_sub_cancel' hle2
  have hend : bm_Bn w0 mc ms w' := by
    match r, hv, hE with
    | .inl v, hv, hE => exact (hv v rfl).1
    | .inr E, hv, hE => exact hF _ _ (hE E rfl).2
  refine ⟨⟨Nat.le_trans hle.1 hend.1, Nat.le_trans hle.2 hend.2⟩, fun H locs ls g1 g2 g3 g4 g5 g6 g7 => ?_⟩
  have hin : bm_InSt (st.take n).reverse := fun v hv2 => g3 v (List.mem_of_mem_take (List.mem_reverse.mp hv2))
  have hM := hCon D b0 y (st.take n).reverse w (fun r2 w2 => r2 = r ∧ w2 = w') (bm_sz w' - bm_sz w) (bm_sl w' - bm_sl w) hin hC (fun r2 w2 q => by
    obtain ⟨rfl, rfl⟩ := q
    exact ⟨hle, ⟨Nat.le_of_eq c1.symm, Nat.le_of_eq c2.symm⟩⟩)
  have hrun := h D b0 mc ms (bm_sz w' - bm_sz w) (bm_sl w' - bm_sl w) d p l e R s m args below meth c H locs ls w w' r (bm_sz w - bm_sz w0) (bm_sl w - bm_sl w0) st hCx hn hrc (by
    rcases Nat.lt_or_ge rt 5 with q | q
    · exact Or.inl q
    · exact Or.inr (fun E hr => absurd (hE E hr).1 (by omega))) hM g4 g5 g6.1 (by rw [bm_cats]; exact hwt) (by
      obtain ⟨-, -, -, -, -, -, -, -, -, -, -, hRc, hRs, -⟩ := hCx
      have z1 : bm_sz w' ≤ bm_sz w0 + mc := hend.1
      have z2 : bm_sl w' ≤ bm_sl w0 + ms := hend.2
      have z3 : bm_sz w0 ≤ bm_sz w := g7.1
      have z4 : bm_sl w0 ≤ bm_sl w := g7.2
      exact ⟨by rw [hRc]; omega, by rw [hRs]; omega⟩)
  exact bm_callGo hCx hrun c1 c2 g7 g1 g2 (fun v hv2 => g3 v (List.mem_of_mem_drop hv2)) g5 g6 hv (fun E hr => ⟨(hE E hr).2, hend⟩)
theorem bm_fix {D : bm_D} {b0 mc ms d : Nat} {p : Program} {l : Launch} {R : Room} {s : State} {m : MethodId} {args : Array Value} {meth : Method} {c : Code} (hCx : bm_Cx K D b0 mc ms d p l R s m args meth c cc nL own nm ret) : CallFix p m c cc nL s args bm_ALL own := ⟨hCx.1, hCx.2.1, hCx.2.2.1, hCx.2.2.2.1, hCx.2.2.2.2.1⟩
theorem bm_len_take {st : List bm_V} {n : Nat} (h : n ≤ st.length) : (st.take n).reverse.length = n := by rw [List.length_reverse, List.length_take]; omega
/-- the receiver and the rest of the arguments -/
theorem bm_recv {D : bm_D} {st : List bm_V} {n : Nat} {b : Nat} {as : List bm_V} (e : (st.take (n + 1)).reverse = .inr (.inr (.inl (some b))) :: as) : st.map (bm_val D) = (as.map (bm_val D)).reverse ++ Value.ref b :: (st.drop (n + 1)).map (bm_val D) := by
  rw [bm_stk D (st := st) (n := n + 1), e, List.map_cons, List.reverse_cons, List.append_assoc]
  rfl
theorem bm_s_invS {y n rt index : Nat} (nx : Nat) (hdg : decode cc pc = .ok (.invokestatic index, 3)) (hw : bm_cw mi pg y n) (hl : Cond.methodLink own index (mi y).1 ∈ bm_ALL) (hst : Cond.static (mi y).1 ∈ bm_ALL) (hrt : rt < 5) (hn : nx = pc + 3 := by rfl) : bm_Sn K pg mi cc nL own nm ret pc (bm_C y n nx rt 0) := by
  subst hn
  refine bm_Sn.call (fun D b0 mc ms mc' ms' d p l e R s m args below meth c H locs ls w w' r cells slots st hCx hnl hrc hr5 hM hH hS hls hW hf => ?_)
  have hts := hCx.2.2.2.2.1
  exact vx_runS (As := (st.take n).reverse.map (bm_val D)) (bm_fix hCx) hM ⟨bm_callB hw hts hl hCx.2.2.2.2.2.2.2.2.2.2.2.2.2.1 hCx.2.2.2.2.2.2.2.2.2.2.2.2.2.2.1, hts _ hst⟩ ⟨bm_Pc.blind, bm_pre hCx hH hS⟩ rfl (by rw [List.length_map]; exact bm_len_take hnl) hls (bm_stk D) (lv_room hW) hdg hf
theorem bm_s_invV {y n rt index t N : Nat} {C : String} {T : u_T} (nx : Nat) (hdg : decode cc pc = .ok (.invokevirtual index, 3)) (hw : bm_cw mi pg y n) (hC : bm_Cl t C T N) (hl : Cond.methodLink own index (mi y).1 ∈ bm_ALL) (hst : Cond.instanceMethod (mi y).1 ∈ bm_ALL) (hse : Cond.selects C (mi y).1 (mi y).1 ∈ bm_ALL) (hrt : rt < 5) (hn : nx = pc + 3 := by rfl) : bm_Sn K pg mi cc nL own nm ret pc (bm_C y (n + 1) nx rt (t + 3)) := by
  subst hn
  refine bm_Sn.call (fun D b0 mc ms mc' ms' d p l e R s m args below meth c H locs ls w w' r cells slots st hCx hnl hrc hr5 hM hH hS hls hW hf => ?_)
  have hts := hCx.2.2.2.2.1
  have hlen := bm_len_take hnl
  generalize hae : (st.take (n + 1)).reverse = as at hrc hM hlen ⊢
  match as, hrc, hae, hM, hlen with
  | .inr (.inr (.inl (some b))) :: as, hrc, hae, hM, hlen =>
    obtain ⟨cell, q1, q2, q3, -⟩ := bm_ob hC hH hrc
    have hfc : s.vm.findClass C = some cell.cls := by rw [q2]; exact (hCx.2.2.2.2.2.1.1 t _ hC.2.1).2.1
    exact vx_runV (As := as.map (bm_val D)) (bm_fix hCx) hM ⟨bm_callB hw hts hl hCx.2.2.2.2.2.2.2.2.2.2.2.2.2.1 hCx.2.2.2.2.2.2.2.2.2.2.2.2.2.2.1, hts _ hst, hts _ hse⟩ ⟨bm_Pc.blind, ⟨cell, q1, by rw [q3]; rfl, hfc⟩, bm_pre hCx hH hS⟩ rfl (by rw [List.length_map]; simpa using hlen) hls (bm_recv hae) (lv_room hW) hdg hf
theorem bm_run_of {p : Program} {l : Launch} {e : Env} {R : Room} {s : State} {m : MethodId} {args : Array Value} {below : List Frame} {meth : Method} {c : Code} {H : Heap} {locs : List Loc} {cells slots mc ms : Nat} {g : JFrame} {rest : List Value} {Qa : State → Outcome → State → Prop} {XC : String → State → State → Prop} {free : Addr → Prop} (h : va_Run p l e R s m args below meth c H locs cells slots mc ms g rest Qa free) : vx_Run p l e R s m args below meth c H locs cells slots mc ms g rest Qa XC free := fun T hT X => Or.inl (h T hT X)
theorem bm_s_invSN {y n index : Nat} {host : String} (nx : Nat) (hdg : decode cc pc = .ok (.invokestatic index, 3)) (hw : bm_cw mi pg y n) (hl : Cond.methodLinkNest own index (mi y).1 host ∈ bm_NW) (hst : Cond.static (mi y).1 ∈ bm_ALL) (hn : nx = pc + 3 := by rfl) : bm_Sn K pg mi cc nL own nm ret pc (bm_C y n nx 6 0) := by
  subst hn
  refine bm_Sn.call (fun D b0 mc ms mc' ms' d p l e R s m args below meth c H locs ls w w' r cells slots st hCx hnl hrc hr5 hM hH hS hls hW hf => ?_)
  have hts := hCx.2.2.2.2.1
  have hr5 : ∀ E, ¬ r = .inr E := hr5.elim (fun q => absurd q (by omega)) id
  have hM' := bm_met_of hM (fun E s t q => by obtain ⟨⟨w3, ⟨q1, -⟩, -⟩, -⟩ := q; exact hr5 E q1.symm)
  have hf13 : d + 13 ≤ R.frames := hCx.2.2.2.2.2.2.2.2.2.2.2.2.2.1
  have hf40 : 40 * d + 440 ≤ R.locals := hCx.2.2.2.2.2.2.2.2.2.2.2.2.2.2.1
  have h21 := hw.2.2.2.2
  have f1 : (bm_rm d mc' ms').frames + 1 ≤ R.frames := hf13
  have f2 : 8 + ((pg y).2 + 11) + (bm_rm d mc' ms').locals ≤ R.locals := bm_lo_ok h21 hf40
  have hcn : va_CN R s args own index (mi y).1 host (mi y).2.1 (pg y).2 (mi y).2.2 (bm_ws mi pg y) (bm_rm d mc' ms') mc' ms' n := by
    refine ⟨⟨rfl, rfl, f1, f2, bm_ws_ok hw hts, List.mem_cons_self⟩, hts _ hw.1, hts _ hw.2.1, hw.2.2.1, fun sig hsg => ?_, va_Nw.use rfl (hCx.2.2.2.2.2.2.1.2.2.2.2.2.2.2.2 _ hl)⟩
    have h2 := hw.2.2.2.1
    rw [hsg] at h2
    exact (Option.some.inj h2).symm
  exact bm_run_of (va_runSN (As := (st.take n).reverse.map (bm_val D)) (bm_fix hCx) hM' ⟨hcn, hts _ hst, trivial⟩ ⟨bm_Pc.blind, bm_pre hCx hH hS⟩ rfl (by rw [List.length_map]; exact bm_len_take hnl) hls (bm_stk D) (lv_room hW) hdg hf)
theorem bm_s_invI {y n index : Nat} (nx : Nat) (hdg : decode cc pc = .ok (.invokespecial index, 3)) (hw : bm_cw mi pg y n) (hl : Cond.methodLink own index (mi y).1 ∈ bm_ALL ∨ ∃ host : String, Cond.methodLinkNest own index (mi y).1 host ∈ bm_NW) (hst : Cond.instanceMethod (mi y).1 ∈ bm_ALL) (hi : (mi y).1.name = "<init>") (hret : (mi y).2.2 = none) (hn : nx = pc + 3 := by rfl) : bm_Sn K pg mi cc nL own nm ret pc (bm_C y (n + 1) nx 5 1) := by
  subst hn
  refine bm_Sn.call (fun D b0 mc ms mc' ms' d p l e R s m args below meth c H locs ls w w' r cells slots st hCx hnl hrc hr5 hM hH hS hls hW hf => ?_)
  have hts := hCx.2.2.2.2.1
  have hlen := bm_len_take hnl
  have hr5 : ∀ E, ¬ r = .inr E := hr5.elim (fun q => absurd q (by omega)) id
  have hM' := bm_met_of hM (fun E s t q => by obtain ⟨⟨w3, ⟨q1, -⟩, -⟩, -⟩ := q; exact hr5 E q1.symm)
  generalize hae : (st.take (n + 1)).reverse = as at hrc hM' hlen ⊢
  have hf13 : d + 13 ≤ R.frames := hCx.2.2.2.2.2.2.2.2.2.2.2.2.2.1
  have hf40 : 40 * d + 440 ≤ R.locals := hCx.2.2.2.2.2.2.2.2.2.2.2.2.2.2.1
  match as, hrc, hae, hM', hlen with
  | .inr (.inr (.inl (some b))) :: as, hrc, hae, hM', hlen =>
    rcases hl with hl | ⟨host, hl⟩
    · have hcb := bm_callB (mc' := mc') (ms' := ms') hw hts hl hf13 hf40
      rw [hret] at hcb
      exact bm_run_of (va_runI (As := as.map (bm_val D)) (bm_fix hCx) hM' ⟨hcb, hi, hts _ hst⟩ ⟨bm_Pc.blind, bm_pre hCx hH hS⟩ rfl (by rw [List.length_map]; simpa using hlen) hls (bm_recv hae) (lv_room hW) hdg hf)
    · have h21 := hw.2.2.2.2
      have f1 : (bm_rm d mc' ms').frames + 1 ≤ R.frames := hf13
      have f2 : 8 + ((pg y).2 + 11) + (bm_rm d mc' ms').locals ≤ R.locals := bm_lo_ok h21 hf40
      have hcn : va_CN R s args own index (mi y).1 host (mi y).2.1 (pg y).2 none (bm_ws mi pg y) (bm_rm d mc' ms') mc' ms' n := by
        refine ⟨⟨rfl, rfl, f1, f2, bm_ws_ok hw hts, ?_⟩, ?_, hts _ hw.2.1, hw.2.2.1, fun sig hsg => ?_, va_Nw.use rfl (hCx.2.2.2.2.2.2.1.2.2.2.2.2.2.2.2 _ hl)⟩
        · rw [← hret]; exact List.mem_cons_self
        · have h9 := hts _ hw.1
          rw [hret] at h9
          exact h9
        · have h2 := hw.2.2.2.1
          rw [hsg] at h2
          exact (Option.some.inj h2).symm
      exact bm_run_of (va_runIN (As := as.map (bm_val D)) (bm_fix hCx) hM' ⟨hcn, hi, hts _ hst⟩ ⟨bm_Pc.blind, bm_pre hCx hH hS⟩ rfl (by rw [List.length_map]; simpa using hlen) hls (bm_recv hae) (lv_room hW) hdg hf)
end BMC
end
section
/-! ===== returns, throws, switches, constants, copies ===== -/
section BME
variable {K : bm_K} {pg : bm_Pg} {mi : bm_Mi} {cc : ByteArray} {nL : Nat} {own nm : String} {ret : Option FieldType} {pc : Nat}
theorem bm_Sn.rtn {k : Nat} (h : ∀ (st : List bm_V) (w : bm_W) (F : bm_Rt → bm_W → Prop) (lo : bm_L), bm_exe (fun _ _ _ _ => False) (bm_R k) (fun _ => False) F lo st w → ∃ r, F (.inl r) w ∧ st = r.toList ∧ (∀ v, r = some v → bm_InV v → 
      ∀ (D : bm_D) (b0 mc ms d : Nat) (p : Program) (l : Launch) (e : Env) (R : Room) (s : State) (m : MethodId) (args : Array Value) (below : List Frame) (meth : Method) (c : Code) (H : Heap) (locs : List Loc) (cells slots : Nat) (ls : Array Slot) (Qc : Array Value → State → Outcome → State → Prop), bm_Cx K D b0 mc ms d p l R s m args meth c cc nL own nm ret →
      (∀ t : State, t.heap = H → s.WarmedH t.vm → Qc args s (.returned (some (bm_val D v))) t) → (∀ q ∈ locs, bm_A b0 q.base) → W p l e R s m args below meth c H locs cells slots (MQ below Qc args s cells slots (bm_A b0)) (F0 m pc ls [bm_val D v])) ∧
      (r = none → ∀ (D : bm_D) (b0 mc ms d : Nat) (p : Program) (l : Launch) (e : Env) (R : Room) (s : State) (m : MethodId) (args : Array Value) (below : List Frame) (meth : Method) (c : Code) (H : Heap) (locs : List Loc) (cells slots : Nat) (ls : Array Slot) (Qc : Array Value → State → Outcome → State → Prop), bm_Cx K D b0 mc ms d p l R s m args meth c cc nL own nm ret →
      (∀ t : State, t.heap = H → s.WarmedH t.vm → Qc args s (.returned none) t) → (∀ q ∈ locs, bm_A b0 q.base) → W p l e R s m args below meth c H locs cells slots (MQ below Qc args s cells slots (bm_A b0)) (F0 m pc ls []))) : bm_Sn K pg mi cc nL own nm ret pc (bm_R k) := by
  refine ⟨trivial, ?_⟩
  intro D b0 mc ms d p l e R s m args below meth c w0 F hCx hCon hS hF lo st w hex
  obtain ⟨r, hFr, rfl, h1, h2⟩ := h st w F lo hex
  have hb := hF _ _ hFr
  refine ⟨hb, fun H locs ls g1 g2 g3 g4 g5 g6 g7 => ?_⟩
  refine W.widen (k := mc) (n := ms) (by have := hb.1; show bm_sz w - bm_sz w0 ≤ mc; omega) (by have := hb.2; show bm_sl w - bm_sl w0 ≤ ms; omega) (vx_ret ?_)
  cases r with
  | none => exact h2 rfl D b0 mc ms d p l e R s m args below meth c H locs mc ms ls _ hCx (fun t ht hW => ⟨⟨none, w, rfl, hFr, (fun v hv => by cases hv), by rw [ht]; exact g4⟩, g5.F ht⟩) g5.2.2
  | some v => exact h1 v rfl (g3 v (by simp)) D b0 mc ms d p l e R s m args below meth c H locs mc ms ls _ hCx (fun t ht hW => ⟨⟨some v, w, rfl, hFr, (fun u hu => by cases hu; exact g3 v (by simp)), by rw [ht]; exact g4⟩, g5.F ht⟩) g5.2.2
theorem bm_s_return (hdg : decode cc pc = .ok (.return_, 1)) (hr : ret = none) : bm_Sn K pg mi cc nL own nm ret pc (bm_R 0) := by
  refine bm_Sn.rtn (fun st w F lo h => ?_)
  match st, h with
  | [], h =>
    refine ⟨none, h, rfl, (fun v hv => by cases hv), fun _ D b0 mc ms d p l e R s m args below meth c H locs cells slots ls Qc hCx hq hf => ?_⟩
    exact W.vret hCx.1 hCx.2.1 (hCx.2.2.2.2.2.2.2.2.2.2.2.2.2.2.2.1.trans hr) hq hf hdg hCx.2.2.2.2.2.2.2.1
theorem bm_s_ireturn (hdg : decode cc pc = .ok (.ireturn, 1)) (hr : ret = some .int) : bm_Sn K pg mi cc nL own nm ret pc (bm_R 1) := by
  refine bm_Sn.rtn (fun st w F lo h => ?_)
  match st, h with
  | [.inl x], h =>
    refine ⟨some (.inl x), h, rfl, fun v hv hin => ?_, fun q => by cases q⟩
    cases hv
    intro D b0 mc ms d p l e R s m args below meth c H locs cells slots ls Qc hCx hq hf
    exact W.iret hCx.1 hCx.2.1 (hCx.2.2.2.2.2.2.2.2.2.2.2.2.2.2.2.1.trans hr) hq hf hdg hCx.2.2.2.2.2.2.2.1
theorem bm_s_zreturn (hdg : decode cc pc = .ok (.ireturn, 1)) (hr : ret = some .boolean) : bm_Sn K pg mi cc nL own nm ret pc (bm_R 2) := by
  refine bm_Sn.rtn (fun st w F lo h => ?_)
  match st, h with
  | [.inl x], h =>
    refine ⟨some (.inl x), h.2, rfl, fun v hv hin => ?_, fun q => by cases q⟩
    cases hv
    intro D b0 mc ms d p l e R s m args below meth c H locs cells slots ls Qc hCx hq hf
    exact W.zret hCx.1 hCx.2.1 (hCx.2.2.2.2.2.2.2.2.2.2.2.2.2.2.2.1.trans hr) (bm_ofB h.1).1 hq hf hdg hCx.2.2.2.2.2.2.2.1
theorem bm_s_lreturn (hdg : decode cc pc = .ok (.lreturn, 1)) (hr : ret = some .long) : bm_Sn K pg mi cc nL own nm ret pc (bm_R 3) := by
  refine bm_Sn.rtn (fun st w F lo h => ?_)
  match st, h with
  | [.inr (.inl x)], h =>
    refine ⟨some (.inr (.inl x)), h, rfl, fun v hv hin => ?_, fun q => by cases q⟩
    cases hv
    intro D b0 mc ms d p l e R s m args below meth c H locs cells slots ls Qc hCx hq hf
    exact W.lret hCx.1 hCx.2.1 (hCx.2.2.2.2.2.2.2.2.2.2.2.2.2.2.2.1.trans hr) hq hf hdg hCx.2.2.2.2.2.2.2.1
theorem bm_s_dreturn (hdg : decode cc pc = .ok (.dreturn, 1)) (hr : ret = some .double) : bm_Sn K pg mi cc nL own nm ret pc (bm_R 4) := by
  refine bm_Sn.rtn (fun st w F lo h => ?_)
  match st, h with
  | [.inr (.inr (.inr (.inl x)))], h =>
    refine ⟨some (.inr (.inr (.inr (.inl x)))), h, rfl, fun v hv hin => ?_, fun q => by cases q⟩
    cases hv
    intro D b0 mc ms d p l e R s m args below meth c H locs cells slots ls Qc hCx hq hf
    exact W.dret hCx.1 hCx.2.1 (hCx.2.2.2.2.2.2.2.2.2.2.2.2.2.2.2.1.trans hr) hq hf hdg hCx.2.2.2.2.2.2.2.1
theorem bm_s_areturn {rt : FieldType} (hdg : decode cc pc = .ok (.areturn, 1)) (hr : ret = some rt) (hrt : (∃ n, rt = .object n) ∨ ∃ t, rt = .array t) : bm_Sn K pg mi cc nL own nm ret pc (bm_R 5) := by
  refine bm_Sn.rtn (fun st w F lo h => ?_)
  match st, h with
  | [.inr (.inr (.inl x))], h =>
    refine ⟨some (.inr (.inr (.inl x))), h, rfl, fun v hv hin => ?_, fun q => by cases q⟩
    cases hv
    intro D b0 mc ms d p l e R s m args below meth c H locs cells slots ls Qc hCx hq hf
    exact W.aret hCx.1 hCx.2.1 (hCx.2.2.2.2.2.2.2.2.2.2.2.2.2.2.2.1.trans hr) hrt (va_rf_or x) hq hf hdg hCx.2.2.2.2.2.2.2.1
theorem bm_s_creturn (hdg : decode cc pc = .ok (.ireturn, 1)) (hr : ret = some .char) : bm_Sn K pg mi cc nL own nm ret pc (bm_R 6) := by
  refine bm_Sn.rtn (fun st w F lo h => ?_)
  match st, h with
  | [.inl x], h =>
    refine ⟨some (.inl x), h.2, rfl, fun v hv hin => ?_, fun q => by cases q⟩
    cases hv
    intro D b0 mc ms d p l e R s m args below meth c H locs cells slots ls Qc hCx hq hf
    refine W.zret hCx.1 hCx.2.1 (hCx.2.2.2.2.2.2.2.2.2.2.2.2.2.2.2.1.trans hr) ?_ hq hf hdg hCx.2.2.2.2.2.2.2.1
    obtain ⟨h1, h2⟩ := h.1
    obtain ⟨n, rfl⟩ := Int.eq_ofNat_of_zero_le h1
    have h3 := (pk_charN (q := n) (by omega)).1
    rw [show Int32.ofInt (n : Int) = nI n from Int32.ofInt_eq_ofNat]
    exact h3
theorem bm_s_breturn (hdg : decode cc pc = .ok (.ireturn, 1)) (hr : ret = some .byte) : bm_Sn K pg mi cc nL own nm ret pc (bm_R 7) := by
  refine bm_Sn.rtn (fun st w F lo h => ?_)
  match st, h with
  | [.inl x], h =>
    refine ⟨some (.inl x), h.2, rfl, fun v hv hin => ?_, fun q => by cases q⟩
    cases hv
    intro D b0 mc ms d p l e R s m args below meth c H locs cells slots ls Qc hCx hq hf
    refine W.zret hCx.1 hCx.2.1 (hCx.2.2.2.2.2.2.2.2.2.2.2.2.2.2.2.1.trans hr) ?_ hq hf hdg hCx.2.2.2.2.2.2.2.1
    obtain ⟨h1, h2⟩ := h.1
    show Value.int (Int32.ofInt x).toInt8.toInt32 = _
    congr 1
    have hx : bm_InI x := hin
    rw [← Int32.toInt_inj, Int8.toInt_toInt32, Int32.toInt_toInt8, bm_toI hx]
    simp only [Int.bmod]
    omega
/-- 'throw new E()': new, dup, <init>, athrow -/
theorem bm_s_throw {E : String} {names : List String} {ik ic : Nat} (d0 : decode cc pc = .ok (.new ik, 3)) (d3 : decode cc (pc + 3) = .ok (.dup, 1)) (d4 : decode cc (pc + 4) = .ok (.invokespecial ic, 3)) (d7 : decode cc (pc + 7) = .ok (.athrow, 1))
    (hcls : Bundle.fit E = true) (hnames : ∀ n ∈ names, Bundle.fit n = true) (hk : Cond.classLink own ik E ∈ bm_ALL) (hini : Cond.initialized E ∈ bm_ALL) (hat : ∀ w ∈ vx_at0 own ic E names, w ∈ bm_ALL ∨ w ∈ bm_NW) (hgood : ∀ w ∈ Cond.classLink own ik E :: Cond.initialized E :: vx_at0 own ic E names, vx_ot w = true) (hlen : names.length ≤ 5) :
    bm_Sn K pg mi cc nL own nm ret pc (bm_T E) := by
  refine ⟨trivial, ?_⟩
  intro D b0 mc ms d p l e R s m args below meth c w0 F hCx hCon hS hF lo st w hex
  match st, hex with
  | [], hex =>
  have hex : F (.inr E) (bm_tw w) := hex
  have hb := hF _ _ hex
  have hb1 : bm_sz w + 1 ≤ bm_sz w0 + mc := hb.1
  have hb2 : bm_sl w + 6 ≤ bm_sl w0 + ms := hb.2
  refine ⟨⟨by show bm_sz w ≤ _; omega, by show bm_sl w ≤ _; omega⟩, fun H locs ls g1 g2 g3 g4 g5 g6 g7 => ?_⟩
  obtain ⟨hx, hbb, hml, hown, hts, hK, hST, hlk, hext, hl, hb0, hRc, hRs, hRf, hRl, -, -⟩ := hCx
  have z3 : bm_sz w0 ≤ bm_sz w := g7.1
  have z4 : bm_sl w0 ≤ bm_sl w := g7.2
  have k1 : bm_sz w - bm_sz w0 + 1 ≤ mc := by omega
  have k2 : bm_sl w - bm_sl w0 + 6 ≤ ms := by omega
  refine vx_throw0 (rest := []) hx hbb hl hown hcls hnames (hts _ hk) (hts _ hini) (fun w hw => (hat w hw).elim (hts w) (fun q => bm_nw_use (List.mem_filter.mp q).2 (hST.2.2.2.2.2.2.2.2 w q))) hgood hST.2.2.2.2.2.2.1 hST.2.2.2.2.2.2.2.1 g5 (by rw [hml]; exact g6.1) d0 d3 d4 d7 (fun x hx2 => (hext x hx2).elim) (Nat.lt_of_lt_of_le (by omega) hRf) (Nat.le_trans (by show 0 + (13 * (names.length + 1) + 42) ≤ 440; omega) (Nat.le_trans (Nat.le_add_left _ _) hRl)) (by rw [hRc]; exact k1) (by rw [hRs]; exact k2) hlk (fun t hvm hz hq => ⟨⟨bm_tw w, hex, ?_⟩, Nat.le_trans g5.1 hz, fun q h1 h2 => (hq q (Nat.lt_of_lt_of_le h1 g5.1)).trans (g5.2.1 q h1 h2)⟩) g5.2.2 k1 k2
  obtain ⟨e1, e2, e3, e4, e5, e6⟩ := g4
  refine ⟨e2, e3, fun a ha => ?_, fun a ha => e5 a (Nat.le_trans (Nat.le_trans (Nat.le_of_eq e1.symm) hz) ha), fun a => ⟨(e6 a).1, fun q => ?_⟩⟩
  · obtain ⟨q1, q2, q3⟩ := e4 a ha
    exact ⟨q1, Nat.lt_of_lt_of_le q2 (Nat.le_trans (Nat.le_of_eq e1.symm) hz), q3.kept (hq a (by rw [e1]; exact q2)) rfl (fun k => ⟨rfl, rfl, rfl⟩)⟩
  · obtain ⟨q1, q2, q3⟩ := (e6 a).2 q
    exact ⟨q1, Nat.lt_of_lt_of_le q2 (Nat.le_trans (Nat.le_of_eq e1.symm) hz), (hq a (by rw [e1]; exact q2)).trans q3⟩
/-- what comes of a switch -/
def bm_swt (x : Int) : List (Int × Nat) → Nat → Nat
  | [], d => d
  | (a, p) :: r, d => if x = a then p else bm_swt x r d
theorem bm_sw_t {x : Int} {k : Nat → Prop} : ∀ (cs : List (Int × Nat)) (d : Nat), bm_sw x k cs d → k (bm_swt x cs d)
  | [], _, h => h
  | (a, p) :: r, d, h => by
    unfold bm_sw at h
    unfold bm_swt
    split
    · rename_i e; rw [if_pos e] at h; exact h
    · rename_i e; rw [if_neg e] at h; exact bm_sw_t r d h
theorem bm_swt_out {x : Int} : ∀ (cs : List (Int × Nat)) (d : Nat), (∀ q ∈ cs, x ≠ q.1) → bm_swt x cs d = d
  | [], _, _ => rfl
  | (a, p) :: r, d, h => by
    unfold bm_swt
    rw [if_neg (h (a, p) List.mem_cons_self)]
    exact bm_swt_out r d (fun q hq => h q (List.mem_cons_of_mem _ hq))
def bm_oSw (cs : List (Int × Nat)) (d : Nat) : List bm_V → Option (Int × List (Int × Nat) × Nat × List bm_V) := fun st => match st with
  | .inl x :: r => some (x, cs, d, r)
  | _ => none
theorem bm_Sn.sw {cs : List (Int × Nat)} {dn : Nat}
    (h : ∀ (x : Int), bm_InI x → ∀ (D : bm_D) (b0 mc ms d : Nat) (p : Program) (l : Launch) (e : Env) (R : Room) (s : State) (m : MethodId) (args : Array Value) (below : List Frame) (meth : Method) (c : Code) (H : Heap) (locs : List Loc) (cells slots : Nat) (Q : State → Prop) (ls : Array Slot) (rest : List Value),
      bm_Cx K D b0 mc ms d p l R s m args meth c cc nL own nm ret → W p l e R s m args below meth c H locs cells slots Q (F0 m (bm_swt x cs dn) ls rest) → W p l e R s m args below meth c H locs cells slots Q (F0 m pc ls (.int (Int32.ofInt x) :: rest))) : bm_Sn K pg mi cc nL own nm ret pc (bm_Sw (bm_oSw cs dn)) := by
  refine ⟨trivial, ?_⟩
  intro D b0 mc ms d p l e R s m args below meth c w0 F hCx hCon hS hF lo st w hex
  simp only [bm_exe] at hex
  cases e2 : bm_oSw cs dn st with
  | none => rw [e2] at hex; exact hex.elim
  | some u =>
    rw [e2] at hex
    unfold bm_oSw at e2
    split at e2
    · rename_i x r
      cases e2
      have h9 := bm_sw_t _ _ hex
      exact ⟨h9.1, fun H locs ls g1 g2 g3 g4 g5 g6 g7 => h x g3.hd D b0 mc ms d p l e R s m args below meth c H locs _ _ _ ls _ hCx (h9.2 H locs ls g1 g2 g3.tl g4 g5 g6 g7)⟩
    · cases e2
theorem bm_s_table {dflt lo hi : Int} {offs : Array Int} {len dn : Nat} {cs : List (Int × Nat)} (hdg : decode cc pc = .ok (.tableswitch dflt lo hi offs, len)) (hd : (pc : Int) + dflt = (dn : Int)) (hks : ∀ q ∈ cs, lo ≤ q.1 ∧ q.1 ≤ hi) (hsz : hi - lo + 1 = (offs.size : Int)) (hat : ∀ i, i < offs.size → (pc : Int) + offs.getD i 0 = (bm_swt (lo + (i : Int)) cs dn : Int)) : bm_Sn K pg mi cc nL own nm ret pc (bm_Sw (bm_oSw cs dn)) := by
  refine bm_Sn.sw (fun x hx D b0 mc ms d p l e R s m args below meth c H locs cells slots Q ls rest hCx k => ?_)
  obtain ⟨hx1, hb, -⟩ := hCx
  by_cases h1 : x < lo
  · refine lv_tableOut hx1 hb hdg (Or.inl (by rw [bm_toI hx]; exact h1)) hd ?_
    rw [bm_swt_out cs dn (fun q hq e => by have := (hks q hq).1; omega)] at k
    exact k
  · by_cases h2 : hi < x
    · refine lv_tableOut hx1 hb hdg (Or.inr (by rw [bm_toI hx]; exact h2)) hd ?_
      rw [bm_swt_out cs dn (fun q hq e => by have := (hks q hq).2; omega)] at k
      exact k
    · have hi2 : (x - lo).toNat < offs.size := by omega
      have h3 := hat _ hi2
      rw [show lo + ((x - lo).toNat : Int) = x by omega] at h3
      refine lv_tableIn hx1 hb hdg (by rw [bm_toI hx]; exact h1) (by rw [bm_toI hx]; exact h2) (off := offs.getD (x - lo).toNat 0) (by rw [bm_toI hx, Array.getD_eq_getD_getElem?, Array.getElem?_eq_getElem hi2]; rfl) h3 k
theorem bm_lookoff {pc : Nat} {dflt : Int} {dn : Nat} (hd : (pc : Int) + dflt = (dn : Int)) (x : Int) : ∀ (ps : List (Int × Int)) (cs : List (Int × Nat)), ps.map (fun q => (q.1, (pc : Int) + q.2)) = cs.map (fun q => (q.1, (q.2 : Int))) → (pc : Int) + Op.lookupswitch.offset ps dflt x = (bm_swt x cs dn : Int)
  | [], [], _ => hd
  | [], _ :: _, h => by simp at h
  | _ :: _, [], h => by simp at h
  | (a, o) :: ps, (b, p) :: cs, h => by
    simp only [List.map_cons, List.cons.injEq, Prod.mk.injEq] at h
    obtain ⟨⟨h1, h2⟩, h3⟩ := h
    subst h1
    rw [Op.lookupswitch.offset_cons]
    unfold bm_swt
    by_cases e : x = a
    · rw [if_pos e, if_pos e.symm]; exact h2
    · rw [if_neg e, if_neg (fun q => e q.symm)]; exact bm_lookoff hd x ps cs h3
theorem bm_s_lookup {dflt : Int} {ps : Array (Int × Int)} {len dn : Nat} {cs : List (Int × Nat)} (hdg : decode cc pc = .ok (.lookupswitch dflt ps, len)) (hp : (ps.toList.zip (ps.toList.drop 1)).all (fun (a, next) => a.1 < next.1) = true) (hd : (pc : Int) + dflt = (dn : Int)) (hcs : ps.toList.map (fun q => (q.1, (pc : Int) + q.2)) = cs.map (fun q => (q.1, (q.2 : Int)))) : bm_Sn K pg mi cc nL own nm ret pc (bm_Sw (bm_oSw cs dn)) := by
  refine bm_Sn.sw (fun x hx D b0 mc ms d p l e R s m args below meth c H locs cells slots Q ls rest hCx k => ?_)
  obtain ⟨hx1, hb, -⟩ := hCx
  refine lv_lookup hx1 hb hdg hp rfl (by rw [bm_toI hx]; exact bm_lookoff hd x _ _ hcs) k
end BME
end
section
/-! ===== the launch's constants, doubles, copies of rows ===== -/
section BMK
variable {K : bm_K} {pg : bm_Pg} {mi : bm_Mi} {cc : ByteArray} {nL : Nat} {own nm : String} {ret : Option FieldType} {pc : Nat}
def bm_oOI (nx : Nat) : bm_L → List bm_V → bm_W → Option (Prop × bm_S) := fun lo st w => match st with
  | .inr (.inr (.inl (some _))) :: r => some ((bm_wt r).ble 8 = true, nx, lo, r, w)
  | _ => none
theorem bm_s_objInit {index : Nat} (nx : Nat) (hdg : decode cc pc = .ok (.invokespecial index, 3)) (hl : Cond.methodLink own index objectInit ∈ bm_ALL) (hi : Cond.instanceMethod objectInit ∈ bm_ALL) (hc : Cond.code objectInit ⟨#[0xb1]⟩ 1 none ∈ bm_ALL) (hn : nx = pc + 3 := by rfl) : bm_Sn K pg mi cc nL own nm ret pc (bm_G (bm_oOI nx)) := by
  subst hn
  refine bm_Sn.heapG (fun lo st w g u he hg => ?_)
  unfold bm_oOI at he
  split at he
  · rename_i a r
    cases he
    refine ⟨bm_le.rf, bm_Gw.still (fun D b0 mc ms d p l e R s m args below meth c H locs cells slots Q ls hCx h3 hH hS hz => ⟨h3.tl, fun kk => ?_⟩)⟩
    obtain ⟨hx, hb, hml, hown, hts, -, -, -, -, -, -, -, -, hRf, hRl, -⟩ := hCx
    have hw : bm_wt r ≤ 8 := Nat.le_of_ble_eq_true hg
    refine W.objInit hx hb hown (hts _ hl) (hts _ hi) (hts _ hc) rfl (by rw [hml]; exact hz) rfl hdg (Nat.le_trans (Nat.le_add_left 1 _) (Nat.le_trans (Nat.add_le_add_left (by omega) d) hRf)) (Nat.le_trans (by show 2 * 0 + ((r.map (bm_val D)).map fun v => v.category).sum + 12 ≤ 440; rw [bm_cats]; omega) (Nat.le_trans (Nat.le_add_left _ _) hRl)) kk
  · cases he
theorem bm_s_getstatic {index : Nat} {C n dd : String} {v : bm_V} (nx : Nat) (hdg : decode cc pc = .ok (.getstatic index, 3)) (hm : (C, n, dd, v) ∈ K.2.2.1) (hl : Cond.fieldLink own index C n dd ∈ bm_ALL) (hv : bm_InV v) (hn : nx = pc + 3 := by rfl) : bm_Sn K pg mi cc nL own nm ret pc (bm_P (bm_oK v nx)) := by
  subst hn
  refine bm_Sn.still (fun lo st w t he => ?_)
  simp only [bm_oK, Option.some.injEq] at he
  subst he
  refine ⟨rfl, fun h1 h2 h3 => ⟨⟨h1, h2, bm_InSt.cons hv h3⟩, ?_⟩⟩
  intro D b0 mc ms d p l e R s m args below meth c H locs cells slots Q ls hCx hS hls k
  obtain ⟨hx, hb, -, hown, hts, -, hST, -⟩ := hCx
  exact va_gets hx hb (hST.2.2.1 _ hm) hS hown (hts _ hl) (fun _ q => q) hdg (k ls hls)
theorem bm_s_getstaticN {index : Nat} {C n dd host : String} {v : bm_V} (nx : Nat) (hdg : decode cc pc = .ok (.getstatic index, 3)) (hm : (C, n, dd, v) ∈ K.2.2.1) (hl : Cond.fieldLinkNest own index C n dd host ∈ bm_NW) (hv : bm_InV v) (hn : nx = pc + 3 := by rfl) : bm_Sn K pg mi cc nL own nm ret pc (bm_P (bm_oK v nx)) := by
  subst hn
  refine bm_Sn.still (fun lo st w t he => ?_)
  simp only [bm_oK, Option.some.injEq] at he
  subst he
  refine ⟨rfl, fun h1 h2 h3 => ⟨⟨h1, h2, bm_InSt.cons hv h3⟩, ?_⟩⟩
  intro D b0 mc ms d p l e R s m args below meth c H locs cells slots Q ls hCx hS hls k
  obtain ⟨hx, hb, -, hown, hts, -, hST, -⟩ := hCx
  exact va_getsN hx hb (hST.2.2.1 _ hm) hS hown (va_Nw.use rfl (hST.2.2.2.2.2.2.2.2 _ hl)) (fun _ q => q) hdg (k ls hls)
theorem bm_s_ldcS {index i : Nat} {tx : String} (nx : Nat) (hdg : decode cc pc = .ok (.ldc index, 2)) (hm : (own, index, tx, i) ∈ K.2.1) (hn : nx = pc + 2 := by rfl) : bm_Sn K pg mi cc nL own nm ret pc (bm_P (bm_oK (.inr (.inr (.inr (.inr (0, i))))) nx)) := by
  subst hn
  refine bm_Sn.still (fun lo st w t he => ?_)
  simp only [bm_oK, Option.some.injEq] at he
  subst he
  refine ⟨rfl, fun h1 h2 h3 => ⟨⟨h1, h2, bm_InSt.cons trivial h3⟩, ?_⟩⟩
  intro D b0 mc ms d p l e R s m args below meth c H locs cells slots Q ls hCx hS hls k
  obtain ⟨hx, hb, -, hown, hts, -, hST, -⟩ := hCx
  exact va_ldcS hx hb hown (hST.2.1 _ hm) hdg (k ls hls)
theorem bm_ldcW {p : Program} {l : Launch} {e : Env} {R : Room} {s : State} {m : MethodId} {args : Array Value} {below : List Frame} {meth : Method} {c : Code} {T : State} {locs : List Loc} {cells slots : Nat}
    (X : Stand p l e R s m args below meth c T locs cells slots) (hexec : p.tables.exec = Jvm.exec) {tx : String} {index : Nat} {a : Addr} {a9 : Array Value} (hown : s.vm.findClass own = some m.cls)
    (hconst : (Cond.stringRef own index tx).before a9 s = true) (hev : (Term.string own index).eval a9 s none [] s = some (.ref a)) {g : JFrame} (hg : g.method = m) (hdg : decode c.code g.pc = .ok (.ldc_w index, 3)) :
    ∀ target, Steps p.tables e below (T.setTop { g with pc := g.pc + 3, stack := .ref a :: g.stack }) target → Steps p.tables e below (T.setTop g) target := by
  obtain ⟨k, cf, i, a', hk, hcf, hcp, -, hr, hev'⟩ := Cond.stringRef_spec hown hconst
  cases hev.symm.trans hev'
  obtain ⟨k', hk', he⟩ := X.warmed.alike.2.2 _ _ hk
  have hr' : k'.resolved[index]? = some (some (.string a)) := by
    rcases X.warmed.entry hk hk' index with h | ⟨h, -⟩
    · rw [h]; exact hr
    · rw [hr] at h; cases h
  intro target hrest
  subst hg
  jvm_step X.here [hexec, hdg, ldc_w.wp_string (e := e) (s := T) (f := g) X.here.top hk' (by rw [he]; exact hcf) hcp hr']
  exact hrest
theorem bm_s_ldcW {index i : Nat} {tx : String} (nx : Nat) (hdg : decode cc pc = .ok (.ldc_w index, 3)) (hm : (own, index, tx, i) ∈ K.2.1) (hn : nx = pc + 3 := by rfl) : bm_Sn K pg mi cc nL own nm ret pc (bm_P (bm_oK (.inr (.inr (.inr (.inr (0, i))))) nx)) := by
  subst hn
  refine bm_Sn.still (fun lo st w t he => ?_)
  simp only [bm_oK, Option.some.injEq] at he
  subst he
  refine ⟨rfl, fun h1 h2 h3 => ⟨⟨h1, h2, bm_InSt.cons trivial h3⟩, ?_⟩⟩
  intro D b0 mc ms d p l e R s m args below meth c H locs cells slots Q ls hCx hS hls k
  obtain ⟨hx, hb, -, hown, hts, -, hST, -⟩ := hCx
  obtain ⟨z1, z2⟩ := hST.2.1 _ hm
  intro T hT X
  obtain ⟨t, a1, b1⟩ := k ls hls T hT X
  exact ⟨t, bm_ldcW X hx hown z1 z2 (g := F0 m pc ls (st.map (bm_val D))) rfl (by rw [hb]; exact hdg) t a1, b1⟩
theorem bm_s_ldc2 {index : Nat} {x : Int} (nx : Nat) (hdg : decode cc pc = .ok (.ldc2_w index, 3)) (hl : Cond.constantLong own index (Int64.ofInt x) ∈ bm_ALL) (hin : bm_InL x) (hn : nx = pc + 3 := by rfl) : bm_Sn K pg mi cc nL own nm ret pc (bm_P (bm_oK (.inr (.inl x)) nx)) := by
  subst hn
  refine bm_Sn.still (fun lo st w t he => ?_)
  simp only [bm_oK, Option.some.injEq] at he
  subst he
  refine ⟨rfl, fun h1 h2 h3 => ⟨⟨h1, h2, bm_InSt.cons hin h3⟩, ?_⟩⟩
  intro D b0 mc ms d p l e R s m args below meth c H locs cells slots Q ls hCx hS hls k
  obtain ⟨hx, hb, -, hown, hts, -⟩ := hCx
  exact lv_ldc2 hx hb hown (hts _ hl) hdg (k ls hls)
/-! Strings and static rows -/
def bm_kLen (K : bm_K) : Nat × Nat → Nat
  | (1, i) => K.1.2.1.getD i 0
  | (2, 0) => K.2.2.2.1.length
  | _ => 0
def bm_kIs (K : bm_K) : Nat × Nat → Prop
  | (1, i) => i < K.1.1
  | (2, j) => j < 1
  | _ => False
def bm_oKn (K : bm_K) (nx : Nat) : bm_L → List bm_V → bm_W → Option (Prop × bm_S) := fun lo st w => match st with
  | .inr (.inr (.inr (.inr k))) :: r => some (bm_kIs K k, nx, lo, .inl (bm_kLen K k : Nat) :: r, w)
  | _ => none
def bm_Kok (K : bm_K) : Prop := (∀ i, K.1.2.1.getD i 0 < 2147483648) ∧ K.2.2.2.1.length < 2147483648 ∧ K.2.2.2.2.1.length < 2147483648 ∧ K.2.2.2.2.2.length < 2147483648
theorem bm_kLen_in (hK : bm_Kok K) (k : Nat × Nat) : bm_InI (bm_kLen K k : Nat) := by
  obtain ⟨h1, h2, h3, h4⟩ := hK
  have h : bm_kLen K k < 2147483648 := by
    unfold bm_kLen
    split
    · exact h1 _
    · exact h2
    · omega
  unfold bm_InI
  omega
theorem bm_s_alenK (hK : bm_Kok K) (nx : Nat) (hdg : decode cc pc = .ok (.arraylength, 1)) (hn : nx = pc + 1 := by rfl) : bm_Sn K pg mi cc nL own nm ret pc (bm_G (bm_oKn K nx)) := by
  subst hn
  refine bm_Sn.heapG (fun lo st w g u he hg => ?_)
  unfold bm_oKn at he
  split at he
  · rename_i k r
    cases he
    refine ⟨bm_le.rf, bm_Gw.still (fun D b0 mc ms d p l e R s m args below meth c H locs cells slots Q ls hCx h3 hH hS hz => ⟨bm_InSt.cons (bm_kLen_in hK k) h3.tl, fun kk => ?_⟩)⟩
    obtain ⟨hx, hb, -, -, -, -, hST, -⟩ := hCx
    obtain ⟨s1, -, -, s4, s5, s6, -⟩ := hST
    match k, hg, kk with
    | (1, i), hg, kk => exact va_tlen hx hb (s1.1 i hg).2.2.2 hS Int32.ofInt_eq_ofNat.symm hdg kk
    | (2, 0), hg, kk => exact va_tlen hx hb s4 hS Int32.ofInt_eq_ofNat.symm hdg kk
    | (2, j + 1), hg, kk => exact absurd (show j + 1 < 1 from hg) (by omega)
  · cases he
def bm_oKb (K : bm_K) (nx : Nat) : bm_L → List bm_V → bm_W → Option (Prop × bm_S) := fun lo st w => match st with
  | .inl j :: .inr (.inr (.inr (.inr (1, i)))) :: r => some (i < K.1.1 ∧ bm_in j (K.1.2.1.getD i 0), nx, lo, .inl ((K.1.2.2.getD i []).getD j.toNat 0).toInt :: r, w)
  | _ => none
theorem bm_s_baloadK (nx : Nat) (hdg : decode cc pc = .ok (.baload, 1)) (hn : nx = pc + 1 := by rfl) : bm_Sn K pg mi cc nL own nm ret pc (bm_G (bm_oKb K nx)) := by
  subst hn
  refine bm_Sn.heapG (fun lo st w g u he hg => ?_)
  unfold bm_oKb at he
  split at he
  · rename_i j i r
    cases he
    refine ⟨bm_le.rf, bm_Gw.still (fun D b0 mc ms d p l e R s m args below meth c H locs cells slots Q ls hCx h3 hH hS hz => ⟨bm_InSt.cons (bm_I_in _) h3.tl.tl, fun kk => ?_⟩)⟩
    obtain ⟨hx, hb, -, -, -, -, hST, -⟩ := hCx
    obtain ⟨q1, q2, q3⟩ := bm_ix h3.hd hg.2
    refine va_tb hx hb (hST.1.1 i hg.1).2.2.2 hS (i := Int32.ofInt j) q1 (v := Value.int ((K.1.2.2.getD i []).getD j.toNat 0)) (by rw [q2]) hdg ?_
    simpa only [List.map_cons, bm_val, Int32.ofInt_toInt] using kk
  · cases he
def bm_oKl (K : bm_K) (nx : Nat) : bm_L → List bm_V → bm_W → Option (Prop × bm_S) := fun lo st w => match st with
  | .inl j :: .inr (.inr (.inr (.inr (2, 0)))) :: r => some (bm_in j K.2.2.2.1.length, nx, lo, .inr (.inl (K.2.2.2.1.getD j.toNat 0).toInt) :: r, w)
  | _ => none
theorem bm_s_laloadK (nx : Nat) (hdg : decode cc pc = .ok (.laload, 1)) (hn : nx = pc + 1 := by rfl) : bm_Sn K pg mi cc nL own nm ret pc (bm_G (bm_oKl K nx)) := by
  subst hn
  refine bm_Sn.heapG (fun lo st w g u he hg => ?_)
  unfold bm_oKl at he
  split at he
  · rename_i j r
    cases he
    refine ⟨bm_le.rf, bm_Gw.still (fun D b0 mc ms d p l e R s m args below meth c H locs cells slots Q ls hCx h3 hH hS hz => ⟨bm_InSt.cons (bm_L_in _) h3.tl.tl, fun kk => ?_⟩)⟩
    obtain ⟨hx, hb, -, -, -, -, hST, -⟩ := hCx
    obtain ⟨q1, q2, q3⟩ := bm_ix h3.hd hg
    refine va_tl hx hb hST.2.2.2.1 hS (i := Int32.ofInt j) q1 (v := Value.long (K.2.2.2.1.getD j.toNat 0)) (by rw [q2]) hdg ?_
    simpa only [List.map_cons, bm_val, Int64.ofInt_toInt] using kk
  · cases he
def bm_oKv (K : bm_K) (nx : Nat) : bm_L → List bm_V → bm_W → Option (Prop × bm_S) := fun lo st w => match st with
  | .inr (.inr (.inr (.inr (0, i)))) :: r => some (i < K.1.1, nx, lo, .inr (.inr (.inr (.inr (1, i)))) :: r, w)
  | _ => none
def bm_oKc (K : bm_K) (nx : Nat) : bm_L → List bm_V → bm_W → Option (Prop × bm_S) := fun lo st w => match st with
  | .inr (.inr (.inr (.inr (0, i)))) :: r => some (i < K.1.1, nx, lo, .inl 0 :: r, w)
  | _ => none
theorem bm_s_strValue {index : Nat} (nx : Nat) (hdg : decode cc pc = .ok (.getfield index, 3)) (hl : Cond.fieldLink own index "java/lang/String" "value" "[B" ∈ bm_ALL) (hn : nx = pc + 3 := by rfl) : bm_Sn K pg mi cc nL own nm ret pc (bm_G (bm_oKv K nx)) := by
  subst hn
  refine bm_Sn.heapG (fun lo st w g u he hg => ?_)
  unfold bm_oKv at he
  split at he
  · rename_i i r
    cases he
    refine ⟨bm_le.rf, bm_Gw.still (fun D b0 mc ms d p l e R s m args below meth c H locs cells slots Q ls hCx h3 hH hS hz => ⟨bm_InSt.cons trivial h3.tl, fun kk => ?_⟩)⟩
    obtain ⟨hx, hb, -, hown, hts, -, hST, -⟩ := hCx
    exact vk_getf hx hb (hST.1.1 i hg).2.2.1 hS hown (hts _ hl) (fun _ q => q) hdg kk
  · cases he
theorem bm_s_strCoder {index : Nat} (nx : Nat) (hdg : decode cc pc = .ok (.getfield index, 3)) (hl : Cond.fieldLink own index "java/lang/String" "coder" "B" ∈ bm_ALL) (hn : nx = pc + 3 := by rfl) : bm_Sn K pg mi cc nL own nm ret pc (bm_G (bm_oKc K nx)) := by
  subst hn
  refine bm_Sn.heapG (fun lo st w g u he hg => ?_)
  unfold bm_oKc at he
  split at he
  · rename_i i r
    cases he
    refine ⟨bm_le.rf, bm_Gw.still (fun D b0 mc ms d p l e R s m args below meth c H locs cells slots Q ls hCx h3 hH hS hz => ⟨bm_InSt.cons bm_In0 h3.tl, fun kk => ?_⟩)⟩
    obtain ⟨hx, hb, -, hown, hts, -, hST, -⟩ := hCx
    exact vk_getf hx hb (hST.1.1 i hg).2.1 hS hown (hts _ hl) (fun _ q => q) hdg kk
  · cases he
theorem bm_recvK {D : bm_D} {st : List bm_V} {n : Nat} {i : Nat} {as : List bm_V} (e : (st.take (n + 1)).reverse = .inr (.inr (.inr (.inr (0, i)))) :: as) : st.map (bm_val D) = (as.map (bm_val D)).reverse ++ Value.ref (D.2.2 0 i) :: (st.drop (n + 1)).map (bm_val D) := by
  rw [bm_stk D (st := st) (n := n + 1), e, List.map_cons, List.reverse_cons, List.append_assoc]
  rfl
theorem bm_s_invK {y n rt index : Nat} (nx : Nat) (hdg : decode cc pc = .ok (.invokevirtual index, 3)) (hw : bm_cw mi pg y n) (hl : Cond.methodLink own index (mi y).1 ∈ bm_ALL) (hst : Cond.instanceMethod (mi y).1 ∈ bm_ALL) (hse : Cond.selects "java/lang/String" (mi y).1 (mi y).1 ∈ bm_ALL) (hall : 20 ≤ K.1.1) (hrt : rt < 5) (hn : nx = pc + 3 := by rfl) : bm_Sn K pg mi cc nL own nm ret pc (bm_C y (n + 1) nx rt 2) := by
  subst hn
  refine bm_Sn.call (fun D b0 mc ms mc' ms' d p l e R s m args below meth c H locs ls w w' r cells slots st hCx hnl hrc hr5 hM hH hS hls hW hf => ?_)
  have hts := hCx.2.2.2.2.1
  have hlen := bm_len_take hnl
  generalize hae : (st.take (n + 1)).reverse = as at hrc hM hlen ⊢
  match as, hrc, hae, hM, hlen with
  | .inr (.inr (.inr (.inr (0, i)))) :: as, hrc, hae, hM, hlen =>
    have hi : i < K.1.1 := Nat.lt_of_lt_of_le hrc hall
    obtain ⟨cell, q1, q2, q3⟩ := vk_recv hCx.2.2.2.2.2.2.1.1 hi hS
    exact vx_runV (As := as.map (bm_val D)) (bm_fix hCx) hM ⟨bm_callB hw hts hl hCx.2.2.2.2.2.2.2.2.2.2.2.2.2.1 hCx.2.2.2.2.2.2.2.2.2.2.2.2.2.2.1, hts _ hst, hts _ hse⟩ ⟨bm_Pc.blind, ⟨cell, q1, q2, q3⟩, bm_pre hCx hH hS⟩ rfl (by rw [List.length_map]; simpa using hlen) hls (bm_recvK hae) (lv_room hW) hdg hf
/-! doubles -/
def bm_oid (nx : Nat) : bm_L → List bm_V → bm_W → Option bm_S := fun lo st w => match st with
  | .inl x :: r => some (nx, lo, .inr (.inr (.inr (.inl (FP.i2d (Int32.ofInt x))))) :: r, w)
  | _ => none
def bm_oDd (nx : Nat) : bm_L → List bm_V → bm_W → Option (Prop × bm_S) := fun lo st w => match st with
  | .inr (.inr (.inr (.inl y))) :: .inr (.inr (.inr (.inl x))) :: r => some (vf_n64 (FP.ddiv x y), nx, lo, .inr (.inr (.inr (.inl (FP.ddiv x y)))) :: r, w)
  | _ => none
theorem bm_s_i2d (nx : Nat) (hdg : decode cc pc = .ok (.i2d, 1)) (hn : nx = pc + 1 := by rfl) : bm_Sn K pg mi cc nL own nm ret pc (bm_P (bm_oid nx)) := by
  subst hn
  refine bm_Sn.still (fun lo st w t he => ?_)
  unfold bm_oid at he
  split at he
  · rename_i x r
    cases he
    refine ⟨rfl, fun h1 h2 h3 => ⟨⟨h1, h2, bm_InSt.cons trivial h3.tl⟩, ?_⟩⟩
    intro D b0 mc ms d p l e R s m args below meth c H locs cells slots Q ls hCx hS hl k
    exact lv_i2d hCx.1 hCx.2.1 hdg (k ls hl)
  · cases he
theorem bm_s_ddiv (nx : Nat) (hdg : decode cc pc = .ok (.ddiv, 1)) (hn : nx = pc + 1 := by rfl) : bm_Sn K pg mi cc nL own nm ret pc (bm_G (bm_oDd nx)) := by
  subst hn
  refine bm_Sn.stillG (fun lo st w g t he => ?_)
  unfold bm_oDd at he
  split at he
  · rename_i y x r
    cases he
    refine ⟨rfl, fun hg h1 h2 h3 => ⟨⟨h1, h2, bm_InSt.cons trivial h3.tl.tl⟩, ?_⟩⟩
    intro D b0 mc ms d p l e R s m args below meth c H locs cells slots Q ls hCx hS hl k
    exact lv_ddiv hCx.1 hCx.2.1 hdg hg (k ls hl)
  · cases he
theorem bm_s_dconst0 (nx : Nat) (hdg : decode cc pc = .ok (.dconst 0, 1)) (hn : nx = pc + 1 := by rfl) : bm_Sn K pg mi cc nL own nm ret pc (bm_P (bm_oK (.inr (.inr (.inr (.inl FP.dconst0)))) nx)) := by
  subst hn
  refine bm_Sn.still (fun lo st w t he => ?_)
  cases he
  refine ⟨rfl, fun h1 h2 h3 => ⟨⟨h1, h2, bm_InSt.cons trivial h3⟩, ?_⟩⟩
  intro D b0 mc ms d p l e R s m args below meth c H locs cells slots Q ls hCx hS hl k
  exact lv_dconst0 hCx.1 hCx.2.1 hdg (k ls hl)
theorem bm_s_dconst1 (nx : Nat) (hdg : decode cc pc = .ok (.dconst 1, 1)) (hn : nx = pc + 1 := by rfl) : bm_Sn K pg mi cc nL own nm ret pc (bm_P (bm_oK (.inr (.inr (.inr (.inl FP.dconst1)))) nx)) := by
  subst hn
  refine bm_Sn.still (fun lo st w t he => ?_)
  cases he
  refine ⟨rfl, fun h1 h2 h3 => ⟨⟨h1, h2, bm_InSt.cons trivial h3⟩, ?_⟩⟩
  intro D b0 mc ms d p l e R s m args below meth c H locs cells slots Q ls hCx hS hl k
  exact lv_dconst1 hCx.1 hCx.2.1 hdg (k ls hl)
end BMK
end
section
/-! ===== Math.max, Math.min as rows, by the library's contracts ===== -/
section BMM
variable {K : bm_K} {pg : bm_Pg} {mi : bm_Mi} {cc : ByteArray} {nL : Nat} {own nm : String} {ret : Option FieldType} {pc : Nat}
def bm_oMx (nx : Nat) : bm_L → List bm_V → bm_W → Option (Prop × bm_S) := fun lo st w => match st with
  | .inl y :: .inl x :: r => some ((bm_wt r).ble 8 = true, nx, lo, .inl (if x < y then y else x) :: r, w)
  | _ => none
def bm_oMn (nx : Nat) : bm_L → List bm_V → bm_W → Option (Prop × bm_S) := fun lo st w => match st with
  | .inl y :: .inl x :: r => some ((bm_wt r).ble 8 = true, nx, lo, .inl (if y < x then y else x) :: r, w)
  | _ => none
theorem bm_s_mmax {index : Nat} (nx : Nat) (hdg : decode cc pc = .ok (.invokestatic index, 3)) (hl : Cond.methodLink own index Lib.Math.max.name ∈ bm_ALL) (hst : Cond.static Lib.Math.max.name ∈ bm_ALL) (hi : Cond.initialized "java/lang/Math" ∈ bm_ALL) (hc : Cond.code Lib.Math.max.name Lib.Math.max.code 2 (some .int) ∈ bm_ALL) (hn : nx = pc + 3 := by rfl) : bm_Sn K pg mi cc nL own nm ret pc (bm_G (bm_oMx nx)) := by
  subst hn
  refine bm_Sn.heapG (fun lo st w g u he hg => ?_)
  unfold bm_oMx at he
  split at he
  · rename_i y x r
    cases he
    refine ⟨bm_le.rf, ?_⟩
    intro D b0 mc ms d p l e R s m args below meth c H locs w0 Q ls hCx hBn hle hlo hLo hSt hHR hS hls k
    obtain ⟨hx, hb, hml, hown, hts, -, -, -, -, -, -, hRc, hRs, hRf, hRl, -⟩ := hCx
    have hw : bm_wt r ≤ 8 := Nat.le_of_ble_eq_true hg
    have hy1 : bm_InI y := hSt (.inl y) List.mem_cons_self
    have hx1 : bm_InI x := hSt (.inl x) (List.mem_cons_of_mem _ List.mem_cons_self)
    have h1 := hBn.1
    have h2 := hBn.2
    refine va_mmax hx hb (by rw [hml]; exact hls.1.symm) hown (hts _ hl) (hts _ hst) (hts _ hi) (hts _ hc) (by omega) (Nat.le_trans (by show ((r.map (bm_val D)).map fun v => v.category).sum + 13 ≤ 440; rw [bm_cats]; omega) (Nat.le_trans (Nat.le_add_left _ _) hRl)) (by dsimp only at h1; omega) (by dsimp only at h2; omega) hdg ?_
    have e : (if Int32.ofInt x < Int32.ofInt y then Int32.ofInt y else Int32.ofInt x) = Int32.ofInt (if x < y then y else x) := by
      by_cases q : x < y
      · rw [if_pos q, if_pos ((bm_ltI hx1 hy1).mpr q)]
      · rw [if_neg q, if_neg (fun z => q ((bm_ltI hx1 hy1).mp z))]
    rw [e]
    refine k H locs ls hlo hLo (bm_InSt.cons ?_ hSt.tl.tl) hHR hS hls
    show bm_InI (if x < y then y else x)
    split
    · exact hy1
    · exact hx1
  · cases he
theorem bm_s_mmin {index : Nat} (nx : Nat) (hdg : decode cc pc = .ok (.invokestatic index, 3)) (hl : Cond.methodLink own index Lib.Math.min.name ∈ bm_ALL) (hst : Cond.static Lib.Math.min.name ∈ bm_ALL) (hi : Cond.initialized "java/lang/Math" ∈ bm_ALL) (hc : Cond.code Lib.Math.min.name Lib.Math.min.code 2 (some .int) ∈ bm_ALL) (hn : nx = pc + 3 := by rfl) : bm_Sn K pg mi cc nL own nm ret pc (bm_G (bm_oMn nx)) := by
  subst hn
  refine bm_Sn.heapG (fun lo st w g u he hg => ?_)
  unfold bm_oMn at he
  split at he
  · rename_i y x r
    cases he
    refine ⟨bm_le.rf, ?_⟩
    intro D b0 mc ms d p l e R s m args below meth c H locs w0 Q ls hCx hBn hle hlo hLo hSt hHR hS hls k
    obtain ⟨hx, hb, hml, hown, hts, -, -, -, -, -, -, hRc, hRs, hRf, hRl, -⟩ := hCx
    have hw : bm_wt r ≤ 8 := Nat.le_of_ble_eq_true hg
    have hy1 : bm_InI y := hSt (.inl y) List.mem_cons_self
    have hx1 : bm_InI x := hSt (.inl x) (List.mem_cons_of_mem _ List.mem_cons_self)
    have h1 := hBn.1
    have h2 := hBn.2
    refine va_mmin hx hb (by rw [hml]; exact hls.1.symm) hown (hts _ hl) (hts _ hst) (hts _ hi) (hts _ hc) (by omega) (Nat.le_trans (by show ((r.map (bm_val D)).map fun v => v.category).sum + 13 ≤ 440; rw [bm_cats]; omega) (Nat.le_trans (Nat.le_add_left _ _) hRl)) (by dsimp only at h1; omega) (by dsimp only at h2; omega) hdg ?_
    have e : (if Int32.ofInt y < Int32.ofInt x then Int32.ofInt y else Int32.ofInt x) = Int32.ofInt (if y < x then y else x) := by
      by_cases q : y < x
      · rw [if_pos q, if_pos ((bm_ltI hy1 hx1).mpr q)]
      · rw [if_neg q, if_neg (fun z => q ((bm_ltI hy1 hx1).mp z))]
    rw [e]
    refine k H locs ls hlo hLo (bm_InSt.cons ?_ hSt.tl.tl) hHR hS hls
    show bm_InI (if y < x then y else x)
    split
    · exact hy1
    · exact hx1
  · cases he
end BMM
end
section
/-! ===== rows of the law: the script, rows of texts, doubles ===== -/
section BMZ
variable {K : bm_K} {pg : bm_Pg} {mi : bm_Mi} {cc : ByteArray} {nL : Nat} {own nm : String} {ret : Option FieldType} {pc : Nat}
theorem bm_s_ldcI {index : Nat} {x : Int} (nx : Nat) (hdg : decode cc pc = .ok (.ldc index, 2)) (hl : Cond.constant own index (Int32.ofInt x) ∈ bm_ALL) (hin : bm_InI x) (hn : nx = pc + 2 := by rfl) : bm_Sn K pg mi cc nL own nm ret pc (bm_P (bm_oK (.inl x) nx)) := by
  subst hn
  refine bm_Sn.still (fun lo st w t he => ?_)
  simp only [bm_oK, Option.some.injEq] at he
  subst he
  refine ⟨rfl, fun h1 h2 h3 => ⟨⟨h1, h2, bm_InSt.cons hin h3⟩, ?_⟩⟩
  intro D b0 mc ms d p l e R s m args below meth c H locs cells slots Q ls hCx hS hls k
  obtain ⟨hx, hb, -, hown, hts, -⟩ := hCx
  exact lv_ldc hx hb hown (hts _ hl) hdg (k ls hls)
theorem bm_s_ldc2d {index : Nat} {x : UInt64} (nx : Nat) (hdg : decode cc pc = .ok (.ldc2_w index, 3)) (hl : Cond.constantDouble own index x ∈ bm_ALL) (hn : nx = pc + 3 := by rfl) : bm_Sn K pg mi cc nL own nm ret pc (bm_P (bm_oK (.inr (.inr (.inr (.inl x)))) nx)) := by
  subst hn
  refine bm_Sn.still (fun lo st w t he => ?_)
  simp only [bm_oK, Option.some.injEq] at he
  subst he
  refine ⟨rfl, fun h1 h2 h3 => ⟨⟨h1, h2, bm_InSt.cons trivial h3⟩, ?_⟩⟩
  intro D b0 mc ms d p l e R s m args below meth c H locs cells slots Q ls hCx hS hls k
  obtain ⟨hx, hb, -, hown, hts, -⟩ := hCx
  exact lv_ldc2d hx hb hown (hts _ hl) hdg (k ls hls)
def bm_bd (tg nx : Nat) : bm_L → List bm_V → bm_W → Option (Bool × bm_S × bm_S) := fun lo st w => match st with
  | .inr (.inr (.inr (.inl y))) :: .inr (.inr (.inr (.inl x))) :: r => some (decide (FP.dcmp x y = some .eq), (tg, lo, r, w), (nx, lo, r, w))
  | _ => none
theorem bm_cmpv (r : Option Ordering) : Op.cmpValue r .l = 0 ↔ r = some .eq := by
  rcases r with _ | o
  · exact ⟨fun h => absurd h (by decide), fun h => by cases h⟩
  · cases o
    · exact ⟨fun h => absurd h (by decide), fun h => by cases h⟩
    · exact ⟨fun _ => rfl, fun _ => rfl⟩
    · exact ⟨fun h => absurd h (by decide), fun h => by cases h⟩
theorem bm_s_dcmp_eq {off : Int} (tg nx : Nat) (hdg : decode cc pc = .ok (.dcmp .l, 1)) (hdg2 : decode cc (pc + 1) = .ok (.ifCond .eq off, 3)) (ht : ((pc + 1 : Nat) : Int) + off = (tg : Int) := by decide) (hn : nx = pc + 4 := by rfl) : bm_Sn K pg mi cc nL own nm ret pc (bm_B (bm_bd tg nx)) := by
  subst hn
  refine bm_Sn.stillB tg (pc + 4) (fun lo st w b t u he => ?_)
  unfold bm_bd at he
  split at he
  · rename_i y x r
    cases he
    refine ⟨r, rfl, rfl, fun h3 => ⟨h3.tl.tl, ?_⟩⟩
    intro D b0 mc ms d p l e R s m args below meth c H locs cells slots Q ls hCx kt kf
    obtain ⟨hx, hb, -⟩ := hCx
    exact lv_dcmp hx hb hdg (lv_if_eq hx hb hdg2 ht (fun z => kt (decide_eq_true ((bm_cmpv _).mp z))) (fun z => kf (decide_eq_false (fun q => z ((bm_cmpv _).mpr q)))))
  · cases he
/-! the script -/
def bm_aSn (nx : Nat) : bm_L → List bm_V → bm_W → Option (Prop × bm_S) := fun lo st w => match st with
  | .inr (.inr (.inl (some a))) :: r => some (bm_kt w a = 91, nx, lo, .inl (bm_kn w a : Nat) :: r, w)
  | _ => none
def bm_aS (nx : Nat) : bm_L → List bm_V → bm_W → Option (Prop × bm_S) := fun lo st w => match st with
  | .inl i :: .inr (.inr (.inl (some a))) :: r => some (bm_kt w a = 91 ∧ bm_in i (bm_kn w a), nx, lo, .inl (bm_gi w a i.toNat) :: r, w)
  | _ => none
theorem bm_s_alenS (nx : Nat) (hdg : decode cc pc = .ok (.arraylength, 1)) (hn : nx = pc + 1 := by rfl) : bm_Sn K pg mi cc nL own nm ret pc (bm_G (bm_aSn nx)) := by
  subst hn
  refine bm_Sn.heapG (fun lo st w g u he hg => ?_)
  unfold bm_aSn at he
  split at he
  · rename_i a r
    cases he
    refine ⟨bm_le.rf, bm_Gw.still (fun D b0 mc ms d p l e R s m args below meth c H locs cells slots Q ls hCx h3 hH hS hz => ⟨bm_InSt.cons (by have := hH.2.2.1 a; show bm_InI _; unfold bm_InI; omega) h3.tl, fun kk => ?_⟩)⟩
    obtain ⟨hx, hb, -, -, -, -, hST, -⟩ := hCx
    obtain ⟨k1, k2, k3⟩ := (hH.2.2.2.2.2 a).1 hg
    have e8 : Int32.ofNat (D.2.2 5 0) = Int32.ofInt (bm_kn w a : Nat) := by rw [k2]; exact Int32.ofInt_eq_ofNat.symm
    show W p l e R s m args below meth c H locs cells slots Q (F0 m pc ls (.ref a :: r.map (bm_val D)))
    have kk2 : W p l e R s m args below meth c H locs cells slots Q (F0 m (pc + 1) ls (.int (Int32.ofInt (bm_kn w a : Nat)) :: r.map (bm_val D))) := kk
    generalize Int32.ofInt (bm_kn w a : Nat) = v at e8 kk2
    rw [k1]
    exact va_tlen hx hb hST.2.2.2.2.1 hS e8 hdg kk2
  · cases he
theorem bm_s_ialdS (nx : Nat) (hdg : decode cc pc = .ok (.iaload, 1)) (hn : nx = pc + 1 := by rfl) : bm_Sn K pg mi cc nL own nm ret pc (bm_G (bm_aS nx)) := by
  subst hn
  refine bm_Sn.heapG (fun lo st w g u he hg => ?_)
  unfold bm_aS at he
  split at he
  · rename_i i a r
    cases he
    refine ⟨bm_le.rf, bm_Gw.still (fun D b0 mc ms d p l e R s m args below meth c H locs cells slots Q ls hCx h3 hH hS hz => ⟨bm_InSt.cons ((hH.2.1 a i.toNat).1) h3.tl.tl, fun kk => ?_⟩)⟩
    obtain ⟨hx, hb, -, -, -, -, hST, -⟩ := hCx
    obtain ⟨k1, k2, k3⟩ := (hH.2.2.2.2.2 a).1 hg.1
    obtain ⟨q1, q2, q3⟩ := bm_ix h3.hd hg.2
    have e8 : Value.int (Int32.ofNat (D.2.2 6 (Int32.ofInt i).toNatClampNeg)) = .int (Int32.ofInt (bm_gi w a i.toNat)) := by rw [q2, k3, Int32.ofInt_toInt]
    have kk2 : W p l e R s m args below meth c H locs cells slots Q (F0 m (pc + 1) ls (.int (Int32.ofInt (bm_gi w a i.toNat)) :: r.map (bm_val D))) := kk
    show W p l e R s m args below meth c H locs cells slots Q (F0 m pc ls (.int (Int32.ofInt i) :: .ref a :: r.map (bm_val D)))
    generalize Value.int (Int32.ofInt (bm_gi w a i.toNat)) = v at e8 kk2
    rw [k2] at q1
    rw [k1]
    exact va_ti hx hb hST.2.2.2.2.1 hS (i := Int32.ofInt i) q1 e8 hdg kk2
  · cases he
/-! rows of texts -/
theorem bm_s_anewaS {index : Nat} (nx : Nat) (hdg : decode cc pc = .ok (.anewarray index, 3)) (hcl : Cond.classLink own index "java/lang/String" ∈ bm_ALL) (hov : Cond.arrayOver (.object "java/lang/String") ∈ bm_NW) (hn : nx = pc + 3 := by rfl) : bm_Sn K pg mi cc nL own nm ret pc (bm_G (bm_oA 92 nx)) := by
  subst hn
  refine bm_Sn.heapG (fun lo st w g u he hg => ?_)
  unfold bm_oA at he
  split at he
  · rename_i n r
    cases he
    refine ⟨⟨Nat.le_succ _, Nat.le_add_right _ _⟩, fun D b0 mc ms d p l e R s m args below meth c H locs w0 Q ls hCx hB hle g1 g2 g3 g4 g5 g6 kk => ?_⟩
    obtain ⟨hx, hb, -, hown, hts, hK, hST, -, -, -, hb0, hRc, hRs, -⟩ := hCx
    obtain ⟨hB1, hB2⟩ := hB
    dsimp only [bm_nw_sz, bm_nw_sl] at hB1 hB2 kk
    obtain ⟨hl1, hl2⟩ := hle
    have hni : bm_InI n := g3.hd
    have hN : (Int32.ofInt n).toNatClampNeg = n.toNat := Int32.toNatClampNeg_ofInt_of_le (by have := hni.1; omega) (by have := hni.2; omega)
    obtain ⟨hA, kA0, comp0, hRA1, hRA2, hRA3, hRA⟩ := hK.2 7 (D.2.1 27, .object "java/lang/String") rfl
    refine W.anew hx hb hown (hts _ hcl) (va_AO.use (hST.2.2.2.2.2.2.2.2 _ hov)) rfl hdg rfl (fun q => by have := (bm_ltI hni bm_In0).mp q; have := hg.1; omega) (by rw [hN]; have h1 : n.toNat ≤ 100000 := (by have := hg.2; omega); omega) (by rw [hRc]; omega) (by rw [hRs, hN]; omega) fun cA kA comp f1 f2 f3 f4 => ?_
    rw [hN]
    have hcA : cA = D.2.1 27 := Option.some.inj (f1.symm.trans hRA)
    generalize hH1 : H.push ({ cls := cA, slots := Array.replicate n.toNat .null, vm := .none } : Cell) = H1
    have z1 : H1.size = H.size + 1 := by rw [← hH1, Array.size_push]
    have e1 : H1[H.size]? = some (arrV cA n.toNat (fun _ => .null)) := by rw [← hH1, Array.getElem?_push_size, ← arrV_new]
    have o1 : ∀ q : Nat, q < H.size → H1[q]? = H[q]? := fun q hq => by rw [← hH1, Array.getElem?_push, if_neg (Nat.ne_of_lt hq)]
    rw [g4.1] at e1 ⊢
    refine W.cs (show _ = bm_sz w + 1 - bm_sz w0 by omega) (show _ = bm_sl w + n.toNat - bm_sl w0 by omega) ?_
    exact kk H1 locs ls g1 g2 (bm_InSt.cons trivial g3.tl) (g4.pushG (t := 92) (by rw [← g4.1]; exact Nat.le_trans hb0 g5.1) rfl z1 o1 (fun b hb2 => ⟨by rw [bm_nw_kt, if_neg hb2], by rw [bm_nw_kn, if_neg hb2], fun k => ⟨by rw [bm_nw_gi, if_neg hb2], by rw [bm_nw_gl, if_neg hb2], by rw [bm_nw_gr, if_neg hb2]⟩⟩)
      (by rw [bm_nw_kt, if_pos rfl]) (by rw [bm_nw_kn, if_pos rfl]; have := hg.2; omega) (fun k => ⟨by rw [bm_nw_gi, if_pos rfl]; exact bm_In0, by rw [bm_nw_gl, if_pos rfl]; exact bm_InL0⟩) (fun h => absurd h (by omega)) (by omega) (fun _ => by
        rw [e1, hcA, bm_nw_kn, if_pos rfl]
        congr 2
        funext j
        rw [bm_nw_gi, if_pos rfl]; rfl) g4.sc) (bm_va_push g5 z1 o1) g6
  · cases he
/-- a place of a row of texts is written -/
theorem bm_HR.put9 {D : bm_D} {b0 : Nat} {w : bm_W} {H H1 : Heap} {a k : Nat} {x : Int} (h : bm_HR D b0 w H) (hx : bm_InI x) (ha : bm_kt w a = 92) (hc : H1[a]? = some (arrV (D.2.1 27) (bm_kn w a) (fun j => bm_tx D (bm_gi (bm_si w a k x) a j)))) (hz : H1.size = H.size) (ho : ∀ q : Nat, q ≠ a → H1[q]? = H[q]?) : bm_HR D b0 (bm_si w a k x) H1 := by
  obtain ⟨e1, e2, e3, e4, e5, e6⟩ := h
  have hs : ∀ b, b ≠ a → ∀ j, bm_gi (bm_si w a k x) b j = bm_gi w b j := fun b hb j => by rw [bm_si_gi, if_neg (fun q => hb q.1)]
  refine ⟨by rw [hz]; exact e1, bm_range_si e2 hx, e3, fun b hb => ?_, e5, fun b => ⟨fun q => ?_, fun q => ?_⟩⟩
  · have hb : bm_kt w b < 90 := hb
    have hba : b ≠ a := fun e => by rw [e] at hb; omega
    obtain ⟨g1, g2, g3⟩ := e4 b hb
    exact ⟨g1, g2, g3.kept (ho b hba) rfl (fun j => ⟨hs b hba j, rfl, rfl⟩)⟩
  · have q : bm_kt w b = 91 := q
    have hba : b ≠ a := fun e => by rw [e] at q; omega
    obtain ⟨g1, g2, g3⟩ := (e6 b).1 q
    exact ⟨g1, g2, fun j => (hs b hba j).trans (g3 j)⟩
  · have q : bm_kt w b = 92 := q
    obtain ⟨g1, g2, g3⟩ := (e6 b).2 q
    by_cases hba : b = a
    · subst hba
      exact ⟨g1, g2, hc⟩
    · have e : (fun j => bm_tx D (bm_gi (bm_si w a k x) b j)) = (fun j => bm_tx D (bm_gi w b j)) := funext fun j => by rw [hs b hba j]
      exact ⟨g1, g2, by rw [ho b hba, g3, e]; rfl⟩
def bm_xS (nx : Nat) : bm_L → List bm_V → bm_W → Option (Prop × bm_S) := fun lo st w => match st with
  | .inr (.inr (.inr (.inr (0, v)))) :: .inl i :: .inr (.inr (.inl (some a))) :: r => some ((bm_kt w a = 92 ∧ bm_in i (bm_kn w a)) ∧ v < 20, nx, lo, r, bm_si w a i.toNat ((v : Int) + 1))
  | _ => none
theorem bm_s_aastoreS (hall : 20 ≤ K.1.1) (nx : Nat) (hdg : decode cc pc = .ok (.aastore, 1)) (hini : Cond.initialized "java/lang/String" ∈ bm_ALL) (hn : nx = pc + 1 := by rfl) : bm_Sn K pg mi cc nL own nm ret pc (bm_G (bm_xS nx)) := by
  subst hn
  refine bm_Sn.heapG (fun lo st w g u he hg => ?_)
  unfold bm_xS at he
  split at he
  · rename_i v i a r
    cases he
    refine ⟨⟨Nat.le_refl _, Nat.le_refl _⟩, fun D b0 mc ms d p l e R s m args below meth c H locs w0 Q ls hCx hB hle g1 g2 g3 g4 g5 g6 kk => ?_⟩
    obtain ⟨hx, hb, -, -, hts, hK, hST, -⟩ := hCx
    obtain ⟨⟨h1, h2⟩, h3⟩ := hg
    obtain ⟨q1, q2, q3⟩ := bm_ix g3.tl.hd h2
    obtain ⟨hba, -, e1⟩ := (g4.2.2.2.2.2 a).2 h1
    obtain ⟨hA, kA, comp, k1, k2, k3, -⟩ := hK.2 7 (D.2.1 27, .object "java/lang/String") rfl
    obtain ⟨cellV, v1, v2, v3, v4⟩ := (hST.1.1 v (Nat.lt_of_lt_of_le h3 hall)).1
    have hcomp : comp = cellV.cls := Option.some.inj (k3.symm.trans v3)
    subst hcomp
    have v5 : H[D.2.2 0 v]? = some cellV := (g5.2.1 _ (Array.getElem?_eq_some_iff.mp v1).1 v4).trans v1
    have hi := hts _ hini
    obtain ⟨kC, hkC⟩ : ∃ kC, s.vm.classes[cellV.cls]? = some kC := by
      cases hq : s.vm.classes[cellV.cls]? with
      | none => simp [Cond.before, Cond.holds, Cond.value, v3, hq] at hi
      | some k => exact ⟨k, rfl⟩
    refine W.aast hx hb e1 (fun q h => by cases h) (fun h => by cases h) k1 k2 rfl hkC ⟨fun q => q1 (Or.inl q), by show _ < (arrV _ _ _).slots.size; rw [arrV_size, q2]; exact q3⟩ v5 (fun q h => by rw [h] at v2; cases v2) hkC (by unfold Vm.assignable Vm.assignableAux; simp only [beq_self_eq_true, Bool.true_or]) rfl rfl hdg fun H1 e z oq => ?_
    refine kk H1 _ ls g1 g2 g3.tl.tl.tl (g4.put9 (a := a) (x := (v : Int) + 1) ⟨by omega, by omega⟩ h1 ?_ z oq) (g5.put z oq hba) g6
    rw [e, q2, arrV_store]
    congr 2
    funext j
    unfold updV
    rw [bm_si_gi]
    by_cases hj : j = i.toNat
    · rw [if_pos hj, if_pos ⟨rfl, hj⟩]
      show Value.ref (D.2.2 0 v) = bm_tx D ((v : Int) + 1)
      unfold bm_tx
      rw [if_neg (by omega), show ((v : Int) + 1).toNat - 1 = v by omega]
    · rw [if_neg hj, if_neg (fun q => hj q.2)]
  · cases he
def bm_aT (nx : Nat) : bm_L → List bm_V → bm_W → Option (Prop × bm_S) := fun lo st w => match st with
  | .inl i :: .inr (.inr (.inl (some a))) :: r => some ((bm_kt w a = 92 ∧ bm_in i (bm_kn w a)) ∧ 0 < bm_gi w a i.toNat, nx, lo, .inr (.inr (.inr (.inr (0, (bm_gi w a i.toNat).toNat - 1)))) :: r, w)
  | _ => none
theorem bm_s_aaloadS (nx : Nat) (hdg : decode cc pc = .ok (.aaload, 1)) (hn : nx = pc + 1 := by rfl) : bm_Sn K pg mi cc nL own nm ret pc (bm_G (bm_aT nx)) := by
  subst hn
  refine bm_Sn.heapG (fun lo st w g u he hg => ?_)
  unfold bm_aT at he
  split at he
  · rename_i i a r
    cases he
    refine ⟨bm_le.rf, bm_Gw.still (fun D b0 mc ms d p l e R s m args below meth c H locs cells slots Q ls hCx h3 hH hS hz => ⟨bm_InSt.cons trivial h3.tl.tl, fun kk => ?_⟩)⟩
    obtain ⟨hx, hb, -, -, -, hK, -⟩ := hCx
    obtain ⟨⟨h1, h2⟩, h4⟩ := hg
    obtain ⟨q1, q2, q3⟩ := bm_ix h3.hd h2
    obtain ⟨-, -, e1⟩ := (hH.2.2.2.2.2 a).2 h1
    have hA := (hK.2 7 (D.2.1 27, .object "java/lang/String") rfl).1 (bm_kn w a) (fun j => bm_tx D (bm_gi w a j))
    refine W.aald (v := .ref (D.2.2 0 ((bm_gi w a i.toNat).toNat - 1))) hx hb e1 hA rfl (fun q => by cases q) (by rw [arrV_size]; exact q1) (by
      rw [q2, arrV_read _ _ q3]
      show some (bm_tx D _) = _
      unfold bm_tx
      rw [if_neg (by omega)]) rfl rfl hdg kk
  · cases he
end BMZ
end
