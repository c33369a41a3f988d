section
-- ===== PART A: goes FIRST, ahead of the names: the tables' words, and 'selects' of the private methods out of them =====
/-- a private method of a class that the tables say can be made, by its rows of tables_1 -/
def lw_okq (q : MethodName × Nat) : Prop := (q.1.cls ≠ "java/lang/invoke/MethodHandle" ∧ q.1.cls ≠ "java/lang/invoke/VarHandle") ∧ Cond.instantiable q.1.cls q.2 ∈ tables_1 ∧ Cond.privateMethod q.1 ∈ tables_1 ∧ Cond.instanceMethod q.1 ∈ tables_1
theorem lw_p0 : lw_okq (⟨"LinenBoard$Bench", "actFor", "(II)LLinenBoard$Act;"⟩, 5) := ⟨⟨by decide +kernel, by decide +kernel⟩, List.mem_of_getElem? (i := 201) (by decide +kernel), List.mem_of_getElem? (i := 378) (by decide +kernel), List.mem_of_getElem? (i := 379) (by decide +kernel)⟩
theorem lw_p1 : lw_okq (⟨"LinenBoard$Bench", "name", "(II)V"⟩, 5) := ⟨⟨by decide +kernel, by decide +kernel⟩, List.mem_of_getElem? (i := 201) (by decide +kernel), List.mem_of_getElem? (i := 405) (by decide +kernel), List.mem_of_getElem? (i := 406) (by decide +kernel)⟩
theorem lw_p2 : lw_okq (⟨"LinenBoard$Bench", "nameSort", "(I)V"⟩, 5) := ⟨⟨by decide +kernel, by decide +kernel⟩, List.mem_of_getElem? (i := 201) (by decide +kernel), List.mem_of_getElem? (i := 409) (by decide +kernel), List.mem_of_getElem? (i := 410) (by decide +kernel)⟩
theorem lw_p3 : lw_okq (⟨"LinenBoard$Bench", "valueOf", "(LLinenBoard$Act;I)J"⟩, 5) := ⟨⟨by decide +kernel, by decide +kernel⟩, List.mem_of_getElem? (i := 201) (by decide +kernel), List.mem_of_getElem? (i := 418) (by decide +kernel), List.mem_of_getElem? (i := 419) (by decide +kernel)⟩
theorem lw_p4 : lw_okq (⟨"LinenBoard$Bench", "stepOf", "(IJJ)J"⟩, 5) := ⟨⟨by decide +kernel, by decide +kernel⟩, List.mem_of_getElem? (i := 201) (by decide +kernel), List.mem_of_getElem? (i := 429) (by decide +kernel), List.mem_of_getElem? (i := 430) (by decide +kernel)⟩
theorem lw_p5 : lw_okq (⟨"LinenBoard$Tape", "byteAt", "(I)I"⟩, 6) := ⟨⟨by decide +kernel, by decide +kernel⟩, List.mem_of_getElem? (i := 145) (by decide +kernel), List.mem_of_getElem? (i := 474) (by decide +kernel), List.mem_of_getElem? (i := 475) (by decide +kernel)⟩
theorem lw_p6 : lw_okq (⟨"LinenBoard$Tape", "addWord", "(I)I"⟩, 6) := ⟨⟨by decide +kernel, by decide +kernel⟩, List.mem_of_getElem? (i := 145) (by decide +kernel), List.mem_of_getElem? (i := 481) (by decide +kernel), List.mem_of_getElem? (i := 482) (by decide +kernel)⟩
theorem lw_p7 : lw_okq (⟨"LinenBoard$Tape", "isWord", "(III)Z"⟩, 6) := ⟨⟨by decide +kernel, by decide +kernel⟩, List.mem_of_getElem? (i := 145) (by decide +kernel), List.mem_of_getElem? (i := 485) (by decide +kernel), List.mem_of_getElem? (i := 486) (by decide +kernel)⟩
theorem lw_p8 : lw_okq (⟨"LinenBoard$Tape", "addToken", "(III)V"⟩, 6) := ⟨⟨by decide +kernel, by decide +kernel⟩, List.mem_of_getElem? (i := 145) (by decide +kernel), List.mem_of_getElem? (i := 538) (by decide +kernel), List.mem_of_getElem? (i := 539) (by decide +kernel)⟩
theorem lw_p9 : lw_okq (⟨"LinenBoard$Tape", "addNumber", "(I)I"⟩, 6) := ⟨⟨by decide +kernel, by decide +kernel⟩, List.mem_of_getElem? (i := 145) (by decide +kernel), List.mem_of_getElem? (i := 545) (by decide +kernel), List.mem_of_getElem? (i := 546) (by decide +kernel)⟩
theorem lw_p10 : lw_okq (⟨"LinenBoard$Tape", "addSign", "(I)I"⟩, 6) := ⟨⟨by decide +kernel, by decide +kernel⟩, List.mem_of_getElem? (i := 145) (by decide +kernel), List.mem_of_getElem? (i := 552) (by decide +kernel), List.mem_of_getElem? (i := 553) (by decide +kernel)⟩
theorem lw_p11 : lw_okq (⟨"LinenBoard$Reader", "token", "()I"⟩, 5) := ⟨⟨by decide +kernel, by decide +kernel⟩, List.mem_of_getElem? (i := 176) (by decide +kernel), List.mem_of_getElem? (i := 642) (by decide +kernel), List.mem_of_getElem? (i := 643) (by decide +kernel)⟩
theorem lw_p12 : lw_okq (⟨"LinenBoard$Reader", "fail", "(I)V"⟩, 5) := ⟨⟨by decide +kernel, by decide +kernel⟩, List.mem_of_getElem? (i := 176) (by decide +kernel), List.mem_of_getElem? (i := 650) (by decide +kernel), List.mem_of_getElem? (i := 651) (by decide +kernel)⟩
theorem lw_p13 : lw_okq (⟨"LinenBoard$Reader", "pass", "()V"⟩, 5) := ⟨⟨by decide +kernel, by decide +kernel⟩, List.mem_of_getElem? (i := 176) (by decide +kernel), List.mem_of_getElem? (i := 661) (by decide +kernel), List.mem_of_getElem? (i := 662) (by decide +kernel)⟩
theorem lw_p14 : lw_okq (⟨"LinenBoard$Reader", "readTold", "(II)V"⟩, 5) := ⟨⟨by decide +kernel, by decide +kernel⟩, List.mem_of_getElem? (i := 176) (by decide +kernel), List.mem_of_getElem? (i := 665) (by decide +kernel), List.mem_of_getElem? (i := 666) (by decide +kernel)⟩
theorem lw_p15 : lw_okq (⟨"LinenBoard$Reader", "number", "()I"⟩, 5) := ⟨⟨by decide +kernel, by decide +kernel⟩, List.mem_of_getElem? (i := 176) (by decide +kernel), List.mem_of_getElem? (i := 673) (by decide +kernel), List.mem_of_getElem? (i := 674) (by decide +kernel)⟩
def lw_privs_1 : List (MethodName × Nat) := [(⟨"LinenBoard$Bench", "actFor", "(II)LLinenBoard$Act;"⟩, 5), (⟨"LinenBoard$Bench", "name", "(II)V"⟩, 5), (⟨"LinenBoard$Bench", "nameSort", "(I)V"⟩, 5), (⟨"LinenBoard$Bench", "valueOf", "(LLinenBoard$Act;I)J"⟩, 5), (⟨"LinenBoard$Bench", "stepOf", "(IJJ)J"⟩, 5), (⟨"LinenBoard$Tape", "byteAt", "(I)I"⟩, 6), (⟨"LinenBoard$Tape", "addWord", "(I)I"⟩, 6), (⟨"LinenBoard$Tape", "isWord", "(III)Z"⟩, 6), (⟨"LinenBoard$Tape", "addToken", "(III)V"⟩, 6), (⟨"LinenBoard$Tape", "addNumber", "(I)I"⟩, 6), (⟨"LinenBoard$Tape", "addSign", "(I)I"⟩, 6), (⟨"LinenBoard$Reader", "token", "()I"⟩, 5), (⟨"LinenBoard$Reader", "fail", "(I)V"⟩, 5), (⟨"LinenBoard$Reader", "pass", "()V"⟩, 5), (⟨"LinenBoard$Reader", "readTold", "(II)V"⟩, 5), (⟨"LinenBoard$Reader", "number", "()I"⟩, 5)]
theorem lw_r1 : ∀ q ∈ lw_privs_1, lw_okq q := List.forall_mem_cons.mpr ⟨lw_p0, List.forall_mem_cons.mpr ⟨lw_p1, List.forall_mem_cons.mpr ⟨lw_p2, List.forall_mem_cons.mpr ⟨lw_p3, List.forall_mem_cons.mpr ⟨lw_p4, List.forall_mem_cons.mpr ⟨lw_p5, List.forall_mem_cons.mpr ⟨lw_p6, List.forall_mem_cons.mpr ⟨lw_p7, List.forall_mem_cons.mpr ⟨lw_p8, List.forall_mem_cons.mpr ⟨lw_p9, List.forall_mem_cons.mpr ⟨lw_p10, List.forall_mem_cons.mpr ⟨lw_p11, List.forall_mem_cons.mpr ⟨lw_p12, List.forall_mem_cons.mpr ⟨lw_p13, List.forall_mem_cons.mpr ⟨lw_p14, List.forall_mem_cons.mpr ⟨lw_p15, fun _ h => absurd h List.not_mem_nil⟩⟩⟩⟩⟩⟩⟩⟩⟩⟩⟩⟩⟩⟩⟩⟩
theorem lw_p16 : lw_okq (⟨"LinenBoard$Reader", "readEither", "()V"⟩, 5) := ⟨⟨by decide +kernel, by decide +kernel⟩, List.mem_of_getElem? (i := 176) (by decide +kernel), List.mem_of_getElem? (i := 679) (by decide +kernel), List.mem_of_getElem? (i := 680) (by decide +kernel)⟩
theorem lw_p17 : lw_okq (⟨"LinenBoard$Reader", "readAsk", "(I)V"⟩, 5) := ⟨⟨by decide +kernel, by decide +kernel⟩, List.mem_of_getElem? (i := 176) (by decide +kernel), List.mem_of_getElem? (i := 683) (by decide +kernel), List.mem_of_getElem? (i := 684) (by decide +kernel)⟩
theorem lw_p18 : lw_okq (⟨"LinenBoard$Reader", "emit", "(I)V"⟩, 5) := ⟨⟨by decide +kernel, by decide +kernel⟩, List.mem_of_getElem? (i := 176) (by decide +kernel), List.mem_of_getElem? (i := 687) (by decide +kernel), List.mem_of_getElem? (i := 688) (by decide +kernel)⟩
theorem lw_p19 : lw_okq (⟨"LinenBoard$Reader", "readSum", "(I)V"⟩, 5) := ⟨⟨by decide +kernel, by decide +kernel⟩, List.mem_of_getElem? (i := 176) (by decide +kernel), List.mem_of_getElem? (i := 695) (by decide +kernel), List.mem_of_getElem? (i := 696) (by decide +kernel)⟩
theorem lw_p20 : lw_okq (⟨"LinenBoard$Reader", "readOne", "(I)V"⟩, 5) := ⟨⟨by decide +kernel, by decide +kernel⟩, List.mem_of_getElem? (i := 176) (by decide +kernel), List.mem_of_getElem? (i := 699) (by decide +kernel), List.mem_of_getElem? (i := 700) (by decide +kernel)⟩
theorem lw_p21 : lw_okq (⟨"LinenBoard$Reader", "readBrackets", "(II)V"⟩, 5) := ⟨⟨by decide +kernel, by decide +kernel⟩, List.mem_of_getElem? (i := 176) (by decide +kernel), List.mem_of_getElem? (i := 703) (by decide +kernel), List.mem_of_getElem? (i := 704) (by decide +kernel)⟩
theorem lw_p22 : lw_okq (⟨"LinenBoard$Reader", "expect", "(I)V"⟩, 5) := ⟨⟨by decide +kernel, by decide +kernel⟩, List.mem_of_getElem? (i := 176) (by decide +kernel), List.mem_of_getElem? (i := 707) (by decide +kernel), List.mem_of_getElem? (i := 708) (by decide +kernel)⟩
theorem lw_p23 : lw_okq (⟨"LinenBoard", "isForged", "(I)Z"⟩, 7) := ⟨⟨by decide +kernel, by decide +kernel⟩, List.mem_of_getElem? (i := 19) (by decide +kernel), List.mem_of_getElem? (i := 747) (by decide +kernel), List.mem_of_getElem? (i := 748) (by decide +kernel)⟩
theorem lw_p24 : lw_okq (⟨"LinenBoard", "isGood", "(I)Z"⟩, 7) := ⟨⟨by decide +kernel, by decide +kernel⟩, List.mem_of_getElem? (i := 19) (by decide +kernel), List.mem_of_getElem? (i := 751) (by decide +kernel), List.mem_of_getElem? (i := 752) (by decide +kernel)⟩
theorem lw_p25 : lw_okq (⟨"LinenBoard", "hasPaidClaim", "(I)Z"⟩, 7) := ⟨⟨by decide +kernel, by decide +kernel⟩, List.mem_of_getElem? (i := 19) (by decide +kernel), List.mem_of_getElem? (i := 779) (by decide +kernel), List.mem_of_getElem? (i := 780) (by decide +kernel)⟩
theorem lw_p26 : lw_okq (⟨"LinenBoard", "isStanding", "(I)Z"⟩, 7) := ⟨⟨by decide +kernel, by decide +kernel⟩, List.mem_of_getElem? (i := 19) (by decide +kernel), List.mem_of_getElem? (i := 783) (by decide +kernel), List.mem_of_getElem? (i := 784) (by decide +kernel)⟩
theorem lw_p27 : lw_okq (⟨"LinenBoard", "hasGoodSeal", "(I)Z"⟩, 7) := ⟨⟨by decide +kernel, by decide +kernel⟩, List.mem_of_getElem? (i := 19) (by decide +kernel), List.mem_of_getElem? (i := 787) (by decide +kernel), List.mem_of_getElem? (i := 788) (by decide +kernel)⟩
theorem lw_p28 : lw_okq (⟨"LinenBoard", "sumOfClaims", "(Z)J"⟩, 7) := ⟨⟨by decide +kernel, by decide +kernel⟩, List.mem_of_getElem? (i := 19) (by decide +kernel), List.mem_of_getElem? (i := 811) (by decide +kernel), List.mem_of_getElem? (i := 812) (by decide +kernel)⟩
theorem lw_p29 : lw_okq (⟨"LinenBoard", "sumOfFines", "(I)J"⟩, 7) := ⟨⟨by decide +kernel, by decide +kernel⟩, List.mem_of_getElem? (i := 19) (by decide +kernel), List.mem_of_getElem? (i := 815) (by decide +kernel), List.mem_of_getElem? (i := 816) (by decide +kernel)⟩
theorem lw_p30 : lw_okq (⟨"LinenBoard", "isSpan", "(II)Z"⟩, 7) := ⟨⟨by decide +kernel, by decide +kernel⟩, List.mem_of_getElem? (i := 19) (by decide +kernel), List.mem_of_getElem? (i := 841) (by decide +kernel), List.mem_of_getElem? (i := 842) (by decide +kernel)⟩
theorem lw_p31 : lw_okq (⟨"LinenBoard$Loom", "search", "(III)V"⟩, 10) := ⟨⟨by decide +kernel, by decide +kernel⟩, List.mem_of_getElem? (i := 226) (by decide +kernel), List.mem_of_getElem? (i := 852) (by decide +kernel), List.mem_of_getElem? (i := 853) (by decide +kernel)⟩
def lw_privs_2 : List (MethodName × Nat) := [(⟨"LinenBoard$Reader", "readEither", "()V"⟩, 5), (⟨"LinenBoard$Reader", "readAsk", "(I)V"⟩, 5), (⟨"LinenBoard$Reader", "emit", "(I)V"⟩, 5), (⟨"LinenBoard$Reader", "readSum", "(I)V"⟩, 5), (⟨"LinenBoard$Reader", "readOne", "(I)V"⟩, 5), (⟨"LinenBoard$Reader", "readBrackets", "(II)V"⟩, 5), (⟨"LinenBoard$Reader", "expect", "(I)V"⟩, 5), (⟨"LinenBoard", "isForged", "(I)Z"⟩, 7), (⟨"LinenBoard", "isGood", "(I)Z"⟩, 7), (⟨"LinenBoard", "hasPaidClaim", "(I)Z"⟩, 7), (⟨"LinenBoard", "isStanding", "(I)Z"⟩, 7), (⟨"LinenBoard", "hasGoodSeal", "(I)Z"⟩, 7), (⟨"LinenBoard", "sumOfClaims", "(Z)J"⟩, 7), (⟨"LinenBoard", "sumOfFines", "(I)J"⟩, 7), (⟨"LinenBoard", "isSpan", "(II)Z"⟩, 7), (⟨"LinenBoard$Loom", "search", "(III)V"⟩, 10)]
theorem lw_r2 : ∀ q ∈ lw_privs_2, lw_okq q := List.forall_mem_cons.mpr ⟨lw_p16, List.forall_mem_cons.mpr ⟨lw_p17, List.forall_mem_cons.mpr ⟨lw_p18, List.forall_mem_cons.mpr ⟨lw_p19, List.forall_mem_cons.mpr ⟨lw_p20, List.forall_mem_cons.mpr ⟨lw_p21, List.forall_mem_cons.mpr ⟨lw_p22, List.forall_mem_cons.mpr ⟨lw_p23, List.forall_mem_cons.mpr ⟨lw_p24, List.forall_mem_cons.mpr ⟨lw_p25, List.forall_mem_cons.mpr ⟨lw_p26, List.forall_mem_cons.mpr ⟨lw_p27, List.forall_mem_cons.mpr ⟨lw_p28, List.forall_mem_cons.mpr ⟨lw_p29, List.forall_mem_cons.mpr ⟨lw_p30, List.forall_mem_cons.mpr ⟨lw_p31, fun _ h => absurd h List.not_mem_nil⟩⟩⟩⟩⟩⟩⟩⟩⟩⟩⟩⟩⟩⟩⟩⟩
theorem lw_p32 : lw_okq (⟨"LinenBoard$Loom", "standAs", "(I)V"⟩, 10) := ⟨⟨by decide +kernel, by decide +kernel⟩, List.mem_of_getElem? (i := 226) (by decide +kernel), List.mem_of_getElem? (i := 856) (by decide +kernel), List.mem_of_getElem? (i := 857) (by decide +kernel)⟩
theorem lw_p33 : lw_okq (⟨"LinenBoard$Loom", "weaves", "(I)Z"⟩, 10) := ⟨⟨by decide +kernel, by decide +kernel⟩, List.mem_of_getElem? (i := 226) (by decide +kernel), List.mem_of_getElem? (i := 860) (by decide +kernel), List.mem_of_getElem? (i := 861) (by decide +kernel)⟩
theorem lw_p34 : lw_okq (⟨"LinenBoard$Loom", "giverTo", "(II)I"⟩, 10) := ⟨⟨by decide +kernel, by decide +kernel⟩, List.mem_of_getElem? (i := 226) (by decide +kernel), List.mem_of_getElem? (i := 864) (by decide +kernel), List.mem_of_getElem? (i := 865) (by decide +kernel)⟩
theorem lw_p35 : lw_okq (⟨"LinenBoard$Loom", "otherOf", "(II)I"⟩, 10) := ⟨⟨by decide +kernel, by decide +kernel⟩, List.mem_of_getElem? (i := 226) (by decide +kernel), List.mem_of_getElem? (i := 868) (by decide +kernel), List.mem_of_getElem? (i := 869) (by decide +kernel)⟩
theorem lw_p36 : lw_okq (⟨"LinenBoard$Loom", "roomFrom", "(III)I"⟩, 10) := ⟨⟨by decide +kernel, by decide +kernel⟩, List.mem_of_getElem? (i := 226) (by decide +kernel), List.mem_of_getElem? (i := 872) (by decide +kernel), List.mem_of_getElem? (i := 873) (by decide +kernel)⟩
theorem lw_p37 : lw_okq (⟨"LinenBoard$Loom", "carry", "(IIII)I"⟩, 10) := ⟨⟨by decide +kernel, by decide +kernel⟩, List.mem_of_getElem? (i := 226) (by decide +kernel), List.mem_of_getElem? (i := 876) (by decide +kernel), List.mem_of_getElem? (i := 877) (by decide +kernel)⟩
theorem lw_p38 : lw_okq (⟨"LinenBoard", "countedHanks", "(I)I"⟩, 7) := ⟨⟨by decide +kernel, by decide +kernel⟩, List.mem_of_getElem? (i := 19) (by decide +kernel), List.mem_of_getElem? (i := 938) (by decide +kernel), List.mem_of_getElem? (i := 939) (by decide +kernel)⟩
theorem lw_p39 : lw_okq (⟨"LinenBoard", "countedThreads", "(I)I"⟩, 7) := ⟨⟨by decide +kernel, by decide +kernel⟩, List.mem_of_getElem? (i := 19) (by decide +kernel), List.mem_of_getElem? (i := 942) (by decide +kernel), List.mem_of_getElem? (i := 943) (by decide +kernel)⟩
theorem lw_p40 : lw_okq (⟨"LinenBoard", "triedWeb", "(II)I"⟩, 7) := ⟨⟨by decide +kernel, by decide +kernel⟩, List.mem_of_getElem? (i := 19) (by decide +kernel), List.mem_of_getElem? (i := 958) (by decide +kernel), List.mem_of_getElem? (i := 959) (by decide +kernel)⟩
theorem lw_p41 : lw_okq (⟨"LinenBoardModel", "isPerson", "(I)Z"⟩, 32) := ⟨⟨by decide +kernel, by decide +kernel⟩, List.mem_of_getElem? (i := 983) (by decide +kernel), List.mem_of_getElem? (i := 1105) (by decide +kernel), List.mem_of_getElem? (i := 1106) (by decide +kernel)⟩
theorem lw_p42 : lw_okq (⟨"LinenBoardModel", "isWeb", "(I)Z"⟩, 32) := ⟨⟨by decide +kernel, by decide +kernel⟩, List.mem_of_getElem? (i := 983) (by decide +kernel), List.mem_of_getElem? (i := 1121) (by decide +kernel), List.mem_of_getElem? (i := 1122) (by decide +kernel)⟩
theorem lw_p43 : lw_okq (⟨"LinenBoardModel", "four", "(I)V"⟩, 32) := ⟨⟨by decide +kernel, by decide +kernel⟩, List.mem_of_getElem? (i := 983) (by decide +kernel), List.mem_of_getElem? (i := 1136) (by decide +kernel), List.mem_of_getElem? (i := 1137) (by decide +kernel)⟩
theorem lw_p44 : lw_okq (⟨"LinenBoardModel", "readText", "()I"⟩, 32) := ⟨⟨by decide +kernel, by decide +kernel⟩, List.mem_of_getElem? (i := 983) (by decide +kernel), List.mem_of_getElem? (i := 1148) (by decide +kernel), List.mem_of_getElem? (i := 1149) (by decide +kernel)⟩
theorem lw_p45 : lw_okq (⟨"LinenBoardModel", "nextToken", "()V"⟩, 32) := ⟨⟨by decide +kernel, by decide +kernel⟩, List.mem_of_getElem? (i := 983) (by decide +kernel), List.mem_of_getElem? (i := 1152) (by decide +kernel), List.mem_of_getElem? (i := 1153) (by decide +kernel)⟩
theorem lw_p46 : lw_okq (⟨"LinenBoardModel", "see", "(I)I"⟩, 32) := ⟨⟨by decide +kernel, by decide +kernel⟩, List.mem_of_getElem? (i := 983) (by decide +kernel), List.mem_of_getElem? (i := 1156) (by decide +kernel), List.mem_of_getElem? (i := 1157) (by decide +kernel)⟩
theorem lw_p47 : lw_okq (⟨"LinenBoardModel", "clause", "()I"⟩, 32) := ⟨⟨by decide +kernel, by decide +kernel⟩, List.mem_of_getElem? (i := 983) (by decide +kernel), List.mem_of_getElem? (i := 1167) (by decide +kernel), List.mem_of_getElem? (i := 1168) (by decide +kernel)⟩
def lw_privs_3 : List (MethodName × Nat) := [(⟨"LinenBoard$Loom", "standAs", "(I)V"⟩, 10), (⟨"LinenBoard$Loom", "weaves", "(I)Z"⟩, 10), (⟨"LinenBoard$Loom", "giverTo", "(II)I"⟩, 10), (⟨"LinenBoard$Loom", "otherOf", "(II)I"⟩, 10), (⟨"LinenBoard$Loom", "roomFrom", "(III)I"⟩, 10), (⟨"LinenBoard$Loom", "carry", "(IIII)I"⟩, 10), (⟨"LinenBoard", "countedHanks", "(I)I"⟩, 7), (⟨"LinenBoard", "countedThreads", "(I)I"⟩, 7), (⟨"LinenBoard", "triedWeb", "(II)I"⟩, 7), (⟨"LinenBoardModel", "isPerson", "(I)Z"⟩, 32), (⟨"LinenBoardModel", "isWeb", "(I)Z"⟩, 32), (⟨"LinenBoardModel", "four", "(I)V"⟩, 32), (⟨"LinenBoardModel", "readText", "()I"⟩, 32), (⟨"LinenBoardModel", "nextToken", "()V"⟩, 32), (⟨"LinenBoardModel", "see", "(I)I"⟩, 32), (⟨"LinenBoardModel", "clause", "()I"⟩, 32)]
theorem lw_r3 : ∀ q ∈ lw_privs_3, lw_okq q := List.forall_mem_cons.mpr ⟨lw_p32, List.forall_mem_cons.mpr ⟨lw_p33, List.forall_mem_cons.mpr ⟨lw_p34, List.forall_mem_cons.mpr ⟨lw_p35, List.forall_mem_cons.mpr ⟨lw_p36, List.forall_mem_cons.mpr ⟨lw_p37, List.forall_mem_cons.mpr ⟨lw_p38, List.forall_mem_cons.mpr ⟨lw_p39, List.forall_mem_cons.mpr ⟨lw_p40, List.forall_mem_cons.mpr ⟨lw_p41, List.forall_mem_cons.mpr ⟨lw_p42, List.forall_mem_cons.mpr ⟨lw_p43, List.forall_mem_cons.mpr ⟨lw_p44, List.forall_mem_cons.mpr ⟨lw_p45, List.forall_mem_cons.mpr ⟨lw_p46, List.forall_mem_cons.mpr ⟨lw_p47, fun _ h => absurd h List.not_mem_nil⟩⟩⟩⟩⟩⟩⟩⟩⟩⟩⟩⟩⟩⟩⟩⟩
theorem lw_p48 : lw_okq (⟨"LinenBoardModel", "sortOf", "()I"⟩, 32) := ⟨⟨by decide +kernel, by decide +kernel⟩, List.mem_of_getElem? (i := 983) (by decide +kernel), List.mem_of_getElem? (i := 1171) (by decide +kernel), List.mem_of_getElem? (i := 1172) (by decide +kernel)⟩
theorem lw_p49 : lw_okq (⟨"LinenBoardModel", "take", "(III)I"⟩, 32) := ⟨⟨by decide +kernel, by decide +kernel⟩, List.mem_of_getElem? (i := 983) (by decide +kernel), List.mem_of_getElem? (i := 1187) (by decide +kernel), List.mem_of_getElem? (i := 1188) (by decide +kernel)⟩
theorem lw_p50 : lw_okq (⟨"LinenBoardModel", "either", "()I"⟩, 32) := ⟨⟨by decide +kernel, by decide +kernel⟩, List.mem_of_getElem? (i := 983) (by decide +kernel), List.mem_of_getElem? (i := 1191) (by decide +kernel), List.mem_of_getElem? (i := 1192) (by decide +kernel)⟩
theorem lw_p51 : lw_okq (⟨"LinenBoardModel", "ask", "()I"⟩, 32) := ⟨⟨by decide +kernel, by decide +kernel⟩, List.mem_of_getElem? (i := 983) (by decide +kernel), List.mem_of_getElem? (i := 1195) (by decide +kernel), List.mem_of_getElem? (i := 1196) (by decide +kernel)⟩
theorem lw_p52 : lw_okq (⟨"LinenBoardModel", "isWord", "(J)Z"⟩, 32) := ⟨⟨by decide +kernel, by decide +kernel⟩, List.mem_of_getElem? (i := 983) (by decide +kernel), List.mem_of_getElem? (i := 1199) (by decide +kernel), List.mem_of_getElem? (i := 1200) (by decide +kernel)⟩
theorem lw_p53 : lw_okq (⟨"LinenBoardModel", "summed", "()I"⟩, 32) := ⟨⟨by decide +kernel, by decide +kernel⟩, List.mem_of_getElem? (i := 983) (by decide +kernel), List.mem_of_getElem? (i := 1203) (by decide +kernel), List.mem_of_getElem? (i := 1204) (by decide +kernel)⟩
theorem lw_p54 : lw_okq (⟨"LinenBoardModel", "goesOn", "()Z"⟩, 32) := ⟨⟨by decide +kernel, by decide +kernel⟩, List.mem_of_getElem? (i := 983) (by decide +kernel), List.mem_of_getElem? (i := 1207) (by decide +kernel), List.mem_of_getElem? (i := 1208) (by decide +kernel)⟩
theorem lw_p55 : lw_okq (⟨"LinenBoardModel", "hasParen", "()Z"⟩, 32) := ⟨⟨by decide +kernel, by decide +kernel⟩, List.mem_of_getElem? (i := 983) (by decide +kernel), List.mem_of_getElem? (i := 1211) (by decide +kernel), List.mem_of_getElem? (i := 1212) (by decide +kernel)⟩
theorem lw_p56 : lw_okq (⟨"LinenBoardModel", "behindOne", "()I"⟩, 32) := ⟨⟨by decide +kernel, by decide +kernel⟩, List.mem_of_getElem? (i := 983) (by decide +kernel), List.mem_of_getElem? (i := 1215) (by decide +kernel), List.mem_of_getElem? (i := 1216) (by decide +kernel)⟩
theorem lw_p57 : lw_okq (⟨"LinenBoardModel", "settle", "(I)V"⟩, 32) := ⟨⟨by decide +kernel, by decide +kernel⟩, List.mem_of_getElem? (i := 983) (by decide +kernel), List.mem_of_getElem? (i := 1219) (by decide +kernel), List.mem_of_getElem? (i := 1220) (by decide +kernel)⟩
theorem lw_p58 : lw_okq (⟨"LinenBoardModel", "emit", "(II)V"⟩, 32) := ⟨⟨by decide +kernel, by decide +kernel⟩, List.mem_of_getElem? (i := 983) (by decide +kernel), List.mem_of_getElem? (i := 1223) (by decide +kernel), List.mem_of_getElem? (i := 1224) (by decide +kernel)⟩
theorem lw_p59 : lw_okq (⟨"LinenBoardModel", "push", "(I)V"⟩, 32) := ⟨⟨by decide +kernel, by decide +kernel⟩, List.mem_of_getElem? (i := 983) (by decide +kernel), List.mem_of_getElem? (i := 1227) (by decide +kernel), List.mem_of_getElem? (i := 1228) (by decide +kernel)⟩
theorem lw_p60 : lw_okq (⟨"LinenBoardModel", "whole", "()V"⟩, 32) := ⟨⟨by decide +kernel, by decide +kernel⟩, List.mem_of_getElem? (i := 983) (by decide +kernel), List.mem_of_getElem? (i := 1231) (by decide +kernel), List.mem_of_getElem? (i := 1232) (by decide +kernel)⟩
theorem lw_p61 : lw_okq (⟨"LinenBoardModel", "beginOne", "()I"⟩, 32) := ⟨⟨by decide +kernel, by decide +kernel⟩, List.mem_of_getElem? (i := 983) (by decide +kernel), List.mem_of_getElem? (i := 1235) (by decide +kernel), List.mem_of_getElem? (i := 1236) (by decide +kernel)⟩
theorem lw_p62 : lw_okq (⟨"LinenBoardModel", "nameOf", "()I"⟩, 32) := ⟨⟨by decide +kernel, by decide +kernel⟩, List.mem_of_getElem? (i := 983) (by decide +kernel), List.mem_of_getElem? (i := 1239) (by decide +kernel), List.mem_of_getElem? (i := 1240) (by decide +kernel)⟩
theorem lw_p63 : lw_okq (⟨"LinenBoardModel", "compareOf", "()I"⟩, 32) := ⟨⟨by decide +kernel, by decide +kernel⟩, List.mem_of_getElem? (i := 983) (by decide +kernel), List.mem_of_getElem? (i := 1243) (by decide +kernel), List.mem_of_getElem? (i := 1244) (by decide +kernel)⟩
def lw_privs_4 : List (MethodName × Nat) := [(⟨"LinenBoardModel", "sortOf", "()I"⟩, 32), (⟨"LinenBoardModel", "take", "(III)I"⟩, 32), (⟨"LinenBoardModel", "either", "()I"⟩, 32), (⟨"LinenBoardModel", "ask", "()I"⟩, 32), (⟨"LinenBoardModel", "isWord", "(J)Z"⟩, 32), (⟨"LinenBoardModel", "summed", "()I"⟩, 32), (⟨"LinenBoardModel", "goesOn", "()Z"⟩, 32), (⟨"LinenBoardModel", "hasParen", "()Z"⟩, 32), (⟨"LinenBoardModel", "behindOne", "()I"⟩, 32), (⟨"LinenBoardModel", "settle", "(I)V"⟩, 32), (⟨"LinenBoardModel", "emit", "(II)V"⟩, 32), (⟨"LinenBoardModel", "push", "(I)V"⟩, 32), (⟨"LinenBoardModel", "whole", "()V"⟩, 32), (⟨"LinenBoardModel", "beginOne", "()I"⟩, 32), (⟨"LinenBoardModel", "nameOf", "()I"⟩, 32), (⟨"LinenBoardModel", "compareOf", "()I"⟩, 32)]
theorem lw_r4 : ∀ q ∈ lw_privs_4, lw_okq q := List.forall_mem_cons.mpr ⟨lw_p48, List.forall_mem_cons.mpr ⟨lw_p49, List.forall_mem_cons.mpr ⟨lw_p50, List.forall_mem_cons.mpr ⟨lw_p51, List.forall_mem_cons.mpr ⟨lw_p52, List.forall_mem_cons.mpr ⟨lw_p53, List.forall_mem_cons.mpr ⟨lw_p54, List.forall_mem_cons.mpr ⟨lw_p55, List.forall_mem_cons.mpr ⟨lw_p56, List.forall_mem_cons.mpr ⟨lw_p57, List.forall_mem_cons.mpr ⟨lw_p58, List.forall_mem_cons.mpr ⟨lw_p59, List.forall_mem_cons.mpr ⟨lw_p60, List.forall_mem_cons.mpr ⟨lw_p61, List.forall_mem_cons.mpr ⟨lw_p62, List.forall_mem_cons.mpr ⟨lw_p63, fun _ h => absurd h List.not_mem_nil⟩⟩⟩⟩⟩⟩⟩⟩⟩⟩⟩⟩⟩⟩⟩⟩
theorem lw_p64 : lw_okq (⟨"LinenBoardModel", "putForce", "(III)V"⟩, 32) := ⟨⟨by decide +kernel, by decide +kernel⟩, List.mem_of_getElem? (i := 983) (by decide +kernel), List.mem_of_getElem? (i := 1256) (by decide +kernel), List.mem_of_getElem? (i := 1257) (by decide +kernel)⟩
theorem lw_p65 : lw_okq (⟨"LinenBoardModel", "numberOf", "(III)I"⟩, 32) := ⟨⟨by decide +kernel, by decide +kernel⟩, List.mem_of_getElem? (i := 983) (by decide +kernel), List.mem_of_getElem? (i := 1264) (by decide +kernel), List.mem_of_getElem? (i := 1265) (by decide +kernel)⟩
theorem lw_p66 : lw_okq (⟨"LinenBoardModel", "actFor", "(II)I"⟩, 32) := ⟨⟨by decide +kernel, by decide +kernel⟩, List.mem_of_getElem? (i := 983) (by decide +kernel), List.mem_of_getElem? (i := 1268) (by decide +kernel), List.mem_of_getElem? (i := 1269) (by decide +kernel)⟩
theorem lw_p67 : lw_okq (⟨"LinenBoardModel", "firstOf", "(II)I"⟩, 32) := ⟨⟨by decide +kernel, by decide +kernel⟩, List.mem_of_getElem? (i := 983) (by decide +kernel), List.mem_of_getElem? (i := 1272) (by decide +kernel), List.mem_of_getElem? (i := 1273) (by decide +kernel)⟩
theorem lw_p68 : lw_okq (⟨"LinenBoardModel", "clausesOf", "(I)I"⟩, 32) := ⟨⟨by decide +kernel, by decide +kernel⟩, List.mem_of_getElem? (i := 983) (by decide +kernel), List.mem_of_getElem? (i := 1276) (by decide +kernel), List.mem_of_getElem? (i := 1277) (by decide +kernel)⟩
theorem lw_p69 : lw_okq (⟨"LinenBoardModel", "clauseAt", "(II)I"⟩, 32) := ⟨⟨by decide +kernel, by decide +kernel⟩, List.mem_of_getElem? (i := 983) (by decide +kernel), List.mem_of_getElem? (i := 1280) (by decide +kernel), List.mem_of_getElem? (i := 1281) (by decide +kernel)⟩
theorem lw_p70 : lw_okq (⟨"LinenBoardModel", "measuresOf", "(III)I"⟩, 32) := ⟨⟨by decide +kernel, by decide +kernel⟩, List.mem_of_getElem? (i := 983) (by decide +kernel), List.mem_of_getElem? (i := 1288) (by decide +kernel), List.mem_of_getElem? (i := 1289) (by decide +kernel)⟩
theorem lw_p71 : lw_okq (⟨"LinenBoardModel", "name", "(III)V"⟩, 32) := ⟨⟨by decide +kernel, by decide +kernel⟩, List.mem_of_getElem? (i := 983) (by decide +kernel), List.mem_of_getElem? (i := 1292) (by decide +kernel), List.mem_of_getElem? (i := 1293) (by decide +kernel)⟩
theorem lw_p72 : lw_okq (⟨"LinenBoardModel", "personAt", "(II)I"⟩, 32) := ⟨⟨by decide +kernel, by decide +kernel⟩, List.mem_of_getElem? (i := 983) (by decide +kernel), List.mem_of_getElem? (i := 1296) (by decide +kernel), List.mem_of_getElem? (i := 1297) (by decide +kernel)⟩
theorem lw_p73 : lw_okq (⟨"LinenBoardModel", "sortOfWeb", "(I)I"⟩, 32) := ⟨⟨by decide +kernel, by decide +kernel⟩, List.mem_of_getElem? (i := 983) (by decide +kernel), List.mem_of_getElem? (i := 1300) (by decide +kernel), List.mem_of_getElem? (i := 1301) (by decide +kernel)⟩
theorem lw_p74 : lw_okq (⟨"LinenBoardModel", "work", "(II)V"⟩, 32) := ⟨⟨by decide +kernel, by decide +kernel⟩, List.mem_of_getElem? (i := 983) (by decide +kernel), List.mem_of_getElem? (i := 1304) (by decide +kernel), List.mem_of_getElem? (i := 1305) (by decide +kernel)⟩
theorem lw_p75 : lw_okq (⟨"LinenBoardModel", "lacks", "(I)I"⟩, 32) := ⟨⟨by decide +kernel, by decide +kernel⟩, List.mem_of_getElem? (i := 983) (by decide +kernel), List.mem_of_getElem? (i := 1319) (by decide +kernel), List.mem_of_getElem? (i := 1320) (by decide +kernel)⟩
theorem lw_p76 : lw_okq (⟨"LinenBoardModel", "sumOf", "(II)I"⟩, 32) := ⟨⟨by decide +kernel, by decide +kernel⟩, List.mem_of_getElem? (i := 983) (by decide +kernel), List.mem_of_getElem? (i := 1327) (by decide +kernel), List.mem_of_getElem? (i := 1328) (by decide +kernel)⟩
theorem lw_p77 : lw_okq (⟨"LinenBoardModel", "isSeal", "(I)Z"⟩, 32) := ⟨⟨by decide +kernel, by decide +kernel⟩, List.mem_of_getElem? (i := 983) (by decide +kernel), List.mem_of_getElem? (i := 1340) (by decide +kernel), List.mem_of_getElem? (i := 1341) (by decide +kernel)⟩
theorem lw_p78 : lw_okq (⟨"LinenBoardModel", "sealAt", "(II)I"⟩, 32) := ⟨⟨by decide +kernel, by decide +kernel⟩, List.mem_of_getElem? (i := 983) (by decide +kernel), List.mem_of_getElem? (i := 1344) (by decide +kernel), List.mem_of_getElem? (i := 1345) (by decide +kernel)⟩
theorem lw_p79 : lw_okq (⟨"LinenBoardModel", "isForged", "(I)Z"⟩, 32) := ⟨⟨by decide +kernel, by decide +kernel⟩, List.mem_of_getElem? (i := 983) (by decide +kernel), List.mem_of_getElem? (i := 1348) (by decide +kernel), List.mem_of_getElem? (i := 1349) (by decide +kernel)⟩
def lw_privs_5 : List (MethodName × Nat) := [(⟨"LinenBoardModel", "putForce", "(III)V"⟩, 32), (⟨"LinenBoardModel", "numberOf", "(III)I"⟩, 32), (⟨"LinenBoardModel", "actFor", "(II)I"⟩, 32), (⟨"LinenBoardModel", "firstOf", "(II)I"⟩, 32), (⟨"LinenBoardModel", "clausesOf", "(I)I"⟩, 32), (⟨"LinenBoardModel", "clauseAt", "(II)I"⟩, 32), (⟨"LinenBoardModel", "measuresOf", "(III)I"⟩, 32), (⟨"LinenBoardModel", "name", "(III)V"⟩, 32), (⟨"LinenBoardModel", "personAt", "(II)I"⟩, 32), (⟨"LinenBoardModel", "sortOfWeb", "(I)I"⟩, 32), (⟨"LinenBoardModel", "work", "(II)V"⟩, 32), (⟨"LinenBoardModel", "lacks", "(I)I"⟩, 32), (⟨"LinenBoardModel", "sumOf", "(II)I"⟩, 32), (⟨"LinenBoardModel", "isSeal", "(I)Z"⟩, 32), (⟨"LinenBoardModel", "sealAt", "(II)I"⟩, 32), (⟨"LinenBoardModel", "isForged", "(I)Z"⟩, 32)]
theorem lw_r5 : ∀ q ∈ lw_privs_5, lw_okq q := List.forall_mem_cons.mpr ⟨lw_p64, List.forall_mem_cons.mpr ⟨lw_p65, List.forall_mem_cons.mpr ⟨lw_p66, List.forall_mem_cons.mpr ⟨lw_p67, List.forall_mem_cons.mpr ⟨lw_p68, List.forall_mem_cons.mpr ⟨lw_p69, List.forall_mem_cons.mpr ⟨lw_p70, List.forall_mem_cons.mpr ⟨lw_p71, List.forall_mem_cons.mpr ⟨lw_p72, List.forall_mem_cons.mpr ⟨lw_p73, List.forall_mem_cons.mpr ⟨lw_p74, List.forall_mem_cons.mpr ⟨lw_p75, List.forall_mem_cons.mpr ⟨lw_p76, List.forall_mem_cons.mpr ⟨lw_p77, List.forall_mem_cons.mpr ⟨lw_p78, List.forall_mem_cons.mpr ⟨lw_p79, fun _ h => absurd h List.not_mem_nil⟩⟩⟩⟩⟩⟩⟩⟩⟩⟩⟩⟩⟩⟩⟩⟩
theorem lw_p80 : lw_okq (⟨"LinenBoardModel", "flawsOf", "(II)I"⟩, 32) := ⟨⟨by decide +kernel, by decide +kernel⟩, List.mem_of_getElem? (i := 983) (by decide +kernel), List.mem_of_getElem? (i := 1352) (by decide +kernel), List.mem_of_getElem? (i := 1353) (by decide +kernel)⟩
theorem lw_p81 : lw_okq (⟨"LinenBoardModel", "isGood", "(I)Z"⟩, 32) := ⟨⟨by decide +kernel, by decide +kernel⟩, List.mem_of_getElem? (i := 983) (by decide +kernel), List.mem_of_getElem? (i := 1356) (by decide +kernel), List.mem_of_getElem? (i := 1357) (by decide +kernel)⟩
theorem lw_p82 : lw_okq (⟨"LinenBoardModel", "chance", "(II)J"⟩, 32) := ⟨⟨by decide +kernel, by decide +kernel⟩, List.mem_of_getElem? (i := 983) (by decide +kernel), List.mem_of_getElem? (i := 1374) (by decide +kernel), List.mem_of_getElem? (i := 1375) (by decide +kernel)⟩
theorem lw_p83 : lw_okq (⟨"LinenBoardModel", "hasGoodSeal", "(I)Z"⟩, 32) := ⟨⟨by decide +kernel, by decide +kernel⟩, List.mem_of_getElem? (i := 983) (by decide +kernel), List.mem_of_getElem? (i := 1383) (by decide +kernel), List.mem_of_getElem? (i := 1384) (by decide +kernel)⟩
theorem lw_p84 : lw_okq (⟨"LinenBoardModel", "isPaid", "(I)Z"⟩, 32) := ⟨⟨by decide +kernel, by decide +kernel⟩, List.mem_of_getElem? (i := 983) (by decide +kernel), List.mem_of_getElem? (i := 1387) (by decide +kernel), List.mem_of_getElem? (i := 1388) (by decide +kernel)⟩
theorem lw_p85 : lw_okq (⟨"LinenBoardModel", "bountyLess", "(I)I"⟩, 32) := ⟨⟨by decide +kernel, by decide +kernel⟩, List.mem_of_getElem? (i := 983) (by decide +kernel), List.mem_of_getElem? (i := 1391) (by decide +kernel), List.mem_of_getElem? (i := 1392) (by decide +kernel)⟩
theorem lw_p86 : lw_okq (⟨"LinenBoardModel", "needOf", "(I)I"⟩, 32) := ⟨⟨by decide +kernel, by decide +kernel⟩, List.mem_of_getElem? (i := 983) (by decide +kernel), List.mem_of_getElem? (i := 1423) (by decide +kernel), List.mem_of_getElem? (i := 1424) (by decide +kernel)⟩
theorem lw_p87 : lw_okq (⟨"LinenBoardModel", "isSpan", "(II)Z"⟩, 32) := ⟨⟨by decide +kernel, by decide +kernel⟩, List.mem_of_getElem? (i := 983) (by decide +kernel), List.mem_of_getElem? (i := 1431) (by decide +kernel), List.mem_of_getElem? (i := 1432) (by decide +kernel)⟩
theorem lw_p88 : lw_okq (⟨"LinenBoardModel", "findDoubt", "(II)V"⟩, 32) := ⟨⟨by decide +kernel, by decide +kernel⟩, List.mem_of_getElem? (i := 983) (by decide +kernel), List.mem_of_getElem? (i := 1435) (by decide +kernel), List.mem_of_getElem? (i := 1436) (by decide +kernel)⟩
theorem lw_p89 : lw_okq (⟨"LinenBoardModel", "can", "(III)Z"⟩, 32) := ⟨⟨by decide +kernel, by decide +kernel⟩, List.mem_of_getElem? (i := 983) (by decide +kernel), List.mem_of_getElem? (i := 1439) (by decide +kernel), List.mem_of_getElem? (i := 1440) (by decide +kernel)⟩
theorem lw_p90 : lw_okq (⟨"LinenBoardModel", "isWay", "()Z"⟩, 32) := ⟨⟨by decide +kernel, by decide +kernel⟩, List.mem_of_getElem? (i := 983) (by decide +kernel), List.mem_of_getElem? (i := 1443) (by decide +kernel), List.mem_of_getElem? (i := 1444) (by decide +kernel)⟩
theorem lw_p91 : lw_okq (⟨"LinenBoardModel", "goOn", "()V"⟩, 32) := ⟨⟨by decide +kernel, by decide +kernel⟩, List.mem_of_getElem? (i := 983) (by decide +kernel), List.mem_of_getElem? (i := 1447) (by decide +kernel), List.mem_of_getElem? (i := 1448) (by decide +kernel)⟩
theorem lw_p92 : lw_okq (⟨"LinenBoardModel", "mayWin", "(I)Z"⟩, 32) := ⟨⟨by decide +kernel, by decide +kernel⟩, List.mem_of_getElem? (i := 983) (by decide +kernel), List.mem_of_getElem? (i := 1460) (by decide +kernel), List.mem_of_getElem? (i := 1461) (by decide +kernel)⟩
theorem lw_p93 : lw_okq (⟨"LinenBoardModel", "drawOf", "(III)V"⟩, 32) := ⟨⟨by decide +kernel, by decide +kernel⟩, List.mem_of_getElem? (i := 983) (by decide +kernel), List.mem_of_getElem? (i := 1464) (by decide +kernel), List.mem_of_getElem? (i := 1465) (by decide +kernel)⟩
theorem lw_p94 : lw_okq (⟨"LinenBoardModel", "isLot", "(I)Z"⟩, 32) := ⟨⟨by decide +kernel, by decide +kernel⟩, List.mem_of_getElem? (i := 983) (by decide +kernel), List.mem_of_getElem? (i := 1481) (by decide +kernel), List.mem_of_getElem? (i := 1482) (by decide +kernel)⟩
theorem lw_p95 : lw_okq (⟨"LinenBoardModel", "countedOf", "(IZ)I"⟩, 32) := ⟨⟨by decide +kernel, by decide +kernel⟩, List.mem_of_getElem? (i := 983) (by decide +kernel), List.mem_of_getElem? (i := 1493) (by decide +kernel), List.mem_of_getElem? (i := 1494) (by decide +kernel)⟩
def lw_privs_6 : List (MethodName × Nat) := [(⟨"LinenBoardModel", "flawsOf", "(II)I"⟩, 32), (⟨"LinenBoardModel", "isGood", "(I)Z"⟩, 32), (⟨"LinenBoardModel", "chance", "(II)J"⟩, 32), (⟨"LinenBoardModel", "hasGoodSeal", "(I)Z"⟩, 32), (⟨"LinenBoardModel", "isPaid", "(I)Z"⟩, 32), (⟨"LinenBoardModel", "bountyLess", "(I)I"⟩, 32), (⟨"LinenBoardModel", "needOf", "(I)I"⟩, 32), (⟨"LinenBoardModel", "isSpan", "(II)Z"⟩, 32), (⟨"LinenBoardModel", "findDoubt", "(II)V"⟩, 32), (⟨"LinenBoardModel", "can", "(III)Z"⟩, 32), (⟨"LinenBoardModel", "isWay", "()Z"⟩, 32), (⟨"LinenBoardModel", "goOn", "()V"⟩, 32), (⟨"LinenBoardModel", "mayWin", "(I)Z"⟩, 32), (⟨"LinenBoardModel", "drawOf", "(III)V"⟩, 32), (⟨"LinenBoardModel", "isLot", "(I)Z"⟩, 32), (⟨"LinenBoardModel", "countedOf", "(IZ)I"⟩, 32)]
theorem lw_r6 : ∀ q ∈ lw_privs_6, lw_okq q := List.forall_mem_cons.mpr ⟨lw_p80, List.forall_mem_cons.mpr ⟨lw_p81, List.forall_mem_cons.mpr ⟨lw_p82, List.forall_mem_cons.mpr ⟨lw_p83, List.forall_mem_cons.mpr ⟨lw_p84, List.forall_mem_cons.mpr ⟨lw_p85, List.forall_mem_cons.mpr ⟨lw_p86, List.forall_mem_cons.mpr ⟨lw_p87, List.forall_mem_cons.mpr ⟨lw_p88, List.forall_mem_cons.mpr ⟨lw_p89, List.forall_mem_cons.mpr ⟨lw_p90, List.forall_mem_cons.mpr ⟨lw_p91, List.forall_mem_cons.mpr ⟨lw_p92, List.forall_mem_cons.mpr ⟨lw_p93, List.forall_mem_cons.mpr ⟨lw_p94, List.forall_mem_cons.mpr ⟨lw_p95, fun _ h => absurd h List.not_mem_nil⟩⟩⟩⟩⟩⟩⟩⟩⟩⟩⟩⟩⟩⟩⟩⟩
def lw_privs : List (MethodName × Nat) := lw_privs_1 ++ (lw_privs_2 ++ (lw_privs_3 ++ (lw_privs_4 ++ (lw_privs_5 ++ (lw_privs_6)))))
def lw_tbl : List Cond := k2_sels lw_privs ++ tables_1
theorem lw_privs_ok : ∀ q ∈ lw_privs, lw_okq q := by
  show ∀ q ∈ lw_privs_1 ++ (lw_privs_2 ++ (lw_privs_3 ++ (lw_privs_4 ++ (lw_privs_5 ++ (lw_privs_6))))), lw_okq q
  exact List.forall_mem_append.mpr ⟨lw_r1, List.forall_mem_append.mpr ⟨lw_r2, List.forall_mem_append.mpr ⟨lw_r3, List.forall_mem_append.mpr ⟨lw_r4, List.forall_mem_append.mpr ⟨lw_r5, lw_r6⟩⟩⟩⟩⟩
end
section
/-! the classes: names, fields, types (0 int, 1 long, 2 reference, 3 boolean) -/
def x_FX0 : List (String × String × String × Bool) := [("LinenBoard$Act", "clauses", "LLinenBoard$Rows;", true), ("LinenBoard$Act", "code", "[I", true), ("LinenBoard$Act", "kinds", "I", false), ("LinenBoard$Act", "length", "I", false)]
def x_FX1 : List (String × String × String × Bool) := [("LinenBoard$Bench", "ledger", "LLinenBoard$Ledger;", true), ("LinenBoard$Bench", "names", "[I", true), ("LinenBoard$Bench", "stack", "[J", true), ("LinenBoard$Bench", "beside", "LLinenBoard$Act;", false), ("LinenBoard$Bench", "sortOfWeb", "I", false)]
def x_FX2 : List (String × String × String × Bool) := [("LinenBoard$Ledger", "towns", "LLinenBoard$Rows;", true), ("LinenBoard$Ledger", "persons", "LLinenBoard$Rows;", true), ("LinenBoard$Ledger", "dies", "LLinenBoard$Rows;", true), ("LinenBoard$Ledger", "webs", "LLinenBoard$Rows;", true), ("LinenBoard$Ledger", "measures", "LLinenBoard$Rows;", true), ("LinenBoard$Ledger", "forces", "LLinenBoard$Rows;", true), ("LinenBoard$Ledger", "seals", "LLinenBoard$Rows;", true), ("LinenBoard$Ledger", "looks", "LLinenBoard$Rows;", true), ("LinenBoard$Ledger", "claims", "LLinenBoard$Rows;", true), ("LinenBoard$Ledger", "fines", "LLinenBoard$Rows;", true), ("LinenBoard$Ledger", "trades", "LLinenBoard$Rows;", true), ("LinenBoard$Ledger", "lots", "LLinenBoard$Rows;", true), ("LinenBoard$Ledger", "acts", "[LLinenBoard$Act;", true), ("LinenBoard$Ledger", "actCount", "I", false), ("LinenBoard$Ledger", "day", "I", false), ("LinenBoard$Ledger", "allow", "I", false), ("LinenBoard$Ledger", "out", "I", false), ("LinenBoard$Ledger", "home", "I", false), ("LinenBoard$Ledger", "round", "I", false)]
def x_FX3 : List (String × String × String × Bool) := [("LinenBoard$Loom", "ledger", "LLinenBoard$Ledger;", true), ("LinenBoard$Loom", "stock", "LLinenBoard$Rows;", true), ("LinenBoard$Loom", "sent", "LLinenBoard$Rows;", true), ("LinenBoard$Loom", "tradesOf", "LLinenBoard$Rows;", true), ("LinenBoard$Loom", "begins", "LLinenBoard$Rows;", true), ("LinenBoard$Loom", "queue", "LLinenBoard$Rows;", true), ("LinenBoard$Loom", "reachedBy", "LLinenBoard$Rows;", true), ("LinenBoard$Loom", "webs", "LLinenBoard$Rows;", true), ("LinenBoard$Loom", "leastLength", "I", false), ("LinenBoard$Loom", "leftOut", "I", false)]
def x_FX4 : List (String × String × String × Bool) := [("LinenBoard$Reader", "tape", "LLinenBoard$Tape;", true), ("LinenBoard$Reader", "at", "I", false), ("LinenBoard$Reader", "draft", "LLinenBoard$Act;", false), ("LinenBoard$Reader", "fault", "I", false), ("LinenBoard$Reader", "faultPlace", "I", false)]
def x_FX5 : List (String × String × String × Bool) := [("LinenBoard$Rows", "most", "I", true), ("LinenBoard$Rows", "width", "I", true), ("LinenBoard$Rows", "cells", "[I", true), ("LinenBoard$Rows", "size", "I", false)]
def x_FX6 : List (String × String × String × Bool) := [("LinenBoard$Tape", "bytes", "[I", true), ("LinenBoard$Tape", "kinds", "[I", true), ("LinenBoard$Tape", "places", "[I", true), ("LinenBoard$Tape", "numbers", "[I", true), ("LinenBoard$Tape", "length", "I", false), ("LinenBoard$Tape", "tokens", "I", false)]
def x_FX7 : List (String × String × String × Bool) := [("LinenBoard$Urn", "things", "[I", true), ("LinenBoard$Urn", "size", "I", false)]
def x_FX8 : List (String × String × String × Bool) := [("LinenBoard", "now", "LLinenBoard$Ledger;", true), ("LinenBoard", "kept", "LLinenBoard$Ledger;", true), ("LinenBoard", "tape", "LLinenBoard$Tape;", true), ("LinenBoard", "reader", "LLinenBoard$Reader;", true), ("LinenBoard", "bench", "LLinenBoard$Bench;", true), ("LinenBoard", "loom", "LLinenBoard$Loom;", true), ("LinenBoard", "urn", "LLinenBoard$Urn;", true)]
def x_FX9 : List (String × String × String × Bool) := [("LinenBoardModel", "a", "[I", true), ("LinenBoardModel", "image", "[I", true), ("LinenBoardModel", "coins", "[J", true), ("LinenBoardModel", "imageCoins", "[J", true), ("LinenBoardModel", "tape", "[I", true), ("LinenBoardModel", "taped", "I", false), ("LinenBoardModel", "fault", "I", false), ("LinenBoardModel", "faultPlace", "I", false), ("LinenBoardModel", "at", "I", false), ("LinenBoardModel", "place", "I", false), ("LinenBoardModel", "token", "I", false), ("LinenBoardModel", "number", "I", false), ("LinenBoardModel", "word", "J", false), ("LinenBoardModel", "text0", "I", false), ("LinenBoardModel", "clauses", "I", false), ("LinenBoardModel", "written", "I", false), ("LinenBoardModel", "came", "I", false), ("LinenBoardModel", "pile", "[I", true), ("LinenBoardModel", "piled", "I", false), ("LinenBoardModel", "opens", "I", false), ("LinenBoardModel", "isWhole", "Z", false), ("LinenBoardModel", "named", "[I", true), ("LinenBoardModel", "values", "[J", true), ("LinenBoardModel", "truth", "[Z", true), ("LinenBoardModel", "room", "[I", true), ("LinenBoardModel", "cameFrom", "[I", true), ("LinenBoardModel", "waits", "[I", true), ("LinenBoardModel", "needs", "[I", true), ("LinenBoardModel", "doubted", "I", false), ("LinenBoardModel", "doubtLength", "I", false), ("LinenBoardModel", "row", "[I", true), ("LinenBoardModel", "isSealed", "[Z", true)]
def x_cn : List String := ["LinenBoard$Act", "LinenBoard$Bench", "LinenBoard$Ledger", "LinenBoard$Loom", "LinenBoard$Reader", "LinenBoard$Rows", "LinenBoard$Tape", "LinenBoard$Urn", "LinenBoard", "LinenBoardModel"]
def x_fl : List (List (String × String × String × Bool)) := [x_FX0, x_FX1, x_FX2, x_FX3, x_FX4, x_FX5, x_FX6, x_FX7, x_FX8, x_FX9]
def x_ft : List (List Nat) := [[2, 2, 0, 0], [2, 2, 2, 2, 0], [2, 2, 2, 2, 2, 2, 2, 2, 2, 2, 2, 2, 2, 0, 0, 0, 0, 0, 0], [2, 2, 2, 2, 2, 2, 2, 2, 0, 0], [2, 0, 2, 0, 0], [0, 0, 2, 0], [2, 2, 2, 2, 0, 0], [2, 0], [2, 2, 2, 2, 2, 2, 2], [2, 2, 2, 2, 2, 0, 0, 0, 0, 0, 0, 0, 1, 0, 0, 0, 0, 2, 0, 0, 3, 2, 2, 2, 2, 2, 2, 2, 0, 0, 2, 2]]
def x_fT : List (List FieldType) := [[.object "LinenBoard$Rows", .array .int, .int, .int], [.object "LinenBoard$Ledger", .array .int, .array .long, .object "LinenBoard$Act", .int], [.object "LinenBoard$Rows", .object "LinenBoard$Rows", .object "LinenBoard$Rows", .object "LinenBoard$Rows", .object "LinenBoard$Rows", .object "LinenBoard$Rows", .object "LinenBoard$Rows", .object "LinenBoard$Rows", .object "LinenBoard$Rows", .object "LinenBoard$Rows", .object "LinenBoard$Rows", .object "LinenBoard$Rows", .array (.object "LinenBoard$Act"), .int, .int, .int, .int, .int, .int], [.object "LinenBoard$Ledger", .object "LinenBoard$Rows", .object "LinenBoard$Rows", .object "LinenBoard$Rows", .object "LinenBoard$Rows", .object "LinenBoard$Rows", .object "LinenBoard$Rows", .object "LinenBoard$Rows", .int, .int], [.object "LinenBoard$Tape", .int, .object "LinenBoard$Act", .int, .int], [.int, .int, .array .int, .int], [.array .int, .array .int, .array .int, .array .int, .int, .int], [.array .int, .int], [.object "LinenBoard$Ledger", .object "LinenBoard$Ledger", .object "LinenBoard$Tape", .object "LinenBoard$Reader", .object "LinenBoard$Bench", .object "LinenBoard$Loom", .object "LinenBoard$Urn"], [.array .int, .array .int, .array .long, .array .long, .array .int, .int, .int, .int, .int, .int, .int, .int, .long, .int, .int, .int, .int, .array .int, .int, .int, .boolean, .array .int, .array .long, .array .boolean, .array .int, .array .int, .array .int, .array .int, .int, .int, .array .int, .array .boolean]]
def x_T (c : Nat) : u_T := fun k => (x_fl.getD c []).getD k ("", "", "", false)
abbrev x_c0 : vw_C := ("LinenBoard$Act", x_T 0, 4)
abbrev x_c1 : vw_C := ("LinenBoard$Bench", x_T 1, 5)
abbrev x_c2 : vw_C := ("LinenBoard$Ledger", x_T 2, 19)
abbrev x_c3 : vw_C := ("LinenBoard$Loom", x_T 3, 10)
abbrev x_c4 : vw_C := ("LinenBoard$Reader", x_T 4, 5)
abbrev x_c5 : vw_C := ("LinenBoard$Rows", x_T 5, 4)
abbrev x_c6 : vw_C := ("LinenBoard$Tape", x_T 6, 6)
abbrev x_c7 : vw_C := ("LinenBoard$Urn", x_T 7, 2)
abbrev x_c8 : vw_C := ("LinenBoard", x_T 8, 7)
abbrev x_c9 : vw_C := ("LinenBoardModel", x_T 9, 32)
abbrev x_cl : List vw_C := [x_c0, x_c1, x_c2, x_c3, x_c4, x_c5, x_c6, x_c7, x_c8, x_c9]
abbrev x_MI : Type := MethodName × ByteArray × Nat × Option FieldType × (Nat × Nat)
def x_m0 : List x_MI := [(⟨"LinenBoard$Act", "<init>", "(I)V"⟩, prog_2_method_1_code, 2, none, (3, 1800)), (⟨"LinenBoard$Act", "tells", "(I)Z"⟩, prog_2_method_2_code, 2, (some .boolean), (0, 0)), (⟨"LinenBoard$Act", "open", "(I)I"⟩, prog_2_method_3_code, 2, (some .int), (0, 0)), (⟨"LinenBoard$Act", "put", "(I)V"⟩, prog_2_method_4_code, 2, none, (0, 0)), (⟨"LinenBoard$Act", "stepAt", "(I)I"⟩, prog_2_method_5_code, 2, (some .int), (0, 0)), (⟨"LinenBoard$Act", "kindAt", "(I)I"⟩, prog_2_method_6_code, 2, (some .int), (0, 0)), (⟨"LinenBoard$Act", "numberAt", "(I)I"⟩, prog_2_method_7_code, 2, (some .int), (0, 0)), (⟨"LinenBoard$Act", "firstOf", "(I)I"⟩, prog_2_method_8_code, 3, (some .int), (0, 0)), (⟨"LinenBoard$Bench", "<init>", "(LLinenBoard$Ledger;)V"⟩, prog_3_method_1_code, 2, none, (2, 100)), (⟨"LinenBoard$Bench", "named", "(I)I"⟩, prog_3_method_2_code, 2, (some .int), (0, 0)), (⟨"LinenBoard$Bench", "name", "(II)V"⟩, prog_3_method_3_code, 3, none, (0, 0)), (⟨"LinenBoard$Bench", "latestMeasure", "(III)I"⟩, prog_3_method_4_code, 9, (some .int), (0, 0)), (⟨"LinenBoard$Bench", "weigh", "(III)Z"⟩, prog_3_method_5_code, 11, (some .boolean), (0, 0)), (⟨"LinenBoard$Bench", "nameSort", "(I)V"⟩, prog_3_method_6_code, 4, none, (0, 0)), (⟨"LinenBoard$Bench", "mayWin", "(I)Z"⟩, prog_3_method_7_code, 2, (some .boolean), (0, 0)), (⟨"LinenBoard$Bench", "needOf", "(I)I"⟩, prog_3_method_8_code, 2, (some .int), (0, 0))]
def x_m1 : List x_MI := [(⟨"LinenBoard$Bench", "actFor", "(II)LLinenBoard$Act;"⟩, prog_3_method_9_code, 6, (some (.object "LinenBoard$Act")), (0, 0)), (⟨"LinenBoard$Bench", "told", "(II)I"⟩, prog_3_method_10_code, 4, (some .int), (0, 0)), (⟨"LinenBoard$Bench", "amount", "(II)I"⟩, prog_3_method_11_code, 4, (some .int), (0, 0)), (⟨"LinenBoard$Bench", "firstClause", "(IIZ)I"⟩, prog_3_method_12_code, 6, (some .int), (0, 0)), (⟨"LinenBoard$Bench", "valueOf", "(LLinenBoard$Act;I)J"⟩, prog_3_method_13_code, 15, (some .long), (0, 0)), (⟨"LinenBoard$Bench", "takenBy", "(I)I"⟩, prog_3_method_14_code, 1, (some .int), (0, 0)), (⟨"LinenBoard$Bench", "stepOf", "(IJJ)J"⟩, prog_3_method_15_code, 6, (some .long), (0, 0)), (⟨"LinenBoard$Ledger", "<init>", "()V"⟩, prog_4_method_1_code, 1, none, (37, 18500)), (⟨"LinenBoard$Ledger", "actAt", "(I)LLinenBoard$Act;"⟩, prog_4_method_2_code, 2, (some (.object "LinenBoard$Act")), (0, 0)), (⟨"LinenBoard$Ledger", "enact", "(LLinenBoard$Act;)I"⟩, prog_4_method_3_code, 3, (some .int), (0, 0)), (⟨"LinenBoard$Ledger", "townOf", "(I)I"⟩, prog_4_method_4_code, 2, (some .int), (0, 0)), (⟨"LinenBoard$Ledger", "copy", "(LLinenBoard$Ledger;)V"⟩, prog_4_method_5_code, 3, none, (0, 0)), (⟨"LinenBoard$Loom", "<init>", "(LLinenBoard$Ledger;)V"⟩, prog_5_method_1_code, 2, none, (20, 9900)), (⟨"LinenBoard$Loom", "start", "(I)V"⟩, prog_5_method_2_code, 4, none, (0, 0)), (⟨"LinenBoard$Loom", "search", "(III)V"⟩, prog_5_method_3_code, 4, none, (0, 0)), (⟨"LinenBoard$Loom", "standAs", "(I)V"⟩, prog_5_method_4_code, 3, none, (0, 0))]
def x_m2 : List x_MI := [(⟨"LinenBoard$Loom", "weaves", "(I)Z"⟩, prog_5_method_5_code, 6, (some .boolean), (0, 0)), (⟨"LinenBoard$Loom", "giverTo", "(II)I"⟩, prog_5_method_6_code, 9, (some .int), (0, 0)), (⟨"LinenBoard$Loom", "otherOf", "(II)I"⟩, prog_5_method_7_code, 4, (some .int), (0, 0)), (⟨"LinenBoard$Loom", "roomFrom", "(III)I"⟩, prog_5_method_8_code, 5, (some .int), (0, 0)), (⟨"LinenBoard$Loom", "carry", "(IIII)I"⟩, prog_5_method_9_code, 10, (some .int), (0, 0)), (⟨"LinenBoard$Reader", "<init>", "(LLinenBoard$Tape;)V"⟩, prog_6_method_1_code, 2, none, (0, 0)), (⟨"LinenBoard$Reader", "start", "()V"⟩, prog_6_method_2_code, 1, none, (4, 1810)), (⟨"LinenBoard$Reader", "hasMore", "()Z"⟩, prog_6_method_3_code, 1, (some .boolean), (0, 0)), (⟨"LinenBoard$Reader", "token", "()I"⟩, prog_6_method_4_code, 1, (some .int), (0, 0)), (⟨"LinenBoard$Reader", "number", "()I"⟩, prog_6_method_5_code, 1, (some .int), (0, 0)), (⟨"LinenBoard$Reader", "pass", "()V"⟩, prog_6_method_6_code, 1, none, (0, 0)), (⟨"LinenBoard$Reader", "fail", "(I)V"⟩, prog_6_method_7_code, 2, none, (0, 0)), (⟨"LinenBoard$Reader", "expect", "(I)V"⟩, prog_6_method_8_code, 2, none, (0, 0)), (⟨"LinenBoard$Reader", "emit", "(I)V"⟩, prog_6_method_9_code, 2, none, (0, 0)), (⟨"LinenBoard$Reader", "readClause", "()V"⟩, prog_6_method_10_code, 3, none, (0, 0)), (⟨"LinenBoard$Reader", "readTold", "(II)V"⟩, prog_6_method_11_code, 3, none, (0, 0))]
def x_m3 : List x_MI := [(⟨"LinenBoard$Reader", "readEither", "()V"⟩, prog_6_method_12_code, 4, none, (0, 0)), (⟨"LinenBoard$Reader", "readAsk", "(I)V"⟩, prog_6_method_13_code, 3, none, (0, 0)), (⟨"LinenBoard$Reader", "readSum", "(I)V"⟩, prog_6_method_14_code, 7, none, (0, 0)), (⟨"LinenBoard$Reader", "readOne", "(I)V"⟩, prog_6_method_15_code, 3, none, (0, 0)), (⟨"LinenBoard$Reader", "readBrackets", "(II)V"⟩, prog_6_method_16_code, 3, none, (0, 0)), (⟨"LinenBoard$Rows", "<init>", "(II)V"⟩, prog_7_method_1_code, 3, none, (1, 1400)), (⟨"LinenBoard$Rows", "has", "(I)Z"⟩, prog_7_method_2_code, 2, (some .boolean), (0, 0)), (⟨"LinenBoard$Rows", "isFull", "()Z"⟩, prog_7_method_3_code, 1, (some .boolean), (0, 0)), (⟨"LinenBoard$Rows", "add", "(III)I"⟩, prog_7_method_4_code, 6, (some .int), (0, 0)), (⟨"LinenBoard$Rows", "get", "(II)I"⟩, prog_7_method_5_code, 4, (some .int), (0, 0)), (⟨"LinenBoard$Rows", "set", "(III)V"⟩, prog_7_method_6_code, 5, none, (0, 0)), (⟨"LinenBoard$Rows", "copy", "(LLinenBoard$Rows;)V"⟩, prog_7_method_7_code, 4, none, (0, 0)), (⟨"LinenBoard$Tape", "<init>", "()V"⟩, prog_8_method_1_code, 1, none, (4, 1300)), (⟨"LinenBoard$Tape", "put", "(I)V"⟩, prog_8_method_2_code, 3, none, (0, 0)), (⟨"LinenBoard$Tape", "addToken", "(III)V"⟩, prog_8_method_3_code, 4, none, (0, 0)), (⟨"LinenBoard$Tape", "byteAt", "(I)I"⟩, prog_8_method_4_code, 2, (some .int), (0, 0))]
def x_m4 : List x_MI := [(⟨"LinenBoard$Tape", "isLetter", "(I)Z"⟩, prog_8_method_5_code, 1, (some .boolean), (0, 0)), (⟨"LinenBoard$Tape", "isDigit", "(I)Z"⟩, prog_8_method_6_code, 1, (some .boolean), (0, 0)), (⟨"LinenBoard$Tape", "split", "()V"⟩, prog_8_method_7_code, 4, none, (0, 0)), (⟨"LinenBoard$Tape", "addWord", "(I)I"⟩, prog_8_method_8_code, 5, (some .int), (0, 0)), (⟨"LinenBoard$Tape", "isWord", "(III)Z"⟩, prog_8_method_9_code, 7, (some .boolean), (0, 0)), (⟨"LinenBoard$Tape", "addNumber", "(I)I"⟩, prog_8_method_10_code, 5, (some .int), (0, 0)), (⟨"LinenBoard$Tape", "addSign", "(I)I"⟩, prog_8_method_11_code, 5, (some .int), (0, 0)), (⟨"LinenBoard$Urn", "<init>", "()V"⟩, prog_9_method_1_code, 1, none, (1, 50)), (⟨"LinenBoard$Urn", "add", "(I)V"⟩, prog_9_method_2_code, 2, none, (0, 0)), (⟨"LinenBoard$Urn", "fill", "(I)V"⟩, prog_9_method_3_code, 3, none, (0, 0)), (⟨"LinenBoard$Urn", "thingAt", "(I)I"⟩, prog_9_method_4_code, 2, (some .int), (0, 0)), (⟨"LinenBoard$Urn", "mix", "(I)V"⟩, prog_9_method_5_code, 6, none, (0, 0)), (⟨"LinenBoard", "<init>", "()V"⟩, prog_1_method_1_code, 3, none, (200, 60000)), (⟨"LinenBoard", "town", "(I)I"⟩, prog_1_method_2_code, 2, (some .int), (0, 0)), (⟨"LinenBoard", "person", "(II)I"⟩, prog_1_method_3_code, 3, (some .int), (0, 0)), (⟨"LinenBoard", "die", "(I)I"⟩, prog_1_method_4_code, 4, (some .int), (0, 0))]
def x_m5 : List x_MI := [(⟨"LinenBoard", "flaw", "(III)Z"⟩, prog_1_method_5_code, 4, (some .boolean), (0, 0)), (⟨"LinenBoard", "web", "(I)I"⟩, prog_1_method_6_code, 2, (some .int), (0, 0)), (⟨"LinenBoard", "measure", "(IIIIII)I"⟩, prog_1_method_7_code, 8, (some .int), (0, 0)), (⟨"LinenBoard", "board", "(IIII)I"⟩, prog_1_method_8_code, 5, (some .int), (0, 0)), (⟨"LinenBoard", "days", "(I)I"⟩, prog_1_method_9_code, 2, (some .int), (0, 0)), (⟨"LinenBoard", "feed", "(IIIII)I"⟩, prog_1_method_10_code, 6, (some .int), (0, 0)), (⟨"LinenBoard", "end", "(I)I"⟩, prog_1_method_11_code, 2, (some .int), (0, 0)), (⟨"LinenBoard", "act", "()I"⟩, prog_1_method_12_code, 2, (some .int), (4, 1810)), (⟨"LinenBoard", "fault", "(I)I"⟩, prog_1_method_13_code, 2, (some .int), (0, 0)), (⟨"LinenBoard", "force", "(III)I"⟩, prog_1_method_14_code, 4, (some .int), (0, 0)), (⟨"LinenBoard", "sum", "(IIII)I"⟩, prog_1_method_15_code, 5, (some .int), (0, 0)), (⟨"LinenBoard", "says", "(II)I"⟩, prog_1_method_16_code, 3, (some .int), (0, 0)), (⟨"LinenBoard", "seal", "(III)I"⟩, prog_1_method_17_code, 5, (some .int), (0, 0)), (⟨"LinenBoard", "sealOf", "(II)I"⟩, prog_1_method_18_code, 3, (some .int), (0, 0)), (⟨"LinenBoard", "look", "(I)I"⟩, prog_1_method_19_code, 4, (some .int), (0, 0)), (⟨"LinenBoard", "allow", "(I)Z"⟩, prog_1_method_20_code, 2, (some .boolean), (0, 0))]
def x_m6 : List x_MI := [(⟨"LinenBoard", "kind", "(II)J"⟩, prog_1_method_21_code, 9, (some .long), (0, 0)), (⟨"LinenBoard", "claim", "(I)I"⟩, prog_1_method_22_code, 4, (some .int), (0, 0)), (⟨"LinenBoard", "claimOf", "(II)I"⟩, prog_1_method_23_code, 3, (some .int), (0, 0)), (⟨"LinenBoard", "undo", "(I)Z"⟩, prog_1_method_24_code, 2, (some .boolean), (0, 0)), (⟨"LinenBoard", "fined", "(IIIIIII)I"⟩, prog_1_method_25_code, 12, (some .int), (0, 0)), (⟨"LinenBoard", "book", "(I)J"⟩, prog_1_method_26_code, 2, (some .long), (0, 0)), (⟨"LinenBoard", "seed", "(II)Z"⟩, prog_1_method_27_code, 3, (some .boolean), (0, 0)), (⟨"LinenBoard", "trade", "(III)I"⟩, prog_1_method_28_code, 4, (some .int), (0, 0)), (⟨"LinenBoard", "need", "(I)I"⟩, prog_1_method_29_code, 2, (some .int), (0, 0)), (⟨"LinenBoard", "doubt", "(III)I"⟩, prog_1_method_30_code, 6, (some .int), (0, 0)), (⟨"LinenBoard", "proof", "(III)I"⟩, prog_1_method_31_code, 8, (some .int), (0, 0)), (⟨"LinenBoard", "prize", "(III)I"⟩, prog_1_method_32_code, 9, (some .int), (0, 0)), (⟨"LinenBoard", "way", "(II)I"⟩, prog_1_method_33_code, 3, (some .int), (0, 0)), (⟨"LinenBoard", "lot", "(I)I"⟩, prog_1_method_34_code, 2, (some .int), (0, 0)), (⟨"LinenBoard", "draw", "(III)Z"⟩, prog_1_method_35_code, 5, (some .boolean), (0, 0)), (⟨"LinenBoard", "count", "(III)Z"⟩, prog_1_method_36_code, 6, (some .boolean), (0, 0))]
def x_m7 : List x_MI := [(⟨"LinenBoard", "lotOf", "(II)I"⟩, prog_1_method_37_code, 4, (some .int), (0, 0)), (⟨"LinenBoard", "judge", "(II)I"⟩, prog_1_method_38_code, 6, (some .int), (0, 0)), (⟨"LinenBoard", "market", "(III)Z"⟩, prog_1_method_39_code, 4, (some .boolean), (0, 0)), (⟨"LinenBoard", "tried", "(II)J"⟩, prog_1_method_40_code, 7, (some .long), (0, 0)), (⟨"LinenBoard", "image", "()I"⟩, prog_1_method_41_code, 1, (some .int), (0, 0)), (⟨"LinenBoard", "back", "()I"⟩, prog_1_method_42_code, 1, (some .int), (0, 0)), (⟨"LinenBoard", "about", "(I)I"⟩, prog_1_method_43_code, 2, (some .int), (0, 0)), (⟨"LinenBoard", "isWithin", "(III)Z"⟩, prog_1_method_44_code, 3, (some .boolean), (0, 0)), (⟨"LinenBoard", "isDay", "(I)Z"⟩, prog_1_method_45_code, 1, (some .boolean), (0, 0)), (⟨"LinenBoard", "holds", "(II)Z"⟩, prog_1_method_46_code, 2, (some .boolean), (0, 0)), (⟨"LinenBoard", "isSpan", "(II)Z"⟩, prog_1_method_47_code, 3, (some .boolean), (0, 0)), (⟨"LinenBoard", "isForged", "(I)Z"⟩, prog_1_method_48_code, 7, (some .boolean), (0, 0)), (⟨"LinenBoard", "isGood", "(I)Z"⟩, prog_1_method_49_code, 4, (some .boolean), (0, 0)), (⟨"LinenBoard", "hasGoodSeal", "(I)Z"⟩, prog_1_method_50_code, 3, (some .boolean), (0, 0)), (⟨"LinenBoard", "isStanding", "(I)Z"⟩, prog_1_method_51_code, 2, (some .boolean), (0, 0)), (⟨"LinenBoard", "hasPaidClaim", "(I)Z"⟩, prog_1_method_52_code, 3, (some .boolean), (0, 0))]
def x_m8 : List x_MI := [(⟨"LinenBoard", "sumOfClaims", "(Z)J"⟩, prog_1_method_53_code, 5, (some .long), (0, 0)), (⟨"LinenBoard", "sumOfFines", "(I)J"⟩, prog_1_method_54_code, 6, (some .long), (0, 0)), (⟨"LinenBoard", "partOf", "(III)I"⟩, prog_1_method_55_code, 3, (some .int), (0, 0)), (⟨"LinenBoard", "power", "(II)J"⟩, prog_1_method_56_code, 5, (some .long), (0, 0)), (⟨"LinenBoard", "chanceOf", "(III)J"⟩, prog_1_method_57_code, 8, (some .long), (0, 0)), (⟨"LinenBoard", "countedHanks", "(I)I"⟩, prog_1_method_58_code, 5, (some .int), (0, 0)), (⟨"LinenBoard", "countedThreads", "(I)I"⟩, prog_1_method_59_code, 5, (some .int), (0, 0)), (⟨"LinenBoard", "triedWeb", "(II)I"⟩, prog_1_method_60_code, 6, (some .int), (0, 0)), (⟨"LinenBoardModel", "<init>", "()V"⟩, prog_11_method_1_code, 1, none, (30, 40000)), (⟨"LinenBoardModel", "copy", "([I[I)V"⟩, prog_11_method_2_code, 3, none, (0, 0)), (⟨"LinenBoardModel", "copyCoins", "([J[J)V"⟩, prog_11_method_3_code, 3, none, (0, 0)), (⟨"LinenBoardModel", "isIn", "(III)Z"⟩, prog_11_method_4_code, 3, (some .boolean), (0, 0)), (⟨"LinenBoardModel", "isDay", "(I)Z"⟩, prog_11_method_5_code, 1, (some .boolean), (0, 0)), (⟨"LinenBoardModel", "isPerson", "(I)Z"⟩, prog_11_method_6_code, 2, (some .boolean), (0, 0)), (⟨"LinenBoardModel", "isWeb", "(I)Z"⟩, prog_11_method_7_code, 2, (some .boolean), (0, 0)), (⟨"LinenBoardModel", "isSeal", "(I)Z"⟩, prog_11_method_8_code, 2, (some .boolean), (0, 0))]
def x_m9 : List x_MI := [(⟨"LinenBoardModel", "personAt", "(II)I"⟩, prog_11_method_9_code, 3, (some .int), (0, 0)), (⟨"LinenBoardModel", "sealAt", "(II)I"⟩, prog_11_method_10_code, 3, (some .int), (0, 0)), (⟨"LinenBoardModel", "town", "(I)I"⟩, prog_11_method_11_code, 2, (some .int), (0, 0)), (⟨"LinenBoardModel", "person", "(II)I"⟩, prog_11_method_12_code, 3, (some .int), (0, 0)), (⟨"LinenBoardModel", "die", "(I)I"⟩, prog_11_method_13_code, 4, (some .int), (0, 0)), (⟨"LinenBoardModel", "flaw", "(III)Z"⟩, prog_11_method_14_code, 4, (some .boolean), (0, 0)), (⟨"LinenBoardModel", "flawsOf", "(II)I"⟩, prog_11_method_15_code, 5, (some .int), (0, 0)), (⟨"LinenBoardModel", "web", "(I)I"⟩, prog_11_method_16_code, 2, (some .int), (0, 0)), (⟨"LinenBoardModel", "measure", "(IIIIII)I"⟩, prog_11_method_17_code, 8, (some .int), (0, 0)), (⟨"LinenBoardModel", "measuresOf", "(III)I"⟩, prog_11_method_18_code, 7, (some .int), (0, 0)), (⟨"LinenBoardModel", "days", "(I)I"⟩, prog_11_method_19_code, 2, (some .int), (0, 0)), (⟨"LinenBoardModel", "four", "(I)V"⟩, prog_11_method_20_code, 3, none, (0, 0)), (⟨"LinenBoardModel", "feed", "(IIIII)I"⟩, prog_11_method_21_code, 6, (some .int), (0, 0)), (⟨"LinenBoardModel", "end", "(I)I"⟩, prog_11_method_22_code, 2, (some .int), (0, 0)), (⟨"LinenBoardModel", "see", "(I)I"⟩, prog_11_method_23_code, 2, (some .int), (0, 0)), (⟨"LinenBoardModel", "isLetter", "(I)Z"⟩, prog_11_method_24_code, 1, (some .boolean), (0, 0))]
def x_m10 : List x_MI := [(⟨"LinenBoardModel", "isDigit", "(I)Z"⟩, prog_11_method_25_code, 1, (some .boolean), (0, 0)), (⟨"LinenBoardModel", "nextToken", "()V"⟩, prog_11_method_26_code, 3, none, (0, 0)), (⟨"LinenBoardModel", "w3", "(III)J"⟩, prog_11_method_27_code, 3, (some .long), (0, 0)), (⟨"LinenBoardModel", "w5", "(IIIII)J"⟩, prog_11_method_28_code, 5, (some .long), (0, 0)), (⟨"LinenBoardModel", "w4", "(IIII)J"⟩, prog_11_method_29_code, 4, (some .long), (0, 0)), (⟨"LinenBoardModel", "w6", "(IIIIII)J"⟩, prog_11_method_30_code, 6, (some .long), (0, 0)), (⟨"LinenBoardModel", "isWord", "(J)Z"⟩, prog_11_method_31_code, 3, (some .boolean), (0, 0)), (⟨"LinenBoardModel", "emit", "(II)V"⟩, prog_11_method_32_code, 3, none, (0, 0)), (⟨"LinenBoardModel", "push", "(I)V"⟩, prog_11_method_33_code, 2, none, (0, 0)), (⟨"LinenBoardModel", "whole", "()V"⟩, prog_11_method_34_code, 1, none, (0, 0)), (⟨"LinenBoardModel", "settle", "(I)V"⟩, prog_11_method_35_code, 2, none, (0, 0)), (⟨"LinenBoardModel", "nameOf", "()I"⟩, prog_11_method_36_code, 1, (some .int), (0, 0)), (⟨"LinenBoardModel", "beginOne", "()I"⟩, prog_11_method_37_code, 2, (some .int), (0, 0)), (⟨"LinenBoardModel", "hasParen", "()Z"⟩, prog_11_method_38_code, 2, (some .boolean), (0, 0)), (⟨"LinenBoardModel", "goesOn", "()Z"⟩, prog_11_method_39_code, 1, (some .boolean), (0, 0)), (⟨"LinenBoardModel", "behindOne", "()I"⟩, prog_11_method_40_code, 3, (some .int), (0, 0))]
def x_m11 : List x_MI := [(⟨"LinenBoardModel", "summed", "()I"⟩, prog_11_method_41_code, 2, (some .int), (0, 0)), (⟨"LinenBoardModel", "compareOf", "()I"⟩, prog_11_method_42_code, 1, (some .int), (0, 0)), (⟨"LinenBoardModel", "ask", "()I"⟩, prog_11_method_43_code, 5, (some .int), (0, 0)), (⟨"LinenBoardModel", "either", "()I"⟩, prog_11_method_44_code, 6, (some .int), (0, 0)), (⟨"LinenBoardModel", "sortOf", "()I"⟩, prog_11_method_45_code, 1, (some .int), (0, 0)), (⟨"LinenBoardModel", "take", "(III)I"⟩, prog_11_method_46_code, 4, (some .int), (0, 0)), (⟨"LinenBoardModel", "clause", "()I"⟩, prog_11_method_47_code, 4, (some .int), (0, 0)), (⟨"LinenBoardModel", "readText", "()I"⟩, prog_11_method_48_code, 2, (some .int), (0, 0)), (⟨"LinenBoardModel", "act", "()I"⟩, prog_11_method_49_code, 1, (some .int), (0, 0)), (⟨"LinenBoardModel", "fault", "(I)I"⟩, prog_11_method_50_code, 2, (some .int), (0, 0)), (⟨"LinenBoardModel", "putForce", "(III)V"⟩, prog_11_method_51_code, 5, none, (0, 0)), (⟨"LinenBoardModel", "force", "(III)I"⟩, prog_11_method_52_code, 4, (some .int), (0, 0)), (⟨"LinenBoardModel", "clauseAt", "(II)I"⟩, prog_11_method_53_code, 3, (some .int), (0, 0)), (⟨"LinenBoardModel", "clausesOf", "(I)I"⟩, prog_11_method_54_code, 2, (some .int), (0, 0)), (⟨"LinenBoardModel", "firstOf", "(II)I"⟩, prog_11_method_55_code, 4, (some .int), (0, 0)), (⟨"LinenBoardModel", "actFor", "(II)I"⟩, prog_11_method_56_code, 5, (some .int), (0, 0))]
def x_m12 : List x_MI := [(⟨"LinenBoardModel", "numberOf", "(III)I"⟩, prog_11_method_57_code, 5, (some .int), (0, 0)), (⟨"LinenBoardModel", "says", "(II)I"⟩, prog_11_method_58_code, 3, (some .int), (0, 0)), (⟨"LinenBoardModel", "clip", "(J)J"⟩, prog_11_method_59_code, 2, (some .long), (0, 0)), (⟨"LinenBoardModel", "two", "(IJJ)J"⟩, prog_11_method_60_code, 5, (some .long), (0, 0)), (⟨"LinenBoardModel", "isAsked", "(IJJ)Z"⟩, prog_11_method_61_code, 5, (some .boolean), (0, 0)), (⟨"LinenBoardModel", "work", "(II)V"⟩, prog_11_method_62_code, 8, none, (0, 0)), (⟨"LinenBoardModel", "name", "(III)V"⟩, prog_11_method_63_code, 9, none, (0, 0)), (⟨"LinenBoardModel", "sortOfWeb", "(I)I"⟩, prog_11_method_64_code, 5, (some .int), (0, 0)), (⟨"LinenBoardModel", "lacks", "(I)I"⟩, prog_11_method_65_code, 5, (some .int), (0, 0)), (⟨"LinenBoardModel", "board", "(IIII)I"⟩, prog_11_method_66_code, 6, (some .int), (0, 0)), (⟨"LinenBoardModel", "sumOf", "(II)I"⟩, prog_11_method_67_code, 4, (some .int), (0, 0)), (⟨"LinenBoardModel", "sum", "(IIII)I"⟩, prog_11_method_68_code, 6, (some .int), (0, 0)), (⟨"LinenBoardModel", "seal", "(III)I"⟩, prog_11_method_69_code, 5, (some .int), (0, 0)), (⟨"LinenBoardModel", "isForged", "(I)Z"⟩, prog_11_method_70_code, 2, (some .boolean), (0, 0)), (⟨"LinenBoardModel", "isGood", "(I)Z"⟩, prog_11_method_71_code, 5, (some .boolean), (0, 0)), (⟨"LinenBoardModel", "sealOf", "(II)I"⟩, prog_11_method_72_code, 3, (some .int), (0, 0))]
def x_m13 : List x_MI := [(⟨"LinenBoardModel", "look", "(I)I"⟩, prog_11_method_73_code, 3, (some .int), (0, 0)), (⟨"LinenBoardModel", "allow", "(I)Z"⟩, prog_11_method_74_code, 2, (some .boolean), (0, 0)), (⟨"LinenBoardModel", "chance", "(II)J"⟩, prog_11_method_75_code, 9, (some .long), (0, 0)), (⟨"LinenBoardModel", "kind", "(II)J"⟩, prog_11_method_76_code, 9, (some .long), (0, 0)), (⟨"LinenBoardModel", "hasGoodSeal", "(I)Z"⟩, prog_11_method_77_code, 3, (some .boolean), (0, 0)), (⟨"LinenBoardModel", "isPaid", "(I)Z"⟩, prog_11_method_78_code, 3, (some .boolean), (0, 0)), (⟨"LinenBoardModel", "bountyLess", "(I)I"⟩, prog_11_method_79_code, 2, (some .int), (0, 0)), (⟨"LinenBoardModel", "claim", "(I)I"⟩, prog_11_method_80_code, 4, (some .int), (0, 0)), (⟨"LinenBoardModel", "claimOf", "(II)I"⟩, prog_11_method_81_code, 3, (some .int), (0, 0)), (⟨"LinenBoardModel", "undo", "(I)Z"⟩, prog_11_method_82_code, 2, (some .boolean), (0, 0)), (⟨"LinenBoardModel", "fined", "(IIIIIII)I"⟩, prog_11_method_83_code, 19, (some .int), (0, 0)), (⟨"LinenBoardModel", "book", "(I)J"⟩, prog_11_method_84_code, 6, (some .long), (0, 0)), (⟨"LinenBoardModel", "seed", "(II)Z"⟩, prog_11_method_85_code, 3, (some .boolean), (0, 0)), (⟨"LinenBoardModel", "trade", "(III)I"⟩, prog_11_method_86_code, 5, (some .int), (0, 0)), (⟨"LinenBoardModel", "needOf", "(I)I"⟩, prog_11_method_87_code, 3, (some .int), (0, 0)), (⟨"LinenBoardModel", "need", "(I)I"⟩, prog_11_method_88_code, 2, (some .int), (0, 0))]
def x_m14 : List x_MI := [(⟨"LinenBoardModel", "isWay", "()Z"⟩, prog_11_method_89_code, 4, (some .boolean), (0, 0)), (⟨"LinenBoardModel", "goOn", "()V"⟩, prog_11_method_90_code, 3, none, (0, 0)), (⟨"LinenBoardModel", "can", "(III)Z"⟩, prog_11_method_91_code, 6, (some .boolean), (0, 0)), (⟨"LinenBoardModel", "isSpan", "(II)Z"⟩, prog_11_method_92_code, 3, (some .boolean), (0, 0)), (⟨"LinenBoardModel", "findDoubt", "(II)V"⟩, prog_11_method_93_code, 9, none, (0, 0)), (⟨"LinenBoardModel", "doubt", "(III)I"⟩, prog_11_method_94_code, 4, (some .int), (0, 0)), (⟨"LinenBoardModel", "proof", "(III)I"⟩, prog_11_method_95_code, 9, (some .int), (0, 0)), (⟨"LinenBoardModel", "drawOf", "(III)V"⟩, prog_11_method_96_code, 8, none, (0, 0)), (⟨"LinenBoardModel", "mayWin", "(I)Z"⟩, prog_11_method_97_code, 5, (some .boolean), (0, 0)), (⟨"LinenBoardModel", "prize", "(III)I"⟩, prog_11_method_98_code, 9, (some .int), (0, 0)), (⟨"LinenBoardModel", "way", "(II)I"⟩, prog_11_method_99_code, 4, (some .int), (0, 0)), (⟨"LinenBoardModel", "isLot", "(I)Z"⟩, prog_11_method_100_code, 2, (some .boolean), (0, 0)), (⟨"LinenBoardModel", "lot", "(I)I"⟩, prog_11_method_101_code, 4, (some .int), (0, 0)), (⟨"LinenBoardModel", "draw", "(III)Z"⟩, prog_11_method_102_code, 6, (some .boolean), (0, 0)), (⟨"LinenBoardModel", "count", "(III)Z"⟩, prog_11_method_103_code, 7, (some .boolean), (0, 0)), (⟨"LinenBoardModel", "countedOf", "(IZ)I"⟩, prog_11_method_104_code, 6, (some .int), (0, 0))]
def x_m15 : List x_MI := [(⟨"LinenBoardModel", "lotOf", "(II)I"⟩, prog_11_method_105_code, 4, (some .int), (0, 0)), (⟨"LinenBoardModel", "judge", "(II)I"⟩, prog_11_method_106_code, 6, (some .int), (0, 0)), (⟨"LinenBoardModel", "market", "(III)Z"⟩, prog_11_method_107_code, 4, (some .boolean), (0, 0)), (⟨"LinenBoardModel", "tried", "(II)J"⟩, prog_11_method_108_code, 12, (some .long), (0, 0)), (⟨"LinenBoardModel", "image", "()I"⟩, prog_11_method_109_code, 1, (some .int), (0, 0)), (⟨"LinenBoardModel", "back", "()I"⟩, prog_11_method_110_code, 1, (some .int), (0, 0)), (⟨"LinenBoardModel", "about", "(I)I"⟩, prog_11_method_111_code, 2, (some .int), (0, 0)), (⟨"LinenBoardLaw", "law", "([I)Z"⟩, code, 4, (some .boolean), (600000, 7302250)), (⟨"java/lang/Character", "isValidCodePoint", "(I)Z"⟩, prog_12_method_11_code, 2, (some .boolean), (0, 0)), (⟨"java/lang/Character", "highSurrogate", "(I)C"⟩, prog_12_method_28_code, 1, (some .char), (0, 0)), (⟨"java/lang/Character", "lowSurrogate", "(I)C"⟩, prog_12_method_29_code, 1, (some .char), (0, 0)), (⟨"java/lang/Math", "max", "(II)I"⟩, prog_13_method_65_code, 2, (some .int), (0, 0)), (⟨"java/lang/Math", "max", "(JJ)J"⟩, prog_13_method_66_code, 4, (some .long), (0, 0)), (⟨"java/lang/Math", "min", "(II)I"⟩, prog_13_method_69_code, 2, (some .int), (0, 0)), (⟨"java/lang/Math", "min", "(JJ)J"⟩, prog_13_method_70_code, 4, (some .long), (0, 0)), (⟨"java/lang/String", "length", "()I"⟩, prog_14_method_54_code, 1, (some .int), (0, 0))]
def x_m16 : List x_MI := [(⟨"java/lang/String", "charAt", "(I)C"⟩, prog_14_method_56_code, 2, (some .char), (0, 0)), (⟨"java/lang/String", "indexOf", "(I)I"⟩, prog_14_method_79_code, 2, (some .int), (0, 0)), (⟨"java/lang/String", "indexOf", "(II)I"⟩, prog_14_method_80_code, 3, (some .int), (0, 0)), (⟨"java/lang/String", "coder", "()B"⟩, prog_14_method_152_code, 1, (some .byte), (0, 0)), (⟨"java/lang/String", "isLatin1", "()Z"⟩, prog_14_method_154_code, 1, (some .boolean), (0, 0)), (⟨"java/lang/String", "checkIndex", "(II)V"⟩, prog_14_method_155_code, 2, none, (0, 0)), (⟨"java/lang/String", "checkBoundsBeginEnd", "(III)V"⟩, prog_14_method_158_code, 3, none, (0, 0)), (⟨"java/lang/StringLatin1", "charAt", "([BI)C"⟩, prog_15_method_2_code, 2, (some .char), (0, 0)), (⟨"java/lang/StringLatin1", "canEncode", "(I)Z"⟩, prog_15_method_4_code, 1, (some .boolean), (0, 0)), (⟨"java/lang/StringLatin1", "indexOf", "([BIII)I"⟩, prog_15_method_22_code, 4, (some .int), (0, 0)), (⟨"java/lang/StringLatin1", "indexOfChar", "([BIII)I"⟩, prog_15_method_23_code, 6, (some .int), (0, 0)), (⟨"java/lang/StringUTF16", "getChar", "([BI)C"⟩, prog_16_method_5_code, 2, (some .char), (0, 0)), (⟨"java/lang/StringUTF16", "length", "([B)I"⟩, prog_16_method_6_code, 1, (some .int), (0, 0)), (⟨"java/lang/StringUTF16", "indexOf", "([BIII)I"⟩, prog_16_method_40_code, 4, (some .int), (0, 0)), (⟨"java/lang/StringUTF16", "indexOfChar", "([BIII)I"⟩, prog_16_method_47_code, 4, (some .int), (0, 0)), (⟨"java/lang/StringUTF16", "indexOfCharUnsafe", "([BIII)I"⟩, prog_16_method_48_code, 5, (some .int), (0, 0))]
def x_m17 : List x_MI := [(⟨"java/lang/StringUTF16", "indexOfSupplementary", "([BIII)I"⟩, prog_16_method_49_code, 7, (some .int), (0, 0)), (⟨"java/lang/StringUTF16", "charAt", "([BI)C"⟩, prog_16_method_83_code, 2, (some .char), (0, 0)), (⟨"java/lang/StringUTF16", "checkIndex", "(I[B)V"⟩, prog_16_method_91_code, 2, none, (0, 0)), (⟨"java/lang/StringUTF16", "checkBoundsBeginEnd", "(II[B)V"⟩, prog_16_method_93_code, 3, none, (0, 0)), (⟨"java/util/Arrays", "fill", "([II)V"⟩, prog_17_method_103_code, 4, none, (0, 0)), (⟨"jdk/internal/util/Preconditions", "checkIndex", "(IILjava/util/function/BiFunction;)I"⟩, prog_18_method_11_code, 3, (some .int), (0, 0)), (⟨"jdk/internal/util/Preconditions", "checkFromToIndex", "(IIILjava/util/function/BiFunction;)I"⟩, prog_18_method_12_code, 4, (some .int), (0, 0))]
def x_mt : List (List x_MI) := [x_m0, x_m1, x_m2, x_m3, x_m4, x_m5, x_m6, x_m7, x_m8, x_m9, x_m10, x_m11, x_m12, x_m13, x_m14, x_m15, x_m16, x_m17]
def x_mi (M : Nat) : x_MI := (x_mt.getD (M / 16) []).getD (M % 16) (⟨"", "", ""⟩, code, 0, none, (0, 0))
abbrev x_y (M : Nat) : MethodName := (x_mi M).1
abbrev x_cd (M : Nat) : ByteArray := (x_mi M).2.1
abbrev x_ml (M : Nat) : Nat := (x_mi M).2.2.1
abbrev x_rt (M : Nat) : Option FieldType := (x_mi M).2.2.2.1
abbrev x_bc (M : Nat) : Nat := (x_mi M).2.2.2.2.1
abbrev x_bs (M : Nat) : Nat := (x_mi M).2.2.2.2.2
end
section
/-! THE ABSTRACT MACHINE. Values: an int or a long as a whole number, a reference as a code (0 null, 1 the script, 2 to 15 what stands before the law begins, 16 + k the k-th cell that the law makes), or nothing known. -/
abbrev xV : Type := Int ⊕ (Int ⊕ (Nat ⊕ Unit))
abbrev xi (x : Int) : xV := .inl x
abbrev xl (x : Int) : xV := .inr (.inl x)
abbrev xr (r : Nat) : xV := .inr (.inr (.inl r))
abbrev xu : xV := .inr (.inr (.inr ()))
/-- the heap: each cell's kind (0 to 9 the classes, 10 int[], 11 long[], 12 boolean[], 13 Act[]) and length; what it holds, by its code and place -/
abbrev xH : Type := List (Nat × Nat) × (Nat → Nat → Int)
/-- what stays the same over the law's run: launch, the first own cell, the classes' numbers, the arrays' classes, the codes' addresses, the script -/
abbrev xG : Type := Launch × Nat × va_G × (Nat → ClassId) × (Nat → Nat) × Nat × (Nat → Int32)
abbrev xG.l (g : xG) : Launch := g.1
abbrev xG.b (g : xG) : Nat := g.2.1
abbrev xG.D (g : xG) : va_G := g.2.2.1
abbrev xG.ac (g : xG) : Nat → ClassId := g.2.2.2.1
abbrev xG.sa (g : xG) : Nat → Nat := g.2.2.2.2.1
abbrev xG.L (g : xG) : Nat := g.2.2.2.2.2.1
abbrev xG.xs (g : xG) : Nat → Int32 := g.2.2.2.2.2.2
def x32 (x : Int) : Int := x.bmod 4294967296
def x64 (x : Int) : Int := x.bmod 18446744073709551616
def x_ad (g : xG) (r : Nat) : Nat := if r < 16 then g.sa r else g.b + (r - 16)
def x_ro (g : xG) (r : Nat) : Option Nat := if r = 0 then none else some (x_ad g r)
def x_v (g : xG) : xV → Value
  | .inl x => .int (Int32.ofInt x)
  | .inr (.inl x) => .long (Int64.ofInt x)
  | .inr (.inr (.inl r)) => va_rf (x_ro g r)
  | .inr (.inr (.inr _)) => .null
/-- what a value may be -/
def x_ok : xV → Prop
  | .inl x => x32 x = x
  | .inr (.inl x) => x64 x = x
  | _ => True
/-- the type of a place of a cell: 0 int, 1 long, 2 reference, 3 boolean -/
def x_tc (c j : Nat) : Nat := if c = 10 then 0 else if c = 11 then 1 else if c = 12 then 3 else if c = 13 then 2 else (x_ft.getD c []).getD j 0
def x_fv (g : xG) (t : Nat) (x : Int) : xV := if t = 1 then xl x else if t = 2 then xr x.toNat else xi x
def x_E (g : xG) (e : Nat × Nat) (f : Nat → Int) : va_E :=
  if e.1 = 10 then .inl (g.ac 0, e.2, .inl fun j => Int32.ofInt (f j))
  else if e.1 = 11 then .inl (g.ac 1, e.2, .inr (.inl fun j => Int64.ofInt (f j)))
  else if e.1 = 12 then .inl (g.ac 2, e.2, .inl fun j => Int32.ofInt (f j))
  else if e.1 = 13 then .inl (g.ac 3, e.2, .inr (.inr (.inr (.inr fun j => x_ro g (f j).toNat))))
  else .inr (e.1, (List.range e.2).map fun j => x_v g (x_fv g (x_tc e.1 j) (f j)))
def x_ws (g : xG) (h : xH) : va_W := (List.range h.1.length).map fun k => (g.b + k, x_E g (h.1.getD k (0, 0)) (h.2 (k + 16)))
def x_okH (h : xH) : Prop := ∀ (k : Nat) (e : Nat × Nat), h.1[k]? = some e → (e.1 < 10 → e.2 = (x_ft.getD e.1 []).length) ∧ e.1 < 14 ∧ e.2 < 1000000 ∧ ∀ j, j < e.2 → (x_tc e.1 j = 0 → x32 (h.2 (k + 16) j) = h.2 (k + 16) j) ∧ (x_tc e.1 j = 3 → h.2 (k + 16) j = 0 ∨ h.2 (k + 16) j = 1) ∧ (x_tc e.1 j = 1 → x64 (h.2 (k + 16) j) = h.2 (k + 16) j)
/-- the real heap holds the abstract one -/
def x_R (g : xG) (h : xH) (H : Heap) : Prop := H.size = g.b + h.1.length ∧ va_P g.D x_cl (x_ws g h) H ∧ x_okH h
def x_A (g : xG) : Nat → Prop := fun q => g.b ≤ q
abbrev x_tys (g : xG) : List (ClassId × FieldType) := [(g.ac 0, .int), (g.ac 1, .long), (g.ac 2, .boolean), (g.ac 3, .object "LinenBoard$Act")]
/-- the words of the tables that a call hands on as they are -/
def x_tb : List Cond := lw_tbl.filter goodWord
/-- links to private members of nest mates -/
def x_nm : List (String × Nat × MethodName) := [("LinenBoard", 11, ⟨"LinenBoard$Ledger", "<init>", "()V"⟩), ("LinenBoard", 14, ⟨"LinenBoard$Tape", "<init>", "()V"⟩), ("LinenBoard", 53, ⟨"LinenBoard$Urn", "<init>", "()V"⟩), ("LinenBoard$Reader", 113, ⟨"LinenBoard", "isWithin", "(III)Z"⟩), ("LinenBoard", 245, ⟨"LinenBoard$Loom", "search", "(III)V"⟩)]
def x_lt : List (List Int) := [[0, 0, 0, 0, 0, 0, 0, 1, 1, 0], [9, 0, 0, 0, 0, 0, 20, 99, 500, 100], [0, 0, 0, 0, 0, 0, 0, 10, 100, 5]]
def x_sn : List (String × Nat × String) := [("LinenBoard$Reader", 104, "LEAST_TOLD"), ("LinenBoard$Reader", 107, "MOST_TOLD"), ("LinenBoard$Bench", 114, "UNTOLD")]
def x_by : List (List Int) := [[115, 111, 114, 116, 32, 32, 115, 101, 97, 108, 32, 32, 112, 114, 105, 122, 101, 32, 102, 101, 101, 32, 32, 32, 98, 111, 117, 110, 116, 121, 102, 105, 110, 101, 32, 32, 115, 104, 114, 105, 110, 107, 121, 105, 101, 108, 100, 32, 104, 97, 110, 107, 32, 32, 108, 101, 118, 101, 108, 32, 119, 105, 100, 116, 104, 32, 99, 111, 117, 110, 116, 32, 108, 101, 110, 103, 116, 104, 119, 101, 101, 107, 115, 32, 116, 111, 119, 110, 32, 32, 100, 97, 121, 32, 32, 32, 97, 110, 100, 32, 32, 32, 111, 114, 32, 32, 32, 32, 110, 111, 116, 32, 32, 32, 109, 105, 110, 32, 32, 32, 109, 97, 120, 32, 32, 32], [60, 62, 61, 35, 43, 45, 42, 47, 40, 41, 44, 59]]
def x_tx : List (Nat × String) := [(59, "sort  seal  prize fee   bountyfine  shrinkyield hank  level width count lengthweeks town  day   and   or    not   min   max   "), (76, "<>=#+-*/(),;")]
/-- what a state has besides: the classes, the links to nest mates, the script, the three static arrays, the two texts -/
def x_U (g : xG) (U : State) : Prop :=
  va_K g.D x_cl (x_tys g) U ∧ va_AO "LinenBoard$Act" U ∧ (∀ q ∈ x_nm, va_Nw (.methodLinkNest q.1 q.2.1 q.2.2 "LinenBoard") U) ∧
  va_X (g.sa 1) g.L g.xs U U.heap ∧ g.sa 1 < g.b ∧
  (∀ (i : Nat) (q : String × Nat × String), x_sn[i]? = some q → va_Nw (.fieldLinkNest q.1 q.2.1 "LinenBoard" q.2.2 "[I" "LinenBoard") U ∧ va_Z "LinenBoard" q.2.2 "[I" (.ref (g.sa (2 + i))) (x_A g) U U.heap ∧ va_T .int (g.sa (2 + i)) 10 (fun j => .int (Int32.ofInt ((x_lt.getD i []).getD j 0))) (x_A g) U U.heap) ∧
  (∀ (i : Nat) (q : Nat × String), x_tx[i]? = some q → vk_R "LinenBoard$Tape" q.1 q.2 (g.sa (5 + i)) U) ∧
  vk_S 2 [126, 12] (x_by.map fun l => l.map Int32.ofInt) (fun i => g.sa (5 + i)) (fun i => g.sa (7 + i)) (x_A g) U U.heap ∧
  va_Z "java/lang/String" "COMPACT_STRINGS" "Z" (.int 1) (x_A g) U U.heap ∧ g.b ≤ U.heap.size ∧ g.L ≤ 4096
/-- what a method's walk knows of its method -/
def x_C (g : xG) (M : Nat) (p : Program) (s : State) (m : MethodId) (args : Array Value) (meth : Method) (c : Code) : Prop :=
  p.tables.exec = Jvm.exec ∧ c.code = x_cd M ∧ meth.sig.returnType = x_rt M ∧ c.maxLocals = x_ml M ∧ s.vm.findClass (x_y M).cls = some m.cls ∧ (∀ w ∈ x_tb, w.before args s = true) ∧ meth.locks = false ∧ meth.name = (x_y M).name ∧ x_U g s
def x_rm (D M : Nat) : Room := { frames := D, cells := x_bc M, slots := x_bs M, locals := 60 * D }
def x_out (g : xG) : xV → Outcome
  | .inr (.inr (.inr _)) => .returned none
  | v => .returned (some (x_v g v))
/-- a method's end -/
def x_Q (g : xG) (Q : xV → xH → Prop) : Array Value → State → Outcome → State → Prop := fun _ st o t => (∃ (r : xV) (h : xH), o = x_out g r ∧ Q r h ∧ x_R g h t.heap ∧ x_ok r) ∧ va_F (x_A g) st t
/-- the locals that are known -/
def x_lv (g : xG) : Nat → List xV → List (Nat × Value)
  | _, [] => []
  | i, .inr (.inr (.inr _)) :: vs => x_lv g (i + 1) vs
  | i, v :: vs => (i, x_v g v) :: x_lv g (i + 1) vs
/-- THE WALK: method M, at most D frames deep, k cells of n slots made so far, stands at pc with these locals, stack and heap; it returns, with Q of its answer and heap -/
def xJ (g : xG) (D M k n pc : Nat) (ls st : List xV) (h : xH) (Q : xV → xH → Prop) : Prop :=
  ∀ (p : Program) (e : Env) (s : State) (m : MethodId) (args : Array Value) (below : List Frame) (meth : Method) (c : Code) (H : Heap) (locs : List Loc) (la : Array Slot),
    x_C g M p s m args meth c → x_R g h H → va_S (x_A g) s.heap H locs → lv_has la (x_ml M) (x_lv g 0 ls) → (∀ v ∈ ls, x_ok v) → (∀ v ∈ st, x_ok v) → k ≤ x_bc M → n ≤ x_bs M →
    W p g.l e (x_rm D M) s m args below meth c H locs k n (MQ below (x_Q g Q) args s (x_bc M) (x_bs M) (x_A g)) (F0 m pc la (st.map (x_v g)))
/-- THE CALL: method M, at most D frames deep, called with args over h, returns, with Q of its answer and heap -/
def xS (g : xG) (D M : Nat) (args : List xV) (h : xH) (Q : xV → xH → Prop) : Prop :=
  (∀ v ∈ args, x_ok v) → Met g.l (x_y M) (.code (x_y M) (x_cd M) (x_ml M) (x_rt M) :: x_tb) (x_rm D M) (va_Pc (args.map (x_v g)) (fun U => x_R g h U.heap ∧ x_U g U)) (x_Q g Q) (x_bc M) (x_bs M) (x_A g)
end
section
/-! whole numbers and the machine's numbers -/
theorem x32_idem (x : Int) : x32 (x32 x) = x32 x := by unfold x32; exact Int.bmod_bmod
theorem x64_idem (x : Int) : x64 (x64 x) = x64 x := by unfold x64; exact Int.bmod_bmod
theorem x32_of {x : Int} (h1 : -2147483648 ≤ x) (h2 : x < 2147483648) : x32 x = x := by
  unfold x32
  exact Int.bmod_eq_of_le (by omega) (by omega)
theorem x64_of {x : Int} (h1 : -9223372036854775808 ≤ x) (h2 : x < 9223372036854775808) : x64 x = x := by
  unfold x64
  exact Int.bmod_eq_of_le (by omega) (by omega)
theorem x32_lo (x : Int) : -2147483648 ≤ x32 x := by
  unfold x32
  have h := Int.le_bmod (x := x) (m := 4294967296) (by omega)
  omega
theorem x32_hi (x : Int) : x32 x < 2147483648 := by
  unfold x32
  have h := Int.bmod_lt (x := x) (m := 4294967296) (by omega)
  omega
theorem x64_lo (x : Int) : -9223372036854775808 ≤ x64 x := by
  unfold x64
  have h := Int.le_bmod (x := x) (m := 18446744073709551616) (by omega)
  omega
theorem x64_hi (x : Int) : x64 x < 9223372036854775808 := by
  unfold x64
  have h := Int.bmod_lt (x := x) (m := 18446744073709551616) (by omega)
  omega
theorem x32_iff {x : Int} : x32 x = x ↔ -2147483648 ≤ x ∧ x < 2147483648 := ⟨fun h => ⟨h ▸ x32_lo x, h ▸ x32_hi x⟩, fun h => x32_of h.1 h.2⟩
theorem x64_iff {x : Int} : x64 x = x ↔ -9223372036854775808 ≤ x ∧ x < 9223372036854775808 := ⟨fun h => ⟨h ▸ x64_lo x, h ▸ x64_hi x⟩, fun h => x64_of h.1 h.2⟩
theorem xn_toInt (x : Int) : (Int32.ofInt x).toInt = x32 x := by
  rw [Int32.toInt_ofInt]; rfl
theorem xn_toIntL (x : Int) : (Int64.ofInt x).toInt = x64 x := by
  rw [Int64.toInt_ofInt]; rfl
theorem xn_back (v : Int32) : Int32.ofInt v.toInt = v := Int32.ofInt_toInt v
theorem xn_backL (v : Int64) : Int64.ofInt v.toInt = v := Int64.ofInt_toInt v
theorem xn_okT (v : Int32) : x32 v.toInt = v.toInt := by rw [← xn_toInt, xn_back]
theorem xn_okTL (v : Int64) : x64 v.toInt = v.toInt := by rw [← xn_toIntL, xn_backL]
theorem xn_32 (x : Int) : Int32.ofInt (x32 x) = Int32.ofInt x := Int32.toInt_inj.mp (by rw [xn_toInt, xn_toInt, x32_idem])
theorem xn_64 (x : Int) : Int64.ofInt (x64 x) = Int64.ofInt x := Int64.toInt_inj.mp (by rw [xn_toIntL, xn_toIntL, x64_idem])
theorem xn_add (x y : Int) : Int32.ofInt x + Int32.ofInt y = Int32.ofInt (x32 (x + y)) := by rw [xn_32, Int32.ofInt_add]
theorem xn_sub (x y : Int) : Int32.ofInt x - Int32.ofInt y = Int32.ofInt (x32 (x - y)) := by rw [xn_32, Int32.ofInt_sub]
theorem xn_mul (x y : Int) : Int32.ofInt x * Int32.ofInt y = Int32.ofInt (x32 (x * y)) := by rw [xn_32, Int32.ofInt_mul]
theorem xn_neg (x : Int) : - Int32.ofInt x = Int32.ofInt (x32 (-x)) := by rw [xn_32, Int32.ofInt_neg]
theorem xn_addL (x y : Int) : Int64.ofInt x + Int64.ofInt y = Int64.ofInt (x64 (x + y)) := by rw [xn_64, Int64.ofInt_add]
theorem xn_subL (x y : Int) : Int64.ofInt x - Int64.ofInt y = Int64.ofInt (x64 (x - y)) := by rw [xn_64, Int64.ofInt_sub]
theorem xn_mulL (x y : Int) : Int64.ofInt x * Int64.ofInt y = Int64.ofInt (x64 (x * y)) := by rw [xn_64, Int64.ofInt_mul]
theorem xn_negL (x : Int) : - Int64.ofInt x = Int64.ofInt (x64 (-x)) := by rw [xn_64, Int64.ofInt_neg]
theorem xn_div {x y : Int} (hx : x32 x = x) (hy : x32 y = y) : Int32.ofInt x / Int32.ofInt y = Int32.ofInt (x32 (x.tdiv y)) := by
  apply Int32.toInt_inj.mp
  rw [Int32.toInt_div, xn_toInt, xn_toInt, xn_toInt, hx, hy, x32_idem]
  rfl
theorem xn_divL {x y : Int} (hx : x64 x = x) (hy : x64 y = y) : Int64.ofInt x / Int64.ofInt y = Int64.ofInt (x64 (x.tdiv y)) := by
  apply Int64.toInt_inj.mp
  rw [Int64.toInt_div, xn_toIntL, xn_toIntL, xn_toIntL, hx, hy, x64_idem]
  rfl
theorem xn_lt {x y : Int} (hx : x32 x = x) (hy : x32 y = y) : Int32.ofInt x < Int32.ofInt y ↔ x < y := by
  rw [Int32.lt_iff_toInt_lt, xn_toInt, xn_toInt, hx, hy]
theorem xn_le {x y : Int} (hx : x32 x = x) (hy : x32 y = y) : Int32.ofInt x ≤ Int32.ofInt y ↔ x ≤ y := by
  rw [Int32.le_iff_toInt_le, xn_toInt, xn_toInt, hx, hy]
theorem xn_eq {x y : Int} (hx : x32 x = x) (hy : x32 y = y) : Int32.ofInt x = Int32.ofInt y ↔ x = y := by
  rw [← Int32.toInt_inj, xn_toInt, xn_toInt, hx, hy]
theorem xn_ltL {x y : Int} (hx : x64 x = x) (hy : x64 y = y) : Int64.ofInt x < Int64.ofInt y ↔ x < y := by
  rw [Int64.lt_iff_toInt_lt, xn_toIntL, xn_toIntL, hx, hy]
theorem xn_eqL {x y : Int} (hx : x64 x = x) (hy : x64 y = y) : Int64.ofInt x = Int64.ofInt y ↔ x = y := by
  rw [← Int64.toInt_inj, xn_toIntL, xn_toIntL, hx, hy]
theorem xn_0 : (0 : Int32) = Int32.ofInt 0 := rfl
theorem xn_0L : (0 : Int64) = Int64.ofInt 0 := rfl
theorem xn_ok0 : x32 0 = 0 := by decide
theorem xn_ok0L : x64 0 = 0 := by decide
theorem xn_i2l {x : Int} (hx : x32 x = x) : (Int32.ofInt x).toInt64 = Int64.ofInt x := by
  apply Int64.toInt_inj.mp
  have h := x32_iff.mp hx
  rw [Int32.toInt_toInt64, xn_toInt, xn_toIntL, hx, x64_of (by omega) (by omega)]
theorem xn_l2i {x : Int} (hx : x64 x = x) : (Int64.ofInt x).toInt32 = Int32.ofInt (x32 x) := by
  apply Int32.toInt_inj.mp
  rw [Int64.toInt_toInt32, xn_toIntL, xn_toInt, x32_idem, hx]
  rfl
theorem xn_rem {x y : Int} (hx : x32 x = x) (hy : x32 y = y) (h0 : y ≠ 0) : Int32.ofInt x - Int32.ofInt x / Int32.ofInt y * Int32.ofInt y = Int32.ofInt (x32 (x.tmod y)) := by
  rw [xn_div hx hy, xn_mul, xn_sub, xn_32, xn_32]
  apply Int32.toInt_inj.mp
  rw [xn_toInt, xn_toInt]
  unfold x32
  have e : x.tmod y = x - x.tdiv y * y := by
    have h := Int.mul_tdiv_add_tmod x y
    rw [Int.mul_comm] at h
    omega
  rw [e]
  simp
def x_cmp (x y : Int) : Int := if y < x then 1 else if x = y then 0 else -1
theorem xn_cmp {x y : Int} (hx : x64 x = x) (hy : x64 y = y) : lg_cmp (Int64.ofInt x) (Int64.ofInt y) = Int32.ofInt (x_cmp x y) := by
  unfold lg_cmp x_cmp
  simp only [gt_iff_lt, xn_ltL hy hx, xn_eqL hx hy]
  split
  · rfl
  · split <;> rfl
theorem xn_okcmp (x y : Int) : x32 (x_cmp x y) = x_cmp x y := by
  unfold x_cmp
  split
  · decide
  · split <;> decide
/-! operations on bits, as the machine has them -/
def x_and (x y : Int) : Int := (Int32.ofInt x &&& Int32.ofInt y).toInt
def x_or (x y : Int) : Int := (Int32.ofInt x ||| Int32.ofInt y).toInt
def x_shl (x y : Int) : Int := (Int32.ofInt x <<< (Int32.ofInt y &&& 31)).toInt
def x_shr (x y : Int) : Int := (Int32.ofInt x >>> (Int32.ofInt y &&& 31)).toInt
def x_ushr (x y : Int) : Int := (((Int32.ofInt x).toUInt32 >>> ((Int32.ofInt y).toUInt32 &&& Int32.toUInt32 31)).toInt32).toInt
def x_i2c (x : Int) : Int := (((Int32.ofInt x).toUInt32 % 65536).toInt32).toInt
def x_andL (x y : Int) : Int := (Int64.ofInt x &&& Int64.ofInt y).toInt
def x_orL (x y : Int) : Int := (Int64.ofInt x ||| Int64.ofInt y).toInt
def x_shlL (x y : Int) : Int := (Int64.ofInt x <<< ((Int32.ofInt y).toInt64 &&& 63)).toInt
/-- an index within -/
theorem xn_in {i : Int} {n : Nat} (hi : x32 i = i) (h0 : 0 ≤ i) (h1 : i < n) : vp_in (Int32.ofInt i) n := by
  unfold vp_in
  have hc : (Int32.ofInt i).toNatClampNeg = i.toNat := by
    rw [Int32.toNatClampNeg, xn_toInt, hi]
  rw [hc]
  intro h
  rcases h with h | h
  · rw [xn_0, xn_lt hi xn_ok0] at h
    omega
  · omega
theorem xn_clamp {i : Int} (hi : x32 i = i) : (Int32.ofInt i).toNatClampNeg = i.toNat := by rw [Int32.toNatClampNeg, xn_toInt, hi]
theorem xn_okN {n : Nat} (h : n < 1000000) : x32 (n : Int) = n := x32_of (by omega) (by omega)
theorem xn_nat (n : Nat) : Int32.ofNat n = Int32.ofInt (n : Int) := by
  first | rfl | exact (Int32.ofInt_eq_ofNat n).symm | simp
end
section
/-! the walk, instruction by instruction: what touches no heap -/
section XR
variable {g : xG} {D M k n pc : Nat} {ls st : List xV} {h : xH} {Q : xV → xH → Prop}
theorem x_okc {v : xV} {st : List xV} (hv : x_ok v) (hs : ∀ w ∈ st, x_ok w) : ∀ w ∈ v :: st, x_ok w := fun w hw => (List.mem_cons.mp hw).elim (fun e => e ▸ hv) (hs w)
theorem x_okt {v : xV} {st : List xV} (hs : ∀ w ∈ v :: st, x_ok w) : ∀ w ∈ st, x_ok w := fun w hw => hs w (List.mem_cons_of_mem _ hw)
theorem x_okh {v : xV} {st : List xV} (hs : ∀ w ∈ v :: st, x_ok w) : x_ok v := hs v List.mem_cons_self

theorem xj_iadd {x y : Int} (hd : decode (x_cd M) pc = .ok (.iadd, 1)) (kk : xJ g D M k n (pc + 1) ls (xi (x32 (x + y)) :: st) h Q) : xJ g D M k n pc ls (xi y :: xi x :: st) h Q := by
  intro p e s m args below meth c H locs la C R S hl ol os hk hn
  have kk := kk p e s m args below meth c H locs la C R S hl ol (x_okc (x32_idem _) (x_okt (x_okt os))) hk hn
  refine lv_iadd C.1 C.2.1 hd ?_
  rw [xn_add]
  exact kk
theorem xj_isub {x y : Int} (hd : decode (x_cd M) pc = .ok (.isub, 1)) (kk : xJ g D M k n (pc + 1) ls (xi (x32 (x - y)) :: st) h Q) : xJ g D M k n pc ls (xi y :: xi x :: st) h Q := by
  intro p e s m args below meth c H locs la C R S hl ol os hk hn
  have kk := kk p e s m args below meth c H locs la C R S hl ol (x_okc (x32_idem _) (x_okt (x_okt os))) hk hn
  refine lv_isub C.1 C.2.1 hd ?_
  rw [xn_sub]
  exact kk
theorem xj_imul {x y : Int} (hd : decode (x_cd M) pc = .ok (.imul, 1)) (kk : xJ g D M k n (pc + 1) ls (xi (x32 (x * y)) :: st) h Q) : xJ g D M k n pc ls (xi y :: xi x :: st) h Q := by
  intro p e s m args below meth c H locs la C R S hl ol os hk hn
  have kk := kk p e s m args below meth c H locs la C R S hl ol (x_okc (x32_idem _) (x_okt (x_okt os))) hk hn
  refine lv_imul C.1 C.2.1 hd ?_
  rw [xn_mul]
  exact kk
theorem xj_ladd {x y : Int} (hd : decode (x_cd M) pc = .ok (.ladd, 1)) (kk : xJ g D M k n (pc + 1) ls (xl (x64 (x + y)) :: st) h Q) : xJ g D M k n pc ls (xl y :: xl x :: st) h Q := by
  intro p e s m args below meth c H locs la C R S hl ol os hk hn
  have kk := kk p e s m args below meth c H locs la C R S hl ol (x_okc (x64_idem _) (x_okt (x_okt os))) hk hn
  refine lv_ladd C.1 C.2.1 hd ?_
  rw [xn_addL]
  exact kk
theorem xj_lsub {x y : Int} (hd : decode (x_cd M) pc = .ok (.lsub, 1)) (kk : xJ g D M k n (pc + 1) ls (xl (x64 (x - y)) :: st) h Q) : xJ g D M k n pc ls (xl y :: xl x :: st) h Q := by
  intro p e s m args below meth c H locs la C R S hl ol os hk hn
  have kk := kk p e s m args below meth c H locs la C R S hl ol (x_okc (x64_idem _) (x_okt (x_okt os))) hk hn
  refine lv_lsub C.1 C.2.1 hd ?_
  rw [xn_subL]
  exact kk
theorem xj_lmul {x y : Int} (hd : decode (x_cd M) pc = .ok (.lmul, 1)) (kk : xJ g D M k n (pc + 1) ls (xl (x64 (x * y)) :: st) h Q) : xJ g D M k n pc ls (xl y :: xl x :: st) h Q := by
  intro p e s m args below meth c H locs la C R S hl ol os hk hn
  have kk := kk p e s m args below meth c H locs la C R S hl ol (x_okc (x64_idem _) (x_okt (x_okt os))) hk hn
  refine lv_lmul C.1 C.2.1 hd ?_
  rw [xn_mulL]
  exact kk
theorem xj_ineg {x : Int} (hd : decode (x_cd M) pc = .ok (.ineg, 1)) (kk : xJ g D M k n (pc + 1) ls (xi (x32 (-x)) :: st) h Q) : xJ g D M k n pc ls (xi x :: st) h Q := by
  intro p e s m args below meth c H locs la C R S hl ol os hk hn
  have kk := kk p e s m args below meth c H locs la C R S hl ol (x_okc (x32_idem _) (x_okt os)) hk hn
  refine lv_ineg C.1 C.2.1 hd ?_
  rw [xn_neg]
  exact kk
theorem xj_lneg {x : Int} (hd : decode (x_cd M) pc = .ok (.lneg, 1)) (kk : xJ g D M k n (pc + 1) ls (xl (x64 (-x)) :: st) h Q) : xJ g D M k n pc ls (xl x :: st) h Q := by
  intro p e s m args below meth c H locs la C R S hl ol os hk hn
  have kk := kk p e s m args below meth c H locs la C R S hl ol (x_okc (x64_idem _) (x_okt os)) hk hn
  refine lv_lneg C.1 C.2.1 hd ?_
  rw [xn_negL]
  exact kk
theorem xj_idiv {x y : Int} (hd : decode (x_cd M) pc = .ok (.idiv, 1)) (h0 : y ≠ 0) (kk : xJ g D M k n (pc + 1) ls (xi (x32 (x.tdiv y)) :: st) h Q) : xJ g D M k n pc ls (xi y :: xi x :: st) h Q := by
  intro p e s m args below meth c H locs la C R S hl ol os hk hn
  have kk := kk p e s m args below meth c H locs la C R S hl ol (x_okc (x32_idem _) (x_okt (x_okt os))) hk hn
  have hy : x32 y = y := x_okh os
  have hx : x32 x = x := x_okh (x_okt os)
  refine lv_idiv C.1 C.2.1 hd (fun q => h0 ((xn_eq hy xn_ok0).mp q)) ?_
  rw [xn_div hx hy]
  exact kk
theorem xj_ldiv {x y : Int} (hd : decode (x_cd M) pc = .ok (.ldiv, 1)) (h0 : y ≠ 0) (kk : xJ g D M k n (pc + 1) ls (xl (x64 (x.tdiv y)) :: st) h Q) : xJ g D M k n pc ls (xl y :: xl x :: st) h Q := by
  intro p e s m args below meth c H locs la C R S hl ol os hk hn
  have kk := kk p e s m args below meth c H locs la C R S hl ol (x_okc (x64_idem _) (x_okt (x_okt os))) hk hn
  have hy : x64 y = y := x_okh os
  have hx : x64 x = x := x_okh (x_okt os)
  refine lv_ldiv C.1 C.2.1 hd (fun q => h0 ((xn_eqL hy xn_ok0L).mp q)) ?_
  rw [xn_divL hx hy]
  exact kk
theorem xj_irem {x y : Int} (hd : decode (x_cd M) pc = .ok (.irem, 1)) (h0 : y ≠ 0) (kk : xJ g D M k n (pc + 1) ls (xi (x32 (x.tmod y)) :: st) h Q) : xJ g D M k n pc ls (xi y :: xi x :: st) h Q := by
  intro p e s m args below meth c H locs la C R S hl ol os hk hn
  have kk := kk p e s m args below meth c H locs la C R S hl ol (x_okc (x32_idem _) (x_okt (x_okt os))) hk hn
  have hy : x32 y = y := x_okh os
  have hx : x32 x = x := x_okh (x_okt os)
  refine lv_irem C.1 C.2.1 hd (fun q => h0 ((xn_eq hy xn_ok0).mp q)) ?_
  rw [xn_rem hx hy h0]
  exact kk
theorem xj_i2l {x : Int} (hd : decode (x_cd M) pc = .ok (.i2l, 1)) (kk : xJ g D M k n (pc + 1) ls (xl x :: st) h Q) : xJ g D M k n pc ls (xi x :: st) h Q := by
  intro p e s m args below meth c H locs la C R S hl ol os hk hn
  have hx : x32 x = x := x_okh os
  have hx2 := x32_iff.mp hx
  have kk := kk p e s m args below meth c H locs la C R S hl ol (x_okc (x64_of (by omega) (by omega)) (x_okt os)) hk hn
  exact lv_i2l C.1 C.2.1 hd (xn_i2l hx) kk
theorem xj_l2i {x : Int} (hd : decode (x_cd M) pc = .ok (.l2i, 1)) (kk : xJ g D M k n (pc + 1) ls (xi (x32 x) :: st) h Q) : xJ g D M k n pc ls (xl x :: st) h Q := by
  intro p e s m args below meth c H locs la C R S hl ol os hk hn
  have kk := kk p e s m args below meth c H locs la C R S hl ol (x_okc (x32_idem _) (x_okt os)) hk hn
  exact lv_l2i C.1 C.2.1 hd (xn_l2i (x_okh os)) kk
theorem xj_lcmp {x y : Int} (hd : decode (x_cd M) pc = .ok (.lcmp, 1)) (kk : xJ g D M k n (pc + 1) ls (xi (x_cmp x y) :: st) h Q) : xJ g D M k n pc ls (xl y :: xl x :: st) h Q := by
  intro p e s m args below meth c H locs la C R S hl ol os hk hn
  have kk := kk p e s m args below meth c H locs la C R S hl ol (x_okc (xn_okcmp x y) (x_okt (x_okt os))) hk hn
  have hy : x64 y = y := x_okh os
  have hx : x64 x = x := x_okh (x_okt os)
  refine W.lcmp C.1 C.2.1 hd ?_
  rw [xn_cmp hx hy]
  exact kk
theorem xj_iand {x y : Int} (hd : decode (x_cd M) pc = .ok (.iand, 1)) (kk : xJ g D M k n (pc + 1) ls (xi (x_and x y) :: st) h Q) : xJ g D M k n pc ls (xi y :: xi x :: st) h Q := by
  intro p e s m args below meth c H locs la C R S hl ol os hk hn
  have kk := kk p e s m args below meth c H locs la C R S hl ol (x_okc (xn_okT _) (x_okt (x_okt os))) hk hn
  have e1 : x_v g (xi (x_and x y)) = .int _ := congrArg Value.int (xn_back _)
  rw [List.map_cons, e1] at kk
  exact lv_iand C.1 C.2.1 hd kk
theorem xj_ior {x y : Int} (hd : decode (x_cd M) pc = .ok (.ior, 1)) (kk : xJ g D M k n (pc + 1) ls (xi (x_or x y) :: st) h Q) : xJ g D M k n pc ls (xi y :: xi x :: st) h Q := by
  intro p e s m args below meth c H locs la C R S hl ol os hk hn
  have kk := kk p e s m args below meth c H locs la C R S hl ol (x_okc (xn_okT _) (x_okt (x_okt os))) hk hn
  have e1 : x_v g (xi (x_or x y)) = .int _ := congrArg Value.int (xn_back _)
  rw [List.map_cons, e1] at kk
  exact lv_ior C.1 C.2.1 hd kk
theorem xj_ishl {x y : Int} (hd : decode (x_cd M) pc = .ok (.ishl, 1)) (kk : xJ g D M k n (pc + 1) ls (xi (x_shl x y) :: st) h Q) : xJ g D M k n pc ls (xi y :: xi x :: st) h Q := by
  intro p e s m args below meth c H locs la C R S hl ol os hk hn
  have kk := kk p e s m args below meth c H locs la C R S hl ol (x_okc (xn_okT _) (x_okt (x_okt os))) hk hn
  have e1 : x_v g (xi (x_shl x y)) = .int _ := congrArg Value.int (xn_back _)
  rw [List.map_cons, e1] at kk
  exact lv_ishl C.1 C.2.1 hd kk
theorem xj_ishr {x y : Int} (hd : decode (x_cd M) pc = .ok (.ishr, 1)) (kk : xJ g D M k n (pc + 1) ls (xi (x_shr x y) :: st) h Q) : xJ g D M k n pc ls (xi y :: xi x :: st) h Q := by
  intro p e s m args below meth c H locs la C R S hl ol os hk hn
  have kk := kk p e s m args below meth c H locs la C R S hl ol (x_okc (xn_okT _) (x_okt (x_okt os))) hk hn
  have e1 : x_v g (xi (x_shr x y)) = .int _ := congrArg Value.int (xn_back _)
  rw [List.map_cons, e1] at kk
  exact lv_ishr C.1 C.2.1 hd kk
theorem xj_land {x y : Int} (hd : decode (x_cd M) pc = .ok (.land, 1)) (kk : xJ g D M k n (pc + 1) ls (xl (x_andL x y) :: st) h Q) : xJ g D M k n pc ls (xl y :: xl x :: st) h Q := by
  intro p e s m args below meth c H locs la C R S hl ol os hk hn
  have kk := kk p e s m args below meth c H locs la C R S hl ol (x_okc (xn_okTL _) (x_okt (x_okt os))) hk hn
  have e1 : x_v g (xl (x_andL x y)) = .long _ := congrArg Value.long (xn_backL _)
  rw [List.map_cons, e1] at kk
  exact lv_land C.1 C.2.1 hd kk
theorem xj_lor {x y : Int} (hd : decode (x_cd M) pc = .ok (.lor, 1)) (kk : xJ g D M k n (pc + 1) ls (xl (x_orL x y) :: st) h Q) : xJ g D M k n pc ls (xl y :: xl x :: st) h Q := by
  intro p e s m args below meth c H locs la C R S hl ol os hk hn
  have kk := kk p e s m args below meth c H locs la C R S hl ol (x_okc (xn_okTL _) (x_okt (x_okt os))) hk hn
  have e1 : x_v g (xl (x_orL x y)) = .long _ := congrArg Value.long (xn_backL _)
  rw [List.map_cons, e1] at kk
  exact lv_lor C.1 C.2.1 hd kk
theorem xj_iushr {x y : Int} (hd : decode (x_cd M) pc = .ok (.iushr, 1)) (kk : xJ g D M k n (pc + 1) ls (xi (x_ushr x y) :: st) h Q) : xJ g D M k n pc ls (xi y :: xi x :: st) h Q := by
  intro p e s m args below meth c H locs la C R S hl ol os hk hn
  have kk := kk p e s m args below meth c H locs la C R S hl ol (x_okc (xn_okT _) (x_okt (x_okt os))) hk hn
  exact lv_iushr C.1 C.2.1 hd (xn_back _).symm kk
theorem xj_lshl {x y : Int} (hd : decode (x_cd M) pc = .ok (.lshl, 1)) (kk : xJ g D M k n (pc + 1) ls (xl (x_shlL x y) :: st) h Q) : xJ g D M k n pc ls (xi y :: xl x :: st) h Q := by
  intro p e s m args below meth c H locs la C R S hl ol os hk hn
  have kk := kk p e s m args below meth c H locs la C R S hl ol (x_okc (xn_okTL _) (x_okt (x_okt os))) hk hn
  exact lv_lshl C.1 C.2.1 hd (xn_backL _).symm kk
theorem xj_i2c {x : Int} (hd : decode (x_cd M) pc = .ok (.i2c, 1)) (kk : xJ g D M k n (pc + 1) ls (xi (x_i2c x) :: st) h Q) : xJ g D M k n pc ls (xi x :: st) h Q := by
  intro p e s m args below meth c H locs la C R S hl ol os hk hn
  have kk := kk p e s m args below meth c H locs la C R S hl ol (x_okc (xn_okT _) (x_okt os)) hk hn
  exact lv_i2c C.1 C.2.1 hd (xn_back _).symm kk
theorem xj_iconst {i : Int} (hd : decode (x_cd M) pc = .ok (.iconst i, 1)) (hi : x32 i = i) (kk : xJ g D M k n (pc + 1) ls (xi i :: st) h Q) : xJ g D M k n pc ls st h Q := by
  intro p e s m args below meth c H locs la C R S hl ol os hk hn
  have kk := kk p e s m args below meth c H locs la C R S hl ol (x_okc hi os) hk hn
  exact lv_iconst C.1 C.2.1 hd rfl kk
theorem xj_bipush {i : Int} (hd : decode (x_cd M) pc = .ok (.bipush i, 2)) (hi : x32 i = i) (hb : (Int8.ofInt i).toInt32 = Int32.ofInt i) (kk : xJ g D M k n (pc + 2) ls (xi i :: st) h Q) : xJ g D M k n pc ls st h Q := by
  intro p e s m args below meth c H locs la C R S hl ol os hk hn
  have kk := kk p e s m args below meth c H locs la C R S hl ol (x_okc hi os) hk hn
  exact lv_bipush C.1 C.2.1 hd hb kk
theorem xj_sipush {i : Int} (hd : decode (x_cd M) pc = .ok (.sipush i, 3)) (hi : x32 i = i) (hb : (Int16.ofInt i).toInt32 = Int32.ofInt i) (kk : xJ g D M k n (pc + 3) ls (xi i :: st) h Q) : xJ g D M k n pc ls st h Q := by
  intro p e s m args below meth c H locs la C R S hl ol os hk hn
  have kk := kk p e s m args below meth c H locs la C R S hl ol (x_okc hi os) hk hn
  exact lv_sipush C.1 C.2.1 hd hb kk
theorem xj_lconst {i : Fin 2} (hd : decode (x_cd M) pc = .ok (.lconst i, 1)) (kk : xJ g D M k n (pc + 1) ls (xl (i : Nat) :: st) h Q) : xJ g D M k n pc ls st h Q := by
  intro p e s m args below meth c H locs la C R S hl ol os hk hn
  have hi : (i : Nat) < 2 := i.2
  have kk := kk p e s m args below meth c H locs la C R S hl ol (x_okc (x64_of (by omega) (by omega)) os) hk hn
  exact lv_lconst C.1 C.2.1 hd (by first | rfl | simp) kk
theorem xj_null (hd : decode (x_cd M) pc = .ok (.aconst_null, 1)) (kk : xJ g D M k n (pc + 1) ls (xr 0 :: st) h Q) : xJ g D M k n pc ls st h Q := by
  intro p e s m args below meth c H locs la C R S hl ol os hk hn
  have kk := kk p e s m args below meth c H locs la C R S hl ol (x_okc trivial os) hk hn
  exact lv_null C.1 C.2.1 hd kk
theorem xj_ldc {i : Nat} {v : Int} (hd : decode (x_cd M) pc = .ok (.ldc i, 2)) (hi : x32 v = v) (hw : Cond.constant (x_y M).cls i (Int32.ofInt v) ∈ x_tb) (kk : xJ g D M k n (pc + 2) ls (xi v :: st) h Q) : xJ g D M k n pc ls st h Q := by
  intro p e s m args below meth c H locs la C R S hl ol os hk hn
  have kk := kk p e s m args below meth c H locs la C R S hl ol (x_okc hi os) hk hn
  exact lv_ldc C.1 C.2.1 C.2.2.2.2.1 (C.2.2.2.2.2.1 _ hw) hd kk
theorem xj_ldcw {i : Nat} {v : Int} (hd : decode (x_cd M) pc = .ok (.ldc_w i, 3)) (hi : x32 v = v) (hw : Cond.constant (x_y M).cls i (Int32.ofInt v) ∈ x_tb) (kk : xJ g D M k n (pc + 3) ls (xi v :: st) h Q) : xJ g D M k n pc ls st h Q := by
  intro p e s m args below meth c H locs la C R S hl ol os hk hn
  have kk := kk p e s m args below meth c H locs la C R S hl ol (x_okc hi os) hk hn
  exact lv_ldcw C.1 C.2.1 C.2.2.2.2.1 (C.2.2.2.2.2.1 _ hw) hd kk
theorem xj_ldc2 {i : Nat} {v : Int} (hd : decode (x_cd M) pc = .ok (.ldc2_w i, 3)) (hi : x64 v = v) (hw : Cond.constantLong (x_y M).cls i (Int64.ofInt v) ∈ x_tb) (kk : xJ g D M k n (pc + 3) ls (xl v :: st) h Q) : xJ g D M k n pc ls st h Q := by
  intro p e s m args below meth c H locs la C R S hl ol os hk hn
  have kk := kk p e s m args below meth c H locs la C R S hl ol (x_okc hi os) hk hn
  exact lv_ldc2 C.1 C.2.1 C.2.2.2.2.1 (C.2.2.2.2.2.1 _ hw) hd kk
theorem x_cat1 {v : xV} (hv : ∀ x, v ≠ xl x) : (x_v g v).category = 1 := by
  rcases v with x | x | r | u
  · rfl
  · exact absurd rfl (hv x)
  · show (va_rf (x_ro g r)).category = 1
    cases x_ro g r <;> rfl
  · rfl
theorem xj_dup {v : xV} (hd : decode (x_cd M) pc = .ok (.dup, 1)) (hv : ∀ x, v ≠ xl x) (kk : xJ g D M k n (pc + 1) ls (v :: v :: st) h Q) : xJ g D M k n pc ls (v :: st) h Q := by
  intro p e s m args below meth c H locs la C R S hl ol os hk hn
  have kk := kk p e s m args below meth c H locs la C R S hl ol (x_okc (x_okh os) os) hk hn
  exact lv_dup C.1 C.2.1 hd (x_cat1 hv) kk
theorem xj_pop {v : xV} (hd : decode (x_cd M) pc = .ok (.pop, 1)) (hv : ∀ x, v ≠ xl x) (kk : xJ g D M k n (pc + 1) ls st h Q) : xJ g D M k n pc ls (v :: st) h Q := by
  intro p e s m args below meth c H locs la C R S hl ol os hk hn
  have kk := kk p e s m args below meth c H locs la C R S hl ol (x_okt os) hk hn
  exact lv_pop C.1 C.2.1 hd (x_cat1 hv) kk
theorem xj_dup2 {v w : xV} (hd : decode (x_cd M) pc = .ok (.dup2, 1)) (hv : ∀ x, v ≠ xl x) (hw : ∀ x, w ≠ xl x) (kk : xJ g D M k n (pc + 1) ls (v :: w :: v :: w :: st) h Q) : xJ g D M k n pc ls (v :: w :: st) h Q := by
  intro p e s m args below meth c H locs la C R S hl ol os hk hn
  have kk := kk p e s m args below meth c H locs la C R S hl ol (x_okc (x_okh os) (x_okc (x_okh (x_okt os)) os)) hk hn
  exact lv_dup2_11 C.1 C.2.1 hd (x_cat1 hv) (x_cat1 hw) kk
theorem xj_dup2L {x : Int} (hd : decode (x_cd M) pc = .ok (.dup2, 1)) (kk : xJ g D M k n (pc + 1) ls (xl x :: xl x :: st) h Q) : xJ g D M k n pc ls (xl x :: st) h Q := by
  intro p e s m args below meth c H locs la C R S hl ol os hk hn
  have kk := kk p e s m args below meth c H locs la C R S hl ol (x_okc (x_okh os) os) hk hn
  exact lv_dup2_2 C.1 C.2.1 hd rfl kk
theorem xj_icmp_eq {x y off : Int} {t : Nat} (hd : decode (x_cd M) pc = .ok (.if_icmp .eq off, 3)) (ht : (pc : Int) + off = (t : Int)) (kt : x = y → xJ g D M k n t ls st h Q) (kf : ¬ (x = y) → xJ g D M k n (pc + 3) ls st h Q) : xJ g D M k n pc ls (xi y :: xi x :: st) h Q := by
  intro p e s m args below meth c H locs la C R S hl ol os hk hn
  have hy : x32 y = y := x_okh os
  have hx : x32 x = x := x_okh (x_okt os)
  refine lv_icmp_eq C.1 C.2.1 hd ht (fun q => ?_) (fun q => ?_)
  · exact kt ((xn_eq hx hy).mp q) p e s m args below meth c H locs la C R S hl ol (x_okt (x_okt os)) hk hn
  · exact kf (fun z => q ((xn_eq hx hy).mpr z)) p e s m args below meth c H locs la C R S hl ol (x_okt (x_okt os)) hk hn
theorem xj_if_eq {x off : Int} {t : Nat} (hd : decode (x_cd M) pc = .ok (.ifCond .eq off, 3)) (ht : (pc : Int) + off = (t : Int)) (kt : x = 0 → xJ g D M k n t ls st h Q) (kf : ¬ (x = 0) → xJ g D M k n (pc + 3) ls st h Q) : xJ g D M k n pc ls (xi x :: st) h Q := by
  intro p e s m args below meth c H locs la C R S hl ol os hk hn
  have hy : x32 0 = 0 := xn_ok0
  have hx : x32 x = x := x_okh os
  refine lv_if_eq C.1 C.2.1 hd ht (fun q => ?_) (fun q => ?_)
  · exact kt ((xn_eq hx hy).mp q) p e s m args below meth c H locs la C R S hl ol (x_okt os) hk hn
  · exact kf (fun z => q ((xn_eq hx hy).mpr z)) p e s m args below meth c H locs la C R S hl ol (x_okt os) hk hn
theorem xj_icmp_ne {x y off : Int} {t : Nat} (hd : decode (x_cd M) pc = .ok (.if_icmp .ne off, 3)) (ht : (pc : Int) + off = (t : Int)) (kt : ¬ x = y → xJ g D M k n t ls st h Q) (kf : x = y → xJ g D M k n (pc + 3) ls st h Q) : xJ g D M k n pc ls (xi y :: xi x :: st) h Q := by
  intro p e s m args below meth c H locs la C R S hl ol os hk hn
  have hy : x32 y = y := x_okh os
  have hx : x32 x = x := x_okh (x_okt os)
  refine lv_icmp_ne C.1 C.2.1 hd ht (fun q => ?_) (fun q => ?_)
  · exact kt ((not_congr (xn_eq hx hy)).mp q) p e s m args below meth c H locs la C R S hl ol (x_okt (x_okt os)) hk hn
  · exact kf ((xn_eq hx hy).mp q) p e s m args below meth c H locs la C R S hl ol (x_okt (x_okt os)) hk hn
theorem xj_if_ne {x off : Int} {t : Nat} (hd : decode (x_cd M) pc = .ok (.ifCond .ne off, 3)) (ht : (pc : Int) + off = (t : Int)) (kt : ¬ x = 0 → xJ g D M k n t ls st h Q) (kf : x = 0 → xJ g D M k n (pc + 3) ls st h Q) : xJ g D M k n pc ls (xi x :: st) h Q := by
  intro p e s m args below meth c H locs la C R S hl ol os hk hn
  have hy : x32 0 = 0 := xn_ok0
  have hx : x32 x = x := x_okh os
  refine lv_if_ne C.1 C.2.1 hd ht (fun q => ?_) (fun q => ?_)
  · exact kt ((not_congr (xn_eq hx hy)).mp q) p e s m args below meth c H locs la C R S hl ol (x_okt os) hk hn
  · exact kf ((xn_eq hx hy).mp q) p e s m args below meth c H locs la C R S hl ol (x_okt os) hk hn
theorem xj_icmp_lt {x y off : Int} {t : Nat} (hd : decode (x_cd M) pc = .ok (.if_icmp .lt off, 3)) (ht : (pc : Int) + off = (t : Int)) (kt : x < y → xJ g D M k n t ls st h Q) (kf : ¬ (x < y) → xJ g D M k n (pc + 3) ls st h Q) : xJ g D M k n pc ls (xi y :: xi x :: st) h Q := by
  intro p e s m args below meth c H locs la C R S hl ol os hk hn
  have hy : x32 y = y := x_okh os
  have hx : x32 x = x := x_okh (x_okt os)
  refine lv_icmp_lt C.1 C.2.1 hd ht (fun q => ?_) (fun q => ?_)
  · exact kt ((xn_lt hx hy).mp q) p e s m args below meth c H locs la C R S hl ol (x_okt (x_okt os)) hk hn
  · exact kf (fun z => q ((xn_lt hx hy).mpr z)) p e s m args below meth c H locs la C R S hl ol (x_okt (x_okt os)) hk hn
theorem xj_if_lt {x off : Int} {t : Nat} (hd : decode (x_cd M) pc = .ok (.ifCond .lt off, 3)) (ht : (pc : Int) + off = (t : Int)) (kt : x < 0 → xJ g D M k n t ls st h Q) (kf : ¬ (x < 0) → xJ g D M k n (pc + 3) ls st h Q) : xJ g D M k n pc ls (xi x :: st) h Q := by
  intro p e s m args below meth c H locs la C R S hl ol os hk hn
  have hy : x32 0 = 0 := xn_ok0
  have hx : x32 x = x := x_okh os
  refine lv_if_lt C.1 C.2.1 hd ht (fun q => ?_) (fun q => ?_)
  · exact kt ((xn_lt hx hy).mp q) p e s m args below meth c H locs la C R S hl ol (x_okt os) hk hn
  · exact kf (fun z => q ((xn_lt hx hy).mpr z)) p e s m args below meth c H locs la C R S hl ol (x_okt os) hk hn
theorem xj_icmp_ge {x y off : Int} {t : Nat} (hd : decode (x_cd M) pc = .ok (.if_icmp .ge off, 3)) (ht : (pc : Int) + off = (t : Int)) (kt : y ≤ x → xJ g D M k n t ls st h Q) (kf : ¬ (y ≤ x) → xJ g D M k n (pc + 3) ls st h Q) : xJ g D M k n pc ls (xi y :: xi x :: st) h Q := by
  intro p e s m args below meth c H locs la C R S hl ol os hk hn
  have hy : x32 y = y := x_okh os
  have hx : x32 x = x := x_okh (x_okt os)
  refine lv_icmp_ge C.1 C.2.1 hd ht (fun q => ?_) (fun q => ?_)
  · exact kt ((xn_le hy hx).mp q) p e s m args below meth c H locs la C R S hl ol (x_okt (x_okt os)) hk hn
  · exact kf (fun z => q ((xn_le hy hx).mpr z)) p e s m args below meth c H locs la C R S hl ol (x_okt (x_okt os)) hk hn
theorem xj_if_ge {x off : Int} {t : Nat} (hd : decode (x_cd M) pc = .ok (.ifCond .ge off, 3)) (ht : (pc : Int) + off = (t : Int)) (kt : 0 ≤ x → xJ g D M k n t ls st h Q) (kf : ¬ (0 ≤ x) → xJ g D M k n (pc + 3) ls st h Q) : xJ g D M k n pc ls (xi x :: st) h Q := by
  intro p e s m args below meth c H locs la C R S hl ol os hk hn
  have hy : x32 0 = 0 := xn_ok0
  have hx : x32 x = x := x_okh os
  refine lv_if_ge C.1 C.2.1 hd ht (fun q => ?_) (fun q => ?_)
  · exact kt ((xn_le hy hx).mp q) p e s m args below meth c H locs la C R S hl ol (x_okt os) hk hn
  · exact kf (fun z => q ((xn_le hy hx).mpr z)) p e s m args below meth c H locs la C R S hl ol (x_okt os) hk hn
theorem xj_icmp_gt {x y off : Int} {t : Nat} (hd : decode (x_cd M) pc = .ok (.if_icmp .gt off, 3)) (ht : (pc : Int) + off = (t : Int)) (kt : y < x → xJ g D M k n t ls st h Q) (kf : ¬ (y < x) → xJ g D M k n (pc + 3) ls st h Q) : xJ g D M k n pc ls (xi y :: xi x :: st) h Q := by
  intro p e s m args below meth c H locs la C R S hl ol os hk hn
  have hy : x32 y = y := x_okh os
  have hx : x32 x = x := x_okh (x_okt os)
  refine lv_icmp_gt C.1 C.2.1 hd ht (fun q => ?_) (fun q => ?_)
  · exact kt ((xn_lt hy hx).mp q) p e s m args below meth c H locs la C R S hl ol (x_okt (x_okt os)) hk hn
  · exact kf (fun z => q ((xn_lt hy hx).mpr z)) p e s m args below meth c H locs la C R S hl ol (x_okt (x_okt os)) hk hn
theorem xj_if_gt {x off : Int} {t : Nat} (hd : decode (x_cd M) pc = .ok (.ifCond .gt off, 3)) (ht : (pc : Int) + off = (t : Int)) (kt : 0 < x → xJ g D M k n t ls st h Q) (kf : ¬ (0 < x) → xJ g D M k n (pc + 3) ls st h Q) : xJ g D M k n pc ls (xi x :: st) h Q := by
  intro p e s m args below meth c H locs la C R S hl ol os hk hn
  have hy : x32 0 = 0 := xn_ok0
  have hx : x32 x = x := x_okh os
  refine lv_if_gt C.1 C.2.1 hd ht (fun q => ?_) (fun q => ?_)
  · exact kt ((xn_lt hy hx).mp q) p e s m args below meth c H locs la C R S hl ol (x_okt os) hk hn
  · exact kf (fun z => q ((xn_lt hy hx).mpr z)) p e s m args below meth c H locs la C R S hl ol (x_okt os) hk hn
theorem xj_icmp_le {x y off : Int} {t : Nat} (hd : decode (x_cd M) pc = .ok (.if_icmp .le off, 3)) (ht : (pc : Int) + off = (t : Int)) (kt : x ≤ y → xJ g D M k n t ls st h Q) (kf : ¬ (x ≤ y) → xJ g D M k n (pc + 3) ls st h Q) : xJ g D M k n pc ls (xi y :: xi x :: st) h Q := by
  intro p e s m args below meth c H locs la C R S hl ol os hk hn
  have hy : x32 y = y := x_okh os
  have hx : x32 x = x := x_okh (x_okt os)
  refine lv_icmp_le C.1 C.2.1 hd ht (fun q => ?_) (fun q => ?_)
  · exact kt ((xn_le hx hy).mp q) p e s m args below meth c H locs la C R S hl ol (x_okt (x_okt os)) hk hn
  · exact kf (fun z => q ((xn_le hx hy).mpr z)) p e s m args below meth c H locs la C R S hl ol (x_okt (x_okt os)) hk hn
theorem xj_if_le {x off : Int} {t : Nat} (hd : decode (x_cd M) pc = .ok (.ifCond .le off, 3)) (ht : (pc : Int) + off = (t : Int)) (kt : x ≤ 0 → xJ g D M k n t ls st h Q) (kf : ¬ (x ≤ 0) → xJ g D M k n (pc + 3) ls st h Q) : xJ g D M k n pc ls (xi x :: st) h Q := by
  intro p e s m args below meth c H locs la C R S hl ol os hk hn
  have hy : x32 0 = 0 := xn_ok0
  have hx : x32 x = x := x_okh os
  refine lv_if_le C.1 C.2.1 hd ht (fun q => ?_) (fun q => ?_)
  · exact kt ((xn_le hx hy).mp q) p e s m args below meth c H locs la C R S hl ol (x_okt os) hk hn
  · exact kf (fun z => q ((xn_le hx hy).mpr z)) p e s m args below meth c H locs la C R S hl ol (x_okt os) hk hn
theorem xj_goto {off : Int} {t : Nat} (hd : decode (x_cd M) pc = .ok (.goto off, 3)) (ht : (pc : Int) + off = (t : Int)) (kk : xJ g D M k n t ls st h Q) : xJ g D M k n pc ls st h Q := by
  intro p e s m args below meth c H locs la C R S hl ol os hk hn
  exact lv_goto C.1 C.2.1 hd ht (kk p e s m args below meth c H locs la C R S hl ol (os) hk hn)
theorem xj_ifnull {r : Nat} {off : Int} {t : Nat} (hd : decode (x_cd M) pc = .ok (.ifnull off, 3)) (ht : (pc : Int) + off = (t : Int)) (kt : r = 0 → xJ g D M k n t ls st h Q) (kf : ¬ r = 0 → xJ g D M k n (pc + 3) ls st h Q) : xJ g D M k n pc ls (xr r :: st) h Q := by
  intro p e s m args below meth c H locs la C R S hl ol os hk hn
  by_cases hr : r = 0
  · subst hr
    exact lv_ifnullN C.1 C.2.1 hd ht (kt rfl p e s m args below meth c H locs la C R S hl ol (x_okt os) hk hn)
  · have e1 : x_v g (xr r) = .ref (x_ad g r) := by simp [x_v, x_ro, hr, va_rf]
    show W _ _ _ _ _ _ _ _ _ _ _ _ _ _ _ (F0 m pc la (x_v g (xr r) :: st.map (x_v g)))
    rw [e1]
    exact lv_ifnull C.1 C.2.1 hd (kf hr p e s m args below meth c H locs la C R S hl ol (x_okt os) hk hn)
theorem xj_ifnonnull {r : Nat} {off : Int} {t : Nat} (hd : decode (x_cd M) pc = .ok (.ifnonnull off, 3)) (ht : (pc : Int) + off = (t : Int)) (kt : ¬ r = 0 → xJ g D M k n t ls st h Q) (kf : r = 0 → xJ g D M k n (pc + 3) ls st h Q) : xJ g D M k n pc ls (xr r :: st) h Q := by
  intro p e s m args below meth c H locs la C R S hl ol os hk hn
  by_cases hr : r = 0
  · subst hr
    exact lv_ifnonnullN C.1 C.2.1 hd (kf rfl p e s m args below meth c H locs la C R S hl ol (x_okt os) hk hn)
  · have e1 : x_v g (xr r) = .ref (x_ad g r) := by simp [x_v, x_ro, hr, va_rf]
    show W _ _ _ _ _ _ _ _ _ _ _ _ _ _ _ (F0 m pc la (x_v g (xr r) :: st.map (x_v g)))
    rw [e1]
    exact lv_ifnonnull C.1 C.2.1 hd ht (kt hr p e s m args below meth c H locs la C R S hl ol (x_okt os) hk hn)
theorem xj_table {x dflt lo hi : Int} {offs : Array Int} {len : Nat} (hd : decode (x_cd M) pc = .ok (.tableswitch dflt lo hi offs, len)) {tg : Int → Nat} {td : Nat}
    (ho : ∀ z : Int, lo ≤ z → z ≤ hi → ∃ off, offs[(z - lo).toNat]? = some off ∧ (pc : Int) + off = (tg z : Int)) (ht : (pc : Int) + dflt = (td : Int))
    (k1 : lo ≤ x → x ≤ hi → xJ g D M k n (tg x) ls st h Q) (k2 : (x < lo ∨ hi < x) → xJ g D M k n td ls st h Q) : xJ g D M k n pc ls (xi x :: st) h Q := by
  intro p e s m args below meth c H locs la C R S hl ol os hk hn
  have hx : x32 x = x := x_okh os
  by_cases hb : x < lo ∨ hi < x
  · exact lv_tableOut C.1 C.2.1 hd (by rw [xn_toInt, hx]; exact hb) ht (k2 hb p e s m args below meth c H locs la C R S hl ol (x_okt os) hk hn)
  · obtain ⟨off, h1, h2⟩ := ho x (by omega) (by omega)
    exact lv_tableIn C.1 C.2.1 hd (by rw [xn_toInt, hx]; omega) (by rw [xn_toInt, hx]; omega) (by rw [xn_toInt, hx]; exact h1) h2 (k1 (by omega) (by omega) p e s m args below meth c H locs la C R S hl ol (x_okt os) hk hn)
/-! locals -/
theorem x_lv_at {i : Nat} {v : xV} (hv : v ≠ xu) : ∀ (ls : List xV) (j : Nat), ls[j]? = some v → (i + j, x_v g v) ∈ x_lv g i ls := by
  intro ls
  induction ls generalizing i with
  | nil => intro j hj; simp at hj
  | cons w ws ih =>
    intro j hj
    cases j with
    | zero =>
      have e1 : w = v := by simpa using hj
      subst e1
      rcases w with x | x | r | u
      · exact List.mem_cons_self
      · exact List.mem_cons_self
      · exact List.mem_cons_self
      · exact absurd rfl hv
    | succ j =>
      have h1 : (i + 1 + j, x_v g v) ∈ x_lv g (i + 1) ws := ih j (by simpa using hj)
      have e2 : i + (j + 1) = i + 1 + j := by omega
      rw [e2]
      rcases w with x | x | r | u
      · exact List.mem_cons_of_mem _ h1
      · exact List.mem_cons_of_mem _ h1
      · exact List.mem_cons_of_mem _ h1
      · exact h1
theorem x_lv_mem : ∀ (ls : List xV) (i : Nat) (q : Nat × Value), q ∈ x_lv g i ls → ∃ (j : Nat) (v : xV), q.1 = i + j ∧ ls[j]? = some v ∧ q.2 = x_v g v ∧ v ≠ xu := by
  intro ls
  induction ls with
  | nil => intro i q hq; simp [x_lv] at hq
  | cons w ws ih =>
    intro i q hq
    rcases w with x | x | r | u
    · rcases List.mem_cons.mp hq with e1 | h1
      · exact ⟨0, xi x, by rw [e1]; rfl, rfl, by rw [e1], by intro z; cases z⟩
      · obtain ⟨j, v, a1, a2, a3, a4⟩ := ih (i + 1) q h1
        exact ⟨j + 1, v, by omega, by simpa using a2, a3, a4⟩
    · rcases List.mem_cons.mp hq with e1 | h1
      · exact ⟨0, xl x, by rw [e1]; rfl, rfl, by rw [e1], by intro z; cases z⟩
      · obtain ⟨j, v, a1, a2, a3, a4⟩ := ih (i + 1) q h1
        exact ⟨j + 1, v, by omega, by simpa using a2, a3, a4⟩
    · rcases List.mem_cons.mp hq with e1 | h1
      · exact ⟨0, xr r, by rw [e1]; rfl, rfl, by rw [e1], by intro z; cases z⟩
      · obtain ⟨j, v, a1, a2, a3, a4⟩ := ih (i + 1) q h1
        exact ⟨j + 1, v, by omega, by simpa using a2, a3, a4⟩
    · obtain ⟨j, v, a1, a2, a3, a4⟩ := ih (i + 1) q hq
      exact ⟨j + 1, v, by omega, by simpa using a2, a3, a4⟩
theorem x_ld {la : Array Slot} {nL j : Nat} {v : xV} (hl : lv_has la nL (x_lv g 0 ls)) (hv : v ≠ xu) (hj : ls[j]? = some v) : la[j]? = some (.val (x_v g v)) := by
  have h1 := hl.2.2 _ (x_lv_at (g := g) (i := 0) hv ls j hj)
  have e1 : 0 + j = j := by omega
  rw [e1] at h1
  exact h1
theorem xj_iload {i : Nat} {x : Int} (hd : decode (x_cd M) pc = .ok (.iload i, 2)) (hi : ls[i]? = some (xi x)) (kk : xJ g D M k n (pc + 2) ls (xi x :: st) h Q) : xJ g D M k n pc ls st h Q := by
  intro p e s m args below meth c H locs la C R S hl ol os hk hn
  have kk := kk p e s m args below meth c H locs la C R S hl ol (x_okc (ol _ (List.mem_of_getElem? hi)) os) hk hn
  exact lv_iload C.1 C.2.1 hd (x_ld hl (by intro z; cases z) hi) kk
theorem xj_iload_n {i : Fin 4} {x : Int} (hd : decode (x_cd M) pc = .ok (.iload_n i, 1)) (hi : ls[(i : Nat)]? = some (xi x)) (kk : xJ g D M k n (pc + 1) ls (xi x :: st) h Q) : xJ g D M k n pc ls st h Q := by
  intro p e s m args below meth c H locs la C R S hl ol os hk hn
  have kk := kk p e s m args below meth c H locs la C R S hl ol (x_okc (ol _ (List.mem_of_getElem? hi)) os) hk hn
  exact lv_iload_n C.1 C.2.1 hd rfl (x_ld hl (by intro z; cases z) hi) kk
theorem xj_lload {i : Nat} {x : Int} (hd : decode (x_cd M) pc = .ok (.lload i, 2)) (hi : ls[i]? = some (xl x)) (kk : xJ g D M k n (pc + 2) ls (xl x :: st) h Q) : xJ g D M k n pc ls st h Q := by
  intro p e s m args below meth c H locs la C R S hl ol os hk hn
  have kk := kk p e s m args below meth c H locs la C R S hl ol (x_okc (ol _ (List.mem_of_getElem? hi)) os) hk hn
  exact lv_lload C.1 C.2.1 hd (x_ld hl (by intro z; cases z) hi) kk
theorem xj_lload_n {i : Fin 4} {x : Int} (hd : decode (x_cd M) pc = .ok (.lload_n i, 1)) (hi : ls[(i : Nat)]? = some (xl x)) (kk : xJ g D M k n (pc + 1) ls (xl x :: st) h Q) : xJ g D M k n pc ls st h Q := by
  intro p e s m args below meth c H locs la C R S hl ol os hk hn
  have kk := kk p e s m args below meth c H locs la C R S hl ol (x_okc (ol _ (List.mem_of_getElem? hi)) os) hk hn
  exact lv_lload_n C.1 C.2.1 hd rfl (x_ld hl (by intro z; cases z) hi) kk
theorem x_rn (r : Nat) : (r = 0 ∧ x_v g (xr r) = .null) ∨ (r ≠ 0 ∧ x_v g (xr r) = .ref (x_ad g r)) := by
  by_cases hr : r = 0
  · subst hr
    exact Or.inl ⟨rfl, rfl⟩
  · exact Or.inr ⟨hr, by simp [x_v, x_ro, hr, va_rf]⟩
theorem xj_aload {i : Nat} {r : Nat} (hd : decode (x_cd M) pc = .ok (.aload i, 2)) (hi : ls[i]? = some (xr r)) (kk : xJ g D M k n (pc + 2) ls (xr r :: st) h Q) : xJ g D M k n pc ls st h Q := by
  intro p e s m args below meth c H locs la C R S hl ol os hk hn
  have kk := kk p e s m args below meth c H locs la C R S hl ol (x_okc trivial os) hk hn
  have h1 := x_ld hl (by intro z; cases z) hi
  rcases x_rn (g := g) r with ⟨-, e1⟩ | ⟨-, e1⟩
  · rw [e1] at h1
    rw [List.map_cons, e1] at kk
    exact lv_aloadN C.1 C.2.1 hd h1 kk
  · rw [e1] at h1
    rw [List.map_cons, e1] at kk
    exact lv_aload C.1 C.2.1 hd h1 kk
theorem xj_aload_n {i : Fin 4} {r : Nat} (hd : decode (x_cd M) pc = .ok (.aload_n i, 1)) (hi : ls[(i : Nat)]? = some (xr r)) (kk : xJ g D M k n (pc + 1) ls (xr r :: st) h Q) : xJ g D M k n pc ls st h Q := by
  intro p e s m args below meth c H locs la C R S hl ol os hk hn
  have kk := kk p e s m args below meth c H locs la C R S hl ol (x_okc trivial os) hk hn
  have h1 := x_ld hl (by intro z; cases z) hi
  rcases x_rn (g := g) r with ⟨-, e1⟩ | ⟨-, e1⟩
  · rw [e1] at h1
    rw [List.map_cons, e1] at kk
    exact lv_aload_nN C.1 C.2.1 hd rfl h1 kk
  · rw [e1] at h1
    rw [List.map_cons, e1] at kk
    exact lv_aload_n C.1 C.2.1 hd rfl h1 kk
/-! stores: what stands below a store and is a long there, is gone; a long takes two places -/
def x_isL : xV → Bool
  | .inr (.inl _) => true
  | _ => false
def x_kl (ls : List xV) (i : Nat) : List xV := match i with
  | 0 => ls
  | j + 1 => match ls[j]? with
    | some (.inr (.inl _)) => ls.set j xu
    | _ => ls
def x_st1 (ls : List xV) (i : Nat) (v : xV) : List xV := (x_kl ls i).set i v
def x_st2 (ls : List xV) (i : Nat) (v : xV) : List xV := ((x_kl ls i).set i v).set (i + 1) xu
theorem x_kl_at {i j : Nat} {v : xV} (h1 : (x_kl ls i)[j]? = some v) (hv : v ≠ xu) : ls[j]? = some v ∧ ¬ (j + 1 = i ∧ ∃ x, v = xl x) := by
  unfold x_kl at h1
  split at h1
  · exact ⟨h1, fun z => by omega⟩
  · rename_i i
    split at h1
    · rename_i x hx
      rw [List.getElem?_set] at h1
      split at h1
      · split at h1
        · exact absurd (Option.some.inj h1).symm hv
        · cases h1
      · exact ⟨h1, fun z => by omega⟩
    · rename_i hx
      refine ⟨h1, fun z => ?_⟩
      obtain ⟨a1, x, a2⟩ := z
      have e1 : j = i := by omega
      subst e1
      rw [a2] at h1
      exact hx x h1
theorem x_kl_ok {i : Nat} (ol : ∀ v ∈ ls, x_ok v) : ∀ v ∈ x_kl ls i, x_ok v := by
  unfold x_kl
  split
  · exact ol
  · split
    · intro v hv
      rcases List.mem_or_eq_of_mem_set hv with h1 | h1
      · exact ol v h1
      · rw [h1]; trivial
    · exact ol
theorem x_st1_ok {i : Nat} {v : xV} (hv : x_ok v) (ol : ∀ v ∈ ls, x_ok v) : ∀ w ∈ x_st1 ls i v, x_ok w := by
  intro w hw
  rcases List.mem_or_eq_of_mem_set hw with h1 | h1
  · exact x_kl_ok ol w h1
  · rw [h1]; exact hv
theorem x_st2_ok {i : Nat} {v : xV} (hv : x_ok v) (ol : ∀ v ∈ ls, x_ok v) : ∀ w ∈ x_st2 ls i v, x_ok w := by
  intro w hw
  rcases List.mem_or_eq_of_mem_set hw with h1 | h1
  · exact x_st1_ok hv ol w h1
  · rw [h1]; trivial
theorem x_cat2 {v : xV} (h1 : (x_v g v).category = 2) : ∃ x, v = xl x := by
  rcases v with x | x | r | u
  · cases h1
  · exact ⟨x, rfl⟩
  · exfalso
    have h2 := x_cat1 (g := g) (v := xr r) (by intro x z; cases z)
    rw [h2] at h1
    cases h1
  · cases h1
theorem x_st1_has {la : Array Slot} {nL i : Nat} {v : xV} (hh : lv_has la nL ((i, x_v g v) :: (x_lv g 0 ls).filter (fun q => !(q.1 == i) && !(q.1 + 1 == i && q.2.category == 2)))) : lv_has la nL (x_lv g 0 (x_st1 ls i v)) := by
  refine ⟨hh.1, hh.2.1, fun q hq => hh.2.2 q ?_⟩
  obtain ⟨j, w, a1, a2, a3, a4⟩ := x_lv_mem _ 0 q hq
  have a1 : q.1 = j := by omega
  unfold x_st1 at a2
  rw [List.getElem?_set] at a2
  by_cases hij : i = j
  · rw [if_pos hij] at a2
    split at a2
    · have e1 : v = w := Option.some.inj a2
      have e2 : q = (i, x_v g v) := Prod.ext (by rw [a1, hij]) (by rw [a3, e1])
      rw [e2]
      exact List.mem_cons_self
    · cases a2
  · rw [if_neg hij] at a2
    obtain ⟨b1, b2⟩ := x_kl_at a2 a4
    refine List.mem_cons_of_mem _ (List.mem_filter.mpr ⟨?_, ?_⟩)
    · have h3 := x_lv_at (g := g) (i := 0) a4 ls j b1
      have e3 : q = (0 + j, x_v g w) := Prod.ext (by rw [a1]; omega) a3
      rw [e3]
      exact h3
    · have c1 : (q.1 == i) = false := by rw [a1]; exact beq_false_of_ne (fun z => hij z.symm)
      rw [c1]
      by_cases c2 : j + 1 = i
      · have c3 : (q.2.category == 2) = false := by
          refine beq_false_of_ne (fun z => b2 ⟨c2, ?_⟩)
          rw [a3] at z
          exact x_cat2 z
        rw [c3]
        simp
      · have c4 : (q.1 + 1 == i) = false := by rw [a1]; exact beq_false_of_ne c2
        rw [c4]
        simp
theorem x_st2_has {la : Array Slot} {nL i : Nat} {v : xV} (hh : lv_has la nL ((i, x_v g v) :: (x_lv g 0 ls).filter (fun q => !(q.1 == i) && (!(q.1 == i + 1) && !(q.1 + 1 == i && q.2.category == 2))))) : lv_has la nL (x_lv g 0 (x_st2 ls i v)) := by
  refine ⟨hh.1, hh.2.1, fun q hq => hh.2.2 q ?_⟩
  obtain ⟨j, w, a1, a2, a3, a4⟩ := x_lv_mem _ 0 q hq
  have a1 : q.1 = j := by omega
  unfold x_st2 at a2
  rw [List.getElem?_set] at a2
  by_cases hi1 : i + 1 = j
  · rw [if_pos hi1] at a2
    split at a2
    · exact absurd (Option.some.inj a2).symm a4
    · cases a2
  · rw [if_neg hi1] at a2
    rw [List.getElem?_set] at a2
    by_cases hij : i = j
    · rw [if_pos hij] at a2
      split at a2
      · have e1 : v = w := Option.some.inj a2
        have e2 : q = (i, x_v g v) := Prod.ext (by rw [a1, hij]) (by rw [a3, e1])
        rw [e2]
        exact List.mem_cons_self
      · cases a2
    · rw [if_neg hij] at a2
      obtain ⟨b1, b2⟩ := x_kl_at a2 a4
      refine List.mem_cons_of_mem _ (List.mem_filter.mpr ⟨?_, ?_⟩)
      · have h3 := x_lv_at (g := g) (i := 0) a4 ls j b1
        have e3 : q = (0 + j, x_v g w) := Prod.ext (by rw [a1]; omega) a3
        rw [e3]
        exact h3
      · have c1 : (q.1 == i) = false := by rw [a1]; exact beq_false_of_ne (fun z => hij z.symm)
        have c5 : (q.1 == i + 1) = false := by rw [a1]; exact beq_false_of_ne (fun z => hi1 z.symm)
        rw [c1, c5]
        by_cases c2 : j + 1 = i
        · have c3 : (q.2.category == 2) = false := by
            refine beq_false_of_ne (fun z => b2 ⟨c2, ?_⟩)
            rw [a3] at z
            exact x_cat2 z
          rw [c3]
          simp
        · have c4 : (q.1 + 1 == i) = false := by rw [a1]; exact beq_false_of_ne c2
          rw [c4]
          simp
theorem xj_istore {i : Nat} {x : Int} (hd : decode (x_cd M) pc = .ok (.istore i, 2)) (hi : i < x_ml M) (kk : xJ g D M k n (pc + 2) (x_st1 ls i (xi x)) st h Q) : xJ g D M k n pc ls (xi x :: st) h Q := by
  intro p e s m args below meth c H locs la C R S hl ol os hk hn
  exact lv_istore C.1 C.2.1 hd hl hi rfl (fun la2 hl2 => kk p e s m args below meth c H locs la2 C R S (x_st1_has (v := xi x) hl2) (x_st1_ok (x_okh os) ol) (x_okt os) hk hn)
theorem xj_istore_n {i : Fin 4} {x : Int} (hd : decode (x_cd M) pc = .ok (.istore_n i, 1)) (hi : (i : Nat) < x_ml M) (kk : xJ g D M k n (pc + 1) (x_st1 ls i (xi x)) st h Q) : xJ g D M k n pc ls (xi x :: st) h Q := by
  intro p e s m args below meth c H locs la C R S hl ol os hk hn
  exact lv_istore_n C.1 C.2.1 hd rfl hl hi rfl (fun la2 hl2 => kk p e s m args below meth c H locs la2 C R S (x_st1_has (v := xi x) hl2) (x_st1_ok (x_okh os) ol) (x_okt os) hk hn)
theorem xj_lstore {i : Nat} {x : Int} (hd : decode (x_cd M) pc = .ok (.lstore i, 2)) (hi : i + 1 < x_ml M) (kk : xJ g D M k n (pc + 2) (x_st2 ls i (xl x)) st h Q) : xJ g D M k n pc ls (xl x :: st) h Q := by
  intro p e s m args below meth c H locs la C R S hl ol os hk hn
  exact lv_lstore C.1 C.2.1 hd hl hi rfl (fun la2 hl2 => kk p e s m args below meth c H locs la2 C R S (x_st2_has (v := xl x) hl2) (x_st2_ok (x_okh os) ol) (x_okt os) hk hn)
theorem xj_lstore_n {i : Fin 4} {x : Int} (hd : decode (x_cd M) pc = .ok (.lstore_n i, 1)) (hi : (i : Nat) + 1 < x_ml M) (kk : xJ g D M k n (pc + 1) (x_st2 ls i (xl x)) st h Q) : xJ g D M k n pc ls (xl x :: st) h Q := by
  intro p e s m args below meth c H locs la C R S hl ol os hk hn
  exact lv_lstore_n C.1 C.2.1 hd rfl hl hi rfl (fun la2 hl2 => kk p e s m args below meth c H locs la2 C R S (x_st2_has (v := xl x) hl2) (x_st2_ok (x_okh os) ol) (x_okt os) hk hn)
theorem xj_astore {i : Nat} {r : Nat} (hd : decode (x_cd M) pc = .ok (.astore i, 2)) (hi : i < x_ml M) (kk : xJ g D M k n (pc + 2) (x_st1 ls i (xr r)) st h Q) : xJ g D M k n pc ls (xr r :: st) h Q := by
  intro p e s m args below meth c H locs la C R S hl ol os hk hn
  have hsv : ∀ la2, lv_has la2 (x_ml M) ((i, x_v g (xr r)) :: (x_lv g 0 ls).filter (fun q => !(q.1 == i) && !(q.1 + 1 == i && q.2.category == 2))) → W p g.l e (x_rm D M) s m args below meth c H locs k n (MQ below (x_Q g Q) args s (x_bc M) (x_bs M) (x_A g)) (F0 m (pc + 2) la2 (st.map (x_v g))) := fun la2 hl2 => kk p e s m args below meth c H locs la2 C R S (x_st1_has (v := xr r) hl2) (x_st1_ok trivial ol) (x_okt os) hk hn
  rw [List.map_cons]
  rcases x_rn (g := g) r with ⟨-, e1⟩ | ⟨-, e1⟩
  · rw [e1] at hsv ⊢
    exact lv_astoreN C.1 C.2.1 hd hl hi rfl hsv
  · rw [e1] at hsv ⊢
    exact lv_astore C.1 C.2.1 hd hl hi rfl hsv
theorem xj_astore_n {i : Fin 4} {r : Nat} (hd : decode (x_cd M) pc = .ok (.astore_n i, 1)) (hi : (i : Nat) < x_ml M) (kk : xJ g D M k n (pc + 1) (x_st1 ls i (xr r)) st h Q) : xJ g D M k n pc ls (xr r :: st) h Q := by
  intro p e s m args below meth c H locs la C R S hl ol os hk hn
  have hsv : ∀ la2, lv_has la2 (x_ml M) (((i : Nat), x_v g (xr r)) :: (x_lv g 0 ls).filter (fun q => !(q.1 == (i : Nat)) && !(q.1 + 1 == (i : Nat) && q.2.category == 2))) → W p g.l e (x_rm D M) s m args below meth c H locs k n (MQ below (x_Q g Q) args s (x_bc M) (x_bs M) (x_A g)) (F0 m (pc + 1) la2 (st.map (x_v g))) := fun la2 hl2 => kk p e s m args below meth c H locs la2 C R S (x_st1_has (v := xr r) hl2) (x_st1_ok trivial ol) (x_okt os) hk hn
  rw [List.map_cons]
  rcases x_rn (g := g) r with ⟨-, e1⟩ | ⟨-, e1⟩
  · rw [e1] at hsv ⊢
    exact lv_astore_nN C.1 C.2.1 hd rfl hl hi rfl hsv
  · rw [e1] at hsv ⊢
    exact lv_astore_n C.1 C.2.1 hd rfl hl hi rfl hsv
theorem xj_iinc {i : Nat} {x j : Int} (hd : decode (x_cd M) pc = .ok (.iinc i j, 3)) (hi : i < x_ml M) (hx : ls[i]? = some (xi x)) (kk : xJ g D M k n (pc + 3) (x_st1 ls i (xi (x32 (x + j)))) st h Q) : xJ g D M k n pc ls st h Q := by
  intro p e s m args below meth c H locs la C R S hl ol os hk hn
  have h1 := x_lv_at (g := g) (i := 0) (v := xi x) (by intro z; cases z) ls i hx
  obtain ⟨q, hq⟩ := List.getElem?_of_mem h1
  have e0 : (0 + i, x_v g (xi x)) = (i, Value.int (Int32.ofInt x)) := Prod.ext (by simp) rfl
  rw [e0] at hq
  exact lv_iinc C.1 C.2.1 hd hl hq (xn_add x j) hi rfl (fun la2 hl2 => kk p e s m args below meth c H locs la2 C R S (x_st1_has (v := xi (x32 (x + j))) hl2) (x_st1_ok (x32_idem _) ol) os hk hn)
/-! what is known of locals may be forgotten -/
theorem xj_fg {ls' : List xV} (hs : ∀ (j : Nat) (v : xV), ls'[j]? = some v → v = xu ∨ ls[j]? = some v) (kk : xJ g D M k n pc ls' st h Q) : xJ g D M k n pc ls st h Q := by
  intro p e s m args below meth c H locs la C R S hl ol os hk hn
  refine kk p e s m args below meth c H locs la C R S ⟨hl.1, hl.2.1, fun q hq => ?_⟩ ?_ os hk hn
  · obtain ⟨j, w, a1, a2, a3, a4⟩ := x_lv_mem _ 0 q hq
    rcases hs j w a2 with b | b
    · exact absurd b a4
    · have h3 := x_lv_at (g := g) (i := 0) a4 ls j b
      have e3 : q = (0 + j, x_v g w) := Prod.ext a1 a3
      rw [e3]
      exact hl.2.2 _ h3
  · intro v hv
    obtain ⟨j, hj⟩ := List.getElem?_of_mem hv
    rcases hs j v hj with b | b
    · rw [b]; trivial
    · exact ol v (List.mem_of_getElem? b)
end XR
end
section
/-! the walk, instruction by instruction: the heap -/
theorem x_ft_lt : ∀ l ∈ x_ft, ∀ t ∈ l, t < 4 := by decide +kernel
theorem x_tc_lt (c j : Nat) : x_tc c j < 4 := by
  unfold x_tc
  split
  · decide
  split
  · decide
  split
  · decide
  split
  · decide
  · rw [List.getD_eq_getElem?_getD, List.getD_eq_getElem?_getD]
    cases h1 : x_ft[c]? with
    | none => simp
    | some l =>
      simp only [Option.getD_some]
      cases h2 : l[j]? with
      | none => simp
      | some t => exact x_ft_lt l (List.mem_of_getElem? h1) t (List.mem_of_getElem? h2)
theorem x_cl_lay0 : ∀ q ∈ x_cl, ∀ w ∈ u_ws q.1 q.2.1 q.2.2, w ∈ x_tb := by decide +kernel
theorem x_cl_lay {c : Nat} {q : vw_C} (h : x_cl[c]? = some q) : ∀ w ∈ u_ws q.1 q.2.1 q.2.2, w ∈ x_tb := x_cl_lay0 q (List.mem_of_getElem? h)
def x_ty (c : Nat) : Nat → FieldType := fun k => (x_fT.getD c []).getD k .int
theorem x_cl_ty0 : ∀ c, c < 10 → ∀ q, x_cl[c]? = some q → ∀ k, k < q.2.2 → parseFieldDescriptor (q.2.1 k).2.2.1 = some (x_ty c k) := by
  intro c hc
  match c, hc with
  | 0, _ => intro q hq; cases hq; decide +kernel
  | 1, _ => intro q hq; cases hq; decide +kernel
  | 2, _ => intro q hq; cases hq; decide +kernel
  | 3, _ => intro q hq; cases hq; decide +kernel
  | 4, _ => intro q hq; cases hq; decide +kernel
  | 5, _ => intro q hq; cases hq; decide +kernel
  | 6, _ => intro q hq; cases hq; decide +kernel
  | 7, _ => intro q hq; cases hq; decide +kernel
  | 8, _ => intro q hq; cases hq; decide +kernel
  | 9, _ => intro q hq; cases hq; decide +kernel
theorem x_cl_nm : ∀ q ∈ x_cl, ∀ a, a < q.2.2 → ∀ b, b < q.2.2 → a ≠ b → (q.2.1 a).2.1 ≠ (q.2.1 b).2.1 := by decide +kernel
theorem x_cl_len : ∀ c, c < 10 → ∃ q, x_cl[c]? = some q ∧ q.2.1 = x_T c ∧ q.1 = x_cn.getD c "" ∧ q.2.2 = (x_ft.getD c []).length := by
  intro c hc
  match c, hc with
  | 0, _ => exact ⟨_, rfl, rfl, rfl, rfl⟩
  | 1, _ => exact ⟨_, rfl, rfl, rfl, rfl⟩
  | 2, _ => exact ⟨_, rfl, rfl, rfl, rfl⟩
  | 3, _ => exact ⟨_, rfl, rfl, rfl, rfl⟩
  | 4, _ => exact ⟨_, rfl, rfl, rfl, rfl⟩
  | 5, _ => exact ⟨_, rfl, rfl, rfl, rfl⟩
  | 6, _ => exact ⟨_, rfl, rfl, rfl, rfl⟩
  | 7, _ => exact ⟨_, rfl, rfl, rfl, rfl⟩
  | 8, _ => exact ⟨_, rfl, rfl, rfl, rfl⟩
  | 9, _ => exact ⟨_, rfl, rfl, rfl, rfl⟩
/-- a type's number says what a place's type may be -/
def x_tyok (t : Nat) (ty : FieldType) : Bool := match t, ty with
  | 0, .int => true
  | 1, .long => true
  | 3, .boolean => true
  | 2, .object _ => true
  | 2, .array _ => true
  | _, _ => false
theorem x_ty_tc0 : ∀ c, c < 10 → ∀ j, j < (x_ft.getD c []).length → x_tyok ((x_ft.getD c []).getD j 0) (x_ty c j) = true := by decide +kernel
theorem x_ty_tc {c j : Nat} (hc : c < 10) (hj : j < (x_ft.getD c []).length) : x_tyok (x_tc c j) (x_ty c j) = true := by
  have h := x_ty_tc0 c hc j hj
  unfold x_tc
  rw [if_neg (by omega), if_neg (by omega), if_neg (by omega), if_neg (by omega)]
  exact h
/-- the cell r is of kind c and has N places -/
def x_is (h : xH) (r c N : Nat) : Prop := 16 ≤ r ∧ h.1[r - 16]? = some (c, N)
theorem x_ws_at {g : xG} {h : xH} {r c N : Nat} (hr : x_is h r c N) : (x_ws g h)[r - 16]? = some (x_ad g r, x_E g (c, N) (h.2 r)) := by
  obtain ⟨h1, h2⟩ := hr
  have h3 : r - 16 < h.1.length := (List.getElem?_eq_some_iff.mp h2).1
  unfold x_ws
  rw [List.getElem?_map, List.getElem?_range h3]
  simp only [Option.map_some]
  have e1 : h.1.getD (r - 16) (0, 0) = (c, N) := by rw [List.getD_eq_getElem?_getD, h2]; rfl
  have e2 : r - 16 + 16 = r := by omega
  rw [e1, e2]
  unfold x_ad
  rw [if_neg (by omega)]
theorem x_E_obj {g : xG} {c N : Nat} {f : Nat → Int} (hc : c < 10) : x_E g (c, N) f = .inr (c, (List.range N).map fun j => x_v g (x_fv g (x_tc c j) (f j))) := by
  unfold x_E
  rw [if_neg (by show ¬ c = 10; omega), if_neg (by show ¬ c = 11; omega), if_neg (by show ¬ c = 12; omega), if_neg (by show ¬ c = 13; omega)]
theorem x_fs_at {g : xG} {c N j : Nat} {f : Nat → Int} (hj : j < N) : ((List.range N).map fun j => x_v g (x_fv g (x_tc c j) (f j)))[j]? = some (x_v g (x_fv g (x_tc c j) (f j))) := by
  rw [List.getElem?_map, List.getElem?_range hj]
  rfl
/-- what is read is a value -/
theorem x_rd_ok {g : xG} {h : xH} {r c N j : Nat} (hh : x_okH h) (hr : x_is h r c N) (hj : j < N) : x_ok (x_fv g (x_tc c j) (h.2 r j)) := by
  obtain ⟨h1, h2⟩ := hr
  obtain ⟨-, -, -, h3⟩ := hh _ _ h2
  have h4 := h3 j hj
  have e2 : r - 16 + 16 = r := by omega
  rw [e2] at h4
  have h5 := x_tc_lt c j
  unfold x_fv
  split
  · rename_i h6; exact h4.2.2 h6
  split
  · trivial
  · rename_i h6 h7
    have h8 : x_tc c j = 0 ∨ x_tc c j = 3 := by omega
    rcases h8 with h8 | h8
    · exact h4.1 h8
    · rcases h4.2.1 h8 with q | q
      · show x32 (h.2 r j) = h.2 r j
        rw [q]; rfl
      · show x32 (h.2 r j) = h.2 r j
        rw [q]; decide
/-- one place changed -/
def x_up (C : Nat → Nat → Int) (r j : Nat) (v : Int) : Nat → Nat → Int := fun r' j' => if r' = r then if j' = j then v else C r' j' else C r' j'
theorem x_is_up {h : xH} {r c N r1 j1 : Nat} {v : Int} (hr : x_is h r c N) : x_is (h.1, x_up h.2 r1 j1 v) r c N := hr
theorem x_ok_up {h : xH} {r c N j : Nat} {v : Int} (hh : x_okH h) (hr : x_is h r c N) (h0 : x_tc c j = 0 → x32 v = v) (h3 : x_tc c j = 3 → v = 0 ∨ v = 1) (h1 : x_tc c j = 1 → x64 v = v) : x_okH (h.1, x_up h.2 r j v) := by
  intro k e hk
  obtain ⟨a1, a2, a3, a4⟩ := hh k e hk
  refine ⟨a1, a2, a3, fun i hi => ?_⟩
  show (x_tc e.1 i = 0 → x32 (x_up h.2 r j v (k + 16) i) = x_up h.2 r j v (k + 16) i) ∧ (x_tc e.1 i = 3 → x_up h.2 r j v (k + 16) i = 0 ∨ x_up h.2 r j v (k + 16) i = 1) ∧ (x_tc e.1 i = 1 → x64 (x_up h.2 r j v (k + 16) i) = x_up h.2 r j v (k + 16) i)
  unfold x_up
  split
  · rename_i e1
    split
    · rename_i e2
      obtain ⟨b1, b2⟩ := hr
      have e3 : r - 16 = k := by omega
      rw [e3] at b2
      have e4 : e = (c, N) := Option.some.inj (hk.symm.trans b2)
      rw [e4, e2]
      exact ⟨h0, h3, h1⟩
    · exact a4 i hi
  · exact a4 i hi
theorem x_P_put {g : xG} {h : xH} {H H1 : Heap} {r c N : Nat} {C : Nat → Nat → Int} (hP : va_P g.D x_cl (x_ws g h) H) (hr : x_is h r c N) (hn : va_at g.D x_cl (x_ad g r, x_E g (c, N) (C r)) H1) (ho : ∀ q : Nat, q ≠ x_ad g r → H1[q]? = H[q]?) (hC : ∀ q, q ≠ r → C q = h.2 q) : va_P g.D x_cl (x_ws g (h.1, C)) H1 := by
  intro k q hq
  unfold x_ws at hq
  rw [List.getElem?_map] at hq
  by_cases hk : k < h.1.length
  · rw [List.getElem?_range hk] at hq
    simp only [Option.map_some, Option.some.injEq] at hq
    by_cases e1 : k + 16 = r
    · have h2 := hr.2
      have e2 : r - 16 = k := by omega
      rw [e2] at h2
      have e3 : h.1.getD k (0, 0) = (c, N) := by rw [List.getD_eq_getElem?_getD, h2]; rfl
      have e4 : x_ad g r = g.b + k := by unfold x_ad; rw [if_neg (by have := hr.1; omega), e2]
      rw [← hq]
      show va_at g.D x_cl (g.b + k, x_E g (h.1.getD k (0, 0)) (C (k + 16))) H1
      rw [e3, e1, ← e4]
      exact hn
    · have h3 : (x_ws g h)[k]? = some q := by
        unfold x_ws
        rw [List.getElem?_map, List.getElem?_range hk]
        simp only [Option.map_some]
        rw [← hC (k + 16) e1]
        exact congrArg some hq
      refine (hP k q h3).kept (ho _ ?_)
      rw [← hq]
      show g.b + k ≠ x_ad g r
      unfold x_ad
      rw [if_neg (by have := hr.1; omega)]
      have := hr.1
      omega
  · rw [List.getElem?_eq_none (by rw [List.length_range]; show h.1.length ≤ k; omega)] at hq
    cases hq
theorem x_P_push {g : xG} {h : xH} {H H1 : Heap} {e : Nat × Nat} {C : Nat → Nat → Int} (hz : H.size = g.b + h.1.length) (hP : va_P g.D x_cl (x_ws g h) H) (hn : va_at g.D x_cl (H.size, x_E g e (C (h.1.length + 16))) H1) (ho : ∀ q : Nat, q < H.size → H1[q]? = H[q]?) (hC : ∀ q, q < h.1.length + 16 → C q = h.2 q) : va_P g.D x_cl (x_ws g (h.1 ++ [e], C)) H1 := by
  intro k q hq
  unfold x_ws at hq
  rw [List.getElem?_map] at hq
  simp only [List.length_append, List.length_cons, List.length_nil, Nat.zero_add] at hq
  by_cases hk : k < h.1.length
  · rw [List.getElem?_range (by omega)] at hq
    simp only [Option.map_some, Option.some.injEq] at hq
    have h3 : (x_ws g h)[k]? = some q := by
      unfold x_ws
      rw [List.getElem?_map, List.getElem?_range hk]
      simp only [Option.map_some]
      rw [← hC (k + 16) (by omega), ← hq]
      simp only [List.getD_eq_getElem?_getD, List.getElem?_append_left hk]
    refine (hP k q h3).kept (ho _ ?_)
    rw [← hq]
    show g.b + k < H.size
    omega
  · by_cases hk2 : k = h.1.length
    · rw [List.getElem?_range (by omega)] at hq
      simp only [Option.map_some, Option.some.injEq] at hq
      rw [← hq]
      have e3 : (h.1 ++ [e]).getD k (0, 0) = e := by
        rw [List.getD_eq_getElem?_getD, List.getElem?_append_right (by omega), hk2]
        simp
      show va_at g.D x_cl (g.b + k, x_E g ((h.1 ++ [e]).getD k (0, 0)) (C (k + 16))) H1
      rw [e3, hk2, ← hz]
      exact hn
    · rw [List.getElem?_eq_none (by rw [List.length_range]; omega)] at hq
      cases hq
theorem x_ok_push {h : xH} {e : Nat × Nat} {C : Nat → Nat → Int} (hh : x_okH h) (h1 : e.1 < 10 → e.2 = (x_ft.getD e.1 []).length) (h2 : e.1 < 14) (h3 : e.2 < 1000000) (hC : ∀ q, q < h.1.length + 16 → C q = h.2 q) (hz : ∀ j, C (h.1.length + 16) j = 0) : x_okH (h.1 ++ [e], C) := by
  intro k e2 hk
  by_cases hl : k < h.1.length
  · have hk2 : h.1[k]? = some e2 := by
      have hk3 : (h.1 ++ [e])[k]? = some e2 := hk
      rw [List.getElem?_append_left hl] at hk3
      exact hk3
    obtain ⟨a1, a2, a3, a4⟩ := hh k e2 hk2
    refine ⟨a1, a2, a3, fun j hj => ?_⟩
    have a5 := a4 j hj
    show (x_tc e2.1 j = 0 → x32 (C (k + 16) j) = C (k + 16) j) ∧ (x_tc e2.1 j = 3 → C (k + 16) j = 0 ∨ C (k + 16) j = 1) ∧ (x_tc e2.1 j = 1 → x64 (C (k + 16) j) = C (k + 16) j)
    rw [hC (k + 16) (by omega)]
    exact a5
  · have hk3 : (h.1 ++ [e])[k]? = some e2 := hk
    rw [List.getElem?_append_right (by omega)] at hk3
    have h5 : k - h.1.length < 1 := (List.getElem?_eq_some_iff.mp hk3).1
    have h6 : k = h.1.length := by omega
    rw [show k - h.1.length = 0 by omega] at hk3
    have e3 : e = e2 := by simpa using hk3
    subst e3
    refine ⟨h1, h2, h3, fun j hj => ?_⟩
    show (x_tc e.1 j = 0 → x32 (C (k + 16) j) = C (k + 16) j) ∧ (x_tc e.1 j = 3 → C (k + 16) j = 0 ∨ C (k + 16) j = 1) ∧ (x_tc e.1 j = 1 → x64 (C (k + 16) j) = C (k + 16) j)
    rw [h6, hz j]
    exact ⟨fun _ => xn_ok0, fun _ => Or.inl rfl, fun _ => xn_ok0L⟩
section XR2
variable {g : xG} {D M k n pc : Nat} {ls st : List xV} {h : xH} {Q : xV → xH → Prop}
theorem x_ne0 {r c N : Nat} (hr : x_is h r c N) : x_v g (xr r) = .ref (x_ad g r) := by
  rcases x_rn (g := g) r with ⟨e, -⟩ | ⟨-, e⟩
  · have := hr.1; omega
  · exact e
theorem x_inA {r c N : Nat} (hr : x_is h r c N) : x_A g (x_ad g r) := by
  unfold x_A x_ad
  rw [if_neg (by have := hr.1; omega)]
  omega
theorem xj_getfield {i r c N j : Nat} (hd : decode (x_cd M) pc = .ok (.getfield i, 3)) (hr : x_is h r c N) (hc : c < 10) (hj : j < (x_ft.getD c []).length) (hw : Cond.fieldLink (x_y M).cls i (x_T c j).1 (x_T c j).2.1 (x_T c j).2.2.1 ∈ x_tb) (kk : xJ g D M k n (pc + 3) ls (x_fv g (x_tc c j) (h.2 r j) :: st) h Q) : xJ g D M k n pc ls (xr r :: st) h Q := by
  intro p e s m args below meth c0 H locs la C R S hl ol os hk hn
  obtain ⟨q, hq, q1, q2, q3⟩ := x_cl_len c hc
  have hN : N = (x_ft.getD c []).length := (R.2.2 _ _ hr.2).1 hc
  have hj2 : j < N := by omega
  have kk := kk p e s m args below meth c0 H locs la C R S hl ol (x_okc (x_rd_ok R.2.2 hr hj2) (x_okt os)) hk hn
  have he := x_ws_at (g := g) hr
  rw [x_E_obj hc] at he
  rw [List.map_cons, x_ne0 hr]
  have hcl : x_cl[c]? = some (q.1, q.2.1, q.2.2) := hq
  refine va_get (Ts := x_tb) C.1 C.2.1 C.2.2.2.2.2.1 (x_cl_lay hcl) C.2.2.2.2.1 C.2.2.2.2.2.2.2.2.1 R.2.1 (r - 16) he hcl j (by rw [q3]; exact hj) ?_ (ref := (x_T c j).1) ?_ (x_fs_at hj2) hd kk
  · rw [q1]; exact C.2.2.2.2.2.1 _ hw
  · rw [q1]; exact fun _ z => z
/-- a value fits a place -/
def x_fit (t : Nat) : xV → Prop
  | .inl x => t = 0 ∨ (t = 3 ∧ (x = 0 ∨ x = 1))
  | .inr (.inl _) => t = 1
  | .inr (.inr (.inl _)) => t = 2
  | _ => False
/-- what a heap keeps of a value -/
def x_pl : xV → Int
  | .inl x => x
  | .inr (.inl x) => x
  | .inr (.inr (.inl r)) => (r : Int)
  | _ => 0
theorem x_fit_fv {t : Nat} {v : xV} (hf : x_fit t v) : x_fv g t (x_pl v) = v := by
  rcases v with x | x | r | u
  · rcases hf with e1 | ⟨e1, -⟩ <;> subst e1 <;> rfl
  · have e1 : t = 1 := hf
    subst e1; rfl
  · have e1 : t = 2 := hf
    subst e1
    show xr ((r : Int)).toNat = xr r
    simp
  · exact absurd hf id
theorem x_fit_nar {t : Nat} {ty : FieldType} {v : xV} (hf : x_fit t v) (ht : x_tyok t ty = true) : narrow ty (x_v g v) = x_v g v ∧ fits ty (x_v g v) = true := by
  rcases v with x | x | r | u
  · rcases hf with e1 | ⟨e1, e2⟩
    · subst e1
      cases ty <;> first | (exact ⟨rfl, rfl⟩) | (cases ht)
    · subst e1
      cases ty <;> first | (cases ht; done) | skip
      rcases e2 with e2 | e2
      · subst e2
        exact ⟨(by decide +kernel : narrow .boolean (.int (Int32.ofInt 0)) = .int (Int32.ofInt 0)), (by decide +kernel : fits .boolean (.int (Int32.ofInt 0)) = true)⟩
      · subst e2
        exact ⟨(by decide +kernel : narrow .boolean (.int (Int32.ofInt 1)) = .int (Int32.ofInt 1)), (by decide +kernel : fits .boolean (.int (Int32.ofInt 1)) = true)⟩
  · have e1 : t = 1 := hf
    subst e1
    cases ty <;> first | (exact ⟨rfl, rfl⟩) | (cases ht)
  · have e1 : t = 2 := hf
    subst e1
    show narrow ty (va_rf (x_ro g r)) = va_rf (x_ro g r) ∧ fits ty (va_rf (x_ro g r)) = true
    cases x_ro g r <;> cases ty <;> first | (exact ⟨rfl, rfl⟩) | (cases ht)
  · exact absurd hf id
theorem x_fit_ok {c j : Nat} {v : xV} (hf : x_fit (x_tc c j) v) (hv : x_ok v) : (x_tc c j = 0 → x32 (x_pl v) = x_pl v) ∧ (x_tc c j = 3 → x_pl v = 0 ∨ x_pl v = 1) ∧ (x_tc c j = 1 → x64 (x_pl v) = x_pl v) := by
  rcases v with x | x | r | u
  · refine ⟨fun _ => hv, fun e3 => ?_, fun e1 => ?_⟩
    · rcases hf with z | ⟨-, z⟩
      · omega
      · exact z
    · rcases hf with z | ⟨z, -⟩ <;> omega
  · have e1 : x_tc c j = 1 := hf
    exact ⟨fun z => by omega, fun z => by omega, fun _ => hv⟩
  · have e1 : x_tc c j = 2 := hf
    exact ⟨fun z => by omega, fun z => by omega, fun z => by omega⟩
  · exact absurd hf id
theorem x_map_set {c N j : Nat} {f : Nat → Int} {v : xV} (hf : x_fit (x_tc c j) v) (i : Nat) (hi : i < N) : vp_V (((List.range N).map fun j => x_v g (x_fv g (x_tc c j) (f j))).set j (x_v g v)) i = vp_V ((List.range N).map fun i => x_v g (x_fv g (x_tc c i) (if i = j then x_pl v else f i))) i := by
  unfold vp_V
  rw [List.getD_eq_getElem?_getD, List.getD_eq_getElem?_getD, List.getElem?_set, List.getElem?_map, List.getElem?_map, List.getElem?_range hi]
  by_cases e1 : j = i
  · subst e1
    rw [if_pos rfl, if_pos (by simpa using hi)]
    simp [x_fit_fv hf]
  · rw [if_neg e1]
    simp only [Option.map_some, Option.getD_some]
    rw [if_neg (fun z => e1 z.symm)]
/-- a field of an object takes a value -/
theorem xj_putfield {i r c N j : Nat} {v : xV} (hd : decode (x_cd M) pc = .ok (.putfield i, 3)) (hr : x_is h r c N) (hc : c < 10) (hj : j < (x_ft.getD c []).length) (hw : Cond.fieldLink (x_y M).cls i (x_T c j).1 (x_T c j).2.1 (x_T c j).2.2.1 ∈ x_tb)
    (hfin : (x_T c j).2.2.2 = false ∨ ((x_T c j).2.2.2 = true ∧ (x_y M).name = "<init>" ∧ (x_T c j).1 = (x_y M).cls)) (hf : x_fit (x_tc c j) v) (kk : xJ g D M k n (pc + 3) ls st (h.1, x_up h.2 r j (x_pl v)) Q) : xJ g D M k n pc ls (v :: xr r :: st) h Q := by
  intro p e s m args below meth c0 H locs la C R S hl ol os hk hn
  obtain ⟨q, hq, q1, q2, q3⟩ := x_cl_len c hc
  have hN : N = (x_ft.getD c []).length := (R.2.2 _ _ hr.2).1 hc
  have hj2 : j < N := by omega
  have he := x_ws_at (g := g) hr
  rw [x_E_obj hc] at he
  rw [List.map_cons, List.map_cons, x_ne0 hr]
  have hcl : x_cl[c]? = some (q.1, q.2.1, q.2.2) := hq
  have hts := C.2.2.2.2.2.1
  have hown := C.2.2.2.2.1
  have hK := C.2.2.2.2.2.2.2.2.1
  have hty := x_cl_ty0 c hc _ hq
  have hap := va_apart (own := (x_y M).cls) hts (x_cl_lay hcl) (x_ty c) hty (x_cl_nm q (List.mem_of_getElem? hq)) hK hcl
  obtain ⟨r2, z1, cell, z2, z3, z4, z5⟩ := R.2.1 (r - 16) _ he
  have hr2 : r2 = q := Option.some.inj (z1.symm.trans hq)
  subst hr2
  have hjq : j < r2.2.2 := by rw [q3]; exact hj
  obtain ⟨hSl, hfc, kC, hkC, hkind⟩ := hK.1 c _ hq
  obtain ⟨cf, kf, fi, f, hi, hsl⟩ := hSl j hjq
  have hst := (u_facts hfc hkC (u_lays hts (x_cl_lay hcl) hjq) hi).1
  have hlay := hts _ (x_cl_lay hcl _ (u_in_lay hjq))
  have hlink : (Cond.fieldLink (x_y M).cls i (r2.2.1 j).1 (r2.2.1 j).2.1 (r2.2.1 j).2.2.1).before args s = true := by rw [q1]; exact hts _ hw
  obtain ⟨hnar, hfit⟩ := x_fit_nar (g := g) hf (x_ty_tc hc hj)
  have hback : ∀ (H1 : Heap) (a : Nat), a = g.D.2 c j → H1[x_ad g r]? = some (cell.setSlot a (x_v g v)) → H1.size = H.size → (∀ q : Nat, q ≠ x_ad g r → H1[q]? = H[q]?) → W p g.l e (x_rm D M) s m args below meth c0 H1 (locs ++ [⟨x_ad g r, a⟩]) k n (MQ below (x_Q g Q) args s (x_bc M) (x_bs M) (x_A g)) (F0 m (pc + 3) la (st.map (x_v g))) := by
    intro H1 a ha e1 e2 e3
    refine kk p e s m args below meth c0 H1 _ la C ⟨by rw [e2]; exact R.1, ?_, ?_⟩ (S.put e2 e3 (x_inA hr)) hl ol (x_okt (x_okt os)) hk hn
    · refine x_P_put R.2.1 hr ?_ e3 (fun q hq => ?_)
      · rw [x_E_obj hc]
        refine ⟨r2, hq, ?_⟩
        have hob : t_OB (x_ad g r) (g.D.1 c) r2.2.2 (g.D.2 c) H1 (updV (vp_V ((List.range N).map fun j => x_v g (x_fv g (x_tc c j) (h.2 r j)))) j (x_v g v)) := ⟨_, e1, z3, z4, by rw [ha]; exact t_set z5 hap hjq (x_v g v)⟩
        refine hob.to (fun i hi => ?_)
        rw [vp_updV_set (by simpa using hj2)]
        have hiN : i < N := by omega
        rw [x_map_set hf i hiN]
        show vp_V _ i = vp_V ((List.range N).map fun j2 => x_v g (x_fv g (x_tc c j2) (x_up h.2 r j (x_pl v) r j2))) i
        unfold x_up
        simp
      · funext i
        show x_up h.2 r j (x_pl v) q i = h.2 q i
        unfold x_up
        rw [if_neg hq]
    · obtain ⟨o1, o2, o3⟩ := x_fit_ok hf (x_okh os)
      exact x_ok_up R.2.2 hr o1 o2 o3
  rcases hfin with hfin | ⟨hfin, hin, hdecl⟩
  · rw [← q1] at hfin
    unfold u_lay at hlay
    rw [if_neg (by rw [hfin]; decide)] at hlay
    have h6 := u_store hfc hkC hkind hlay hi (hty j hjq) hnar hfit
    refine W.putK C.1 C.2.1 (f := f) ⟨hown, hlink, ⟨_, _, _, hi⟩, hst⟩ (by rw [z3]; exact h6) z2 z4 (by rw [hsl]; exact k2_hasslot (z5 j hjq)) rfl rfl hd fun H1 e1 e2 e3 => ?_
    exact hback H1 f.slot hsl e1 e2 e3
  · rw [← q1] at hfin hdecl
    unfold u_lay at hlay
    rw [if_pos hfin] at hlay
    have hcf : m.cls = cf := by
      obtain ⟨_, _, c', _, _, _, -, -, hf', -, -, -, hown2, -⟩ := Cond.laysFinal_spec hlay
      have e1 : c' = cf := by have := hi.symm.trans hf'; simp at this; exact this.1.symm
      rw [hdecl] at hown2
      rw [← e1]; exact Option.some.inj (hown.symm.trans hown2)
    have h6 := u_fits hfc hkC hkind (Or.inr hlay) hi (hty j hjq) hnar hfit
    refine W.putFinK C.1 C.2.1 hown hlink hi hst hcf (by rw [C.2.2.2.2.2.2.2.1]; exact hin) (by rw [z3]; exact h6) z2 z4 (by rw [hsl]; exact k2_hasslot (z5 j hjq)) rfl rfl hd fun H1 e1 e2 e3 => ?_
    exact hback H1 f.slot hsl e1 e2 e3
end XR2
end
section
/-! the walk, instruction by instruction: arrays, new objects, what stands before the law -/
section XR3
variable {g : xG} {D M k n pc : Nat} {ls st : List xV} {h : xH} {Q : xV → xH → Prop}
theorem x_E_i {N : Nat} {f : Nat → Int} : x_E g (10, N) f = .inl (g.ac 0, N, .inl fun j => Int32.ofInt (f j)) := rfl
theorem x_E_l {N : Nat} {f : Nat → Int} : x_E g (11, N) f = .inl (g.ac 1, N, .inr (.inl fun j => Int64.ofInt (f j))) := rfl
theorem x_E_z {N : Nat} {f : Nat → Int} : x_E g (12, N) f = .inl (g.ac 2, N, .inl fun j => Int32.ofInt (f j)) := rfl
theorem x_E_q {N : Nat} {f : Nat → Int} : x_E g (13, N) f = .inl (g.ac 3, N, .inr (.inr (.inr (.inr fun j => x_ro g (f j).toNat)))) := rfl
theorem x_in_ok {i : Int} {st : List xV} {v : xV} (os : ∀ w ∈ xi i :: v :: st, x_ok w) : x32 i = i := x_okh os
theorem xj_iaload {r N : Nat} {i : Int} (hd : decode (x_cd M) pc = .ok (.iaload, 1)) (hr : x_is h r 10 N) (h0 : 0 ≤ i) (h1 : i < N) (kk : xJ g D M k n (pc + 1) ls (xi (h.2 r i.toNat) :: st) h Q) : xJ g D M k n pc ls (xi i :: xr r :: st) h Q := by
  intro p e s m args below meth c0 H locs la C R S hl ol os hk hn
  have hi : x32 i = i := x_okh os
  have hv : x_ok (x_fv g (x_tc 10 i.toNat) (h.2 r i.toNat)) := x_rd_ok R.2.2 hr (by omega)
  have kk := kk p e s m args below meth c0 H locs la C R S hl ol (x_okc hv (x_okt (x_okt os))) hk hn
  have he := x_ws_at (g := g) hr
  rw [x_E_i] at he
  rw [List.map_cons, List.map_cons, x_ne0 hr]
  refine va_iald C.1 C.2.1 C.2.2.2.2.2.2.2.2.1 R.2.1 (r - 16) 0 he rfl (xn_in hi h0 h1) hd ?_
  rw [xn_clamp hi]
  exact kk
theorem xj_laload {r N : Nat} {i : Int} (hd : decode (x_cd M) pc = .ok (.laload, 1)) (hr : x_is h r 11 N) (h0 : 0 ≤ i) (h1 : i < N) (kk : xJ g D M k n (pc + 1) ls (xl (h.2 r i.toNat) :: st) h Q) : xJ g D M k n pc ls (xi i :: xr r :: st) h Q := by
  intro p e s m args below meth c0 H locs la C R S hl ol os hk hn
  have hi : x32 i = i := x_okh os
  have hv : x_ok (x_fv g (x_tc 11 i.toNat) (h.2 r i.toNat)) := x_rd_ok R.2.2 hr (by omega)
  have kk := kk p e s m args below meth c0 H locs la C R S hl ol (x_okc hv (x_okt (x_okt os))) hk hn
  have he := x_ws_at (g := g) hr
  rw [x_E_l] at he
  rw [List.map_cons, List.map_cons, x_ne0 hr]
  refine va_lald C.1 C.2.1 C.2.2.2.2.2.2.2.2.1 R.2.1 (r - 16) 1 he rfl (xn_in hi h0 h1) hd ?_
  rw [xn_clamp hi]
  exact kk
theorem xj_baload {r N : Nat} {i : Int} (hd : decode (x_cd M) pc = .ok (.baload, 1)) (hr : x_is h r 12 N) (h0 : 0 ≤ i) (h1 : i < N) (kk : xJ g D M k n (pc + 1) ls (xi (h.2 r i.toNat) :: st) h Q) : xJ g D M k n pc ls (xi i :: xr r :: st) h Q := by
  intro p e s m args below meth c0 H locs la C R S hl ol os hk hn
  have hi : x32 i = i := x_okh os
  have hv : x_ok (x_fv g (x_tc 12 i.toNat) (h.2 r i.toNat)) := x_rd_ok R.2.2 hr (by omega)
  have kk := kk p e s m args below meth c0 H locs la C R S hl ol (x_okc hv (x_okt (x_okt os))) hk hn
  have he := x_ws_at (g := g) hr
  rw [x_E_z] at he
  rw [List.map_cons, List.map_cons, x_ne0 hr]
  refine va_zald C.1 C.2.1 C.2.2.2.2.2.2.2.2.1 R.2.1 (r - 16) 2 he rfl (xn_in hi h0 h1) hd ?_
  rw [xn_clamp hi]
  exact kk
theorem xj_aaload {r N : Nat} {i : Int} (hd : decode (x_cd M) pc = .ok (.aaload, 1)) (hr : x_is h r 13 N) (h0 : 0 ≤ i) (h1 : i < N) (kk : xJ g D M k n (pc + 1) ls (xr (h.2 r i.toNat).toNat :: st) h Q) : xJ g D M k n pc ls (xi i :: xr r :: st) h Q := by
  intro p e s m args below meth c0 H locs la C R S hl ol os hk hn
  have hi : x32 i = i := x_okh os
  have kk := kk p e s m args below meth c0 H locs la C R S hl ol (x_okc trivial (x_okt (x_okt os))) hk hn
  have he := x_ws_at (g := g) hr
  rw [x_E_q] at he
  rw [List.map_cons, List.map_cons, x_ne0 hr]
  refine va_aldq C.1 C.2.1 C.2.2.2.2.2.2.2.2.1 R.2.1 (r - 16) 3 he rfl (xn_in hi h0 h1) hd ?_
  rw [xn_clamp hi]
  exact kk
theorem xj_arraylength {r c N : Nat} (hd : decode (x_cd M) pc = .ok (.arraylength, 1)) (hr : x_is h r c N) (hc : 10 ≤ c) (kk : xJ g D M k n (pc + 1) ls (xi (N : Int) :: st) h Q) : xJ g D M k n pc ls (xr r :: st) h Q := by
  intro p e s m args below meth c0 H locs la C R S hl ol os hk hn
  obtain ⟨-, hc2, hN, -⟩ := R.2.2 _ _ hr.2
  have hN : N < 1000000 := hN
  have hc2 : c < 14 := hc2
  have kk := kk p e s m args below meth c0 H locs la C R S hl ol (x_okc (xn_okN hN) (x_okt os)) hk hn
  have he := x_ws_at (g := g) hr
  rw [List.map_cons, x_ne0 hr]
  rcases (show c = 10 ∨ c = 11 ∨ c = 12 ∨ c = 13 by omega) with e1 | e1 | e1 | e1 <;> subst e1
  · rw [x_E_i] at he
    exact va_alen C.1 C.2.1 C.2.2.2.2.2.2.2.2.1 R.2.1 (r - 16) 0 he rfl (xn_nat N) hd kk
  · rw [x_E_l] at he
    exact va_alen C.1 C.2.1 C.2.2.2.2.2.2.2.2.1 R.2.1 (r - 16) 1 he rfl (xn_nat N) hd kk
  · rw [x_E_z] at he
    exact va_alen C.1 C.2.1 C.2.2.2.2.2.2.2.2.1 R.2.1 (r - 16) 2 he rfl (xn_nat N) hd kk
  · rw [x_E_q] at he
    exact va_alen C.1 C.2.1 C.2.2.2.2.2.2.2.2.1 R.2.1 (r - 16) 3 he rfl (xn_nat N) hd kk
theorem x_upN {C : Nat → Nat → Int} {r j : Nat} {v : Int} (q : Nat) (hq : q ≠ r) : x_up C r j v q = C q := by
  funext i
  unfold x_up
  rw [if_neg hq]
theorem xj_iastore {r N : Nat} {i x : Int} (hd : decode (x_cd M) pc = .ok (.iastore, 1)) (hr : x_is h r 10 N) (h0 : 0 ≤ i) (h1 : i < N) (kk : xJ g D M k n (pc + 1) ls st (h.1, x_up h.2 r i.toNat x) Q) : xJ g D M k n pc ls (xi x :: xi i :: xr r :: st) h Q := by
  intro p e s m args below meth c0 H locs la C R S hl ol os hk hn
  have hx : x32 x = x := x_okh os
  have hi : x32 i = i := x_okh (x_okt os)
  have he := x_ws_at (g := g) hr
  rw [x_E_i] at he
  rw [List.map_cons, List.map_cons, List.map_cons, x_ne0 hr]
  have hin := xn_in hi h0 h1
  have hat : H[x_ad g r]? = some (vp_cell (g.ac 0) (N, .inl fun j => Int32.ofInt (h.2 r j))) := R.2.1 _ _ he
  refine W.iast C.1 C.2.1 hat ((C.2.2.2.2.2.2.2.2.1.2 0 _ rfl).1 N (fun j => .int (Int32.ofInt (h.2 r j)))) (fun q => by cases q) (by show ¬ (_ ∨ (arrV _ _ _).slots.size ≤ _); rw [arrV_size]; exact hin) rfl rfl hd fun H1 e1 e2 e3 => ?_
  refine kk p e s m args below meth c0 H1 _ la C ⟨by rw [e2]; exact R.1, ?_, ?_⟩ (S.put e2 e3 (x_inA hr)) hl ol (x_okt (x_okt (x_okt os))) hk hn
  · refine x_P_put R.2.1 hr ?_ e3 x_upN
    show H1[x_ad g r]? = some (vp_cell _ _)
    rw [e1, vp_cell_i, vp_cell_i, arrV_store]
    congr 2
    funext q
    rw [xn_clamp hi]
    unfold updV x_up
    by_cases hq : q = i.toNat <;> simp [hq]
  · exact x_ok_up R.2.2 hr (fun _ => hx) (fun z => by cases z) (fun z => by cases z)
theorem xj_lastore {r N : Nat} {i x : Int} (hd : decode (x_cd M) pc = .ok (.lastore, 1)) (hr : x_is h r 11 N) (h0 : 0 ≤ i) (h1 : i < N) (kk : xJ g D M k n (pc + 1) ls st (h.1, x_up h.2 r i.toNat x) Q) : xJ g D M k n pc ls (xl x :: xi i :: xr r :: st) h Q := by
  intro p e s m args below meth c0 H locs la C R S hl ol os hk hn
  have hx : x64 x = x := x_okh os
  have hi : x32 i = i := x_okh (x_okt os)
  have he := x_ws_at (g := g) hr
  rw [x_E_l] at he
  rw [List.map_cons, List.map_cons, List.map_cons, x_ne0 hr]
  have hin := xn_in hi h0 h1
  have hat : H[x_ad g r]? = some (vp_cell (g.ac 1) (N, .inr (.inl fun j => Int64.ofInt (h.2 r j)))) := R.2.1 _ _ he
  refine W.last C.1 C.2.1 hat ((C.2.2.2.2.2.2.2.2.1.2 1 _ rfl).1 N (fun j => .long (Int64.ofInt (h.2 r j)))) (fun q => by cases q) (by show ¬ (_ ∨ (arrV _ _ _).slots.size ≤ _); rw [arrV_size]; exact hin) rfl rfl hd fun H1 e1 e2 e3 => ?_
  refine kk p e s m args below meth c0 H1 _ la C ⟨by rw [e2]; exact R.1, ?_, ?_⟩ (S.put e2 e3 (x_inA hr)) hl ol (x_okt (x_okt (x_okt os))) hk hn
  · refine x_P_put R.2.1 hr ?_ e3 x_upN
    show H1[x_ad g r]? = some (vp_cell _ _)
    rw [e1, vp_cell_l, vp_cell_l, arrV_store]
    congr 2
    funext q
    rw [xn_clamp hi]
    unfold updV x_up
    by_cases hq : q = i.toNat <;> simp [hq]
  · exact x_ok_up R.2.2 hr (fun z => by cases z) (fun z => by cases z) (fun _ => hx)
theorem xj_bastore {r N : Nat} {i x : Int} (hd : decode (x_cd M) pc = .ok (.bastore, 1)) (hr : x_is h r 12 N) (h0 : 0 ≤ i) (h1 : i < N) (hx : x = 0 ∨ x = 1) (kk : xJ g D M k n (pc + 1) ls st (h.1, x_up h.2 r i.toNat x) Q) : xJ g D M k n pc ls (xi x :: xi i :: xr r :: st) h Q := by
  intro p e s m args below meth c0 H locs la C R S hl ol os hk hn
  have hi : x32 i = i := x_okh (x_okt os)
  have he := x_ws_at (g := g) hr
  rw [x_E_z] at he
  rw [List.map_cons, List.map_cons, List.map_cons, x_ne0 hr]
  have hin := xn_in hi h0 h1
  have hnar : narrow .boolean (.int (Int32.ofInt x)) = .int (Int32.ofInt x) := by
    rcases hx with e1 | e1 <;> subst e1 <;> decide +kernel
  have hat : H[x_ad g r]? = some (vp_cell (g.ac 2) (N, .inl fun j => Int32.ofInt (h.2 r j))) := R.2.1 _ _ he
  refine W.zast C.1 C.2.1 hat ((C.2.2.2.2.2.2.2.2.1.2 2 _ rfl).1 N (fun j => .int (Int32.ofInt (h.2 r j)))) (fun q => by cases q) (by show ¬ (_ ∨ (arrV _ _ _).slots.size ≤ _); rw [arrV_size]; exact hin) rfl rfl hd fun H1 e1 e2 e3 => ?_
  refine kk p e s m args below meth c0 H1 _ la C ⟨by rw [e2]; exact R.1, ?_, ?_⟩ (S.put e2 e3 (x_inA hr)) hl ol (x_okt (x_okt (x_okt os))) hk hn
  · refine x_P_put R.2.1 hr ?_ e3 x_upN
    show H1[x_ad g r]? = some (vp_cell _ _)
    rw [e1, hnar, vp_cell_i, vp_cell_i, arrV_store]
    congr 2
    funext q
    rw [xn_clamp hi]
    unfold updV x_up
    by_cases hq : q = i.toNat <;> simp [hq]
  · exact x_ok_up R.2.2 hr (fun z => by cases z) (fun _ => hx) (fun z => by cases z)
theorem xj_aastore {r N v N2 : Nat} {i : Int} (hd : decode (x_cd M) pc = .ok (.aastore, 1)) (hr : x_is h r 13 N) (h0 : 0 ≤ i) (h1 : i < N) (hv : v = 0 ∨ x_is h v 0 N2) (hv0 : v ≠ 0) (kk : xJ g D M k n (pc + 1) ls st (h.1, x_up h.2 r i.toNat v) Q) : xJ g D M k n pc ls (xr v :: xi i :: xr r :: st) h Q := by
  intro p e s m args below meth c0 H locs la C R S hl ol os hk hn
  have hi : x32 i = i := x_okh (x_okt os)
  have hv : x_is h v 0 N2 := hv.resolve_left hv0
  have he := x_ws_at (g := g) hr
  rw [x_E_q] at he
  have hev := x_ws_at (g := g) hv
  rw [x_E_obj (by decide)] at hev
  rw [List.map_cons, List.map_cons, List.map_cons, x_ne0 hr, x_ne0 hv]
  have hin := xn_in hi h0 h1
  have hlt : (Int32.ofInt i).toNatClampNeg < N := Nat.not_le.mp fun q => hin (Or.inr q)
  have hn0 : ¬ Int32.ofInt i < 0 := fun q => hin (Or.inl q)
  have hK := C.2.2.2.2.2.2.2.2.1
  obtain ⟨r', hr', cellV, g1, g2, g3, -⟩ := R.2.1 _ _ hev
  have hcls := (hK.1 0 _ (rfl : x_cl[0]? = some x_c0)).2
  obtain ⟨kA, comp, k1, k2, k3, -⟩ := (hK.2 3 _ rfl).2
  have hcomp : comp = g.D.1 0 := Option.some.inj (k3.symm.trans hcls.1)
  subst hcomp
  obtain ⟨kC, hkC, -⟩ := hcls.2
  have hat : H[x_ad g r]? = some (vp_cell (g.ac 3) (N, .inr (.inr (.inr (.inr fun j => x_ro g (h.2 r j).toNat))))) := R.2.1 _ _ he
  refine W.aast C.1 C.2.1 hat (fun q z => by cases z) (fun z => by cases z) k1 k2 rfl hkC ⟨hn0, by show _ < (arrV _ _ _).slots.size; rw [arrV_size]; exact hlt⟩ g1 (fun q z => by rw [g3] at z; cases z) (by rw [g2]; exact hkC) (by rw [g2]; exact va_assign hcls) rfl rfl hd fun H1 e1 e2 e3 => ?_
  refine kk p e s m args below meth c0 H1 _ la C ⟨by rw [e2]; exact R.1, ?_, ?_⟩ (S.put e2 e3 (x_inA hr)) hl ol (x_okt (x_okt (x_okt os))) hk hn
  · refine x_P_put R.2.1 hr ?_ e3 x_upN
    show H1[x_ad g r]? = some (vp_cell _ _)
    rw [e1, vp_cell_q, vp_cell_q, arrV_store]
    congr 2
    funext q
    rw [xn_clamp hi]
    unfold updV x_up
    have hv2 : x_ro g v = some (x_ad g v) := by unfold x_ro; rw [if_neg hv0]
    by_cases hq : q = i.toNat
    · simp [hq, hv2, va_rf]
    · simp [hq]
  · exact x_ok_up R.2.2 hr (fun z => by cases z) (fun z => by cases z) (fun z => by cases z)
/-! the script, and the static arrays -/
theorem xj_saload {i : Int} (hd : decode (x_cd M) pc = .ok (.iaload, 1)) (h0 : 0 ≤ i) (h1 : i < g.L) (kk : xJ g D M k n (pc + 1) ls (xi (g.xs i.toNat).toInt :: st) h Q) : xJ g D M k n pc ls (xi i :: xr 1 :: st) h Q := by
  intro p e s m args below meth c0 H locs la C R S hl ol os hk hn
  have hi : x32 i = i := x_okh os
  have kk := kk p e s m args below meth c0 H locs la C R S hl ol (x_okc (xn_okT _) (x_okt (x_okt os))) hk hn
  have hU := C.2.2.2.2.2.2.2.2
  have hb : g.sa 1 < s.heap.size := Nat.lt_of_lt_of_le hU.2.2.2.2.1 hU.2.2.2.2.2.2.2.2.2.1
  have hnA : ¬ x_A g (g.sa 1) := fun z => by have z : g.b ≤ g.sa 1 := z; have := hU.2.2.2.2.1; omega
  refine va_sld C.1 C.2.1 hU.2.2.2.1 hb hnA S (xn_in hi h0 h1) hd ?_
  rw [xn_clamp hi]
  have e1 : x_v g (xi (g.xs i.toNat).toInt) = .int (g.xs i.toNat) := congrArg Value.int (xn_back _)
  rw [List.map_cons, e1] at kk
  exact kk
theorem xj_slen (hd : decode (x_cd M) pc = .ok (.arraylength, 1)) (kk : xJ g D M k n (pc + 1) ls (xi (g.L : Int) :: st) h Q) : xJ g D M k n pc ls (xr 1 :: st) h Q := by
  intro p e s m args below meth c0 H locs la C R S hl ol os hk hn
  have hU := C.2.2.2.2.2.2.2.2
  have hL : g.L ≤ 4096 := hU.2.2.2.2.2.2.2.2.2.2
  have kk := kk p e s m args below meth c0 H locs la C R S hl ol (x_okc (xn_okN (by omega)) (x_okt os)) hk hn
  have hb : g.sa 1 < s.heap.size := Nat.lt_of_lt_of_le hU.2.2.2.2.1 hU.2.2.2.2.2.2.2.2.2.1
  have hnA : ¬ x_A g (g.sa 1) := fun z => by have z : g.b ≤ g.sa 1 := z; have := hU.2.2.2.2.1; omega
  refine va_slen C.1 C.2.1 hU.2.2.2.1 hb hnA S hd ?_
  have e1 : x_v g (xi (g.L : Int)) = .int (Int32.ofNat g.L) := congrArg Value.int (xn_nat g.L).symm
  rw [List.map_cons, e1] at kk
  exact kk
def x_ltv (t : Nat) (j : Nat) : Int := (x_lt.getD t []).getD j 0
theorem x_lt_ok0 : ∀ l ∈ x_lt, ∀ x ∈ l, x32 x = x := by decide +kernel
theorem x_ltv_ok (t j : Nat) : x32 (x_ltv t j) = x_ltv t j := by
  unfold x_ltv
  rw [List.getD_eq_getElem?_getD, List.getD_eq_getElem?_getD]
  cases h1 : x_lt[t]? with
  | none => simp [xn_ok0]
  | some l =>
    simp only [Option.getD_some]
    cases h2 : l[j]? with
    | none => simp [xn_ok0]
    | some x => exact x_lt_ok0 l (List.mem_of_getElem? h1) x (List.mem_of_getElem? h2)
theorem xj_taload {t : Nat} {i : Int} (hd : decode (x_cd M) pc = .ok (.iaload, 1)) (ht : t < 3) (h0 : 0 ≤ i) (h1 : i < 10) (kk : xJ g D M k n (pc + 1) ls (xi (x_ltv t i.toNat) :: st) h Q) : xJ g D M k n pc ls (xi i :: xr (2 + t) :: st) h Q := by
  intro p e s m args below meth c0 H locs la C R S hl ol os hk hn
  have hi : x32 i = i := x_okh os
  have kk := kk p e s m args below meth c0 H locs la C R S hl ol (x_okc (x_ltv_ok _ _) (x_okt (x_okt os))) hk hn
  have hU := C.2.2.2.2.2.2.2.2
  obtain ⟨q, hq⟩ : ∃ q, x_sn[t]? = some q := by
    rcases (show t = 0 ∨ t = 1 ∨ t = 2 by omega) with e1 | e1 | e1 <;> subst e1 <;> exact ⟨_, rfl⟩
  obtain ⟨-, -, hT⟩ := hU.2.2.2.2.2.1 t q hq
  have e2 : x_v g (xr (2 + t)) = .ref (g.sa (2 + t)) := by
    rcases x_rn (g := g) (2 + t) with ⟨z, -⟩ | ⟨-, z⟩
    · omega
    · rw [z]; unfold x_ad; rw [if_pos (by omega)]
  rw [List.map_cons, List.map_cons, e2]
  exact va_ti C.1 C.2.1 hT S (xn_in hi h0 h1) (by rw [xn_clamp hi]; rfl) hd kk
theorem xj_tlen {t : Nat} (hd : decode (x_cd M) pc = .ok (.arraylength, 1)) (ht : t < 3) (kk : xJ g D M k n (pc + 1) ls (xi 10 :: st) h Q) : xJ g D M k n pc ls (xr (2 + t) :: st) h Q := by
  intro p e s m args below meth c0 H locs la C R S hl ol os hk hn
  have kk := kk p e s m args below meth c0 H locs la C R S hl ol (x_okc (by decide : x32 10 = 10) (x_okt os)) hk hn
  have hU := C.2.2.2.2.2.2.2.2
  obtain ⟨q, hq⟩ : ∃ q, x_sn[t]? = some q := by
    rcases (show t = 0 ∨ t = 1 ∨ t = 2 by omega) with e1 | e1 | e1 <;> subst e1 <;> exact ⟨_, rfl⟩
  obtain ⟨-, -, hT⟩ := hU.2.2.2.2.2.1 t q hq
  have e2 : x_v g (xr (2 + t)) = .ref (g.sa (2 + t)) := by
    rcases x_rn (g := g) (2 + t) with ⟨z, -⟩ | ⟨-, z⟩
    · omega
    · rw [z]; unfold x_ad; rw [if_pos (by omega)]
  rw [List.map_cons, e2]
  exact va_tlen C.1 C.2.1 hT S rfl hd kk
theorem xj_getstatic {t i : Nat} {q : String × Nat × String} (hd : decode (x_cd M) pc = .ok (.getstatic i, 3)) (hq : x_sn[t]? = some q) (ho : (x_y M).cls = q.1) (hi : i = q.2.1) (kk : xJ g D M k n (pc + 3) ls (xr (2 + t) :: st) h Q) : xJ g D M k n pc ls st h Q := by
  intro p e s m args below meth c0 H locs la C R S hl ol os hk hn
  have kk := kk p e s m args below meth c0 H locs la C R S hl ol (x_okc trivial os) hk hn
  have hU := C.2.2.2.2.2.2.2.2
  obtain ⟨hL, hZ, -⟩ := hU.2.2.2.2.2.1 t q hq
  have ht : t < 3 := (List.getElem?_eq_some_iff.mp hq).1
  have e2 : x_v g (xr (2 + t)) = .ref (g.sa (2 + t)) := by
    rcases x_rn (g := g) (2 + t) with ⟨z, -⟩ | ⟨-, z⟩
    · omega
    · rw [z]; unfold x_ad; rw [if_pos (by omega)]
  rw [List.map_cons, e2] at kk
  subst hi
  exact va_getsN C.1 C.2.1 hZ S C.2.2.2.2.1 (by rw [ho]; exact va_Nw.use rfl hL) (fun _ z => z) hd kk
/-! new cells -/
def x_nw (C : Nat → Nat → Int) (r : Nat) : Nat → Nat → Int := fun q => if q = r then fun _ => 0 else C q
theorem x_nw_lt {C : Nat → Nat → Int} {r q : Nat} (hq : q < r) : x_nw C r q = C q := by
  unfold x_nw
  rw [if_neg (by omega)]
theorem x_nw_at {C : Nat → Nat → Int} {r j : Nat} : x_nw C r r j = 0 := by
  unfold x_nw
  rw [if_pos rfl]
theorem x_dv {t : Nat} {ty : FieldType} (ht : x_tyok t ty = true) : defaultValue ty = x_v g (x_fv g t 0) := by
  unfold x_tyok at ht
  split at ht
  · rfl
  · rfl
  · rfl
  · rfl
  · rfl
  · cases ht
theorem x_adN {H : Heap} (hz : H.size = g.b + h.1.length) : x_v g (xr (h.1.length + 16)) = .ref H.size := by
  rcases x_rn (g := g) (h.1.length + 16) with ⟨z, -⟩ | ⟨-, z⟩
  · omega
  · rw [z]
    unfold x_ad
    rw [if_neg (by omega), hz]
    congr 1
theorem xj_new {i c : Nat} (hd : decode (x_cd M) pc = .ok (.new i, 3)) (hc : c < 10) (hw : Cond.classLink (x_y M).cls i (x_cn.getD c "") ∈ x_tb) (hi : Cond.instantiable (x_cn.getD c "") (x_ft.getD c []).length ∈ x_tb) (hn2 : Cond.initialized (x_cn.getD c "") ∈ x_tb)
    (h1 : k + 1 ≤ x_bc M) (h2 : n + (x_ft.getD c []).length ≤ x_bs M) (kk : xJ g D M (k + 1) (n + (x_ft.getD c []).length) (pc + 3) ls (xr (h.1.length + 16) :: st) (h.1 ++ [(c, (x_ft.getD c []).length)], x_nw h.2 (h.1.length + 16)) Q) : xJ g D M k n pc ls st h Q := by
  intro p e s m args below meth c0 H locs la C R S hl ol os hk hn
  obtain ⟨q, hq, q1, q2, q3⟩ := x_cl_len c hc
  have hts := C.2.2.2.2.2.1
  have hK := C.2.2.2.2.2.2.2.2.1
  have hKn := hK.1 c _ hq
  have hlen : ∀ c, c < 10 → (x_ft.getD c []).length < 1000000 := by decide +kernel
  rw [← q2] at hw hi hn2
  rw [← q3] at hi h2 kk
  refine W.newcK C.1 C.2.1 C.2.2.2.2.1 (hts _ hw) (hts _ hi) (hts _ hn2) rfl hd h1 h2 hKn.2.1 rfl fun H1 kC hkC e1 z1 o1 => ?_
  show W _ _ _ _ _ _ _ _ _ _ _ _ _ _ _ (F0 m (pc + 3) la (.ref H.size :: st.map (x_v g)))
  rw [← x_adN (h := h) R.1]
  refine kk p e s m args below meth c0 H1 locs la C ⟨by rw [z1, R.1]; simp [Nat.add_assoc], ?_, ?_⟩ ⟨Nat.le_trans S.1 (by omega), fun x y1 y2 => (o1 x (Nat.lt_of_lt_of_le y1 S.1)).trans (S.2.1 x y1 y2), S.2.2⟩ hl ol (x_okc trivial os) h1 h2
  · refine x_P_push R.1 R.2.1 ?_ o1 (fun x hx => x_nw_lt hx)
    rw [x_E_obj hc]
    refine ⟨q, hq, ?_⟩
    have hcl : x_cl[c]? = some (q.1, q.2.1, q.2.2) := hq
    refine (u_born (x_ty c) hts (x_cl_lay hcl) hKn hkC e1 (x_cl_ty0 c hc _ hq)).to (fun j hj => ?_)
    unfold vp_V
    rw [List.getD_eq_getElem?_getD, List.getElem?_map, List.getElem?_range hj]
    simp only [Option.map_some, Option.getD_some]
    rw [x_nw_at]
    exact x_dv (x_ty_tc hc (by rw [← q3]; exact hj))
  · refine x_ok_push R.2.2 (fun _ => q3) (by show c < 14; omega) (by show q.2.2 < 1000000; rw [q3]; exact hlen c hc) (fun x hx => x_nw_lt hx) (fun j => x_nw_at)
theorem xj_newarray {t : ArrayType} {c i : Nat} {N : Int} (hd : decode (x_cd M) pc = .ok (.newarray t, 2)) (ht : (t = .int ∧ c = 10 ∧ i = 0) ∨ (t = .long ∧ c = 11 ∧ i = 1) ∨ (t = .boolean ∧ c = 12 ∧ i = 2)) (h0 : 0 ≤ N) (hN : N < 1000000)
    (h1 : k + 1 ≤ x_bc M) (h2 : n + N.toNat ≤ x_bs M) (kk : xJ g D M (k + 1) (n + N.toNat) (pc + 2) ls (xr (h.1.length + 16) :: st) (h.1 ++ [(c, N.toNat)], x_nw h.2 (h.1.length + 16)) Q) : xJ g D M k n pc ls (xi N :: st) h Q := by
  intro p e s m args below meth c0 H locs la C R S hl ol os hk hn
  have hNi : x32 N = N := x_okh os
  have hts := C.2.2.2.2.2.1
  have hK := C.2.2.2.2.2.2.2.2.1
  have hn0 : ¬ Int32.ofInt N < 0 := fun q => by
    rw [xn_0, xn_lt hNi xn_ok0] at q
    omega
  have hw : Cond.arrayClass (newarray.typeOf t) ∈ x_tb := by
    rcases ht with ⟨e1, -⟩ | ⟨e1, -⟩ | ⟨e1, -⟩ <;> subst e1 <;> decide +kernel
  have hbytes : N.toNat * componentBytes (newarray.typeOf t) ≤ 536870912 := by
    have h5 : N.toNat ≤ 1000000 := by omega
    have h6 : componentBytes (newarray.typeOf t) ≤ 8 := by
      rcases ht with ⟨e1, -⟩ | ⟨e1, -⟩ | ⟨e1, -⟩ <;> subst e1 <;> decide
    have h7 := Nat.mul_le_mul h5 h6
    omega
  refine va_newaK C.1 C.2.1 (hts _ hw) rfl hd rfl hn0 (xn_clamp hNi) hbytes h1 h2 rfl fun H1 cA e1 z1 o1 hAr hNm => ?_
  show W _ _ _ _ _ _ _ _ _ _ _ _ _ _ _ (F0 m (pc + 2) la (.ref H.size :: st.map (x_v g)))
  rw [← x_adN (h := h) R.1]
  refine kk p e s m args below meth c0 H1 locs la C ⟨by rw [z1, R.1]; simp [Nat.add_assoc], ?_, ?_⟩ ⟨Nat.le_trans S.1 (by omega), fun x y1 y2 => (o1 x (Nat.lt_of_lt_of_le y1 S.1)).trans (S.2.1 x y1 y2), S.2.2⟩ hl ol (x_okc trivial (x_okt os)) h1 h2
  · refine x_P_push R.1 R.2.1 ?_ o1 (fun x hx => x_nw_lt hx)
    rcases ht with ⟨e2, e3, -⟩ | ⟨e2, e3, -⟩ | ⟨e2, e3, -⟩
    · subst e2; subst e3
      have hcA : cA = g.ac 0 := Option.some.inj (hNm.symm.trans (hK.2 0 _ rfl).2)
      show H1[H.size]? = some (vp_cell (g.ac 0) (N.toNat, .inl fun j => Int32.ofInt (x_nw h.2 (h.1.length + 16) (h.1.length + 16) j)))
      rw [e1, hcA, vp_cell_i]
      congr 2
      funext j
      rw [x_nw_at]
      rfl
    · subst e2; subst e3
      have hcA : cA = g.ac 1 := Option.some.inj (hNm.symm.trans (hK.2 1 _ rfl).2)
      show H1[H.size]? = some (vp_cell (g.ac 1) (N.toNat, .inr (.inl fun j => Int64.ofInt (x_nw h.2 (h.1.length + 16) (h.1.length + 16) j))))
      rw [e1, hcA, vp_cell_l]
      congr 2
      funext j
      rw [x_nw_at]
      rfl
    · subst e2; subst e3
      have hcA : cA = g.ac 2 := Option.some.inj (hNm.symm.trans (hK.2 2 _ rfl).2)
      show H1[H.size]? = some (vp_cell (g.ac 2) (N.toNat, .inl fun j => Int32.ofInt (x_nw h.2 (h.1.length + 16) (h.1.length + 16) j)))
      rw [e1, hcA, vp_cell_i]
      congr 2
      funext j
      rw [x_nw_at]
      rfl
  · have hc : 10 ≤ c ∧ c < 14 := by rcases ht with ⟨-, e1, -⟩ | ⟨-, e1, -⟩ | ⟨-, e1, -⟩ <;> omega
    refine x_ok_push R.2.2 (fun z => by have z : c < 10 := z; omega) hc.2 (by show N.toNat < 1000000; omega) (fun x hx => x_nw_lt hx) (fun j => x_nw_at)
theorem xj_anewarray {i : Nat} {N : Int} (hd : decode (x_cd M) pc = .ok (.anewarray i, 3)) (hw : Cond.classLink (x_y M).cls i "LinenBoard$Act" ∈ x_tb) (h0 : 0 ≤ N) (hN : N < 1000000)
    (h1 : k + 1 ≤ x_bc M) (h2 : n + N.toNat ≤ x_bs M) (kk : xJ g D M (k + 1) (n + N.toNat) (pc + 3) ls (xr (h.1.length + 16) :: st) (h.1 ++ [(13, N.toNat)], x_nw h.2 (h.1.length + 16)) Q) : xJ g D M k n pc ls (xi N :: st) h Q := by
  intro p e s m args below meth c0 H locs la C R S hl ol os hk hn
  have hNi : x32 N = N := x_okh os
  have hts := C.2.2.2.2.2.1
  have hK := C.2.2.2.2.2.2.2.2.1
  have hn0 : ¬ Int32.ofInt N < 0 := fun q => by
    rw [xn_0, xn_lt hNi xn_ok0] at q
    omega
  have hcl := xn_clamp hNi
  refine W.anew C.1 C.2.1 C.2.2.2.2.1 (hts _ hw) (va_AO.use C.2.2.2.2.2.2.2.2.2.1) rfl hd rfl hn0 (by rw [hcl]; omega) h1 (by rw [hcl]; exact h2) fun cA kA comp f1 f2 f3 f4 => ?_
  rw [hcl]
  generalize hH1 : H.push ({ cls := cA, slots := Array.replicate N.toNat .null, vm := .none } : Cell) = H1
  have z1 : H1.size = H.size + 1 := by rw [← hH1, Array.size_push]
  have e1 : H1[H.size]? = some (arrV cA N.toNat (fun _ => .null)) := by rw [← hH1, Array.getElem?_push_size, ← arrV_new]
  have o1 : ∀ q : Nat, q < H.size → H1[q]? = H[q]? := fun q hq => by rw [← hH1, Array.getElem?_push, if_neg (Nat.ne_of_lt hq)]
  obtain ⟨kA2, comp2, y1, y2, y3, y4⟩ := (hK.2 3 _ rfl).2
  have hcA : cA = g.ac 3 := Option.some.inj (f1.symm.trans y4)
  show W _ _ _ _ _ _ _ _ _ _ _ _ _ _ _ (F0 m (pc + 3) la (.ref H.size :: st.map (x_v g)))
  rw [← x_adN (h := h) R.1]
  refine kk p e s m args below meth c0 H1 locs la C ⟨by rw [z1, R.1]; simp [Nat.add_assoc], ?_, ?_⟩ ⟨Nat.le_trans S.1 (by omega), fun x y1 y2 => (o1 x (Nat.lt_of_lt_of_le y1 S.1)).trans (S.2.1 x y1 y2), S.2.2⟩ hl ol (x_okc trivial (x_okt os)) h1 h2
  · refine x_P_push R.1 R.2.1 ?_ o1 (fun x hx => x_nw_lt hx)
    show H1[H.size]? = some (vp_cell (g.ac 3) (N.toNat, .inr (.inr (.inr (.inr fun j => x_ro g (x_nw h.2 (h.1.length + 16) (h.1.length + 16) j).toNat)))))
    rw [e1, hcA, vp_cell_q]
    congr 2
    funext j
    rw [x_nw_at]
    rfl
  · exact x_ok_push R.2.2 (fun z => by have z : 13 < 10 := z; omega) (by show 13 < 14; omega) (by show N.toNat < 1000000; omega) (fun x hx => x_nw_lt hx) (fun j => x_nw_at)
end XR3
end
section
/-! the walk: returns, calls, a method's entry -/
theorem x_in {w : Cond} (i : Nat) (h : lw_tbl[i]? = some w) (hg : goodWord w = true) : w ∈ x_tb := List.mem_filter.mpr ⟨List.mem_of_getElem? h, hg⟩
theorem x_tb_good {w : Cond} (hw : w ∈ x_tb) : goodWord w = true := by
  unfold x_tb at hw
  exact (List.mem_filter.mp hw).2
/-- what a method must be to be called -/
def x_mok (M : Nat) : Prop := Cond.code (x_y M) (x_cd M) (x_ml M) (x_rt M) ∈ x_tb ∧ Cond.initialized (x_y M).cls ∈ x_tb ∧ (x_y M).cls ≠ "java/lang/invoke/MethodHandle" ∧ (x_y M).cls ≠ "java/lang/invoke/VarHandle" ∧ plainName (x_y M).cls = true ∧ x_ml M ≤ 41
theorem x_good {M : Nat} (hm : x_mok M) : GoodIn x_tb (.code (x_y M) (x_cd M) (x_ml M) (x_rt M) :: x_tb) := by
  intro w hw
  have h1 : w ∈ x_tb := (List.mem_cons.mp hw).elim (fun z => z ▸ hm.1) id
  exact ⟨h1, good_of_word (x_tb_good h1)⟩
theorem x_U_moved {g : xG} {s U : State} (hs : x_U g s) (hW : s.WarmedH U.vm) (hq : ∀ a : Nat, a < s.heap.size → ¬ x_A g a → U.heap[a]? = s.heap[a]?) (hz : s.heap.size ≤ U.heap.size) : x_U g U := by
  obtain ⟨h1, h2, h3, h4, h5, h6, h7, h8, h9, h10, h11⟩ := hs
  have hnA : ¬ x_A g (g.sa 1) := fun z => by have z : g.b ≤ g.sa 1 := z; omega
  refine ⟨va_K.moved hW.alike h1, va_AO.moved hW.alike h2, fun q hq => va_Nw.warmM hW (h3 q hq), (va_X.moved hW.alike h4).kept (hq _ (by omega) hnA), h5, fun i q hi => ?_, fun i q hi => vk_R.warm hW (h7 i q hi), (vk_S.moved hW.alike h8).kept hq, (va_Z.moved hW.alike h9).kept hq, by omega, h11⟩
  obtain ⟨a1, a2, a3⟩ := h6 i q hi
  exact ⟨va_Nw.warmF hW a1, (va_Z.moved hW.alike a2).kept hq, (va_T.moved hW.alike a3).kept hq⟩
theorem x_blind {g : xG} {h : xH} {av : List Value} : FrameBlind (va_Pc av (fun U => x_R g h U.heap ∧ x_U g U)) := by
  intro a U f mk hp
  obtain ⟨h1, h2, h3⟩ := hp
  exact ⟨h1, h2, x_U_moved (U := U.calling f mk a) h3 (State.WarmedH.refl U) (fun _ _ _ => rfl) (Nat.le_refl _)⟩
def x_push (r : xV) (st : List xV) : List xV := match r with
  | .inr (.inr (.inr _)) => st
  | v => v :: st
section XC
variable {g : xG} {D M k n pc : Nat} {ls st : List xV} {h : xH} {Q : xV → xH → Prop}
theorem xj_ireturn {x : Int} (hd : decode (x_cd M) pc = .ok (.ireturn, 1)) (hr : x_rt M = some .int ∨ (x_rt M = some .boolean ∧ (x = 0 ∨ x = 1))) (kk : Q (xi x) h) : xJ g D M k n pc ls [xi x] h Q := by
  intro p e s m args below meth c H locs la C R S hl ol os hk hn
  refine W.widen hk hn ?_
  have hq : ∀ t : State, t.heap = H → s.WarmedH t.vm → x_Q g Q args s (.returned (some (.int (Int32.ofInt x)))) t := fun t ht hW => ⟨⟨xi x, h, rfl, kk, by rw [ht]; exact R, x_okh os⟩, S.F ht⟩
  rcases hr with hr | ⟨hr, hx⟩
  · exact W.iret (v := Int32.ofInt x) C.1 C.2.1 (C.2.2.1.trans hr) hq S.2.2 hd C.2.2.2.2.2.2.1
  · have hnar : narrow .boolean (.int (Int32.ofInt x)) = .int (Int32.ofInt x) := by
      rcases hx with e1 | e1 <;> subst e1 <;> decide +kernel
    exact W.zret (v := Int32.ofInt x) C.1 C.2.1 (C.2.2.1.trans hr) hnar hq S.2.2 hd C.2.2.2.2.2.2.1
theorem xj_creturn {x : Int} (hd : decode (x_cd M) pc = .ok (.ireturn, 1)) (hr : x_rt M = some .char) (hx : narrow .char (.int (Int32.ofInt x)) = .int (Int32.ofInt x)) (kk : Q (xi x) h) : xJ g D M k n pc ls [xi x] h Q := by
  intro p e s m args below meth c H locs la C R S hl ol os hk hn
  refine W.widen hk hn ?_
  exact W.zret (v := Int32.ofInt x) C.1 C.2.1 (C.2.2.1.trans hr) hx (fun t ht hW => ⟨⟨xi x, h, rfl, kk, by rw [ht]; exact R, x_okh os⟩, S.F ht⟩) S.2.2 hd C.2.2.2.2.2.2.1
theorem xj_lreturn {x : Int} (hd : decode (x_cd M) pc = .ok (.lreturn, 1)) (hr : x_rt M = some .long) (kk : Q (xl x) h) : xJ g D M k n pc ls [xl x] h Q := by
  intro p e s m args below meth c H locs la C R S hl ol os hk hn
  refine W.widen hk hn ?_
  exact W.lret (v := Int64.ofInt x) C.1 C.2.1 (C.2.2.1.trans hr) (fun t ht hW => ⟨⟨xl x, h, rfl, kk, by rw [ht]; exact R, x_okh os⟩, S.F ht⟩) S.2.2 hd C.2.2.2.2.2.2.1
theorem xj_areturn {r : Nat} {c0 : String} (hd : decode (x_cd M) pc = .ok (.areturn, 1)) (hr : x_rt M = some (.object c0)) (kk : Q (xr r) h) : xJ g D M k n pc ls [xr r] h Q := by
  intro p e s m args below meth c H locs la C R S hl ol os hk hn
  refine W.widen hk hn ?_
  refine W.aret (v := x_v g (xr r)) (rt := .object c0) C.1 C.2.1 (C.2.2.1.trans hr) (Or.inl ⟨_, rfl⟩) ?_ (fun t ht hW => ⟨⟨xr r, h, rfl, kk, by rw [ht]; exact R, trivial⟩, S.F ht⟩) S.2.2 hd C.2.2.2.2.2.2.1
  rcases x_rn (g := g) r with ⟨-, z⟩ | ⟨-, z⟩
  · exact Or.inl z
  · exact Or.inr ⟨_, z⟩
theorem xj_return (hd : decode (x_cd M) pc = .ok (.return_, 1)) (hr : x_rt M = none) (kk : Q xu h) : xJ g D M k n pc ls [] h Q := by
  intro p e s m args below meth c H locs la C R S hl ol os hk hn
  refine W.widen hk hn ?_
  exact W.vret C.1 C.2.1 (C.2.2.1.trans hr) (fun t ht hW => ⟨⟨xu, h, rfl, kk, by rw [ht]; exact R, trivial⟩, S.F ht⟩) S.2.2 hd C.2.2.2.2.2.2.1
theorem x_out_list {v : Option Value} {r : xV} (hv : Outcome.returned v = x_out g r) : v.toList ++ st.map (x_v g) = (x_push r st).map (x_v g) := by
  rcases r with x | x | r | u
  · have e1 : v = some (x_v g (xi x)) := by have := hv; simp only [x_out] at this; exact (Outcome.returned.inj this)
    subst e1; rfl
  · have e1 : v = some (x_v g (xl x)) := by have := hv; simp only [x_out] at this; exact (Outcome.returned.inj this)
    subst e1; rfl
  · have e1 : v = some (x_v g (xr r)) := by have := hv; simp only [x_out] at this; exact (Outcome.returned.inj this)
    subst e1; rfl
  · have e1 : v = none := by have := hv; simp only [x_out] at this; exact (Outcome.returned.inj this)
    subst e1; rfl
theorem xw_run {p : Program} {e : Env} {R0 : Room} {s : State} {m : MethodId} {args : Array Value} {below : List Frame} {meth : Method} {c : Code} {H : Heap} {locs : List Loc} {la : Array Slot} {st0 : List Value} {mc ms : Nat} {a : Array Value} {Q1 : xV → xH → Prop} {Qf : State → Prop}
    (hr : va_Run p g.l e R0 s m args below meth c H locs k n mc ms (F0 m pc la st0) (st.map (x_v g)) (x_Q g Q1 a) (x_A g)) (S : va_S (x_A g) s.heap H locs)
    (kk : ∀ (r : xV) (h1 : xH) (H1 : Heap) (locs1 : List Loc), Q1 r h1 → x_R g h1 H1 → x_ok r → va_S (x_A g) s.heap H1 locs1 → W p g.l e R0 s m args below meth c H1 locs1 (k + mc) (n + ms) Qf (F0 m (pc + 3) la ((x_push r st).map (x_v g)))) :
    W p g.l e R0 s m args below meth c H locs k n Qf (F0 m pc la st0) := by
  intro T hT X
  obtain ⟨v, st₀, t, T', L, h0, X', hL, e1, e2, ⟨⟨r, h1, hv, hq, hR, hok⟩, hz, hk⟩, stp⟩ := hr T hT X
  rw [h0] at hz hk
  obtain ⟨t2, a1, b1⟩ := kk r h1 T'.heap (locs ++ L) hq (by rw [e1]; exact hR) hok
    ⟨Nat.le_trans S.1 (by rw [e1]; exact hz), fun q h1 h2 => by rw [e1, hk q (Nat.lt_of_lt_of_le h1 S.1) h2]; exact S.2.1 q h1 h2, fun q hq => by
      rcases List.mem_append.mp hq with h | h
      · exact S.2.2 q h
      · exact hL q h⟩ T' rfl X'
  rw [← x_out_list hv] at a1
  exact ⟨t2, stp t2 a1, b1⟩
theorem x_push_ok {r : xV} (hr : x_ok r) (hs : ∀ v ∈ st, x_ok v) : ∀ v ∈ x_push r st, x_ok v := by
  rcases r with x | x | r | u
  · exact x_okc hr hs
  · exact x_okc hr hs
  · exact x_okc hr hs
  · exact hs
/-- how many words a stack takes -/
def x_wd : List xV → Nat
  | [] => 0
  | .inr (.inl _) :: st => x_wd st + 2
  | _ :: st => x_wd st + 1
theorem x_wd_sum : ∀ st : List xV, ((st.map (x_v g)).map fun v => v.category).sum = x_wd st := by
  intro st
  induction st with
  | nil => rfl
  | cons v st ih =>
    simp only [List.map_cons, List.sum_cons] at ih ⊢
    rw [ih]
    rcases v with x | x | r | u
    · show 1 + x_wd st = x_wd st + 1; omega
    · show 2 + x_wd st = x_wd st + 2; omega
    · have e1 := x_cat1 (g := g) (v := xr r) (by intro x z; cases z)
      rw [e1]
      show 1 + x_wd st = x_wd st + 1; omega
    · show 1 + x_wd st = x_wd st + 1; omega
theorem x_room {M2 : Nat} (hm : x_mok M2) : (x_rm D M2).frames + 1 ≤ (x_rm (D + 1) M).frames ∧ 8 + (x_ml M2 + 11) + (x_rm D M2).locals ≤ (x_rm (D + 1) M).locals := by
  have h1 := hm.2.2.2.2.2
  refine ⟨Nat.le_refl _, ?_⟩
  show 8 + (x_ml M2 + 11) + 60 * D ≤ 60 * (D + 1)
  omega
theorem x_okapp {a b : List xV} (ha : ∀ v ∈ a, x_ok v) (hb : ∀ v ∈ b, x_ok v) : ∀ v ∈ a ++ b, x_ok v := fun v hv => (List.mem_append.mp hv).elim (ha v) (hb v)
theorem x_args_ok {As : List xV} {v : xV} (os : ∀ w ∈ As.reverse ++ v :: st, x_ok w) : ∀ w ∈ v :: As, x_ok w := by
  intro w hw
  rcases List.mem_cons.mp hw with e1 | h1
  · exact os w (List.mem_append_right _ (by rw [e1]; exact List.mem_cons_self))
  · exact os w (List.mem_append_left _ (List.mem_reverse.mpr h1))
theorem x_args_ok2 {As : List xV} (os : ∀ w ∈ As.reverse ++ st, x_ok w) : ∀ w ∈ As, x_ok w := fun w hw => os w (List.mem_append_left _ (List.mem_reverse.mpr hw))
/-- a call of an object's method -/
theorem xj_invokevirtual {i M2 b c N : Nat} {As : List xV} (hd : decode (x_cd M) pc = .ok (.invokevirtual i, 3)) (hm : x_mok M2) (hr : x_is h b c N) (hc : c < 10) (hcn : x_cn.getD c "" = (x_y M2).cls)
    (hl0 : Cond.methodLink (x_y M).cls i (x_y M2) ∈ x_tb ∨ ((x_y M).cls, i, x_y M2) ∈ x_nm) (hi0 : Cond.instanceMethod (x_y M2) ∈ x_tb) (hs0 : Cond.selects (x_y M2).cls (x_y M2) (x_y M2) ∈ x_tb) (hn0 : (parseMethodDescriptor (x_y M2).desc).map (fun d => d.parameters.length) = some As.length)
    (h1 : k + x_bc M2 ≤ x_bc M) (h2 : n + x_bs M2 ≤ x_bs M) (hw : x_wd st ≤ 8) (kk : xS g D M2 (xr b :: As) h (fun r h1 => xJ g (D + 1) M (k + x_bc M2) (n + x_bs M2) (pc + 3) ls (x_push r st) h1 Q)) : xJ g (D + 1) M k n pc ls (As.reverse ++ xr b :: st) h Q := by
  intro p e s m args below meth c0 H locs la C R S hl ol os hk hn
  have hts := C.2.2.2.2.2.1
  have hK := C.2.2.2.2.2.2.2.2.1
  obtain ⟨q, hq, q1, q2, q3⟩ := x_cl_len c hc
  have he := x_ws_at (g := g) hr
  rw [x_E_obj hc] at he
  have hM := kk (x_args_ok os)
  rw [List.map_append, List.map_reverse, List.map_cons, x_ne0 hr]
  rw [List.map_cons, x_ne0 hr] at hM
  have hpre : PreV s H (x_y M2).cls (x_ad g b) (va_Pc (Value.ref (x_ad g b) :: As.map (x_v g)) (fun U => x_R g h U.heap ∧ x_U g U)) (As.map (x_v g)) := by
    refine ⟨x_blind, ?_, fun U hU hW => ⟨rfl, by rw [hU]; exact R, x_U_moved C.2.2.2.2.2.2.2.2 hW (fun a y1 y2 => by rw [hU]; exact S.2.1 a y1 y2) (by rw [hU]; exact S.1)⟩⟩
    obtain ⟨cell, y1, y2, y3⟩ := va_recv hK R.2.1 hq he
    exact ⟨cell, y1, y2, by rw [← hcn, ← q2]; exact y3⟩
  have hfix : CallFix p m c0 (x_cd M) (x_ml M) s args x_tb (x_y M).cls := ⟨C.1, C.2.1, C.2.2.2.1, C.2.2.2.2.1, hts⟩
  have hwd : 2 * (F0 m pc la ((As.map (x_v g)).reverse ++ Value.ref (x_ad g b) :: st.map (x_v g))).monitorRoom + ((st.map (x_v g)).map fun v => v.category).sum ≤ 8 := by
    refine lv_room ?_
    rw [x_wd_sum]
    exact hw
  have hfin : ∀ (r : xV) (h1 : xH) (H1 : Heap) (locs1 : List Loc), xJ g (D + 1) M (k + x_bc M2) (n + x_bs M2) (pc + 3) ls (x_push r st) h1 Q → x_R g h1 H1 → x_ok r → va_S (x_A g) s.heap H1 locs1 → W p g.l e (x_rm (D + 1) M) s m args below meth c0 H1 locs1 (k + x_bc M2) (n + x_bs M2) (MQ below (x_Q g Q) args s (x_bc M) (x_bs M) (x_A g)) (F0 m (pc + 3) la ((x_push r st).map (x_v g))) :=
    fun r h3 H1 locs1 hJ hR hok hS => hJ p e s m args below meth c0 H1 locs1 la C hR hS hl ol (x_push_ok hok (fun v hv => os v (List.mem_append_right _ (List.mem_cons_of_mem _ hv)))) h1 h2
  rcases hl0 with hl0 | hl0
  · have cb := callB_of (R := x_rm (D + 1) M) (rm := x_rm D M2) (mc := x_bc M2) (ms := x_bs M2) As.length hts (x_good hm) rfl rfl rfl (hts _ hm.2.1) (hts _ hl0) ⟨hm.2.2.1, hm.2.2.2.1, hn0⟩ (x_room hm)
    exact xw_run (va_runV (C := (x_y M2).cls) hfix hM ⟨cb, hts _ hi0, hts _ hs0⟩ hpre rfl (List.length_map _) hl.1 rfl hwd hd ⟨h1, h2⟩) S hfin
  · have cb := va_cnB (R := x_rm (D + 1) M) (rm := x_rm D M2) (mc := x_bc M2) (ms := x_bs M2) (own := (x_y M).cls) (index := i) As.length hts (x_good hm) rfl rfl rfl (C.2.2.2.2.2.2.2.2.2.2.1 _ hl0) (hts _ hm.2.1) ⟨hm.2.2.1, hm.2.2.2.1, hn0⟩ (x_room hm)
    exact xw_run (va_runVN (C := (x_y M2).cls) hfix hM ⟨cb, hts _ hi0, hts _ hs0⟩ hpre rfl (List.length_map _) hl.1 rfl hwd hd ⟨h1, h2⟩) S hfin
/-- a call of a static method -/
theorem xj_invokestatic {i M2 : Nat} {As : List xV} (hd : decode (x_cd M) pc = .ok (.invokestatic i, 3)) (hm : x_mok M2)
    (hl0 : Cond.methodLink (x_y M).cls i (x_y M2) ∈ x_tb ∨ ((x_y M).cls, i, x_y M2) ∈ x_nm) (hi0 : Cond.static (x_y M2) ∈ x_tb) (hn0 : (parseMethodDescriptor (x_y M2).desc).map (fun d => d.parameters.length) = some As.length)
    (h1 : k + x_bc M2 ≤ x_bc M) (h2 : n + x_bs M2 ≤ x_bs M) (hw : x_wd st ≤ 8) (kk : xS g D M2 As h (fun r h1 => xJ g (D + 1) M (k + x_bc M2) (n + x_bs M2) (pc + 3) ls (x_push r st) h1 Q)) : xJ g (D + 1) M k n pc ls (As.reverse ++ st) h Q := by
  intro p e s m args below meth c0 H locs la C R S hl ol os hk hn
  have hts := C.2.2.2.2.2.1
  have hM := kk (x_args_ok2 os)
  rw [List.map_append, List.map_reverse]
  have hpre : PreS s H (va_Pc (As.map (x_v g)) (fun U => x_R g h U.heap ∧ x_U g U)) (As.map (x_v g)) :=
    ⟨x_blind, fun U hU hW => ⟨rfl, by rw [hU]; exact R, x_U_moved C.2.2.2.2.2.2.2.2 hW (fun a y1 y2 => by rw [hU]; exact S.2.1 a y1 y2) (by rw [hU]; exact S.1)⟩⟩
  have hfix : CallFix p m c0 (x_cd M) (x_ml M) s args x_tb (x_y M).cls := ⟨C.1, C.2.1, C.2.2.2.1, C.2.2.2.2.1, hts⟩
  have hwd : 2 * (F0 m pc la ((As.map (x_v g)).reverse ++ st.map (x_v g))).monitorRoom + ((st.map (x_v g)).map fun v => v.category).sum ≤ 8 := by
    refine lv_room ?_
    rw [x_wd_sum]
    exact hw
  have hfin : ∀ (r : xV) (h1 : xH) (H1 : Heap) (locs1 : List Loc), xJ g (D + 1) M (k + x_bc M2) (n + x_bs M2) (pc + 3) ls (x_push r st) h1 Q → x_R g h1 H1 → x_ok r → va_S (x_A g) s.heap H1 locs1 → W p g.l e (x_rm (D + 1) M) s m args below meth c0 H1 locs1 (k + x_bc M2) (n + x_bs M2) (MQ below (x_Q g Q) args s (x_bc M) (x_bs M) (x_A g)) (F0 m (pc + 3) la ((x_push r st).map (x_v g))) :=
    fun r h3 H1 locs1 hJ hR hok hS => hJ p e s m args below meth c0 H1 locs1 la C hR hS hl ol (x_push_ok hok (fun v hv => os v (List.mem_append_right _ hv))) h1 h2
  rcases hl0 with hl0 | hl0
  · have cb := callB_of (R := x_rm (D + 1) M) (rm := x_rm D M2) (mc := x_bc M2) (ms := x_bs M2) As.length hts (x_good hm) rfl rfl rfl (hts _ hm.2.1) (hts _ hl0) ⟨hm.2.2.1, hm.2.2.2.1, hn0⟩ (x_room hm)
    exact xw_run (va_runS hfix hM ⟨cb, hts _ hi0⟩ hpre rfl (List.length_map _) hl.1 rfl hwd hd ⟨h1, h2⟩) S hfin
  · have cb := va_cnB (R := x_rm (D + 1) M) (rm := x_rm D M2) (mc := x_bc M2) (ms := x_bs M2) (own := (x_y M).cls) (index := i) As.length hts (x_good hm) rfl rfl rfl (C.2.2.2.2.2.2.2.2.2.2.1 _ hl0) (hts _ hm.2.1) ⟨hm.2.2.1, hm.2.2.2.1, hn0⟩ (x_room hm)
    exact xw_run (va_runSN hfix hM ⟨cb, hts _ hi0, trivial⟩ hpre rfl (List.length_map _) hl.1 rfl hwd hd ⟨h1, h2⟩) S hfin
/-- a constructor's call -/
theorem xj_invokespecial {i M2 b c N : Nat} {As : List xV} (hd : decode (x_cd M) pc = .ok (.invokespecial i, 3)) (hm : x_mok M2) (hr : x_is h b c N) (hin : (x_y M2).name = "<init>") (hrt : x_rt M2 = none)
    (hl0 : Cond.methodLink (x_y M).cls i (x_y M2) ∈ x_tb ∨ ((x_y M).cls, i, x_y M2) ∈ x_nm) (hi0 : Cond.instanceMethod (x_y M2) ∈ x_tb) (hn0 : (parseMethodDescriptor (x_y M2).desc).map (fun d => d.parameters.length) = some As.length)
    (h1 : k + x_bc M2 ≤ x_bc M) (h2 : n + x_bs M2 ≤ x_bs M) (hw : x_wd st ≤ 8) (kk : xS g D M2 (xr b :: As) h (fun r h1 => xJ g (D + 1) M (k + x_bc M2) (n + x_bs M2) (pc + 3) ls (x_push r st) h1 Q)) : xJ g (D + 1) M k n pc ls (As.reverse ++ xr b :: st) h Q := by
  intro p e s m args below meth c0 H locs la C R S hl ol os hk hn
  have hts := C.2.2.2.2.2.1
  have hM := kk (x_args_ok os)
  rw [List.map_append, List.map_reverse, List.map_cons, x_ne0 hr]
  rw [List.map_cons, x_ne0 hr] at hM
  rw [hrt] at hM
  have hpre : PreS s H (va_Pc (Value.ref (x_ad g b) :: As.map (x_v g)) (fun U => x_R g h U.heap ∧ x_U g U)) (Value.ref (x_ad g b) :: As.map (x_v g)) :=
    ⟨x_blind, fun U hU hW => ⟨rfl, by rw [hU]; exact R, x_U_moved C.2.2.2.2.2.2.2.2 hW (fun a y1 y2 => by rw [hU]; exact S.2.1 a y1 y2) (by rw [hU]; exact S.1)⟩⟩
  have hfix : CallFix p m c0 (x_cd M) (x_ml M) s args x_tb (x_y M).cls := ⟨C.1, C.2.1, C.2.2.2.1, C.2.2.2.2.1, hts⟩
  have hwd : 2 * (F0 m pc la ((As.map (x_v g)).reverse ++ Value.ref (x_ad g b) :: st.map (x_v g))).monitorRoom + ((st.map (x_v g)).map fun v => v.category).sum ≤ 8 := by
    refine lv_room ?_
    rw [x_wd_sum]
    exact hw
  have hgd := x_good hm
  rw [hrt] at hgd
  have hfin : ∀ (r : xV) (h1 : xH) (H1 : Heap) (locs1 : List Loc), xJ g (D + 1) M (k + x_bc M2) (n + x_bs M2) (pc + 3) ls (x_push r st) h1 Q → x_R g h1 H1 → x_ok r → va_S (x_A g) s.heap H1 locs1 → W p g.l e (x_rm (D + 1) M) s m args below meth c0 H1 locs1 (k + x_bc M2) (n + x_bs M2) (MQ below (x_Q g Q) args s (x_bc M) (x_bs M) (x_A g)) (F0 m (pc + 3) la ((x_push r st).map (x_v g))) :=
    fun r h3 H1 locs1 hJ hR hok hS => hJ p e s m args below meth c0 H1 locs1 la C hR hS hl ol (x_push_ok hok (fun v hv => os v (List.mem_append_right _ (List.mem_cons_of_mem _ hv)))) h1 h2
  rcases hl0 with hl0 | hl0
  · have cb := callB_of (R := x_rm (D + 1) M) (rm := x_rm D M2) (mc := x_bc M2) (ms := x_bs M2) As.length hts hgd rfl rfl rfl (hts _ hm.2.1) (hts _ hl0) ⟨hm.2.2.1, hm.2.2.2.1, hn0⟩ (x_room hm)
    exact xw_run (va_runI hfix hM ⟨cb, hin, hts _ hi0⟩ hpre rfl (List.length_map _) hl.1 rfl hwd hd ⟨h1, h2⟩) S hfin
  · have cb := va_cnB (R := x_rm (D + 1) M) (rm := x_rm D M2) (mc := x_bc M2) (ms := x_bs M2) (own := (x_y M).cls) (index := i) As.length hts hgd rfl rfl rfl (C.2.2.2.2.2.2.2.2.2.2.1 _ hl0) (hts _ hm.2.1) ⟨hm.2.2.1, hm.2.2.2.1, hn0⟩ (x_room hm)
    exact xw_run (va_runIN hfix hM ⟨cb, hin, hts _ hi0⟩ hpre rfl (List.length_map _) hl.1 rfl hwd hd ⟨h1, h2⟩) S hfin
theorem xj_objinit {i b c N : Nat} (hd : decode (x_cd M) pc = .ok (.invokespecial i, 3)) (hr : x_is h b c N) (hl0 : Cond.methodLink (x_y M).cls i Lib.objectInit ∈ x_tb) (hw : x_wd st ≤ 8) (kk : xJ g (D + 1) M k n (pc + 3) ls st h Q) : xJ g (D + 1) M k n pc ls (xr b :: st) h Q := by
  intro p e s m args below meth c0 H locs la C R S hl ol os hk hn
  have hts := C.2.2.2.2.2.1
  have kk := kk p e s m args below meth c0 H locs la C R S hl ol (x_okt os) hk hn
  rw [List.map_cons, x_ne0 hr]
  have i1 : Cond.instanceMethod Lib.objectInit ∈ x_tb := x_in 120 rfl rfl
  have i2 : Cond.code Lib.objectInit ⟨#[0xb1]⟩ 1 none ∈ x_tb := x_in 121 rfl rfl
  have hwd : 2 * (F0 m pc la (Value.ref (x_ad g b) :: st.map (x_v g))).monitorRoom + ((st.map (x_v g)).map fun v => v.category).sum ≤ 8 := by
    refine lv_room ?_
    rw [x_wd_sum]
    exact hw
  exact W.objInit C.1 C.2.1 C.2.2.2.2.1 (hts _ hl0) (hts _ i1) (hts _ i2) rfl (by rw [C.2.2.2.1]; exact hl.1) rfl hd (by show 1 ≤ D + 1; omega) (by show _ + 12 ≤ 60 * (D + 1); omega) kk
/-! a method's entry: the arguments are its first locals -/
def x_en : List xV → List xV
  | [] => []
  | .inr (.inl x) :: vs => xl x :: xu :: x_en vs
  | v :: vs => v :: x_en vs
theorem x_en_len : ∀ vs : List xV, (lg_sl (vs.map (x_v g))).length = (x_en vs).length := by
  intro vs
  induction vs with
  | nil => rfl
  | cons v vs ih =>
    unfold lg_sl at ih ⊢
    rw [List.map_cons, List.flatMap_cons, List.length_append, ih]
    rcases v with x | x | r | u
    · show 1 + _ = _ + 1; omega
    · show 2 + _ = _ + 1 + 1; omega
    · have e1 := x_cat1 (g := g) (v := xr r) (by intro x z; cases z)
      rw [if_neg (by rw [e1]; decide)]
      show 1 + _ = _ + 1; omega
    · show 1 + _ = _ + 1; omega
theorem x_en_mem : ∀ (vs : List xV) (i : Nat) (q : Nat × Value), q ∈ x_lv g i (x_en vs) → q ∈ lv_args i (vs.map (x_v g)) := by
  intro vs
  induction vs with
  | nil => intro i q hq; simp [x_en, x_lv] at hq
  | cons v vs ih =>
    intro i q hq
    rcases v with x | x | r | u
    · rcases List.mem_cons.mp hq with z | z
      · rw [z]; exact List.mem_cons_self
      · exact List.mem_cons_of_mem _ (ih (i + 1) q z)
    · rcases List.mem_cons.mp hq with z | z
      · rw [z]; exact List.mem_cons_self
      · exact List.mem_cons_of_mem _ (ih (i + 2) q z)
    · have e1 := x_cat1 (g := g) (v := xr r) (by intro x z; cases z)
      rcases List.mem_cons.mp hq with z | z
      · rw [z]; exact List.mem_cons_self
      · refine List.mem_cons_of_mem _ ?_
        rw [if_neg (by rw [e1]; decide)]
        exact ih (i + 1) q z
    · exact List.mem_cons_of_mem _ (ih (i + 1) q hq)
theorem x_lv_app : ∀ (a b : List xV) (i : Nat), x_lv g i (a ++ b) = x_lv g i a ++ x_lv g (i + a.length) b := by
  intro a
  induction a with
  | nil => intro b i; rfl
  | cons v a ih =>
    intro b i
    rcases v with x | x | r | u
    · show _ :: x_lv g (i + 1) (a ++ b) = _ :: x_lv g (i + 1) a ++ _
      rw [ih, show i + 1 + a.length = i + (xi x :: a).length by simp; omega]; rfl
    · show _ :: x_lv g (i + 1) (a ++ b) = _ :: x_lv g (i + 1) a ++ _
      rw [ih, show i + 1 + a.length = i + (xl x :: a).length by simp; omega]; rfl
    · show _ :: x_lv g (i + 1) (a ++ b) = _ :: x_lv g (i + 1) a ++ _
      rw [ih, show i + 1 + a.length = i + (xr r :: a).length by simp; omega]; rfl
    · show x_lv g (i + 1) (a ++ b) = x_lv g (i + 1) a ++ _
      rw [ih, show i + 1 + a.length = i + (xu :: a).length by simp; omega]
theorem x_lv_un : ∀ (m i : Nat), x_lv g i (List.replicate m xu) = [] := by
  intro m
  induction m with
  | zero => intro i; rfl
  | succ m ih => intro i; exact ih (i + 1)
theorem x_en_ok : ∀ vs : List xV, (∀ v ∈ vs, x_ok v) → ∀ v ∈ x_en vs, x_ok v := by
  intro vs
  induction vs with
  | nil => intro _ v hv; simp [x_en] at hv
  | cons w vs ih =>
    intro hs
    have h1 := ih (x_okt hs)
    have h2 := x_okh hs
    rcases w with x | x | r | u
    · exact x_okc h2 h1
    · exact x_okc h2 (x_okc trivial h1)
    · exact x_okc h2 h1
    · exact x_okc h2 h1
def x_l0 (M : Nat) (args : List xV) : List xV := x_en args ++ List.replicate (x_ml M - (x_en args).length) xu
theorem x_entry {args : List xV} (hm : x_mok M) (ha : (x_en args).length ≤ x_ml M) (kk : xJ g D M 0 0 0 (x_l0 M args) [] h Q) : xS g D M args h Q := by
  intro oa
  refine Met.ofW (cc := x_cd M) (maxL := x_ml M) (ret := x_rt M) hm.2.2.2.2.1 rfl ?_
  intro p e s m av below meth c s₁ B hml hv
  obtain ⟨rfl, hR, hU⟩ := hv
  have hts := atoms_spec (ws := .code (x_y M) (x_cd M) (x_ml M) (x_rt M) :: x_tb) B.pre
  have hl := lv_entry (args.map (x_v g)) (n := x_ml M) (by rw [x_en_len]; exact ha)
  rw [lg_entry_eq]
  refine kk p e s m _ below meth c s.heap [] _ ⟨B.exec, B.bytes, B.returns, hml, findClass_of_methodNamed B.named, fun w hw => hts w (List.mem_cons_of_mem _ hw), B.notSynchronized, (name_of_methodNamed B.named B.method).1, hU⟩ hR va_S.rf ⟨hl.1, hl.2.1, fun q hq => hl.2.2 q ?_⟩ ?_ (fun v hv => by cases hv) (Nat.zero_le _) (Nat.zero_le _)
  · unfold x_l0 at hq
    rw [x_lv_app, x_lv_un, List.append_nil] at hq
    exact x_en_mem args 0 q hq
  · unfold x_l0
    refine x_okapp (x_en_ok args oa) (fun v hv => ?_)
    rw [List.eq_of_mem_replicate hv]
    trivial
end XC
end
section
/-! links, by the places of their words in the tables -/
def x_cnn : List String := ["LinenBoard$Act", "LinenBoard$Bench", "LinenBoard$Ledger", "LinenBoard$Loom", "LinenBoard$Reader", "LinenBoard$Rows", "LinenBoard$Tape", "LinenBoard$Urn", "LinenBoard", "LinenBoardModel", "LinenBoardLaw", "java/lang/Character", "java/lang/Math", "java/lang/String", "java/lang/StringLatin1", "java/lang/StringUTF16", "java/util/Arrays", "jdk/internal/util/Preconditions"]
def x_ocl : List Nat := [0, 0, 0, 0, 0, 0, 0, 0, 1, 1, 1, 1, 1, 1, 1, 1, 1, 1, 1, 1, 1, 1, 1, 2, 2, 2, 2, 2, 3, 3, 3, 3, 3, 3, 3, 3, 3, 4, 4, 4, 4, 4, 4, 4, 4, 4, 4, 4, 4, 4, 4, 4, 4, 5, 5, 5, 5, 5, 5, 5, 6, 6, 6, 6, 6, 6, 6, 6, 6, 6, 6, 7, 7, 7, 7, 7, 8, 8, 8, 8, 8, 8, 8, 8, 8, 8, 8, 8, 8, 8, 8, 8, 8, 8, 8, 8, 8, 8, 8, 8, 8, 8, 8, 8, 8, 8, 8, 8, 8, 8, 8, 8, 8, 8, 8, 8, 8, 8, 8, 8, 8, 8, 8, 8, 8, 8, 8, 8, 8, 8, 8, 8, 8, 8, 8, 8, 9, 9, 9, 9, 9, 9, 9, 9, 9, 9, 9, 9, 9, 9, 9, 9, 9, 9, 9, 9, 9, 9, 9, 9, 9, 9, 9, 9, 9, 9, 9, 9, 9, 9, 9, 9, 9, 9, 9, 9, 9, 9, 9, 9, 9, 9, 9, 9, 9, 9, 9, 9, 9, 9, 9, 9, 9, 9, 9, 9, 9, 9, 9, 9, 9, 9, 9, 9, 9, 9, 9, 9, 9, 9, 9, 9, 9, 9, 9, 9, 9, 9, 9, 9, 9, 9, 9, 9, 9, 9, 9, 9, 9, 9, 9, 9, 9, 9, 9, 9, 9, 9, 9, 9, 9, 9, 9, 9, 9, 9, 9, 10, 11, 11, 11, 12, 12, 12, 12, 13, 13, 13, 13, 13, 13, 13, 13, 14, 14, 14, 14, 15, 15, 15, 15, 15, 15, 15, 15, 15, 16, 17, 17]
def x_oc (M : Nat) : Nat := x_ocl.getD M 99
theorem x_oc_ok : ∀ M, M < 279 → (x_y M).cls = x_cnn.getD (x_oc M) "" := by decide +kernel
/-- own class: entry, class, field, place -/
def x_fks : List (List (Nat × Nat × Nat × Nat)) := [[(14, 0, 0, 716), (26, 0, 1, 719), (30, 0, 2, 720), (34, 0, 3, 721), (44, 5, 3, 144)], [(9, 1, 1, 303), (15, 1, 2, 304), (19, 1, 0, 302), (23, 2, 4, 169), (29, 5, 3, 142), (43, 2, 3, 166), (50, 2, 0, 159), (77, 1, 4, 307), (86, 2, 14, 192), (96, 1, 3, 305), (104, 2, 5, 172), (127, 0, 0, 718)], [(14, 2, 0, 157), (20, 2, 1, 160), (23, 2, 2, 163), (26, 2, 3, 165), (29, 2, 4, 168), (32, 2, 5, 171), (35, 2, 6, 174), (38, 2, 7, 176), (41, 2, 8, 178), (44, 2, 9, 180), (47, 2, 10, 182), (50, 2, 11, 185), (55, 2, 12, 187), (59, 2, 15, 193), (63, 2, 13, 188), (74, 2, 14, 191), (77, 2, 16, 195), (80, 2, 17, 197), (83, 2, 18, 199)], [(14, 3, 1, 330), (20, 3, 2, 331), (23, 3, 3, 332), (26, 3, 4, 333), (29, 3, 5, 334), (32, 3, 6, 335), (35, 3, 7, 336), (38, 3, 0, 329), (42, 5, 3, 140), (46, 3, 8, 338), (49, 3, 9, 340), (52, 2, 1, 161), (65, 2, 10, 183)], [(9, 4, 3, 281), (15, 4, 4, 283), (18, 4, 0, 277), (29, 6, 5, 256), (35, 4, 2, 279), (39, 4, 1, 278), (46, 6, 1, 248), (50, 6, 3, 252), (53, 6, 2, 250), (56, 6, 4, 254), (72, 0, 0, 717), (99, 0, 3, 722)], [(9, 5, 0, 137), (15, 5, 1, 138), (24, 5, 2, 139), (28, 5, 3, 141)], [(9, 6, 0, 246), (15, 6, 1, 247), (18, 6, 2, 249), (21, 6, 3, 251), (24, 6, 4, 253), (28, 6, 5, 257)], [(9, 7, 0, 369), (15, 7, 1, 370)], [(15, 8, 0, 377), (19, 8, 1, 378), (22, 8, 2, 379), (31, 8, 3, 380), (40, 8, 4, 381), (47, 8, 5, 382), (54, 8, 6, 383), (62, 2, 0, 158), (76, 2, 1, 162), (79, 2, 2, 164), (86, 2, 14, 190), (94, 2, 3, 167), (100, 2, 4, 170), (107, 5, 3, 143), (113, 1, 4, 308), (124, 6, 4, 255), (131, 2, 13, 189), (143, 4, 3, 282), (146, 4, 2, 280), (154, 4, 4, 284), (161, 2, 5, 173), (171, 2, 6, 175), (183, 2, 7, 177), (186, 2, 15, 194), (201, 2, 8, 179), (221, 2, 9, 181), (232, 2, 10, 184), (244, 3, 7, 337), (248, 3, 8, 339), (251, 3, 9, 341), (257, 7, 1, 371), (272, 2, 11, 186), (281, 2, 16, 196), (284, 2, 17, 198), (287, 2, 18, 200), (290, 1, 3, 306)], [(7, 9, 0, 1087), (13, 9, 1, 1088), (16, 9, 2, 1089), (20, 9, 3, 1090), (23, 9, 4, 1091), (26, 9, 6, 1093), (30, 9, 7, 1094), (33, 9, 17, 1104), (36, 9, 21, 1108), (39, 9, 22, 1109), (42, 9, 23, 1110), (46, 9, 24, 1111), (49, 9, 25, 1112), (52, 9, 26, 1113), (55, 9, 27, 1114), (58, 9, 30, 1117), (61, 9, 31, 1118), (82, 9, 5, 1092), (89, 9, 8, 1095), (96, 9, 9, 1096), (99, 9, 10, 1097), (105, 9, 11, 1098), (112, 9, 12, 1099), (124, 9, 13, 1100), (127, 9, 15, 1102), (130, 9, 18, 1105), (133, 9, 20, 1107), (137, 9, 19, 1106), (199, 9, 16, 1103), (202, 9, 14, 1101), (320, 9, 28, 1115), (323, 9, 29, 1116)], [], [], [], [], [], [], [], []]
theorem x_fks_ok0 : ∀ o, o < 18 → ∀ q ∈ x_fks.getD o [], lw_tbl[q.2.2.2]? = some (Cond.fieldLink (x_cnn.getD o "") q.1 (x_T q.2.1 q.2.2.1).1 (x_T q.2.1 q.2.2.1).2.1 (x_T q.2.1 q.2.2.1).2.2.1) := by decide +kernel
def x_fk (M i c j : Nat) : Bool := (x_fks.getD (x_oc M) []).any fun q => q.1 == i && q.2.1 == c && q.2.2.1 == j
theorem x_fk_ok {M i c j : Nat} (hM : M < 279) (h : x_fk M i c j = true) : Cond.fieldLink (x_y M).cls i (x_T c j).1 (x_T c j).2.1 (x_T c j).2.2.1 ∈ x_tb := by
  unfold x_fk at h
  obtain ⟨q, hq, h1⟩ := List.any_eq_true.mp h
  simp only [Bool.and_eq_true, beq_iff_eq] at h1
  obtain ⟨⟨e1, e2⟩, e3⟩ := h1
  have ho : x_oc M < 18 := by
    rcases Nat.lt_or_ge (x_oc M) 18 with z | z
    · exact z
    · exfalso
      rw [List.getD_eq_getElem?_getD, List.getElem?_eq_none (by show 18 ≤ x_oc M; exact z)] at hq
      cases hq
  have h2 := x_fks_ok0 _ ho q hq
  rw [e1, e2, e3, ← x_oc_ok M hM] at h2
  exact x_in _ h2 rfl
def x_mks : List (List (Nat × Nat × Nat)) := [[(11, 53, 714), (20, 251, 715), (37, 56, 755), (41, 57, 493), (47, 5, 489)], [(35, 57, 463), (39, 11, 459), (46, 26, 464), (53, 17, 469), (56, 10, 500), (60, 13, 504), (64, 19, 508), (68, 16, 473), (72, 6, 494), (80, 276, 992), (89, 12, 930), (93, 9, 931), (100, 1, 477), (107, 24, 481), (111, 7, 485), (117, 20, 513), (121, 252, 531), (130, 5, 512), (133, 4, 517), (136, 21, 521), (139, 22, 524), (147, 254, 528)], [(11, 53, 130), (66, 57, 468), (70, 59, 1065)], [(11, 53, 328), (57, 57, 944), (61, 58, 945), (68, 56, 946), (72, 31, 951), (76, 32, 955), (80, 30, 976), (83, 33, 959), (86, 36, 971), (90, 34, 963), (93, 35, 967), (96, 253, 975)], [(22, 66, 565), (32, 0, 709), (42, 40, 737), (59, 42, 756), (62, 43, 745), (65, 3, 786), (68, 1, 749), (76, 55, 750), (82, 2, 751), (86, 47, 760), (90, 48, 774), (93, 50, 790), (96, 44, 802), (100, 58, 773), (110, 41, 768), (117, 49, 778), (120, 45, 782), (123, 51, 794), (126, 52, 798)], [(18, 251, 134), (31, 55, 410), (35, 58, 414), (39, 253, 1069)], [(31, 63, 569), (35, 64, 573), (39, 67, 576), (42, 65, 637), (45, 69, 640), (48, 70, 647), (51, 62, 633), (55, 68, 580), (61, 255, 585), (66, 256, 595), (70, 253, 644), (78, 257, 652)], [(19, 72, 1016)], [(28, 37, 273), (37, 8, 298), (46, 28, 323), (58, 119, 403), (66, 56, 406), (72, 54, 422), (82, 58, 430), (90, 57, 435), (97, 120, 447), (103, 55, 450), (110, 12, 455), (116, 19, 536), (120, 9, 537), (127, 61, 549), (134, 38, 561), (137, 39, 733), (140, 46, 741), (150, 25, 806), (157, 24, 818), (164, 18, 823), (167, 17, 831), (174, 11, 837), (177, 123, 842), (180, 124, 846), (191, 132, 863), (195, 131, 866), (204, 127, 874), (207, 125, 882), (210, 251, 886), (215, 126, 878), (218, 130, 899), (224, 128, 906), (228, 129, 910), (235, 15, 926), (238, 122, 936), (242, 29, 940), (254, 121, 981), (258, 14, 988), (261, 72, 995), (263, 75, 999), (266, 74, 1004), (269, 73, 1012), (275, 133, 1033), (278, 134, 1037), (293, 135, 1053), (296, 27, 1061)], [(64, 137, 1084), (68, 139, 1189), (72, 141, 1200), (76, 142, 1216), (79, 140, 1220), (85, 155, 1231), (92, 158, 1251), (102, 160, 1255), (109, 159, 1259), (116, 162, 1273), (120, 163, 1276), (140, 167, 1318), (144, 165, 1279), (148, 164, 1270), (152, 161, 1247), (155, 169, 1326), (158, 171, 1334), (162, 166, 1294), (166, 168, 1322), (169, 173, 1306), (173, 170, 1314), (176, 174, 1302), (179, 175, 1310), (182, 172, 1330), (185, 176, 1298), (188, 177, 1338), (191, 178, 1290), (196, 180, 1266), (205, 181, 1282), (209, 179, 1286), (212, 182, 1262), (215, 183, 1243), (218, 186, 1351), (222, 189, 1371), (225, 188, 1375), (229, 190, 1367), (232, 191, 1363), (235, 192, 1359), (242, 194, 1406), (246, 195, 1403), (250, 196, 1411), (254, 144, 1391), (257, 199, 1395), (260, 197, 1399), (263, 153, 1383), (266, 198, 1387), (269, 200, 1414), (272, 202, 1422), (276, 145, 1439), (279, 150, 1447), (282, 205, 1443), (285, 143, 1435), (288, 206, 1451), (295, 210, 1469), (301, 212, 1478), (304, 213, 1482), (307, 214, 1486), (310, 222, 1518), (314, 224, 1538), (317, 225, 1542), (326, 226, 1534), (329, 227, 1526), (333, 228, 1530), (337, 232, 1555), (340, 231, 1559), (343, 235, 1576), (346, 239, 1588), (350, 138, 1608)], [(9, 76, 116), (12, 136, 1080), (13, 77, 399), (17, 146, 1185), (18, 78, 418), (22, 147, 1192), (23, 79, 426), (26, 148, 1196), (27, 80, 431), (31, 149, 1204), (32, 81, 439), (35, 151, 1208), (36, 82, 443), (40, 152, 1212), (41, 83, 451), (45, 201, 1379), (46, 84, 541), (49, 154, 1223), (50, 85, 545), (54, 156, 1227), (55, 86, 553), (58, 157, 1235), (59, 87, 557), (63, 184, 1239), (64, 88, 810), (67, 185, 1343), (68, 89, 814), (72, 187, 1347), (73, 90, 819), (76, 203, 1418), (77, 91, 827), (80, 193, 1355), (81, 92, 832), (84, 204, 1426), (85, 93, 838), (88, 207, 1431), (89, 94, 850), (92, 208, 1455), (93, 95, 854), (97, 209, 1459), (98, 96, 858), (102, 211, 1463), (103, 97, 870), (106, 215, 1474), (107, 98, 887), (110, 216, 1490), (111, 99, 891), (114, 217, 1494), (115, 100, 895), (119, 218, 1498), (120, 101, 902), (124, 219, 1502), (125, 102, 914), (129, 220, 1506), (130, 103, 918), (133, 221, 1510), (134, 104, 922), (137, 223, 1514), (138, 105, 932), (141, 229, 1522), (142, 106, 977), (145, 230, 1547), (146, 107, 984), (149, 233, 1551), (150, 108, 1008), (153, 234, 1564), (154, 109, 1017), (157, 236, 1568), (158, 110, 1021), (161, 237, 1572), (162, 111, 1025), (165, 238, 1580), (166, 112, 1029), (169, 240, 1584), (170, 113, 1041), (173, 241, 1592), (174, 114, 1045), (177, 242, 1596), (178, 115, 1049), (181, 243, 1600), (182, 116, 1057), (185, 244, 1604), (186, 117, 1070), (189, 245, 1611), (190, 118, 1074), (193, 246, 1615)], [], [], [(335, 259, 589), (492, 260, 599), (495, 263, 603), (498, 273, 614), (505, 255, 660), (633, 258, 656), (637, 265, 661), (640, 269, 672), (1059, 277, 611), (1062, 278, 687)], [(9, 261, 606), (38, 253, 668), (88, 264, 664), (92, 251, 667), (95, 266, 669)], [(48, 268, 620), (67, 274, 617), (71, 267, 624), (96, 275, 681), (157, 249, 699), (161, 250, 703), (164, 248, 696), (183, 253, 676), (224, 251, 675), (228, 270, 678), (232, 272, 693), (241, 262, 684), (244, 271, 690), (414, 261, 623)], [], []]
def x_nks : List (Nat × Nat × Nat) := [(8, 11, 23), (8, 14, 60), (8, 53, 71), (8, 245, 30), (4, 113, 119)]
theorem x_mks_ok0 : ∀ o, o < 18 → ∀ q ∈ x_mks.getD o [], lw_tbl[q.2.2]? = some (Cond.methodLink (x_cnn.getD o "") q.1 (x_y q.2.1)) := by decide +kernel
theorem x_nks_ok0 : ∀ q ∈ x_nks, (x_cnn.getD q.1 "", q.2.1, x_y q.2.2) ∈ x_nm := by decide +kernel
def x_lk (M i M2 : Nat) : Bool := ((x_mks.getD (x_oc M) []).any fun q => q.1 == i && q.2.1 == M2) || (x_nks.any fun q => q.1 == x_oc M && q.2.1 == i && q.2.2 == M2)
theorem x_lk_ok {M i M2 : Nat} (hM : M < 279) (h : x_lk M i M2 = true) : Cond.methodLink (x_y M).cls i (x_y M2) ∈ x_tb ∨ ((x_y M).cls, i, x_y M2) ∈ x_nm := by
  unfold x_lk at h
  rcases Bool.or_eq_true _ _ ▸ h with h | h
  · obtain ⟨q, hq, h1⟩ := List.any_eq_true.mp h
    simp only [Bool.and_eq_true, beq_iff_eq] at h1
    obtain ⟨e1, e2⟩ := h1
    have ho : x_oc M < 18 := by
      rcases Nat.lt_or_ge (x_oc M) 18 with z | z
      · exact z
      · exfalso
        rw [List.getD_eq_getElem?_getD, List.getElem?_eq_none (by show 18 ≤ x_oc M; exact z)] at hq
        cases hq
    have h2 := x_mks_ok0 _ ho q hq
    rw [e1, e2, ← x_oc_ok M hM] at h2
    exact Or.inl (x_in _ h2 rfl)
  · obtain ⟨q, hq, h1⟩ := List.any_eq_true.mp h
    simp only [Bool.and_eq_true, beq_iff_eq] at h1
    obtain ⟨⟨e1, e2⟩, e3⟩ := h1
    have h2 := x_nks_ok0 q hq
    rw [e1, e2, e3, ← x_oc_ok M hM] at h2
    exact Or.inr h2
def x_ims : List (Nat × Nat) := [(0, 710), (1, 478), (2, 752), (3, 787), (4, 518), (5, 490), (6, 495), (7, 486), (8, 299), (9, 538), (10, 502), (11, 460), (12, 456), (13, 506), (14, 989), (15, 927), (16, 475), (17, 470), (18, 824), (19, 509), (20, 515), (22, 526), (23, 125), (24, 482), (25, 807), (26, 465), (27, 1062), (28, 324), (29, 941), (30, 949), (31, 953), (32, 957), (33, 961), (34, 965), (35, 969), (36, 973), (37, 274), (38, 562), (39, 734), (40, 739), (41, 770), (42, 758), (43, 747), (44, 804), (45, 784), (46, 742), (47, 762), (48, 776), (49, 780), (50, 792), (51, 796), (52, 800), (53, 131), (54, 423), (55, 411), (56, 407), (57, 436), (58, 415), (59, 1066), (60, 243), (61, 550), (62, 635), (63, 571), (66, 566), (67, 578), (68, 582), (69, 642), (70, 649), (71, 366), (72, 996), (73, 1013), (74, 1005), (75, 1000), (76, 117), (77, 400), (78, 419), (79, 427), (80, 432), (81, 440), (82, 444), (83, 452), (84, 542), (85, 546), (86, 554), (87, 558), (88, 811), (89, 815), (90, 820), (91, 828), (92, 833), (93, 839), (94, 851), (95, 855), (96, 859), (97, 871), (98, 888), (99, 892), (100, 896), (101, 903), (102, 915), (103, 919), (104, 923), (105, 933), (106, 978), (107, 985), (108, 1009), (109, 1018), (110, 1022), (111, 1026), (112, 1030), (113, 1042), (114, 1046), (115, 1050), (116, 1058), (117, 1071), (118, 1075), (122, 938), (123, 844), (124, 848), (125, 884), (126, 880), (127, 876), (128, 908), (129, 912), (133, 1035), (134, 1039), (135, 1055), (136, 1081), (141, 1202), (142, 1218), (143, 1437), (144, 1393), (145, 1441), (146, 1186), (147, 1193), (148, 1197), (149, 1205), (150, 1449), (151, 1209), (152, 1213), (153, 1385), (154, 1224), (155, 1233), (156, 1228), (157, 1236), (158, 1253), (161, 1249), (166, 1296), (167, 1320), (168, 1324), (169, 1328), (170, 1316), (171, 1336), (172, 1332), (173, 1308), (174, 1304), (175, 1312), (176, 1300), (177, 1340), (178, 1292), (179, 1288), (180, 1268), (181, 1284), (182, 1264), (183, 1245), (184, 1240), (185, 1344), (186, 1353), (187, 1348), (188, 1377), (189, 1373), (190, 1369), (191, 1365), (192, 1361), (193, 1356), (197, 1401), (198, 1389), (199, 1397), (200, 1416), (201, 1380), (202, 1424), (203, 1419), (204, 1427), (205, 1445), (206, 1453), (207, 1432), (208, 1456), (209, 1460), (210, 1471), (211, 1464), (212, 1480), (213, 1484), (214, 1488), (215, 1475), (216, 1491), (217, 1495), (218, 1499), (219, 1503), (220, 1507), (221, 1511), (222, 1520), (223, 1515), (224, 1540), (225, 1544), (226, 1536), (227, 1528), (228, 1532), (229, 1523), (230, 1548), (231, 1561), (232, 1557), (233, 1552), (234, 1565), (235, 1578), (236, 1569), (237, 1573), (238, 1581), (239, 1590), (240, 1585), (241, 1593), (242, 1597), (243, 1601), (244, 1605), (245, 1612), (246, 1616), (255, 586), (256, 596), (257, 653), (258, 657), (259, 590), (260, 600)]
theorem x_ims_ok0 : ∀ q ∈ x_ims, lw_tbl[q.2]? = some (Cond.instanceMethod (x_y q.1)) := by decide +kernel
theorem x_ims_ok {M : Nat} (h : (x_ims.any fun q => q.1 == M) = true) : Cond.instanceMethod (x_y M) ∈ x_tb := by
  obtain ⟨q, hq, h1⟩ := List.any_eq_true.mp h
  have e1 : q.1 = M := by simpa using h1
  have h2 := x_ims_ok0 q hq
  rw [e1] at h2
  exact x_in _ h2 rfl
def x_sts : List (Nat × Nat) := [(21, 522), (64, 574), (65, 638), (119, 404), (120, 448), (121, 982), (130, 900), (131, 867), (132, 864), (137, 1085), (138, 1609), (139, 1190), (140, 1221), (159, 1260), (160, 1256), (162, 1274), (163, 1277), (164, 1271), (165, 1280), (194, 1407), (195, 1404), (196, 1412), (248, 697), (249, 700), (250, 704), (251, 135), (252, 532), (253, 645), (254, 529), (261, 607), (262, 685), (263, 604), (264, 665), (265, 662), (266, 670), (267, 625), (268, 621), (269, 673), (270, 679), (271, 691), (272, 694), (273, 615), (274, 618), (275, 682), (276, 993), (277, 612), (278, 688)]
theorem x_sts_ok0 : ∀ q ∈ x_sts, lw_tbl[q.2]? = some (Cond.static (x_y q.1)) := by decide +kernel
theorem x_sts_ok {M : Nat} (h : (x_sts.any fun q => q.1 == M) = true) : Cond.static (x_y M) ∈ x_tb := by
  obtain ⟨q, hq, h1⟩ := List.any_eq_true.mp h
  have e1 : q.1 = M := by simpa using h1
  have h2 := x_sts_ok0 q hq
  rw [e1] at h2
  exact x_in _ h2 rfl
def x_sel : List (Nat × Nat) := [(1, 479), (2, 753), (3, 788), (4, 519), (5, 491), (6, 496), (7, 487), (9, 539), (10, 1), (11, 461), (12, 457), (13, 2), (14, 990), (15, 928), (16, 0), (17, 471), (18, 825), (19, 510), (20, 3), (22, 4), (24, 483), (25, 808), (26, 466), (27, 1063), (29, 942), (30, 31), (31, 32), (32, 33), (33, 34), (34, 35), (35, 36), (36, 37), (38, 563), (39, 735), (40, 11), (41, 15), (42, 13), (43, 12), (44, 22), (45, 18), (46, 743), (47, 14), (48, 16), (49, 17), (50, 19), (51, 20), (52, 21), (54, 424), (55, 412), (56, 408), (57, 437), (58, 416), (59, 1067), (61, 551), (62, 8), (63, 5), (66, 567), (67, 6), (68, 7), (69, 9), (70, 10), (72, 997), (73, 1014), (74, 1006), (75, 1001), (77, 401), (78, 420), (79, 428), (80, 433), (81, 441), (82, 445), (83, 453), (84, 543), (85, 547), (86, 555), (87, 559), (88, 812), (89, 816), (90, 821), (91, 829), (92, 834), (93, 840), (94, 852), (95, 856), (96, 860), (97, 872), (98, 889), (99, 893), (100, 897), (101, 904), (102, 916), (103, 920), (104, 924), (105, 934), (106, 979), (107, 986), (108, 1010), (109, 1019), (110, 1023), (111, 1027), (112, 1031), (113, 1043), (114, 1047), (115, 1051), (116, 1059), (117, 1072), (118, 1076), (122, 30), (123, 23), (124, 24), (125, 27), (126, 26), (127, 25), (128, 28), (129, 29), (133, 38), (134, 39), (135, 40), (141, 41), (142, 42), (143, 77), (144, 72), (145, 78), (146, 1187), (147, 1194), (148, 1198), (149, 1206), (150, 80), (151, 1210), (152, 1214), (153, 70), (154, 1225), (155, 43), (156, 1229), (157, 1237), (158, 46), (161, 45), (166, 52), (167, 58), (168, 59), (169, 60), (170, 57), (171, 62), (172, 61), (173, 55), (174, 54), (175, 56), (176, 53), (177, 63), (178, 51), (179, 50), (180, 48), (181, 49), (182, 47), (183, 44), (184, 1241), (185, 1345), (186, 64), (187, 1349), (188, 69), (189, 68), (190, 67), (191, 66), (192, 65), (193, 1357), (197, 74), (198, 71), (199, 73), (200, 75), (201, 1381), (202, 76), (203, 1420), (204, 1428), (205, 79), (206, 81), (207, 1433), (208, 1457), (209, 1461), (210, 82), (211, 1465), (212, 83), (213, 84), (214, 85), (215, 1476), (216, 1492), (217, 1496), (218, 1500), (219, 1504), (220, 1508), (221, 1512), (222, 86), (223, 1516), (224, 90), (225, 91), (226, 89), (227, 87), (228, 88), (229, 1524), (230, 1549), (231, 93), (232, 92), (233, 1553), (234, 1566), (235, 94), (236, 1570), (237, 1574), (238, 1582), (239, 95), (240, 1586), (241, 1594), (242, 1598), (243, 1602), (244, 1606), (245, 1613), (246, 1617), (255, 587), (256, 597), (257, 654), (258, 658), (259, 591), (260, 601)]
theorem x_sel_ok0 : ∀ q ∈ x_sel, lw_tbl[q.2]? = some (Cond.selects (x_y q.1).cls (x_y q.1) (x_y q.1)) := by decide +kernel
theorem x_sel_ok {M : Nat} (h : (x_sel.any fun q => q.1 == M) = true) : Cond.selects (x_y M).cls (x_y M) (x_y M) ∈ x_tb := by
  obtain ⟨q, hq, h1⟩ := List.any_eq_true.mp h
  have e1 : q.1 = M := by simpa using h1
  have h2 := x_sel_ok0 q hq
  rw [e1] at h2
  exact x_in _ h2 rfl
def x_npl : List Nat := [1, 1, 1, 1, 1, 1, 1, 1, 1, 1, 2, 3, 3, 1, 1, 1, 2, 2, 2, 3, 2, 1, 3, 0, 1, 1, 1, 1, 1, 1, 3, 1, 1, 2, 2, 3, 4, 1, 0, 0, 0, 0, 0, 1, 1, 1, 0, 2, 0, 1, 1, 1, 2, 2, 1, 0, 3, 2, 3, 1, 0, 1, 3, 1, 1, 1, 0, 1, 3, 1, 1, 0, 1, 1, 1, 1, 0, 1, 2, 1, 3, 1, 6, 4, 1, 5, 1, 0, 1, 3, 4, 2, 3, 2, 1, 1, 2, 1, 2, 1, 7, 1, 2, 3, 1, 3, 3, 3, 2, 1, 3, 3, 2, 2, 3, 2, 0, 0, 1, 3, 1, 2, 2, 1, 1, 1, 1, 1, 1, 1, 3, 2, 3, 1, 1, 2, 0, 2, 2, 3, 1, 1, 1, 1, 2, 2, 1, 2, 1, 3, 2, 1, 6, 3, 1, 1, 5, 1, 1, 1, 1, 0, 3, 5, 4, 6, 1, 2, 1, 0, 1, 0, 0, 0, 0, 0, 0, 0, 0, 0, 0, 3, 0, 0, 0, 1, 3, 3, 2, 1, 2, 2, 3, 2, 1, 3, 3, 2, 3, 1, 1, 4, 2, 4, 3, 1, 1, 2, 1, 1, 2, 2, 1, 1, 1, 1, 2, 1, 7, 1, 2, 3, 1, 1, 0, 0, 3, 2, 2, 3, 3, 3, 1, 3, 2, 1, 1, 3, 3, 2, 2, 2, 3, 2, 0, 0, 1, 1, 1, 1, 1, 2, 2, 2, 2, 0, 1, 1, 2, 0, 0, 2, 3, 2, 1, 4, 4, 2, 1, 4, 4, 4, 4, 2, 2, 3, 2, 3, 4]
def x_np (M : Nat) : Nat := x_npl.getD M 0
theorem x_np_ok : ∀ M, M < 279 → (parseMethodDescriptor (x_y M).desc).map (fun d => d.parameters.length) = some (x_np M) := by decide +kernel
theorem x_i1 {w : Cond} (h : w ∈ tables_1_1) (hg : goodWord w = true) : w ∈ x_tb := List.mem_filter.mpr ⟨List.mem_append_right _ (List.mem_append_left _ h), hg⟩
theorem x_i2 {w : Cond} (h : w ∈ tables_1_2) (hg : goodWord w = true) : w ∈ x_tb := List.mem_filter.mpr ⟨List.mem_append_right _ (List.mem_append_right _ (List.mem_append_left _ h)), hg⟩
theorem x_i3 {w : Cond} (h : w ∈ tables_1_3) (hg : goodWord w = true) : w ∈ x_tb := List.mem_filter.mpr ⟨List.mem_append_right _ (List.mem_append_right _ (List.mem_append_right _ (List.mem_append_left _ h))), hg⟩
theorem x_i4 {w : Cond} (h : w ∈ tables_1_4) (hg : goodWord w = true) : w ∈ x_tb := List.mem_filter.mpr ⟨List.mem_append_right _ (List.mem_append_right _ (List.mem_append_right _ (List.mem_append_right _ (List.mem_append_left _ h)))), hg⟩
theorem x_i5 {w : Cond} (h : w ∈ tables_1_5) (hg : goodWord w = true) : w ∈ x_tb := List.mem_filter.mpr ⟨List.mem_append_right _ (List.mem_append_right _ (List.mem_append_right _ (List.mem_append_right _ (List.mem_append_right _ (List.mem_append_left _ h))))), hg⟩
theorem x_i6 {w : Cond} (h : w ∈ tables_1_6) (hg : goodWord w = true) : w ∈ x_tb := List.mem_filter.mpr ⟨List.mem_append_right _ (List.mem_append_right _ (List.mem_append_right _ (List.mem_append_right _ (List.mem_append_right _ (List.mem_append_right _ (List.mem_append_left _ h)))))), hg⟩
theorem x_i7 {w : Cond} (h : w ∈ tables_1_7) (hg : goodWord w = true) : w ∈ x_tb := List.mem_filter.mpr ⟨List.mem_append_right _ (List.mem_append_right _ (List.mem_append_right _ (List.mem_append_right _ (List.mem_append_right _ (List.mem_append_right _ (List.mem_append_right _ (h))))))), hg⟩
set_option maxRecDepth 20000 in
theorem x_co_0 : Cond.code (x_y 0) (x_cd 0) (x_ml 0) (x_rt 0) ∈ x_tb := x_i3 (List.mem_of_getElem? (i := 135) rfl) rfl
set_option maxRecDepth 20000 in
theorem x_co_1 : Cond.code (x_y 1) (x_cd 1) (x_ml 1) (x_rt 1) ∈ x_tb := x_i2 (List.mem_of_getElem? (i := 144) rfl) rfl
set_option maxRecDepth 20000 in
theorem x_co_2 : Cond.code (x_y 2) (x_cd 2) (x_ml 2) (x_rt 2) ∈ x_tb := x_i3 (List.mem_of_getElem? (i := 178) rfl) rfl
set_option maxRecDepth 20000 in
theorem x_co_3 : Cond.code (x_y 3) (x_cd 3) (x_ml 3) (x_rt 3) ∈ x_tb := x_i3 (List.mem_of_getElem? (i := 213) rfl) rfl
set_option maxRecDepth 20000 in
theorem x_co_4 : Cond.code (x_y 4) (x_cd 4) (x_ml 4) (x_rt 4) ∈ x_tb := x_i2 (List.mem_of_getElem? (i := 184) rfl) rfl
set_option maxRecDepth 20000 in
theorem x_co_5 : Cond.code (x_y 5) (x_cd 5) (x_ml 5) (x_rt 5) ∈ x_tb := x_i2 (List.mem_of_getElem? (i := 156) rfl) rfl
set_option maxRecDepth 20000 in
theorem x_co_6 : Cond.code (x_y 6) (x_cd 6) (x_ml 6) (x_rt 6) ∈ x_tb := x_i2 (List.mem_of_getElem? (i := 161) rfl) rfl
set_option maxRecDepth 20000 in
theorem x_co_7 : Cond.code (x_y 7) (x_cd 7) (x_ml 7) (x_rt 7) ∈ x_tb := x_i2 (List.mem_of_getElem? (i := 152) rfl) rfl
set_option maxRecDepth 20000 in
theorem x_co_8 : Cond.code (x_y 8) (x_cd 8) (x_ml 8) (x_rt 8) ∈ x_tb := x_i1 (List.mem_of_getElem? (i := 204) rfl) rfl
set_option maxRecDepth 20000 in
theorem x_co_9 : Cond.code (x_y 9) (x_cd 9) (x_ml 9) (x_rt 9) ∈ x_tb := x_i2 (List.mem_of_getElem? (i := 204) rfl) rfl
set_option maxRecDepth 20000 in
theorem x_co_10 : Cond.code (x_y 10) (x_cd 10) (x_ml 10) (x_rt 10) ∈ x_tb := x_i2 (List.mem_of_getElem? (i := 167) rfl) rfl
set_option maxRecDepth 20000 in
theorem x_co_11 : Cond.code (x_y 11) (x_cd 11) (x_ml 11) (x_rt 11) ∈ x_tb := x_i2 (List.mem_of_getElem? (i := 126) rfl) rfl
set_option maxRecDepth 20000 in
theorem x_co_12 : Cond.code (x_y 12) (x_cd 12) (x_ml 12) (x_rt 12) ∈ x_tb := x_i2 (List.mem_of_getElem? (i := 122) rfl) rfl
set_option maxRecDepth 20000 in
theorem x_co_13 : Cond.code (x_y 13) (x_cd 13) (x_ml 13) (x_rt 13) ∈ x_tb := x_i2 (List.mem_of_getElem? (i := 171) rfl) rfl
set_option maxRecDepth 20000 in
theorem x_co_14 : Cond.code (x_y 14) (x_cd 14) (x_ml 14) (x_rt 14) ∈ x_tb := x_i4 (List.mem_of_getElem? (i := 175) rfl) rfl
set_option maxRecDepth 20000 in
theorem x_co_15 : Cond.code (x_y 15) (x_cd 15) (x_ml 15) (x_rt 15) ∈ x_tb := x_i4 (List.mem_of_getElem? (i := 113) rfl) rfl
set_option maxRecDepth 20000 in
theorem x_co_16 : Cond.code (x_y 16) (x_cd 16) (x_ml 16) (x_rt 16) ∈ x_tb := x_i2 (List.mem_of_getElem? (i := 140) rfl) rfl
set_option maxRecDepth 20000 in
theorem x_co_17 : Cond.code (x_y 17) (x_cd 17) (x_ml 17) (x_rt 17) ∈ x_tb := x_i2 (List.mem_of_getElem? (i := 136) rfl) rfl
set_option maxRecDepth 20000 in
theorem x_co_18 : Cond.code (x_y 18) (x_cd 18) (x_ml 18) (x_rt 18) ∈ x_tb := x_i4 (List.mem_of_getElem? (i := 10) rfl) rfl
set_option maxRecDepth 20000 in
theorem x_co_19 : Cond.code (x_y 19) (x_cd 19) (x_ml 19) (x_rt 19) ∈ x_tb := x_i2 (List.mem_of_getElem? (i := 175) rfl) rfl
set_option maxRecDepth 20000 in
theorem x_co_20 : Cond.code (x_y 20) (x_cd 20) (x_ml 20) (x_rt 20) ∈ x_tb := x_i2 (List.mem_of_getElem? (i := 180) rfl) rfl
set_option maxRecDepth 20000 in
theorem x_co_21 : Cond.code (x_y 21) (x_cd 21) (x_ml 21) (x_rt 21) ∈ x_tb := x_i2 (List.mem_of_getElem? (i := 187) rfl) rfl
set_option maxRecDepth 20000 in
theorem x_co_22 : Cond.code (x_y 22) (x_cd 22) (x_ml 22) (x_rt 22) ∈ x_tb := x_i2 (List.mem_of_getElem? (i := 191) rfl) rfl
set_option maxRecDepth 20000 in
theorem x_co_23 : Cond.code (x_y 23) (x_cd 23) (x_ml 23) (x_rt 23) ∈ x_tb := x_i1 (List.mem_of_getElem? (i := 30) rfl) rfl
set_option maxRecDepth 20000 in
theorem x_co_24 : Cond.code (x_y 24) (x_cd 24) (x_ml 24) (x_rt 24) ∈ x_tb := x_i2 (List.mem_of_getElem? (i := 148) rfl) rfl
set_option maxRecDepth 20000 in
theorem x_co_25 : Cond.code (x_y 25) (x_cd 25) (x_ml 25) (x_rt 25) ∈ x_tb := x_i3 (List.mem_of_getElem? (i := 233) rfl) rfl
set_option maxRecDepth 20000 in
theorem x_co_26 : Cond.code (x_y 26) (x_cd 26) (x_ml 26) (x_rt 26) ∈ x_tb := x_i2 (List.mem_of_getElem? (i := 131) rfl) rfl
set_option maxRecDepth 20000 in
theorem x_co_27 : Cond.code (x_y 27) (x_cd 27) (x_ml 27) (x_rt 27) ∈ x_tb := x_i5 (List.mem_of_getElem? (i := 8) rfl) rfl
set_option maxRecDepth 20000 in
theorem x_co_28 : Cond.code (x_y 28) (x_cd 28) (x_ml 28) (x_rt 28) ∈ x_tb := x_i1 (List.mem_of_getElem? (i := 229) rfl) rfl
set_option maxRecDepth 20000 in
theorem x_co_29 : Cond.code (x_y 29) (x_cd 29) (x_ml 29) (x_rt 29) ∈ x_tb := x_i4 (List.mem_of_getElem? (i := 127) rfl) rfl
set_option maxRecDepth 20000 in
theorem x_co_30 : Cond.code (x_y 30) (x_cd 30) (x_ml 30) (x_rt 30) ∈ x_tb := x_i4 (List.mem_of_getElem? (i := 134) rfl) rfl
set_option maxRecDepth 20000 in
theorem x_co_31 : Cond.code (x_y 31) (x_cd 31) (x_ml 31) (x_rt 31) ∈ x_tb := x_i4 (List.mem_of_getElem? (i := 138) rfl) rfl
set_option maxRecDepth 20000 in
theorem x_co_32 : Cond.code (x_y 32) (x_cd 32) (x_ml 32) (x_rt 32) ∈ x_tb := x_i4 (List.mem_of_getElem? (i := 142) rfl) rfl
set_option maxRecDepth 20000 in
theorem x_co_33 : Cond.code (x_y 33) (x_cd 33) (x_ml 33) (x_rt 33) ∈ x_tb := x_i4 (List.mem_of_getElem? (i := 146) rfl) rfl
set_option maxRecDepth 20000 in
theorem x_co_34 : Cond.code (x_y 34) (x_cd 34) (x_ml 34) (x_rt 34) ∈ x_tb := x_i4 (List.mem_of_getElem? (i := 150) rfl) rfl
set_option maxRecDepth 20000 in
theorem x_co_35 : Cond.code (x_y 35) (x_cd 35) (x_ml 35) (x_rt 35) ∈ x_tb := x_i4 (List.mem_of_getElem? (i := 154) rfl) rfl
set_option maxRecDepth 20000 in
theorem x_co_36 : Cond.code (x_y 36) (x_cd 36) (x_ml 36) (x_rt 36) ∈ x_tb := x_i4 (List.mem_of_getElem? (i := 158) rfl) rfl
set_option maxRecDepth 20000 in
theorem x_co_37 : Cond.code (x_y 37) (x_cd 37) (x_ml 37) (x_rt 37) ∈ x_tb := x_i1 (List.mem_of_getElem? (i := 179) rfl) rfl
set_option maxRecDepth 20000 in
theorem x_co_38 : Cond.code (x_y 38) (x_cd 38) (x_ml 38) (x_rt 38) ∈ x_tb := x_i2 (List.mem_of_getElem? (i := 228) rfl) rfl
set_option maxRecDepth 20000 in
theorem x_co_39 : Cond.code (x_y 39) (x_cd 39) (x_ml 39) (x_rt 39) ∈ x_tb := x_i3 (List.mem_of_getElem? (i := 160) rfl) rfl
set_option maxRecDepth 20000 in
theorem x_co_40 : Cond.code (x_y 40) (x_cd 40) (x_ml 40) (x_rt 40) ∈ x_tb := x_i3 (List.mem_of_getElem? (i := 164) rfl) rfl
set_option maxRecDepth 20000 in
theorem x_co_41 : Cond.code (x_y 41) (x_cd 41) (x_ml 41) (x_rt 41) ∈ x_tb := x_i3 (List.mem_of_getElem? (i := 195) rfl) rfl
set_option maxRecDepth 20000 in
theorem x_co_42 : Cond.code (x_y 42) (x_cd 42) (x_ml 42) (x_rt 42) ∈ x_tb := x_i3 (List.mem_of_getElem? (i := 183) rfl) rfl
set_option maxRecDepth 20000 in
theorem x_co_43 : Cond.code (x_y 43) (x_cd 43) (x_ml 43) (x_rt 43) ∈ x_tb := x_i3 (List.mem_of_getElem? (i := 172) rfl) rfl
set_option maxRecDepth 20000 in
theorem x_co_44 : Cond.code (x_y 44) (x_cd 44) (x_ml 44) (x_rt 44) ∈ x_tb := x_i3 (List.mem_of_getElem? (i := 229) rfl) rfl
set_option maxRecDepth 20000 in
theorem x_co_45 : Cond.code (x_y 45) (x_cd 45) (x_ml 45) (x_rt 45) ∈ x_tb := x_i3 (List.mem_of_getElem? (i := 209) rfl) rfl
set_option maxRecDepth 20000 in
theorem x_co_46 : Cond.code (x_y 46) (x_cd 46) (x_ml 46) (x_rt 46) ∈ x_tb := x_i3 (List.mem_of_getElem? (i := 168) rfl) rfl
set_option maxRecDepth 20000 in
theorem x_co_47 : Cond.code (x_y 47) (x_cd 47) (x_ml 47) (x_rt 47) ∈ x_tb := x_i3 (List.mem_of_getElem? (i := 187) rfl) rfl
set_option maxRecDepth 20000 in
theorem x_co_48 : Cond.code (x_y 48) (x_cd 48) (x_ml 48) (x_rt 48) ∈ x_tb := x_i3 (List.mem_of_getElem? (i := 201) rfl) rfl
set_option maxRecDepth 20000 in
theorem x_co_49 : Cond.code (x_y 49) (x_cd 49) (x_ml 49) (x_rt 49) ∈ x_tb := x_i3 (List.mem_of_getElem? (i := 205) rfl) rfl
set_option maxRecDepth 20000 in
theorem x_co_50 : Cond.code (x_y 50) (x_cd 50) (x_ml 50) (x_rt 50) ∈ x_tb := x_i3 (List.mem_of_getElem? (i := 217) rfl) rfl
set_option maxRecDepth 20000 in
theorem x_co_51 : Cond.code (x_y 51) (x_cd 51) (x_ml 51) (x_rt 51) ∈ x_tb := x_i3 (List.mem_of_getElem? (i := 221) rfl) rfl
set_option maxRecDepth 20000 in
theorem x_co_52 : Cond.code (x_y 52) (x_cd 52) (x_ml 52) (x_rt 52) ∈ x_tb := x_i3 (List.mem_of_getElem? (i := 225) rfl) rfl
set_option maxRecDepth 20000 in
theorem x_co_53 : Cond.code (x_y 53) (x_cd 53) (x_ml 53) (x_rt 53) ∈ x_tb := x_i1 (List.mem_of_getElem? (i := 36) rfl) rfl
set_option maxRecDepth 20000 in
theorem x_co_54 : Cond.code (x_y 54) (x_cd 54) (x_ml 54) (x_rt 54) ∈ x_tb := x_i2 (List.mem_of_getElem? (i := 89) rfl) rfl
set_option maxRecDepth 20000 in
theorem x_co_55 : Cond.code (x_y 55) (x_cd 55) (x_ml 55) (x_rt 55) ∈ x_tb := x_i2 (List.mem_of_getElem? (i := 77) rfl) rfl
set_option maxRecDepth 20000 in
theorem x_co_56 : Cond.code (x_y 56) (x_cd 56) (x_ml 56) (x_rt 56) ∈ x_tb := x_i2 (List.mem_of_getElem? (i := 73) rfl) rfl
set_option maxRecDepth 20000 in
theorem x_co_57 : Cond.code (x_y 57) (x_cd 57) (x_ml 57) (x_rt 57) ∈ x_tb := x_i2 (List.mem_of_getElem? (i := 102) rfl) rfl
set_option maxRecDepth 20000 in
theorem x_co_58 : Cond.code (x_y 58) (x_cd 58) (x_ml 58) (x_rt 58) ∈ x_tb := x_i2 (List.mem_of_getElem? (i := 81) rfl) rfl
set_option maxRecDepth 20000 in
theorem x_co_59 : Cond.code (x_y 59) (x_cd 59) (x_ml 59) (x_rt 59) ∈ x_tb := x_i5 (List.mem_of_getElem? (i := 12) rfl) rfl
set_option maxRecDepth 20000 in
theorem x_co_60 : Cond.code (x_y 60) (x_cd 60) (x_ml 60) (x_rt 60) ∈ x_tb := x_i1 (List.mem_of_getElem? (i := 148) rfl) rfl
set_option maxRecDepth 20000 in
theorem x_co_61 : Cond.code (x_y 61) (x_cd 61) (x_ml 61) (x_rt 61) ∈ x_tb := x_i2 (List.mem_of_getElem? (i := 216) rfl) rfl
set_option maxRecDepth 20000 in
theorem x_co_62 : Cond.code (x_y 62) (x_cd 62) (x_ml 62) (x_rt 62) ∈ x_tb := x_i3 (List.mem_of_getElem? (i := 60) rfl) rfl
set_option maxRecDepth 20000 in
theorem x_co_63 : Cond.code (x_y 63) (x_cd 63) (x_ml 63) (x_rt 63) ∈ x_tb := x_i2 (List.mem_of_getElem? (i := 236) rfl) rfl
set_option maxRecDepth 20000 in
theorem x_co_64 : Cond.code (x_y 64) (x_cd 64) (x_ml 64) (x_rt 64) ∈ x_tb := x_i2 (List.mem_of_getElem? (i := 239) rfl) rfl
set_option maxRecDepth 20000 in
theorem x_co_65 : Cond.code (x_y 65) (x_cd 65) (x_ml 65) (x_rt 65) ∈ x_tb := x_i3 (List.mem_of_getElem? (i := 63) rfl) rfl
set_option maxRecDepth 20000 in
theorem x_co_66 : Cond.code (x_y 66) (x_cd 66) (x_ml 66) (x_rt 66) ∈ x_tb := x_i2 (List.mem_of_getElem? (i := 232) rfl) rfl
set_option maxRecDepth 20000 in
theorem x_co_67 : Cond.code (x_y 67) (x_cd 67) (x_ml 67) (x_rt 67) ∈ x_tb := x_i3 (List.mem_of_getElem? (i := 3) rfl) rfl
set_option maxRecDepth 20000 in
theorem x_co_68 : Cond.code (x_y 68) (x_cd 68) (x_ml 68) (x_rt 68) ∈ x_tb := x_i3 (List.mem_of_getElem? (i := 7) rfl) rfl
set_option maxRecDepth 20000 in
theorem x_co_69 : Cond.code (x_y 69) (x_cd 69) (x_ml 69) (x_rt 69) ∈ x_tb := x_i3 (List.mem_of_getElem? (i := 67) rfl) rfl
set_option maxRecDepth 20000 in
theorem x_co_70 : Cond.code (x_y 70) (x_cd 70) (x_ml 70) (x_rt 70) ∈ x_tb := x_i3 (List.mem_of_getElem? (i := 74) rfl) rfl
set_option maxRecDepth 20000 in
theorem x_co_71 : Cond.code (x_y 71) (x_cd 71) (x_ml 71) (x_rt 71) ∈ x_tb := x_i2 (List.mem_of_getElem? (i := 31) rfl) rfl
set_option maxRecDepth 20000 in
theorem x_co_72 : Cond.code (x_y 72) (x_cd 72) (x_ml 72) (x_rt 72) ∈ x_tb := x_i4 (List.mem_of_getElem? (i := 182) rfl) rfl
set_option maxRecDepth 20000 in
theorem x_co_73 : Cond.code (x_y 73) (x_cd 73) (x_ml 73) (x_rt 73) ∈ x_tb := x_i4 (List.mem_of_getElem? (i := 199) rfl) rfl
set_option maxRecDepth 20000 in
theorem x_co_74 : Cond.code (x_y 74) (x_cd 74) (x_ml 74) (x_rt 74) ∈ x_tb := x_i4 (List.mem_of_getElem? (i := 191) rfl) rfl
set_option maxRecDepth 20000 in
theorem x_co_75 : Cond.code (x_y 75) (x_cd 75) (x_ml 75) (x_rt 75) ∈ x_tb := x_i4 (List.mem_of_getElem? (i := 186) rfl) rfl
set_option maxRecDepth 20000 in
theorem x_co_76 : Cond.code (x_y 76) (x_cd 76) (x_ml 76) (x_rt 76) ∈ x_tb := x_i1 (List.mem_of_getElem? (i := 22) rfl) rfl
set_option maxRecDepth 20000 in
theorem x_co_77 : Cond.code (x_y 77) (x_cd 77) (x_ml 77) (x_rt 77) ∈ x_tb := x_i2 (List.mem_of_getElem? (i := 66) rfl) rfl
set_option maxRecDepth 20000 in
theorem x_co_78 : Cond.code (x_y 78) (x_cd 78) (x_ml 78) (x_rt 78) ∈ x_tb := x_i2 (List.mem_of_getElem? (i := 85) rfl) rfl
set_option maxRecDepth 20000 in
theorem x_co_79 : Cond.code (x_y 79) (x_cd 79) (x_ml 79) (x_rt 79) ∈ x_tb := x_i2 (List.mem_of_getElem? (i := 93) rfl) rfl
set_option maxRecDepth 20000 in
theorem x_co_80 : Cond.code (x_y 80) (x_cd 80) (x_ml 80) (x_rt 80) ∈ x_tb := x_i2 (List.mem_of_getElem? (i := 98) rfl) rfl
set_option maxRecDepth 20000 in
theorem x_co_81 : Cond.code (x_y 81) (x_cd 81) (x_ml 81) (x_rt 81) ∈ x_tb := x_i2 (List.mem_of_getElem? (i := 106) rfl) rfl
set_option maxRecDepth 20000 in
theorem x_co_82 : Cond.code (x_y 82) (x_cd 82) (x_ml 82) (x_rt 82) ∈ x_tb := x_i2 (List.mem_of_getElem? (i := 110) rfl) rfl
set_option maxRecDepth 20000 in
theorem x_co_83 : Cond.code (x_y 83) (x_cd 83) (x_ml 83) (x_rt 83) ∈ x_tb := x_i2 (List.mem_of_getElem? (i := 118) rfl) rfl
set_option maxRecDepth 20000 in
theorem x_co_84 : Cond.code (x_y 84) (x_cd 84) (x_ml 84) (x_rt 84) ∈ x_tb := x_i2 (List.mem_of_getElem? (i := 208) rfl) rfl
set_option maxRecDepth 20000 in
theorem x_co_85 : Cond.code (x_y 85) (x_cd 85) (x_ml 85) (x_rt 85) ∈ x_tb := x_i2 (List.mem_of_getElem? (i := 212) rfl) rfl
set_option maxRecDepth 20000 in
theorem x_co_86 : Cond.code (x_y 86) (x_cd 86) (x_ml 86) (x_rt 86) ∈ x_tb := x_i2 (List.mem_of_getElem? (i := 220) rfl) rfl
set_option maxRecDepth 20000 in
theorem x_co_87 : Cond.code (x_y 87) (x_cd 87) (x_ml 87) (x_rt 87) ∈ x_tb := x_i2 (List.mem_of_getElem? (i := 224) rfl) rfl
set_option maxRecDepth 20000 in
theorem x_co_88 : Cond.code (x_y 88) (x_cd 88) (x_ml 88) (x_rt 88) ∈ x_tb := x_i3 (List.mem_of_getElem? (i := 237) rfl) rfl
set_option maxRecDepth 20000 in
theorem x_co_89 : Cond.code (x_y 89) (x_cd 89) (x_ml 89) (x_rt 89) ∈ x_tb := x_i4 (List.mem_of_getElem? (i := 1) rfl) rfl
set_option maxRecDepth 20000 in
theorem x_co_90 : Cond.code (x_y 90) (x_cd 90) (x_ml 90) (x_rt 90) ∈ x_tb := x_i4 (List.mem_of_getElem? (i := 6) rfl) rfl
set_option maxRecDepth 20000 in
theorem x_co_91 : Cond.code (x_y 91) (x_cd 91) (x_ml 91) (x_rt 91) ∈ x_tb := x_i4 (List.mem_of_getElem? (i := 14) rfl) rfl
set_option maxRecDepth 20000 in
theorem x_co_92 : Cond.code (x_y 92) (x_cd 92) (x_ml 92) (x_rt 92) ∈ x_tb := x_i4 (List.mem_of_getElem? (i := 19) rfl) rfl
set_option maxRecDepth 20000 in
theorem x_co_93 : Cond.code (x_y 93) (x_cd 93) (x_ml 93) (x_rt 93) ∈ x_tb := x_i4 (List.mem_of_getElem? (i := 25) rfl) rfl
set_option maxRecDepth 20000 in
theorem x_co_94 : Cond.code (x_y 94) (x_cd 94) (x_ml 94) (x_rt 94) ∈ x_tb := x_i4 (List.mem_of_getElem? (i := 37) rfl) rfl
set_option maxRecDepth 20000 in
theorem x_co_95 : Cond.code (x_y 95) (x_cd 95) (x_ml 95) (x_rt 95) ∈ x_tb := x_i4 (List.mem_of_getElem? (i := 41) rfl) rfl
set_option maxRecDepth 20000 in
theorem x_co_96 : Cond.code (x_y 96) (x_cd 96) (x_ml 96) (x_rt 96) ∈ x_tb := x_i4 (List.mem_of_getElem? (i := 45) rfl) rfl
set_option maxRecDepth 20000 in
theorem x_co_97 : Cond.code (x_y 97) (x_cd 97) (x_ml 97) (x_rt 97) ∈ x_tb := x_i4 (List.mem_of_getElem? (i := 57) rfl) rfl
set_option maxRecDepth 20000 in
theorem x_co_98 : Cond.code (x_y 98) (x_cd 98) (x_ml 98) (x_rt 98) ∈ x_tb := x_i4 (List.mem_of_getElem? (i := 74) rfl) rfl
set_option maxRecDepth 20000 in
theorem x_co_99 : Cond.code (x_y 99) (x_cd 99) (x_ml 99) (x_rt 99) ∈ x_tb := x_i4 (List.mem_of_getElem? (i := 78) rfl) rfl
set_option maxRecDepth 20000 in
theorem x_co_100 : Cond.code (x_y 100) (x_cd 100) (x_ml 100) (x_rt 100) ∈ x_tb := x_i4 (List.mem_of_getElem? (i := 82) rfl) rfl
set_option maxRecDepth 20000 in
theorem x_co_101 : Cond.code (x_y 101) (x_cd 101) (x_ml 101) (x_rt 101) ∈ x_tb := x_i4 (List.mem_of_getElem? (i := 89) rfl) rfl
set_option maxRecDepth 20000 in
theorem x_co_102 : Cond.code (x_y 102) (x_cd 102) (x_ml 102) (x_rt 102) ∈ x_tb := x_i4 (List.mem_of_getElem? (i := 101) rfl) rfl
set_option maxRecDepth 20000 in
theorem x_co_103 : Cond.code (x_y 103) (x_cd 103) (x_ml 103) (x_rt 103) ∈ x_tb := x_i4 (List.mem_of_getElem? (i := 105) rfl) rfl
set_option maxRecDepth 20000 in
theorem x_co_104 : Cond.code (x_y 104) (x_cd 104) (x_ml 104) (x_rt 104) ∈ x_tb := x_i4 (List.mem_of_getElem? (i := 109) rfl) rfl
set_option maxRecDepth 20000 in
theorem x_co_105 : Cond.code (x_y 105) (x_cd 105) (x_ml 105) (x_rt 105) ∈ x_tb := x_i4 (List.mem_of_getElem? (i := 119) rfl) rfl
set_option maxRecDepth 20000 in
theorem x_co_106 : Cond.code (x_y 106) (x_cd 106) (x_ml 106) (x_rt 106) ∈ x_tb := x_i4 (List.mem_of_getElem? (i := 164) rfl) rfl
set_option maxRecDepth 20000 in
theorem x_co_107 : Cond.code (x_y 107) (x_cd 107) (x_ml 107) (x_rt 107) ∈ x_tb := x_i4 (List.mem_of_getElem? (i := 171) rfl) rfl
set_option maxRecDepth 20000 in
theorem x_co_108 : Cond.code (x_y 108) (x_cd 108) (x_ml 108) (x_rt 108) ∈ x_tb := x_i4 (List.mem_of_getElem? (i := 195) rfl) rfl
set_option maxRecDepth 20000 in
theorem x_co_109 : Cond.code (x_y 109) (x_cd 109) (x_ml 109) (x_rt 109) ∈ x_tb := x_i4 (List.mem_of_getElem? (i := 204) rfl) rfl
set_option maxRecDepth 20000 in
theorem x_co_110 : Cond.code (x_y 110) (x_cd 110) (x_ml 110) (x_rt 110) ∈ x_tb := x_i4 (List.mem_of_getElem? (i := 208) rfl) rfl
set_option maxRecDepth 20000 in
theorem x_co_111 : Cond.code (x_y 111) (x_cd 111) (x_ml 111) (x_rt 111) ∈ x_tb := x_i4 (List.mem_of_getElem? (i := 212) rfl) rfl
set_option maxRecDepth 20000 in
theorem x_co_112 : Cond.code (x_y 112) (x_cd 112) (x_ml 112) (x_rt 112) ∈ x_tb := x_i4 (List.mem_of_getElem? (i := 216) rfl) rfl
set_option maxRecDepth 20000 in
theorem x_co_113 : Cond.code (x_y 113) (x_cd 113) (x_ml 113) (x_rt 113) ∈ x_tb := x_i4 (List.mem_of_getElem? (i := 228) rfl) rfl
set_option maxRecDepth 20000 in
theorem x_co_114 : Cond.code (x_y 114) (x_cd 114) (x_ml 114) (x_rt 114) ∈ x_tb := x_i4 (List.mem_of_getElem? (i := 232) rfl) rfl
set_option maxRecDepth 20000 in
theorem x_co_115 : Cond.code (x_y 115) (x_cd 115) (x_ml 115) (x_rt 115) ∈ x_tb := x_i4 (List.mem_of_getElem? (i := 236) rfl) rfl
set_option maxRecDepth 20000 in
theorem x_co_116 : Cond.code (x_y 116) (x_cd 116) (x_ml 116) (x_rt 116) ∈ x_tb := x_i5 (List.mem_of_getElem? (i := 4) rfl) rfl
set_option maxRecDepth 20000 in
theorem x_co_117 : Cond.code (x_y 117) (x_cd 117) (x_ml 117) (x_rt 117) ∈ x_tb := x_i5 (List.mem_of_getElem? (i := 17) rfl) rfl
set_option maxRecDepth 20000 in
theorem x_co_118 : Cond.code (x_y 118) (x_cd 118) (x_ml 118) (x_rt 118) ∈ x_tb := x_i5 (List.mem_of_getElem? (i := 21) rfl) rfl
set_option maxRecDepth 20000 in
theorem x_co_119 : Cond.code (x_y 119) (x_cd 119) (x_ml 119) (x_rt 119) ∈ x_tb := x_i2 (List.mem_of_getElem? (i := 69) rfl) rfl
set_option maxRecDepth 20000 in
theorem x_co_120 : Cond.code (x_y 120) (x_cd 120) (x_ml 120) (x_rt 120) ∈ x_tb := x_i2 (List.mem_of_getElem? (i := 113) rfl) rfl
set_option maxRecDepth 20000 in
theorem x_co_121 : Cond.code (x_y 121) (x_cd 121) (x_ml 121) (x_rt 121) ∈ x_tb := x_i4 (List.mem_of_getElem? (i := 167) rfl) rfl
set_option maxRecDepth 20000 in
theorem x_co_122 : Cond.code (x_y 122) (x_cd 122) (x_ml 122) (x_rt 122) ∈ x_tb := x_i4 (List.mem_of_getElem? (i := 123) rfl) rfl
set_option maxRecDepth 20000 in
theorem x_co_123 : Cond.code (x_y 123) (x_cd 123) (x_ml 123) (x_rt 123) ∈ x_tb := x_i4 (List.mem_of_getElem? (i := 29) rfl) rfl
set_option maxRecDepth 20000 in
theorem x_co_124 : Cond.code (x_y 124) (x_cd 124) (x_ml 124) (x_rt 124) ∈ x_tb := x_i4 (List.mem_of_getElem? (i := 33) rfl) rfl
set_option maxRecDepth 20000 in
theorem x_co_125 : Cond.code (x_y 125) (x_cd 125) (x_ml 125) (x_rt 125) ∈ x_tb := x_i4 (List.mem_of_getElem? (i := 69) rfl) rfl
set_option maxRecDepth 20000 in
theorem x_co_126 : Cond.code (x_y 126) (x_cd 126) (x_ml 126) (x_rt 126) ∈ x_tb := x_i4 (List.mem_of_getElem? (i := 65) rfl) rfl
set_option maxRecDepth 20000 in
theorem x_co_127 : Cond.code (x_y 127) (x_cd 127) (x_ml 127) (x_rt 127) ∈ x_tb := x_i4 (List.mem_of_getElem? (i := 61) rfl) rfl
set_option maxRecDepth 20000 in
theorem x_co_128 : Cond.code (x_y 128) (x_cd 128) (x_ml 128) (x_rt 128) ∈ x_tb := x_i4 (List.mem_of_getElem? (i := 93) rfl) rfl
set_option maxRecDepth 20000 in
theorem x_co_129 : Cond.code (x_y 129) (x_cd 129) (x_ml 129) (x_rt 129) ∈ x_tb := x_i4 (List.mem_of_getElem? (i := 97) rfl) rfl
set_option maxRecDepth 20000 in
theorem x_co_130 : Cond.code (x_y 130) (x_cd 130) (x_ml 130) (x_rt 130) ∈ x_tb := x_i4 (List.mem_of_getElem? (i := 85) rfl) rfl
set_option maxRecDepth 20000 in
theorem x_co_131 : Cond.code (x_y 131) (x_cd 131) (x_ml 131) (x_rt 131) ∈ x_tb := x_i4 (List.mem_of_getElem? (i := 52) rfl) rfl
set_option maxRecDepth 20000 in
theorem x_co_132 : Cond.code (x_y 132) (x_cd 132) (x_ml 132) (x_rt 132) ∈ x_tb := x_i4 (List.mem_of_getElem? (i := 49) rfl) rfl
set_option maxRecDepth 20000 in
theorem x_co_133 : Cond.code (x_y 133) (x_cd 133) (x_ml 133) (x_rt 133) ∈ x_tb := x_i4 (List.mem_of_getElem? (i := 220) rfl) rfl
set_option maxRecDepth 20000 in
theorem x_co_134 : Cond.code (x_y 134) (x_cd 134) (x_ml 134) (x_rt 134) ∈ x_tb := x_i4 (List.mem_of_getElem? (i := 224) rfl) rfl
set_option maxRecDepth 20000 in
theorem x_co_135 : Cond.code (x_y 135) (x_cd 135) (x_ml 135) (x_rt 135) ∈ x_tb := x_i5 (List.mem_of_getElem? (i := 0) rfl) rfl
set_option maxRecDepth 20000 in
theorem x_co_136 : Cond.code (x_y 136) (x_cd 136) (x_ml 136) (x_rt 136) ∈ x_tb := x_i5 (List.mem_of_getElem? (i := 26) rfl) rfl
set_option maxRecDepth 20000 in
theorem x_co_137 : Cond.code (x_y 137) (x_cd 137) (x_ml 137) (x_rt 137) ∈ x_tb := x_i5 (List.mem_of_getElem? (i := 30) rfl) rfl
set_option maxRecDepth 20000 in
theorem x_co_138 : Cond.code (x_y 138) (x_cd 138) (x_ml 138) (x_rt 138) ∈ x_tb := x_i7 (List.mem_of_getElem? (i := 74) rfl) rfl
set_option maxRecDepth 20000 in
theorem x_co_139 : Cond.code (x_y 139) (x_cd 139) (x_ml 139) (x_rt 139) ∈ x_tb := x_i5 (List.mem_of_getElem? (i := 135) rfl) rfl
set_option maxRecDepth 20000 in
theorem x_co_140 : Cond.code (x_y 140) (x_cd 140) (x_ml 140) (x_rt 140) ∈ x_tb := x_i5 (List.mem_of_getElem? (i := 166) rfl) rfl
set_option maxRecDepth 20000 in
theorem x_co_141 : Cond.code (x_y 141) (x_cd 141) (x_ml 141) (x_rt 141) ∈ x_tb := x_i5 (List.mem_of_getElem? (i := 147) rfl) rfl
set_option maxRecDepth 20000 in
theorem x_co_142 : Cond.code (x_y 142) (x_cd 142) (x_ml 142) (x_rt 142) ∈ x_tb := x_i5 (List.mem_of_getElem? (i := 163) rfl) rfl
set_option maxRecDepth 20000 in
theorem x_co_143 : Cond.code (x_y 143) (x_cd 143) (x_ml 143) (x_rt 143) ∈ x_tb := x_i6 (List.mem_of_getElem? (i := 142) rfl) rfl
set_option maxRecDepth 20000 in
theorem x_co_144 : Cond.code (x_y 144) (x_cd 144) (x_ml 144) (x_rt 144) ∈ x_tb := x_i6 (List.mem_of_getElem? (i := 98) rfl) rfl
set_option maxRecDepth 20000 in
theorem x_co_145 : Cond.code (x_y 145) (x_cd 145) (x_ml 145) (x_rt 145) ∈ x_tb := x_i6 (List.mem_of_getElem? (i := 146) rfl) rfl
set_option maxRecDepth 20000 in
theorem x_co_146 : Cond.code (x_y 146) (x_cd 146) (x_ml 146) (x_rt 146) ∈ x_tb := x_i5 (List.mem_of_getElem? (i := 132) rfl) rfl
set_option maxRecDepth 20000 in
theorem x_co_147 : Cond.code (x_y 147) (x_cd 147) (x_ml 147) (x_rt 147) ∈ x_tb := x_i5 (List.mem_of_getElem? (i := 139) rfl) rfl
set_option maxRecDepth 20000 in
theorem x_co_148 : Cond.code (x_y 148) (x_cd 148) (x_ml 148) (x_rt 148) ∈ x_tb := x_i5 (List.mem_of_getElem? (i := 143) rfl) rfl
set_option maxRecDepth 20000 in
theorem x_co_149 : Cond.code (x_y 149) (x_cd 149) (x_ml 149) (x_rt 149) ∈ x_tb := x_i5 (List.mem_of_getElem? (i := 151) rfl) rfl
set_option maxRecDepth 20000 in
theorem x_co_150 : Cond.code (x_y 150) (x_cd 150) (x_ml 150) (x_rt 150) ∈ x_tb := x_i6 (List.mem_of_getElem? (i := 154) rfl) rfl
set_option maxRecDepth 20000 in
theorem x_co_151 : Cond.code (x_y 151) (x_cd 151) (x_ml 151) (x_rt 151) ∈ x_tb := x_i5 (List.mem_of_getElem? (i := 155) rfl) rfl
set_option maxRecDepth 20000 in
theorem x_co_152 : Cond.code (x_y 152) (x_cd 152) (x_ml 152) (x_rt 152) ∈ x_tb := x_i5 (List.mem_of_getElem? (i := 159) rfl) rfl
set_option maxRecDepth 20000 in
theorem x_co_153 : Cond.code (x_y 153) (x_cd 153) (x_ml 153) (x_rt 153) ∈ x_tb := x_i6 (List.mem_of_getElem? (i := 90) rfl) rfl
set_option maxRecDepth 20000 in
theorem x_co_154 : Cond.code (x_y 154) (x_cd 154) (x_ml 154) (x_rt 154) ∈ x_tb := x_i5 (List.mem_of_getElem? (i := 170) rfl) rfl
set_option maxRecDepth 20000 in
theorem x_co_155 : Cond.code (x_y 155) (x_cd 155) (x_ml 155) (x_rt 155) ∈ x_tb := x_i5 (List.mem_of_getElem? (i := 178) rfl) rfl
set_option maxRecDepth 20000 in
theorem x_co_156 : Cond.code (x_y 156) (x_cd 156) (x_ml 156) (x_rt 156) ∈ x_tb := x_i5 (List.mem_of_getElem? (i := 174) rfl) rfl
set_option maxRecDepth 20000 in
theorem x_co_157 : Cond.code (x_y 157) (x_cd 157) (x_ml 157) (x_rt 157) ∈ x_tb := x_i5 (List.mem_of_getElem? (i := 182) rfl) rfl
set_option maxRecDepth 20000 in
theorem x_co_158 : Cond.code (x_y 158) (x_cd 158) (x_ml 158) (x_rt 158) ∈ x_tb := x_i5 (List.mem_of_getElem? (i := 198) rfl) rfl
set_option maxRecDepth 20000 in
theorem x_co_159 : Cond.code (x_y 159) (x_cd 159) (x_ml 159) (x_rt 159) ∈ x_tb := x_i5 (List.mem_of_getElem? (i := 205) rfl) rfl
set_option maxRecDepth 20000 in
theorem x_co_160 : Cond.code (x_y 160) (x_cd 160) (x_ml 160) (x_rt 160) ∈ x_tb := x_i5 (List.mem_of_getElem? (i := 201) rfl) rfl
set_option maxRecDepth 20000 in
theorem x_co_161 : Cond.code (x_y 161) (x_cd 161) (x_ml 161) (x_rt 161) ∈ x_tb := x_i5 (List.mem_of_getElem? (i := 194) rfl) rfl
set_option maxRecDepth 20000 in
theorem x_co_162 : Cond.code (x_y 162) (x_cd 162) (x_ml 162) (x_rt 162) ∈ x_tb := x_i5 (List.mem_of_getElem? (i := 219) rfl) rfl
set_option maxRecDepth 20000 in
theorem x_co_163 : Cond.code (x_y 163) (x_cd 163) (x_ml 163) (x_rt 163) ∈ x_tb := x_i5 (List.mem_of_getElem? (i := 222) rfl) rfl
set_option maxRecDepth 20000 in
theorem x_co_164 : Cond.code (x_y 164) (x_cd 164) (x_ml 164) (x_rt 164) ∈ x_tb := x_i5 (List.mem_of_getElem? (i := 216) rfl) rfl
set_option maxRecDepth 20000 in
theorem x_co_165 : Cond.code (x_y 165) (x_cd 165) (x_ml 165) (x_rt 165) ∈ x_tb := x_i5 (List.mem_of_getElem? (i := 225) rfl) rfl
set_option maxRecDepth 20000 in
theorem x_co_166 : Cond.code (x_y 166) (x_cd 166) (x_ml 166) (x_rt 166) ∈ x_tb := x_i6 (List.mem_of_getElem? (i := 1) rfl) rfl
set_option maxRecDepth 20000 in
theorem x_co_167 : Cond.code (x_y 167) (x_cd 167) (x_ml 167) (x_rt 167) ∈ x_tb := x_i6 (List.mem_of_getElem? (i := 25) rfl) rfl
set_option maxRecDepth 20000 in
theorem x_co_168 : Cond.code (x_y 168) (x_cd 168) (x_ml 168) (x_rt 168) ∈ x_tb := x_i6 (List.mem_of_getElem? (i := 29) rfl) rfl
set_option maxRecDepth 20000 in
theorem x_co_169 : Cond.code (x_y 169) (x_cd 169) (x_ml 169) (x_rt 169) ∈ x_tb := x_i6 (List.mem_of_getElem? (i := 33) rfl) rfl
set_option maxRecDepth 20000 in
theorem x_co_170 : Cond.code (x_y 170) (x_cd 170) (x_ml 170) (x_rt 170) ∈ x_tb := x_i6 (List.mem_of_getElem? (i := 21) rfl) rfl
set_option maxRecDepth 20000 in
theorem x_co_171 : Cond.code (x_y 171) (x_cd 171) (x_ml 171) (x_rt 171) ∈ x_tb := x_i6 (List.mem_of_getElem? (i := 41) rfl) rfl
set_option maxRecDepth 20000 in
theorem x_co_172 : Cond.code (x_y 172) (x_cd 172) (x_ml 172) (x_rt 172) ∈ x_tb := x_i6 (List.mem_of_getElem? (i := 37) rfl) rfl
set_option maxRecDepth 20000 in
theorem x_co_173 : Cond.code (x_y 173) (x_cd 173) (x_ml 173) (x_rt 173) ∈ x_tb := x_i6 (List.mem_of_getElem? (i := 13) rfl) rfl
set_option maxRecDepth 20000 in
theorem x_co_174 : Cond.code (x_y 174) (x_cd 174) (x_ml 174) (x_rt 174) ∈ x_tb := x_i6 (List.mem_of_getElem? (i := 9) rfl) rfl
set_option maxRecDepth 20000 in
theorem x_co_175 : Cond.code (x_y 175) (x_cd 175) (x_ml 175) (x_rt 175) ∈ x_tb := x_i6 (List.mem_of_getElem? (i := 17) rfl) rfl
set_option maxRecDepth 20000 in
theorem x_co_176 : Cond.code (x_y 176) (x_cd 176) (x_ml 176) (x_rt 176) ∈ x_tb := x_i6 (List.mem_of_getElem? (i := 5) rfl) rfl
set_option maxRecDepth 20000 in
theorem x_co_177 : Cond.code (x_y 177) (x_cd 177) (x_ml 177) (x_rt 177) ∈ x_tb := x_i6 (List.mem_of_getElem? (i := 45) rfl) rfl
set_option maxRecDepth 20000 in
theorem x_co_178 : Cond.code (x_y 178) (x_cd 178) (x_ml 178) (x_rt 178) ∈ x_tb := x_i5 (List.mem_of_getElem? (i := 237) rfl) rfl
set_option maxRecDepth 20000 in
theorem x_co_179 : Cond.code (x_y 179) (x_cd 179) (x_ml 179) (x_rt 179) ∈ x_tb := x_i5 (List.mem_of_getElem? (i := 233) rfl) rfl
set_option maxRecDepth 20000 in
theorem x_co_180 : Cond.code (x_y 180) (x_cd 180) (x_ml 180) (x_rt 180) ∈ x_tb := x_i5 (List.mem_of_getElem? (i := 213) rfl) rfl
set_option maxRecDepth 20000 in
theorem x_co_181 : Cond.code (x_y 181) (x_cd 181) (x_ml 181) (x_rt 181) ∈ x_tb := x_i5 (List.mem_of_getElem? (i := 229) rfl) rfl
set_option maxRecDepth 20000 in
theorem x_co_182 : Cond.code (x_y 182) (x_cd 182) (x_ml 182) (x_rt 182) ∈ x_tb := x_i5 (List.mem_of_getElem? (i := 209) rfl) rfl
set_option maxRecDepth 20000 in
theorem x_co_183 : Cond.code (x_y 183) (x_cd 183) (x_ml 183) (x_rt 183) ∈ x_tb := x_i5 (List.mem_of_getElem? (i := 190) rfl) rfl
set_option maxRecDepth 20000 in
theorem x_co_184 : Cond.code (x_y 184) (x_cd 184) (x_ml 184) (x_rt 184) ∈ x_tb := x_i5 (List.mem_of_getElem? (i := 186) rfl) rfl
set_option maxRecDepth 20000 in
theorem x_co_185 : Cond.code (x_y 185) (x_cd 185) (x_ml 185) (x_rt 185) ∈ x_tb := x_i6 (List.mem_of_getElem? (i := 50) rfl) rfl
set_option maxRecDepth 20000 in
theorem x_co_186 : Cond.code (x_y 186) (x_cd 186) (x_ml 186) (x_rt 186) ∈ x_tb := x_i6 (List.mem_of_getElem? (i := 58) rfl) rfl
set_option maxRecDepth 20000 in
theorem x_co_187 : Cond.code (x_y 187) (x_cd 187) (x_ml 187) (x_rt 187) ∈ x_tb := x_i6 (List.mem_of_getElem? (i := 54) rfl) rfl
set_option maxRecDepth 20000 in
theorem x_co_188 : Cond.code (x_y 188) (x_cd 188) (x_ml 188) (x_rt 188) ∈ x_tb := x_i6 (List.mem_of_getElem? (i := 82) rfl) rfl
set_option maxRecDepth 20000 in
theorem x_co_189 : Cond.code (x_y 189) (x_cd 189) (x_ml 189) (x_rt 189) ∈ x_tb := x_i6 (List.mem_of_getElem? (i := 78) rfl) rfl
set_option maxRecDepth 20000 in
theorem x_co_190 : Cond.code (x_y 190) (x_cd 190) (x_ml 190) (x_rt 190) ∈ x_tb := x_i6 (List.mem_of_getElem? (i := 74) rfl) rfl
set_option maxRecDepth 20000 in
theorem x_co_191 : Cond.code (x_y 191) (x_cd 191) (x_ml 191) (x_rt 191) ∈ x_tb := x_i6 (List.mem_of_getElem? (i := 70) rfl) rfl
set_option maxRecDepth 20000 in
theorem x_co_192 : Cond.code (x_y 192) (x_cd 192) (x_ml 192) (x_rt 192) ∈ x_tb := x_i6 (List.mem_of_getElem? (i := 66) rfl) rfl
set_option maxRecDepth 20000 in
theorem x_co_193 : Cond.code (x_y 193) (x_cd 193) (x_ml 193) (x_rt 193) ∈ x_tb := x_i6 (List.mem_of_getElem? (i := 62) rfl) rfl
set_option maxRecDepth 20000 in
theorem x_co_194 : Cond.code (x_y 194) (x_cd 194) (x_ml 194) (x_rt 194) ∈ x_tb := x_i6 (List.mem_of_getElem? (i := 112) rfl) rfl
set_option maxRecDepth 20000 in
theorem x_co_195 : Cond.code (x_y 195) (x_cd 195) (x_ml 195) (x_rt 195) ∈ x_tb := x_i6 (List.mem_of_getElem? (i := 109) rfl) rfl
set_option maxRecDepth 20000 in
theorem x_co_196 : Cond.code (x_y 196) (x_cd 196) (x_ml 196) (x_rt 196) ∈ x_tb := x_i6 (List.mem_of_getElem? (i := 117) rfl) rfl
set_option maxRecDepth 20000 in
theorem x_co_197 : Cond.code (x_y 197) (x_cd 197) (x_ml 197) (x_rt 197) ∈ x_tb := x_i6 (List.mem_of_getElem? (i := 106) rfl) rfl
set_option maxRecDepth 20000 in
theorem x_co_198 : Cond.code (x_y 198) (x_cd 198) (x_ml 198) (x_rt 198) ∈ x_tb := x_i6 (List.mem_of_getElem? (i := 94) rfl) rfl
set_option maxRecDepth 20000 in
theorem x_co_199 : Cond.code (x_y 199) (x_cd 199) (x_ml 199) (x_rt 199) ∈ x_tb := x_i6 (List.mem_of_getElem? (i := 102) rfl) rfl
set_option maxRecDepth 20000 in
theorem x_co_200 : Cond.code (x_y 200) (x_cd 200) (x_ml 200) (x_rt 200) ∈ x_tb := x_i6 (List.mem_of_getElem? (i := 121) rfl) rfl
set_option maxRecDepth 20000 in
theorem x_co_201 : Cond.code (x_y 201) (x_cd 201) (x_ml 201) (x_rt 201) ∈ x_tb := x_i6 (List.mem_of_getElem? (i := 86) rfl) rfl
set_option maxRecDepth 20000 in
theorem x_co_202 : Cond.code (x_y 202) (x_cd 202) (x_ml 202) (x_rt 202) ∈ x_tb := x_i6 (List.mem_of_getElem? (i := 129) rfl) rfl
set_option maxRecDepth 20000 in
theorem x_co_203 : Cond.code (x_y 203) (x_cd 203) (x_ml 203) (x_rt 203) ∈ x_tb := x_i6 (List.mem_of_getElem? (i := 125) rfl) rfl
set_option maxRecDepth 20000 in
theorem x_co_204 : Cond.code (x_y 204) (x_cd 204) (x_ml 204) (x_rt 204) ∈ x_tb := x_i6 (List.mem_of_getElem? (i := 133) rfl) rfl
set_option maxRecDepth 20000 in
theorem x_co_205 : Cond.code (x_y 205) (x_cd 205) (x_ml 205) (x_rt 205) ∈ x_tb := x_i6 (List.mem_of_getElem? (i := 150) rfl) rfl
set_option maxRecDepth 20000 in
theorem x_co_206 : Cond.code (x_y 206) (x_cd 206) (x_ml 206) (x_rt 206) ∈ x_tb := x_i6 (List.mem_of_getElem? (i := 158) rfl) rfl
set_option maxRecDepth 20000 in
theorem x_co_207 : Cond.code (x_y 207) (x_cd 207) (x_ml 207) (x_rt 207) ∈ x_tb := x_i6 (List.mem_of_getElem? (i := 138) rfl) rfl
set_option maxRecDepth 20000 in
theorem x_co_208 : Cond.code (x_y 208) (x_cd 208) (x_ml 208) (x_rt 208) ∈ x_tb := x_i6 (List.mem_of_getElem? (i := 162) rfl) rfl
set_option maxRecDepth 20000 in
theorem x_co_209 : Cond.code (x_y 209) (x_cd 209) (x_ml 209) (x_rt 209) ∈ x_tb := x_i6 (List.mem_of_getElem? (i := 166) rfl) rfl
set_option maxRecDepth 20000 in
theorem x_co_210 : Cond.code (x_y 210) (x_cd 210) (x_ml 210) (x_rt 210) ∈ x_tb := x_i6 (List.mem_of_getElem? (i := 176) rfl) rfl
set_option maxRecDepth 20000 in
theorem x_co_211 : Cond.code (x_y 211) (x_cd 211) (x_ml 211) (x_rt 211) ∈ x_tb := x_i6 (List.mem_of_getElem? (i := 170) rfl) rfl
set_option maxRecDepth 20000 in
theorem x_co_212 : Cond.code (x_y 212) (x_cd 212) (x_ml 212) (x_rt 212) ∈ x_tb := x_i6 (List.mem_of_getElem? (i := 185) rfl) rfl
set_option maxRecDepth 20000 in
theorem x_co_213 : Cond.code (x_y 213) (x_cd 213) (x_ml 213) (x_rt 213) ∈ x_tb := x_i6 (List.mem_of_getElem? (i := 189) rfl) rfl
set_option maxRecDepth 20000 in
theorem x_co_214 : Cond.code (x_y 214) (x_cd 214) (x_ml 214) (x_rt 214) ∈ x_tb := x_i6 (List.mem_of_getElem? (i := 193) rfl) rfl
set_option maxRecDepth 20000 in
theorem x_co_215 : Cond.code (x_y 215) (x_cd 215) (x_ml 215) (x_rt 215) ∈ x_tb := x_i6 (List.mem_of_getElem? (i := 181) rfl) rfl
set_option maxRecDepth 20000 in
theorem x_co_216 : Cond.code (x_y 216) (x_cd 216) (x_ml 216) (x_rt 216) ∈ x_tb := x_i6 (List.mem_of_getElem? (i := 197) rfl) rfl
set_option maxRecDepth 20000 in
theorem x_co_217 : Cond.code (x_y 217) (x_cd 217) (x_ml 217) (x_rt 217) ∈ x_tb := x_i6 (List.mem_of_getElem? (i := 201) rfl) rfl
set_option maxRecDepth 20000 in
theorem x_co_218 : Cond.code (x_y 218) (x_cd 218) (x_ml 218) (x_rt 218) ∈ x_tb := x_i6 (List.mem_of_getElem? (i := 205) rfl) rfl
set_option maxRecDepth 20000 in
theorem x_co_219 : Cond.code (x_y 219) (x_cd 219) (x_ml 219) (x_rt 219) ∈ x_tb := x_i6 (List.mem_of_getElem? (i := 209) rfl) rfl
set_option maxRecDepth 20000 in
theorem x_co_220 : Cond.code (x_y 220) (x_cd 220) (x_ml 220) (x_rt 220) ∈ x_tb := x_i6 (List.mem_of_getElem? (i := 213) rfl) rfl
set_option maxRecDepth 20000 in
theorem x_co_221 : Cond.code (x_y 221) (x_cd 221) (x_ml 221) (x_rt 221) ∈ x_tb := x_i6 (List.mem_of_getElem? (i := 217) rfl) rfl
set_option maxRecDepth 20000 in
theorem x_co_222 : Cond.code (x_y 222) (x_cd 222) (x_ml 222) (x_rt 222) ∈ x_tb := x_i6 (List.mem_of_getElem? (i := 225) rfl) rfl
set_option maxRecDepth 20000 in
theorem x_co_223 : Cond.code (x_y 223) (x_cd 223) (x_ml 223) (x_rt 223) ∈ x_tb := x_i6 (List.mem_of_getElem? (i := 221) rfl) rfl
set_option maxRecDepth 20000 in
theorem x_co_224 : Cond.code (x_y 224) (x_cd 224) (x_ml 224) (x_rt 224) ∈ x_tb := x_i7 (List.mem_of_getElem? (i := 5) rfl) rfl
set_option maxRecDepth 20000 in
theorem x_co_225 : Cond.code (x_y 225) (x_cd 225) (x_ml 225) (x_rt 225) ∈ x_tb := x_i7 (List.mem_of_getElem? (i := 9) rfl) rfl
set_option maxRecDepth 20000 in
theorem x_co_226 : Cond.code (x_y 226) (x_cd 226) (x_ml 226) (x_rt 226) ∈ x_tb := x_i7 (List.mem_of_getElem? (i := 1) rfl) rfl
set_option maxRecDepth 20000 in
theorem x_co_227 : Cond.code (x_y 227) (x_cd 227) (x_ml 227) (x_rt 227) ∈ x_tb := x_i6 (List.mem_of_getElem? (i := 233) rfl) rfl
set_option maxRecDepth 20000 in
theorem x_co_228 : Cond.code (x_y 228) (x_cd 228) (x_ml 228) (x_rt 228) ∈ x_tb := x_i6 (List.mem_of_getElem? (i := 237) rfl) rfl
set_option maxRecDepth 20000 in
theorem x_co_229 : Cond.code (x_y 229) (x_cd 229) (x_ml 229) (x_rt 229) ∈ x_tb := x_i6 (List.mem_of_getElem? (i := 229) rfl) rfl
set_option maxRecDepth 20000 in
theorem x_co_230 : Cond.code (x_y 230) (x_cd 230) (x_ml 230) (x_rt 230) ∈ x_tb := x_i7 (List.mem_of_getElem? (i := 14) rfl) rfl
set_option maxRecDepth 20000 in
theorem x_co_231 : Cond.code (x_y 231) (x_cd 231) (x_ml 231) (x_rt 231) ∈ x_tb := x_i7 (List.mem_of_getElem? (i := 26) rfl) rfl
set_option maxRecDepth 20000 in
theorem x_co_232 : Cond.code (x_y 232) (x_cd 232) (x_ml 232) (x_rt 232) ∈ x_tb := x_i7 (List.mem_of_getElem? (i := 22) rfl) rfl
set_option maxRecDepth 20000 in
theorem x_co_233 : Cond.code (x_y 233) (x_cd 233) (x_ml 233) (x_rt 233) ∈ x_tb := x_i7 (List.mem_of_getElem? (i := 18) rfl) rfl
set_option maxRecDepth 20000 in
theorem x_co_234 : Cond.code (x_y 234) (x_cd 234) (x_ml 234) (x_rt 234) ∈ x_tb := x_i7 (List.mem_of_getElem? (i := 31) rfl) rfl
set_option maxRecDepth 20000 in
theorem x_co_235 : Cond.code (x_y 235) (x_cd 235) (x_ml 235) (x_rt 235) ∈ x_tb := x_i7 (List.mem_of_getElem? (i := 43) rfl) rfl
set_option maxRecDepth 20000 in
theorem x_co_236 : Cond.code (x_y 236) (x_cd 236) (x_ml 236) (x_rt 236) ∈ x_tb := x_i7 (List.mem_of_getElem? (i := 35) rfl) rfl
set_option maxRecDepth 20000 in
theorem x_co_237 : Cond.code (x_y 237) (x_cd 237) (x_ml 237) (x_rt 237) ∈ x_tb := x_i7 (List.mem_of_getElem? (i := 39) rfl) rfl
set_option maxRecDepth 20000 in
theorem x_co_238 : Cond.code (x_y 238) (x_cd 238) (x_ml 238) (x_rt 238) ∈ x_tb := x_i7 (List.mem_of_getElem? (i := 47) rfl) rfl
set_option maxRecDepth 20000 in
theorem x_co_239 : Cond.code (x_y 239) (x_cd 239) (x_ml 239) (x_rt 239) ∈ x_tb := x_i7 (List.mem_of_getElem? (i := 55) rfl) rfl
set_option maxRecDepth 20000 in
theorem x_co_240 : Cond.code (x_y 240) (x_cd 240) (x_ml 240) (x_rt 240) ∈ x_tb := x_i7 (List.mem_of_getElem? (i := 51) rfl) rfl
set_option maxRecDepth 20000 in
theorem x_co_241 : Cond.code (x_y 241) (x_cd 241) (x_ml 241) (x_rt 241) ∈ x_tb := x_i7 (List.mem_of_getElem? (i := 59) rfl) rfl
set_option maxRecDepth 20000 in
theorem x_co_242 : Cond.code (x_y 242) (x_cd 242) (x_ml 242) (x_rt 242) ∈ x_tb := x_i7 (List.mem_of_getElem? (i := 63) rfl) rfl
set_option maxRecDepth 20000 in
theorem x_co_243 : Cond.code (x_y 243) (x_cd 243) (x_ml 243) (x_rt 243) ∈ x_tb := x_i7 (List.mem_of_getElem? (i := 67) rfl) rfl
set_option maxRecDepth 20000 in
theorem x_co_244 : Cond.code (x_y 244) (x_cd 244) (x_ml 244) (x_rt 244) ∈ x_tb := x_i7 (List.mem_of_getElem? (i := 71) rfl) rfl
set_option maxRecDepth 20000 in
theorem x_co_245 : Cond.code (x_y 245) (x_cd 245) (x_ml 245) (x_rt 245) ∈ x_tb := x_i7 (List.mem_of_getElem? (i := 78) rfl) rfl
set_option maxRecDepth 20000 in
theorem x_co_246 : Cond.code (x_y 246) (x_cd 246) (x_ml 246) (x_rt 246) ∈ x_tb := x_i7 (List.mem_of_getElem? (i := 82) rfl) rfl
set_option maxRecDepth 20000 in
theorem x_co_248 : Cond.code (x_y 248) (x_cd 248) (x_ml 248) (x_rt 248) ∈ x_tb := x_i3 (List.mem_of_getElem? (i := 122) rfl) rfl
set_option maxRecDepth 20000 in
theorem x_co_249 : Cond.code (x_y 249) (x_cd 249) (x_ml 249) (x_rt 249) ∈ x_tb := x_i3 (List.mem_of_getElem? (i := 125) rfl) rfl
set_option maxRecDepth 20000 in
theorem x_co_250 : Cond.code (x_y 250) (x_cd 250) (x_ml 250) (x_rt 250) ∈ x_tb := x_i3 (List.mem_of_getElem? (i := 129) rfl) rfl
set_option maxRecDepth 20000 in
theorem x_co_255 : Cond.code (x_y 255) (x_cd 255) (x_ml 255) (x_rt 255) ∈ x_tb := x_i3 (List.mem_of_getElem? (i := 12) rfl) rfl
set_option maxRecDepth 20000 in
theorem x_co_256 : Cond.code (x_y 256) (x_cd 256) (x_ml 256) (x_rt 256) ∈ x_tb := x_i3 (List.mem_of_getElem? (i := 22) rfl) rfl
set_option maxRecDepth 20000 in
theorem x_co_257 : Cond.code (x_y 257) (x_cd 257) (x_ml 257) (x_rt 257) ∈ x_tb := x_i3 (List.mem_of_getElem? (i := 79) rfl) rfl
set_option maxRecDepth 20000 in
theorem x_co_258 : Cond.code (x_y 258) (x_cd 258) (x_ml 258) (x_rt 258) ∈ x_tb := x_i3 (List.mem_of_getElem? (i := 83) rfl) rfl
set_option maxRecDepth 20000 in
theorem x_co_259 : Cond.code (x_y 259) (x_cd 259) (x_ml 259) (x_rt 259) ∈ x_tb := x_i3 (List.mem_of_getElem? (i := 16) rfl) rfl
set_option maxRecDepth 20000 in
theorem x_co_260 : Cond.code (x_y 260) (x_cd 260) (x_ml 260) (x_rt 260) ∈ x_tb := x_i3 (List.mem_of_getElem? (i := 26) rfl) rfl
set_option maxRecDepth 20000 in
theorem x_co_261 : Cond.code (x_y 261) (x_cd 261) (x_ml 261) (x_rt 261) ∈ x_tb := x_i3 (List.mem_of_getElem? (i := 32) rfl) rfl
set_option maxRecDepth 20000 in
theorem x_co_262 : Cond.code (x_y 262) (x_cd 262) (x_ml 262) (x_rt 262) ∈ x_tb := x_i3 (List.mem_of_getElem? (i := 110) rfl) rfl
set_option maxRecDepth 20000 in
theorem x_co_263 : Cond.code (x_y 263) (x_cd 263) (x_ml 263) (x_rt 263) ∈ x_tb := x_i3 (List.mem_of_getElem? (i := 29) rfl) rfl
set_option maxRecDepth 20000 in
theorem x_co_264 : Cond.code (x_y 264) (x_cd 264) (x_ml 264) (x_rt 264) ∈ x_tb := x_i3 (List.mem_of_getElem? (i := 90) rfl) rfl
set_option maxRecDepth 20000 in
theorem x_co_265 : Cond.code (x_y 265) (x_cd 265) (x_ml 265) (x_rt 265) ∈ x_tb := x_i3 (List.mem_of_getElem? (i := 87) rfl) rfl
set_option maxRecDepth 20000 in
theorem x_co_266 : Cond.code (x_y 266) (x_cd 266) (x_ml 266) (x_rt 266) ∈ x_tb := x_i3 (List.mem_of_getElem? (i := 95) rfl) rfl
set_option maxRecDepth 20000 in
theorem x_co_267 : Cond.code (x_y 267) (x_cd 267) (x_ml 267) (x_rt 267) ∈ x_tb := x_i3 (List.mem_of_getElem? (i := 50) rfl) rfl
set_option maxRecDepth 20000 in
theorem x_co_268 : Cond.code (x_y 268) (x_cd 268) (x_ml 268) (x_rt 268) ∈ x_tb := x_i3 (List.mem_of_getElem? (i := 46) rfl) rfl
set_option maxRecDepth 20000 in
theorem x_co_269 : Cond.code (x_y 269) (x_cd 269) (x_ml 269) (x_rt 269) ∈ x_tb := x_i3 (List.mem_of_getElem? (i := 98) rfl) rfl
set_option maxRecDepth 20000 in
theorem x_co_270 : Cond.code (x_y 270) (x_cd 270) (x_ml 270) (x_rt 270) ∈ x_tb := x_i3 (List.mem_of_getElem? (i := 104) rfl) rfl
set_option maxRecDepth 20000 in
theorem x_co_271 : Cond.code (x_y 271) (x_cd 271) (x_ml 271) (x_rt 271) ∈ x_tb := x_i3 (List.mem_of_getElem? (i := 116) rfl) rfl
set_option maxRecDepth 20000 in
theorem x_co_272 : Cond.code (x_y 272) (x_cd 272) (x_ml 272) (x_rt 272) ∈ x_tb := x_i3 (List.mem_of_getElem? (i := 119) rfl) rfl
set_option maxRecDepth 20000 in
theorem x_co_273 : Cond.code (x_y 273) (x_cd 273) (x_ml 273) (x_rt 273) ∈ x_tb := x_i3 (List.mem_of_getElem? (i := 40) rfl) rfl
set_option maxRecDepth 20000 in
theorem x_co_274 : Cond.code (x_y 274) (x_cd 274) (x_ml 274) (x_rt 274) ∈ x_tb := x_i3 (List.mem_of_getElem? (i := 43) rfl) rfl
set_option maxRecDepth 20000 in
theorem x_co_275 : Cond.code (x_y 275) (x_cd 275) (x_ml 275) (x_rt 275) ∈ x_tb := x_i3 (List.mem_of_getElem? (i := 107) rfl) rfl
set_option maxRecDepth 20000 in
theorem x_co_276 : Cond.code (x_y 276) (x_cd 276) (x_ml 276) (x_rt 276) ∈ x_tb := x_i4 (List.mem_of_getElem? (i := 178) rfl) rfl
set_option maxRecDepth 20000 in
theorem x_co_277 : Cond.code (x_y 277) (x_cd 277) (x_ml 277) (x_rt 277) ∈ x_tb := x_i3 (List.mem_of_getElem? (i := 37) rfl) rfl
set_option maxRecDepth 20000 in
theorem x_co_278 : Cond.code (x_y 278) (x_cd 278) (x_ml 278) (x_rt 278) ∈ x_tb := x_i3 (List.mem_of_getElem? (i := 113) rfl) rfl
def x_cp0 : List (Nat × Nat × Nat) := [(0, 711, 112), (1, 480, 112), (2, 754, 112), (3, 789, 112), (4, 520, 112), (5, 492, 112), (6, 497, 112), (7, 488, 112), (8, 300, 103), (9, 540, 103), (10, 503, 103), (11, 462, 103), (12, 458, 103), (13, 507, 103), (14, 991, 103), (15, 929, 103), (16, 476, 103), (17, 472, 103), (18, 826, 103), (19, 511, 103), (20, 516, 103), (21, 523, 103), (22, 527, 103), (23, 126, 98), (24, 484, 98), (25, 809, 98), (26, 467, 98), (27, 1064, 98), (28, 325, 104), (29, 943, 104), (30, 950, 104), (31, 954, 104), (32, 958, 104), (33, 962, 104), (34, 966, 104), (35, 970, 104), (36, 974, 104), (37, 275, 102), (38, 564, 102), (39, 736, 102)]
theorem x_cp0_ok : ∀ q ∈ x_cp0, Cond.code (x_y q.1) (x_cd q.1) (x_ml q.1) (x_rt q.1) ∈ x_tb := List.forall_mem_cons.mpr ⟨x_co_0, List.forall_mem_cons.mpr ⟨x_co_1, List.forall_mem_cons.mpr ⟨x_co_2, List.forall_mem_cons.mpr ⟨x_co_3, List.forall_mem_cons.mpr ⟨x_co_4, List.forall_mem_cons.mpr ⟨x_co_5, List.forall_mem_cons.mpr ⟨x_co_6, List.forall_mem_cons.mpr ⟨x_co_7, List.forall_mem_cons.mpr ⟨x_co_8, List.forall_mem_cons.mpr ⟨x_co_9, List.forall_mem_cons.mpr ⟨x_co_10, List.forall_mem_cons.mpr ⟨x_co_11, List.forall_mem_cons.mpr ⟨x_co_12, List.forall_mem_cons.mpr ⟨x_co_13, List.forall_mem_cons.mpr ⟨x_co_14, List.forall_mem_cons.mpr ⟨x_co_15, List.forall_mem_cons.mpr ⟨x_co_16, List.forall_mem_cons.mpr ⟨x_co_17, List.forall_mem_cons.mpr ⟨x_co_18, List.forall_mem_cons.mpr ⟨x_co_19, List.forall_mem_cons.mpr ⟨x_co_20, List.forall_mem_cons.mpr ⟨x_co_21, List.forall_mem_cons.mpr ⟨x_co_22, List.forall_mem_cons.mpr ⟨x_co_23, List.forall_mem_cons.mpr ⟨x_co_24, List.forall_mem_cons.mpr ⟨x_co_25, List.forall_mem_cons.mpr ⟨x_co_26, List.forall_mem_cons.mpr ⟨x_co_27, List.forall_mem_cons.mpr ⟨x_co_28, List.forall_mem_cons.mpr ⟨x_co_29, List.forall_mem_cons.mpr ⟨x_co_30, List.forall_mem_cons.mpr ⟨x_co_31, List.forall_mem_cons.mpr ⟨x_co_32, List.forall_mem_cons.mpr ⟨x_co_33, List.forall_mem_cons.mpr ⟨x_co_34, List.forall_mem_cons.mpr ⟨x_co_35, List.forall_mem_cons.mpr ⟨x_co_36, List.forall_mem_cons.mpr ⟨x_co_37, List.forall_mem_cons.mpr ⟨x_co_38, List.forall_mem_cons.mpr ⟨x_co_39, fun _ h => absurd h List.not_mem_nil⟩⟩⟩⟩⟩⟩⟩⟩⟩⟩⟩⟩⟩⟩⟩⟩⟩⟩⟩⟩⟩⟩⟩⟩⟩⟩⟩⟩⟩⟩⟩⟩⟩⟩⟩⟩⟩⟩⟩⟩
theorem x_cp0_ok2 : ∀ q ∈ x_cp0, lw_tbl[q.2.2]? = some (Cond.initialized (x_y q.1).cls) ∧ (x_y q.1).cls ≠ "java/lang/invoke/MethodHandle" ∧ (x_y q.1).cls ≠ "java/lang/invoke/VarHandle" ∧ plainName (x_y q.1).cls = true ∧ x_ml q.1 ≤ 41 := by decide +kernel
theorem x_cp0_mok : ∀ q ∈ x_cp0, x_mok q.1 := by
  intro q hq
  have h1 := x_cp0_ok q hq
  obtain ⟨h2, h3, h4, h5, h6⟩ := x_cp0_ok2 q hq
  exact ⟨h1, x_in _ h2 rfl, h3, h4, h5, h6⟩
def x_cp1 : List (Nat × Nat × Nat) := [(40, 740, 102), (41, 771, 102), (42, 759, 102), (43, 748, 102), (44, 805, 102), (45, 785, 102), (46, 744, 102), (47, 763, 102), (48, 777, 102), (49, 781, 102), (50, 793, 102), (51, 797, 102), (52, 801, 102), (53, 132, 99), (54, 425, 99), (55, 413, 99), (56, 409, 99), (57, 438, 99), (58, 417, 99), (59, 1068, 99), (60, 244, 101), (61, 552, 101), (62, 636, 101), (63, 572, 101), (64, 575, 101), (65, 639, 101), (66, 568, 101), (67, 579, 101), (68, 583, 101), (69, 643, 101), (70, 650, 101), (71, 367, 105), (72, 998, 105), (73, 1015, 105), (74, 1007, 105), (75, 1002, 105), (76, 118, 97), (77, 402, 97), (78, 421, 97), (79, 429, 97)]
theorem x_cp1_ok : ∀ q ∈ x_cp1, Cond.code (x_y q.1) (x_cd q.1) (x_ml q.1) (x_rt q.1) ∈ x_tb := List.forall_mem_cons.mpr ⟨x_co_40, List.forall_mem_cons.mpr ⟨x_co_41, List.forall_mem_cons.mpr ⟨x_co_42, List.forall_mem_cons.mpr ⟨x_co_43, List.forall_mem_cons.mpr ⟨x_co_44, List.forall_mem_cons.mpr ⟨x_co_45, List.forall_mem_cons.mpr ⟨x_co_46, List.forall_mem_cons.mpr ⟨x_co_47, List.forall_mem_cons.mpr ⟨x_co_48, List.forall_mem_cons.mpr ⟨x_co_49, List.forall_mem_cons.mpr ⟨x_co_50, List.forall_mem_cons.mpr ⟨x_co_51, List.forall_mem_cons.mpr ⟨x_co_52, List.forall_mem_cons.mpr ⟨x_co_53, List.forall_mem_cons.mpr ⟨x_co_54, List.forall_mem_cons.mpr ⟨x_co_55, List.forall_mem_cons.mpr ⟨x_co_56, List.forall_mem_cons.mpr ⟨x_co_57, List.forall_mem_cons.mpr ⟨x_co_58, List.forall_mem_cons.mpr ⟨x_co_59, List.forall_mem_cons.mpr ⟨x_co_60, List.forall_mem_cons.mpr ⟨x_co_61, List.forall_mem_cons.mpr ⟨x_co_62, List.forall_mem_cons.mpr ⟨x_co_63, List.forall_mem_cons.mpr ⟨x_co_64, List.forall_mem_cons.mpr ⟨x_co_65, List.forall_mem_cons.mpr ⟨x_co_66, List.forall_mem_cons.mpr ⟨x_co_67, List.forall_mem_cons.mpr ⟨x_co_68, List.forall_mem_cons.mpr ⟨x_co_69, List.forall_mem_cons.mpr ⟨x_co_70, List.forall_mem_cons.mpr ⟨x_co_71, List.forall_mem_cons.mpr ⟨x_co_72, List.forall_mem_cons.mpr ⟨x_co_73, List.forall_mem_cons.mpr ⟨x_co_74, List.forall_mem_cons.mpr ⟨x_co_75, List.forall_mem_cons.mpr ⟨x_co_76, List.forall_mem_cons.mpr ⟨x_co_77, List.forall_mem_cons.mpr ⟨x_co_78, List.forall_mem_cons.mpr ⟨x_co_79, fun _ h => absurd h List.not_mem_nil⟩⟩⟩⟩⟩⟩⟩⟩⟩⟩⟩⟩⟩⟩⟩⟩⟩⟩⟩⟩⟩⟩⟩⟩⟩⟩⟩⟩⟩⟩⟩⟩⟩⟩⟩⟩⟩⟩⟩⟩
theorem x_cp1_ok2 : ∀ q ∈ x_cp1, lw_tbl[q.2.2]? = some (Cond.initialized (x_y q.1).cls) ∧ (x_y q.1).cls ≠ "java/lang/invoke/MethodHandle" ∧ (x_y q.1).cls ≠ "java/lang/invoke/VarHandle" ∧ plainName (x_y q.1).cls = true ∧ x_ml q.1 ≤ 41 := by decide +kernel
theorem x_cp1_mok : ∀ q ∈ x_cp1, x_mok q.1 := by
  intro q hq
  have h1 := x_cp1_ok q hq
  obtain ⟨h2, h3, h4, h5, h6⟩ := x_cp1_ok2 q hq
  exact ⟨h1, x_in _ h2 rfl, h3, h4, h5, h6⟩
def x_cp2 : List (Nat × Nat × Nat) := [(80, 434, 97), (81, 442, 97), (82, 446, 97), (83, 454, 97), (84, 544, 97), (85, 548, 97), (86, 556, 97), (87, 560, 97), (88, 813, 97), (89, 817, 97), (90, 822, 97), (91, 830, 97), (92, 835, 97), (93, 841, 97), (94, 853, 97), (95, 857, 97), (96, 861, 97), (97, 873, 97), (98, 890, 97), (99, 894, 97), (100, 898, 97), (101, 905, 97), (102, 917, 97), (103, 921, 97), (104, 925, 97), (105, 935, 97), (106, 980, 97), (107, 987, 97), (108, 1011, 97), (109, 1020, 97), (110, 1024, 97), (111, 1028, 97), (112, 1032, 97), (113, 1044, 97), (114, 1048, 97), (115, 1052, 97), (116, 1060, 97), (117, 1073, 97), (118, 1077, 97), (119, 405, 97)]
theorem x_cp2_ok : ∀ q ∈ x_cp2, Cond.code (x_y q.1) (x_cd q.1) (x_ml q.1) (x_rt q.1) ∈ x_tb := List.forall_mem_cons.mpr ⟨x_co_80, List.forall_mem_cons.mpr ⟨x_co_81, List.forall_mem_cons.mpr ⟨x_co_82, List.forall_mem_cons.mpr ⟨x_co_83, List.forall_mem_cons.mpr ⟨x_co_84, List.forall_mem_cons.mpr ⟨x_co_85, List.forall_mem_cons.mpr ⟨x_co_86, List.forall_mem_cons.mpr ⟨x_co_87, List.forall_mem_cons.mpr ⟨x_co_88, List.forall_mem_cons.mpr ⟨x_co_89, List.forall_mem_cons.mpr ⟨x_co_90, List.forall_mem_cons.mpr ⟨x_co_91, List.forall_mem_cons.mpr ⟨x_co_92, List.forall_mem_cons.mpr ⟨x_co_93, List.forall_mem_cons.mpr ⟨x_co_94, List.forall_mem_cons.mpr ⟨x_co_95, List.forall_mem_cons.mpr ⟨x_co_96, List.forall_mem_cons.mpr ⟨x_co_97, List.forall_mem_cons.mpr ⟨x_co_98, List.forall_mem_cons.mpr ⟨x_co_99, List.forall_mem_cons.mpr ⟨x_co_100, List.forall_mem_cons.mpr ⟨x_co_101, List.forall_mem_cons.mpr ⟨x_co_102, List.forall_mem_cons.mpr ⟨x_co_103, List.forall_mem_cons.mpr ⟨x_co_104, List.forall_mem_cons.mpr ⟨x_co_105, List.forall_mem_cons.mpr ⟨x_co_106, List.forall_mem_cons.mpr ⟨x_co_107, List.forall_mem_cons.mpr ⟨x_co_108, List.forall_mem_cons.mpr ⟨x_co_109, List.forall_mem_cons.mpr ⟨x_co_110, List.forall_mem_cons.mpr ⟨x_co_111, List.forall_mem_cons.mpr ⟨x_co_112, List.forall_mem_cons.mpr ⟨x_co_113, List.forall_mem_cons.mpr ⟨x_co_114, List.forall_mem_cons.mpr ⟨x_co_115, List.forall_mem_cons.mpr ⟨x_co_116, List.forall_mem_cons.mpr ⟨x_co_117, List.forall_mem_cons.mpr ⟨x_co_118, List.forall_mem_cons.mpr ⟨x_co_119, fun _ h => absurd h List.not_mem_nil⟩⟩⟩⟩⟩⟩⟩⟩⟩⟩⟩⟩⟩⟩⟩⟩⟩⟩⟩⟩⟩⟩⟩⟩⟩⟩⟩⟩⟩⟩⟩⟩⟩⟩⟩⟩⟩⟩⟩⟩
theorem x_cp2_ok2 : ∀ q ∈ x_cp2, lw_tbl[q.2.2]? = some (Cond.initialized (x_y q.1).cls) ∧ (x_y q.1).cls ≠ "java/lang/invoke/MethodHandle" ∧ (x_y q.1).cls ≠ "java/lang/invoke/VarHandle" ∧ plainName (x_y q.1).cls = true ∧ x_ml q.1 ≤ 41 := by decide +kernel
theorem x_cp2_mok : ∀ q ∈ x_cp2, x_mok q.1 := by
  intro q hq
  have h1 := x_cp2_ok q hq
  obtain ⟨h2, h3, h4, h5, h6⟩ := x_cp2_ok2 q hq
  exact ⟨h1, x_in _ h2 rfl, h3, h4, h5, h6⟩
def x_cp3 : List (Nat × Nat × Nat) := [(120, 449, 97), (121, 983, 97), (122, 939, 97), (123, 845, 97), (124, 849, 97), (125, 885, 97), (126, 881, 97), (127, 877, 97), (128, 909, 97), (129, 913, 97), (130, 901, 97), (131, 868, 97), (132, 865, 97), (133, 1036, 97), (134, 1040, 97), (135, 1056, 97), (136, 1082, 106), (137, 1086, 106), (138, 1610, 106), (139, 1191, 106), (140, 1222, 106), (141, 1203, 106), (142, 1219, 106), (143, 1438, 106), (144, 1394, 106), (145, 1442, 106), (146, 1188, 106), (147, 1195, 106), (148, 1199, 106), (149, 1207, 106), (150, 1450, 106), (151, 1211, 106), (152, 1215, 106), (153, 1386, 106), (154, 1226, 106), (155, 1234, 106), (156, 1230, 106), (157, 1238, 106), (158, 1254, 106), (159, 1261, 106)]
theorem x_cp3_ok : ∀ q ∈ x_cp3, Cond.code (x_y q.1) (x_cd q.1) (x_ml q.1) (x_rt q.1) ∈ x_tb := List.forall_mem_cons.mpr ⟨x_co_120, List.forall_mem_cons.mpr ⟨x_co_121, List.forall_mem_cons.mpr ⟨x_co_122, List.forall_mem_cons.mpr ⟨x_co_123, List.forall_mem_cons.mpr ⟨x_co_124, List.forall_mem_cons.mpr ⟨x_co_125, List.forall_mem_cons.mpr ⟨x_co_126, List.forall_mem_cons.mpr ⟨x_co_127, List.forall_mem_cons.mpr ⟨x_co_128, List.forall_mem_cons.mpr ⟨x_co_129, List.forall_mem_cons.mpr ⟨x_co_130, List.forall_mem_cons.mpr ⟨x_co_131, List.forall_mem_cons.mpr ⟨x_co_132, List.forall_mem_cons.mpr ⟨x_co_133, List.forall_mem_cons.mpr ⟨x_co_134, List.forall_mem_cons.mpr ⟨x_co_135, List.forall_mem_cons.mpr ⟨x_co_136, List.forall_mem_cons.mpr ⟨x_co_137, List.forall_mem_cons.mpr ⟨x_co_138, List.forall_mem_cons.mpr ⟨x_co_139, List.forall_mem_cons.mpr ⟨x_co_140, List.forall_mem_cons.mpr ⟨x_co_141, List.forall_mem_cons.mpr ⟨x_co_142, List.forall_mem_cons.mpr ⟨x_co_143, List.forall_mem_cons.mpr ⟨x_co_144, List.forall_mem_cons.mpr ⟨x_co_145, List.forall_mem_cons.mpr ⟨x_co_146, List.forall_mem_cons.mpr ⟨x_co_147, List.forall_mem_cons.mpr ⟨x_co_148, List.forall_mem_cons.mpr ⟨x_co_149, List.forall_mem_cons.mpr ⟨x_co_150, List.forall_mem_cons.mpr ⟨x_co_151, List.forall_mem_cons.mpr ⟨x_co_152, List.forall_mem_cons.mpr ⟨x_co_153, List.forall_mem_cons.mpr ⟨x_co_154, List.forall_mem_cons.mpr ⟨x_co_155, List.forall_mem_cons.mpr ⟨x_co_156, List.forall_mem_cons.mpr ⟨x_co_157, List.forall_mem_cons.mpr ⟨x_co_158, List.forall_mem_cons.mpr ⟨x_co_159, fun _ h => absurd h List.not_mem_nil⟩⟩⟩⟩⟩⟩⟩⟩⟩⟩⟩⟩⟩⟩⟩⟩⟩⟩⟩⟩⟩⟩⟩⟩⟩⟩⟩⟩⟩⟩⟩⟩⟩⟩⟩⟩⟩⟩⟩⟩
theorem x_cp3_ok2 : ∀ q ∈ x_cp3, lw_tbl[q.2.2]? = some (Cond.initialized (x_y q.1).cls) ∧ (x_y q.1).cls ≠ "java/lang/invoke/MethodHandle" ∧ (x_y q.1).cls ≠ "java/lang/invoke/VarHandle" ∧ plainName (x_y q.1).cls = true ∧ x_ml q.1 ≤ 41 := by decide +kernel
theorem x_cp3_mok : ∀ q ∈ x_cp3, x_mok q.1 := by
  intro q hq
  have h1 := x_cp3_ok q hq
  obtain ⟨h2, h3, h4, h5, h6⟩ := x_cp3_ok2 q hq
  exact ⟨h1, x_in _ h2 rfl, h3, h4, h5, h6⟩
def x_cp4 : List (Nat × Nat × Nat) := [(160, 1257, 106), (161, 1250, 106), (162, 1275, 106), (163, 1278, 106), (164, 1272, 106), (165, 1281, 106), (166, 1297, 106), (167, 1321, 106), (168, 1325, 106), (169, 1329, 106), (170, 1317, 106), (171, 1337, 106), (172, 1333, 106), (173, 1309, 106), (174, 1305, 106), (175, 1313, 106), (176, 1301, 106), (177, 1341, 106), (178, 1293, 106), (179, 1289, 106), (180, 1269, 106), (181, 1285, 106), (182, 1265, 106), (183, 1246, 106), (184, 1242, 106), (185, 1346, 106), (186, 1354, 106), (187, 1350, 106), (188, 1378, 106), (189, 1374, 106), (190, 1370, 106), (191, 1366, 106), (192, 1362, 106), (193, 1358, 106), (194, 1408, 106), (195, 1405, 106), (196, 1413, 106), (197, 1402, 106), (198, 1390, 106), (199, 1398, 106)]
theorem x_cp4_ok : ∀ q ∈ x_cp4, Cond.code (x_y q.1) (x_cd q.1) (x_ml q.1) (x_rt q.1) ∈ x_tb := List.forall_mem_cons.mpr ⟨x_co_160, List.forall_mem_cons.mpr ⟨x_co_161, List.forall_mem_cons.mpr ⟨x_co_162, List.forall_mem_cons.mpr ⟨x_co_163, List.forall_mem_cons.mpr ⟨x_co_164, List.forall_mem_cons.mpr ⟨x_co_165, List.forall_mem_cons.mpr ⟨x_co_166, List.forall_mem_cons.mpr ⟨x_co_167, List.forall_mem_cons.mpr ⟨x_co_168, List.forall_mem_cons.mpr ⟨x_co_169, List.forall_mem_cons.mpr ⟨x_co_170, List.forall_mem_cons.mpr ⟨x_co_171, List.forall_mem_cons.mpr ⟨x_co_172, List.forall_mem_cons.mpr ⟨x_co_173, List.forall_mem_cons.mpr ⟨x_co_174, List.forall_mem_cons.mpr ⟨x_co_175, List.forall_mem_cons.mpr ⟨x_co_176, List.forall_mem_cons.mpr ⟨x_co_177, List.forall_mem_cons.mpr ⟨x_co_178, List.forall_mem_cons.mpr ⟨x_co_179, List.forall_mem_cons.mpr ⟨x_co_180, List.forall_mem_cons.mpr ⟨x_co_181, List.forall_mem_cons.mpr ⟨x_co_182, List.forall_mem_cons.mpr ⟨x_co_183, List.forall_mem_cons.mpr ⟨x_co_184, List.forall_mem_cons.mpr ⟨x_co_185, List.forall_mem_cons.mpr ⟨x_co_186, List.forall_mem_cons.mpr ⟨x_co_187, List.forall_mem_cons.mpr ⟨x_co_188, List.forall_mem_cons.mpr ⟨x_co_189, List.forall_mem_cons.mpr ⟨x_co_190, List.forall_mem_cons.mpr ⟨x_co_191, List.forall_mem_cons.mpr ⟨x_co_192, List.forall_mem_cons.mpr ⟨x_co_193, List.forall_mem_cons.mpr ⟨x_co_194, List.forall_mem_cons.mpr ⟨x_co_195, List.forall_mem_cons.mpr ⟨x_co_196, List.forall_mem_cons.mpr ⟨x_co_197, List.forall_mem_cons.mpr ⟨x_co_198, List.forall_mem_cons.mpr ⟨x_co_199, fun _ h => absurd h List.not_mem_nil⟩⟩⟩⟩⟩⟩⟩⟩⟩⟩⟩⟩⟩⟩⟩⟩⟩⟩⟩⟩⟩⟩⟩⟩⟩⟩⟩⟩⟩⟩⟩⟩⟩⟩⟩⟩⟩⟩⟩⟩
theorem x_cp4_ok2 : ∀ q ∈ x_cp4, lw_tbl[q.2.2]? = some (Cond.initialized (x_y q.1).cls) ∧ (x_y q.1).cls ≠ "java/lang/invoke/MethodHandle" ∧ (x_y q.1).cls ≠ "java/lang/invoke/VarHandle" ∧ plainName (x_y q.1).cls = true ∧ x_ml q.1 ≤ 41 := by decide +kernel
theorem x_cp4_mok : ∀ q ∈ x_cp4, x_mok q.1 := by
  intro q hq
  have h1 := x_cp4_ok q hq
  obtain ⟨h2, h3, h4, h5, h6⟩ := x_cp4_ok2 q hq
  exact ⟨h1, x_in _ h2 rfl, h3, h4, h5, h6⟩
def x_cp5 : List (Nat × Nat × Nat) := [(200, 1417, 106), (201, 1382, 106), (202, 1425, 106), (203, 1421, 106), (204, 1429, 106), (205, 1446, 106), (206, 1454, 106), (207, 1434, 106), (208, 1458, 106), (209, 1462, 106), (210, 1472, 106), (211, 1466, 106), (212, 1481, 106), (213, 1485, 106), (214, 1489, 106), (215, 1477, 106), (216, 1493, 106), (217, 1497, 106), (218, 1501, 106), (219, 1505, 106), (220, 1509, 106), (221, 1513, 106), (222, 1521, 106), (223, 1517, 106), (224, 1541, 106), (225, 1545, 106), (226, 1537, 106), (227, 1529, 106), (228, 1533, 106), (229, 1525, 106), (230, 1550, 106), (231, 1562, 106), (232, 1558, 106), (233, 1554, 106), (234, 1567, 106), (235, 1579, 106), (236, 1571, 106), (237, 1575, 106), (238, 1583, 106), (239, 1591, 106)]
theorem x_cp5_ok : ∀ q ∈ x_cp5, Cond.code (x_y q.1) (x_cd q.1) (x_ml q.1) (x_rt q.1) ∈ x_tb := List.forall_mem_cons.mpr ⟨x_co_200, List.forall_mem_cons.mpr ⟨x_co_201, List.forall_mem_cons.mpr ⟨x_co_202, List.forall_mem_cons.mpr ⟨x_co_203, List.forall_mem_cons.mpr ⟨x_co_204, List.forall_mem_cons.mpr ⟨x_co_205, List.forall_mem_cons.mpr ⟨x_co_206, List.forall_mem_cons.mpr ⟨x_co_207, List.forall_mem_cons.mpr ⟨x_co_208, List.forall_mem_cons.mpr ⟨x_co_209, List.forall_mem_cons.mpr ⟨x_co_210, List.forall_mem_cons.mpr ⟨x_co_211, List.forall_mem_cons.mpr ⟨x_co_212, List.forall_mem_cons.mpr ⟨x_co_213, List.forall_mem_cons.mpr ⟨x_co_214, List.forall_mem_cons.mpr ⟨x_co_215, List.forall_mem_cons.mpr ⟨x_co_216, List.forall_mem_cons.mpr ⟨x_co_217, List.forall_mem_cons.mpr ⟨x_co_218, List.forall_mem_cons.mpr ⟨x_co_219, List.forall_mem_cons.mpr ⟨x_co_220, List.forall_mem_cons.mpr ⟨x_co_221, List.forall_mem_cons.mpr ⟨x_co_222, List.forall_mem_cons.mpr ⟨x_co_223, List.forall_mem_cons.mpr ⟨x_co_224, List.forall_mem_cons.mpr ⟨x_co_225, List.forall_mem_cons.mpr ⟨x_co_226, List.forall_mem_cons.mpr ⟨x_co_227, List.forall_mem_cons.mpr ⟨x_co_228, List.forall_mem_cons.mpr ⟨x_co_229, List.forall_mem_cons.mpr ⟨x_co_230, List.forall_mem_cons.mpr ⟨x_co_231, List.forall_mem_cons.mpr ⟨x_co_232, List.forall_mem_cons.mpr ⟨x_co_233, List.forall_mem_cons.mpr ⟨x_co_234, List.forall_mem_cons.mpr ⟨x_co_235, List.forall_mem_cons.mpr ⟨x_co_236, List.forall_mem_cons.mpr ⟨x_co_237, List.forall_mem_cons.mpr ⟨x_co_238, List.forall_mem_cons.mpr ⟨x_co_239, fun _ h => absurd h List.not_mem_nil⟩⟩⟩⟩⟩⟩⟩⟩⟩⟩⟩⟩⟩⟩⟩⟩⟩⟩⟩⟩⟩⟩⟩⟩⟩⟩⟩⟩⟩⟩⟩⟩⟩⟩⟩⟩⟩⟩⟩⟩
theorem x_cp5_ok2 : ∀ q ∈ x_cp5, lw_tbl[q.2.2]? = some (Cond.initialized (x_y q.1).cls) ∧ (x_y q.1).cls ≠ "java/lang/invoke/MethodHandle" ∧ (x_y q.1).cls ≠ "java/lang/invoke/VarHandle" ∧ plainName (x_y q.1).cls = true ∧ x_ml q.1 ≤ 41 := by decide +kernel
theorem x_cp5_mok : ∀ q ∈ x_cp5, x_mok q.1 := by
  intro q hq
  have h1 := x_cp5_ok q hq
  obtain ⟨h2, h3, h4, h5, h6⟩ := x_cp5_ok2 q hq
  exact ⟨h1, x_in _ h2 rfl, h3, h4, h5, h6⟩
def x_cp6 : List (Nat × Nat × Nat) := [(240, 1587, 106), (241, 1595, 106), (242, 1599, 106), (243, 1603, 106), (244, 1607, 106), (245, 1614, 106), (246, 1618, 106), (248, 698, 111), (249, 701, 111), (250, 705, 111), (255, 588, 107), (256, 598, 107), (257, 655, 107), (258, 659, 107), (259, 592, 107), (260, 602, 107), (261, 608, 107), (262, 686, 107), (263, 605, 108), (264, 666, 108), (265, 663, 108), (266, 671, 108), (267, 626, 110), (268, 622, 110), (269, 674, 110), (270, 680, 110), (271, 692, 110), (272, 695, 110), (273, 616, 110), (274, 619, 110), (275, 683, 110), (276, 994, 113), (277, 613, 109), (278, 689, 109)]
theorem x_cp6_ok : ∀ q ∈ x_cp6, Cond.code (x_y q.1) (x_cd q.1) (x_ml q.1) (x_rt q.1) ∈ x_tb := List.forall_mem_cons.mpr ⟨x_co_240, List.forall_mem_cons.mpr ⟨x_co_241, List.forall_mem_cons.mpr ⟨x_co_242, List.forall_mem_cons.mpr ⟨x_co_243, List.forall_mem_cons.mpr ⟨x_co_244, List.forall_mem_cons.mpr ⟨x_co_245, List.forall_mem_cons.mpr ⟨x_co_246, List.forall_mem_cons.mpr ⟨x_co_248, List.forall_mem_cons.mpr ⟨x_co_249, List.forall_mem_cons.mpr ⟨x_co_250, List.forall_mem_cons.mpr ⟨x_co_255, List.forall_mem_cons.mpr ⟨x_co_256, List.forall_mem_cons.mpr ⟨x_co_257, List.forall_mem_cons.mpr ⟨x_co_258, List.forall_mem_cons.mpr ⟨x_co_259, List.forall_mem_cons.mpr ⟨x_co_260, List.forall_mem_cons.mpr ⟨x_co_261, List.forall_mem_cons.mpr ⟨x_co_262, List.forall_mem_cons.mpr ⟨x_co_263, List.forall_mem_cons.mpr ⟨x_co_264, List.forall_mem_cons.mpr ⟨x_co_265, List.forall_mem_cons.mpr ⟨x_co_266, List.forall_mem_cons.mpr ⟨x_co_267, List.forall_mem_cons.mpr ⟨x_co_268, List.forall_mem_cons.mpr ⟨x_co_269, List.forall_mem_cons.mpr ⟨x_co_270, List.forall_mem_cons.mpr ⟨x_co_271, List.forall_mem_cons.mpr ⟨x_co_272, List.forall_mem_cons.mpr ⟨x_co_273, List.forall_mem_cons.mpr ⟨x_co_274, List.forall_mem_cons.mpr ⟨x_co_275, List.forall_mem_cons.mpr ⟨x_co_276, List.forall_mem_cons.mpr ⟨x_co_277, List.forall_mem_cons.mpr ⟨x_co_278, fun _ h => absurd h List.not_mem_nil⟩⟩⟩⟩⟩⟩⟩⟩⟩⟩⟩⟩⟩⟩⟩⟩⟩⟩⟩⟩⟩⟩⟩⟩⟩⟩⟩⟩⟩⟩⟩⟩⟩⟩
theorem x_cp6_ok2 : ∀ q ∈ x_cp6, lw_tbl[q.2.2]? = some (Cond.initialized (x_y q.1).cls) ∧ (x_y q.1).cls ≠ "java/lang/invoke/MethodHandle" ∧ (x_y q.1).cls ≠ "java/lang/invoke/VarHandle" ∧ plainName (x_y q.1).cls = true ∧ x_ml q.1 ≤ 41 := by decide +kernel
theorem x_cp6_mok : ∀ q ∈ x_cp6, x_mok q.1 := by
  intro q hq
  have h1 := x_cp6_ok q hq
  obtain ⟨h2, h3, h4, h5, h6⟩ := x_cp6_ok2 q hq
  exact ⟨h1, x_in _ h2 rfl, h3, h4, h5, h6⟩
def x_mc (M : Nat) : Bool := (x_cp0.any fun q => q.1 == M) || (x_cp1.any fun q => q.1 == M) || (x_cp2.any fun q => q.1 == M) || (x_cp3.any fun q => q.1 == M) || (x_cp4.any fun q => q.1 == M) || (x_cp5.any fun q => q.1 == M) || (x_cp6.any fun q => q.1 == M)
theorem x_mc_ok {M : Nat} (h : x_mc M = true) : x_mok M := by
  unfold x_mc at h
  simp only [Bool.or_eq_true] at h
  have key : ∀ l : List (Nat × Nat × Nat), (∀ q ∈ l, x_mok q.1) → (l.any fun q => q.1 == M) = true → x_mok M := by
    intro l hl ha
    obtain ⟨q, hq, h1⟩ := List.any_eq_true.mp ha
    have e1 : q.1 = M := by simpa using h1
    exact e1 ▸ hl q hq
  rcases h with ((((((h | h) | h) | h) | h) | h) | h)
  · exact key _ x_cp0_mok h
  · exact key _ x_cp1_mok h
  · exact key _ x_cp2_mok h
  · exact key _ x_cp3_mok h
  · exact key _ x_cp4_mok h
  · exact key _ x_cp5_mok h
  · exact key _ x_cp6_mok h
def x_cks : List (Nat × Nat × Nat × Nat) := [(8, 9, 2, 122), (8, 12, 6, 240), (8, 26, 4, 271), (8, 35, 1, 296), (8, 44, 3, 321), (8, 51, 7, 363), (0, 9, 5, 713), (2, 9, 5, 128), (2, 53, 0, 155), (3, 9, 5, 327), (4, 27, 0, 707), (10, 7, 8, 114), (10, 10, 9, 1078)]
theorem x_cks_ok0 : ∀ q ∈ x_cks, lw_tbl[q.2.2.2]? = some (Cond.classLink (x_cnn.getD q.1 "") q.2.1 (x_cn.getD q.2.2.1 "")) := by decide +kernel
def x_ck (M i c : Nat) : Bool := x_cks.any fun q => q.1 == x_oc M && q.2.1 == i && q.2.2.1 == c
theorem x_ck_ok {M i c : Nat} (hM : M < 279) (h : x_ck M i c = true) : Cond.classLink (x_y M).cls i (x_cn.getD c "") ∈ x_tb := by
  unfold x_ck at h
  obtain ⟨q, hq, h1⟩ := List.any_eq_true.mp h
  simp only [Bool.and_eq_true, beq_iff_eq] at h1
  obtain ⟨⟨e1, e2⟩, e3⟩ := h1
  have h2 := x_cks_ok0 q hq
  rw [e1, e2, e3, ← x_oc_ok M hM] at h2
  exact x_in _ h2 rfl
def x_pin : List (Nat × Nat) := [(708, 112), (297, 103), (123, 98), (322, 104), (272, 102), (129, 99), (241, 101), (364, 105), (115, 97), (1079, 106)]
theorem x_pin_ok0 : ∀ c, c < 10 → lw_tbl[(x_pin.getD c (0, 0)).1]? = some (Cond.instantiable (x_cn.getD c "") (x_ft.getD c []).length) ∧ lw_tbl[(x_pin.getD c (0, 0)).2]? = some (Cond.initialized (x_cn.getD c "")) := by decide +kernel
theorem x_pin_ok {c : Nat} (hc : c < 10) : Cond.instantiable (x_cn.getD c "") (x_ft.getD c []).length ∈ x_tb ∧ Cond.initialized (x_cn.getD c "") ∈ x_tb := ⟨x_in _ (x_pin_ok0 c hc).1 rfl, x_in _ (x_pin_ok0 c hc).2 rfl⟩
def x_qcs : List (Nat × Nat × Int × Nat) := [(8, 170, 65535, 836), (7, 23, 1103515245, 1003), (9, 108, 100000, 1258), (9, 275, 65535, 1430), (9, 313, 1000000000, 1546), (9, 336, 1103515245, 1563), (11, 76, 56320, 706), (11, 110, 55232, 702), (15, 227, 65536, 677)]
theorem x_qcs_ok0 : ∀ q ∈ x_qcs, lw_tbl[q.2.2.2]? = some (Cond.constant (x_cnn.getD q.1 "") q.2.1 (Int32.ofInt q.2.2.1)) := by decide +kernel
def x_qc (M i : Nat) (v : Int) : Bool := x_qcs.any fun q => q.1 == x_oc M && q.2.1 == i && q.2.2.1 == v
theorem x_qc_ok {M i : Nat} {v : Int} (hM : M < 279) (h : x_qc M i v = true) : Cond.constant (x_y M).cls i (Int32.ofInt v) ∈ x_tb := by
  unfold x_qc at h
  obtain ⟨q, hq, h1⟩ := List.any_eq_true.mp h
  simp only [Bool.and_eq_true, beq_iff_eq] at h1
  obtain ⟨⟨e1, e2⟩, e3⟩ := h1
  have h2 := x_qcs_ok0 q hq
  rw [e1, e2, e3, ← x_oc_ok M hM] at h2
  exact x_in _ h2 rfl
def x_qls : List (Nat × Nat × Int × Nat) := [(8, 189, -1, 862), (8, 199, 100, 869), (1, 143, -1000000000, 534), (1, 145, 1000000000, 535), (9, 194, 28530, 1342), (9, 238, 1000000000, 1409), (9, 240, -1000000000, 1410), (9, 291, -1, 1467), (9, 293, 10, 1468), (9, 299, 100, 1473)]
theorem x_qls_ok0 : ∀ q ∈ x_qls, lw_tbl[q.2.2.2]? = some (Cond.constantLong (x_cnn.getD q.1 "") q.2.1 (Int64.ofInt q.2.2.1)) := by decide +kernel
def x_ql (M i : Nat) (v : Int) : Bool := x_qls.any fun q => q.1 == x_oc M && q.2.1 == i && q.2.2.1 == v
theorem x_ql_ok {M i : Nat} {v : Int} (hM : M < 279) (h : x_ql M i v = true) : Cond.constantLong (x_y M).cls i (Int64.ofInt v) ∈ x_tb := by
  unfold x_ql at h
  obtain ⟨q, hq, h1⟩ := List.any_eq_true.mp h
  simp only [Bool.and_eq_true, beq_iff_eq] at h1
  obtain ⟨⟨e1, e2⟩, e3⟩ := h1
  have h2 := x_qls_ok0 q hq
  rw [e1, e2, e3, ← x_oc_ok M hM] at h2
  exact x_in _ h2 rfl
def x_obs : List (Nat × Nat × Nat) := [(8, 3, 119), (0, 3, 712), (1, 3, 301), (2, 3, 127), (3, 3, 326), (4, 3, 276), (5, 3, 133), (6, 3, 245), (7, 3, 368), (9, 1, 1083)]
theorem x_obs_ok0 : ∀ q ∈ x_obs, lw_tbl[q.2.2]? = some (Cond.methodLink (x_cnn.getD q.1 "") q.2.1 Lib.objectInit) := by decide +kernel
def x_ob (M i : Nat) : Bool := x_obs.any fun q => q.1 == x_oc M && q.2.1 == i
theorem x_ob_ok {M i : Nat} (hM : M < 279) (h : x_ob M i = true) : Cond.methodLink (x_y M).cls i Lib.objectInit ∈ x_tb := by
  unfold x_ob at h
  obtain ⟨q, hq, h1⟩ := List.any_eq_true.mp h
  simp only [Bool.and_eq_true, beq_iff_eq] at h1
  obtain ⟨e1, e2⟩ := h1
  have h2 := x_obs_ok0 q hq
  rw [e1, e2, ← x_oc_ok M hM] at h2
  exact x_in _ h2 rfl
end
section
/-! THE CONDITIONS OF A BLOCK: what must hold for a straight run of instructions, computed from the instructions -/
theorem xS_mono {g : xG} {D M : Nat} {args : List xV} {h : xH} {Q1 Q2 : xV → xH → Prop} (hs : xS g D M args h Q1) (hq : ∀ r h1, Q1 r h1 → Q2 r h1) : xS g D M args h Q2 := by
  intro oa p e a1 a2 a3 s m av below a4 a5 a6 a7
  obtain ⟨n, out, b1, b2, b3, ⟨⟨⟨r, h1, c1, c2, c3⟩, c4⟩, c5⟩⟩ := hs oa p e a1 a2 a3 s m av below a4 a5 a6 a7
  exact ⟨n, out, b1, b2, b3, ⟨⟨⟨r, h1, c1, hq r h1 c2, c3⟩, c4⟩, c5⟩⟩
def x_qi (Q : Int → xH → Prop) : xV → xH → Prop := fun r h => match r with
  | .inl x => Q x h
  | _ => False
def x_ql2 (Q : Int → xH → Prop) : xV → xH → Prop := fun r h => match r with
  | .inr (.inl x) => Q x h
  | _ => False
def x_qr (Q : Nat → xH → Prop) : xV → xH → Prop := fun r h => match r with
  | .inr (.inr (.inl x)) => Q x h
  | _ => False
def x_qv (Q : xH → Prop) : xV → xH → Prop := fun r h => match r with
  | .inr (.inr (.inr _)) => Q h
  | _ => False
def xSi (g : xG) (D M : Nat) (args : List xV) (h : xH) (Q : Int → xH → Prop) : Prop := xS g D M args h (x_qi Q)
def xSl (g : xG) (D M : Nat) (args : List xV) (h : xH) (Q : Int → xH → Prop) : Prop := xS g D M args h (x_ql2 Q)
def xSr (g : xG) (D M : Nat) (args : List xV) (h : xH) (Q : Nat → xH → Prop) : Prop := xS g D M args h (x_qr Q)
def xSv (g : xG) (D M : Nat) (args : List xV) (h : xH) (Q : xH → Prop) : Prop := xS g D M args h (x_qv Q)
section XM
variable {g : xG} {D M k n pc : Nat} {ls st : List xV} {h : xH} {Q : xV → xH → Prop}
theorem x_my0 : x_y 251 = Lib.Math.max.name := by decide +kernel
theorem x_my1 : x_y 253 = Lib.Math.min.name := by decide +kernel
theorem x_my2 : x_y 252 = Lib.MathLoose.max_long.x := by decide +kernel
theorem x_my3 : x_y 254 = Lib.MathLoose.min_long.x := by decide +kernel
theorem xj_mmax {i : Nat} {x y : Int} (hd : decode (x_cd M) pc = .ok (.invokestatic i, 3)) (hl0 : Cond.methodLink (x_y M).cls i (x_y 251) ∈ x_tb) (hw : x_wd st ≤ 8) (kk : xJ g (D + 1) M k n (pc + 3) ls (xi (max x y) :: st) h Q) : xJ g (D + 1) M k n pc ls (xi y :: xi x :: st) h Q := by
  intro p e s m args below meth c0 H locs la C R S hl ol os hk hn
  have hts := C.2.2.2.2.2.1
  have hy : x32 y = y := x_okh os
  have hx : x32 x = x := x_okh (x_okt os)
  have hv : x_ok (xi (max x y)) := by
    show x32 (max x y) = max x y
    rcases Int.le_total x y with z | z
    · first | (rw [Int.max_eq_right z]; assumption) | (rw [Int.min_eq_left z]; assumption)
    · first | (rw [Int.max_eq_left z]; assumption) | (rw [Int.min_eq_right z]; assumption)
  have kk := kk p e s m args below meth c0 H locs la C R S hl ol (x_okc hv (x_okt (x_okt os))) hk hn
  rw [x_my0] at hl0
  have i1 : Cond.static Lib.Math.max.name ∈ x_tb := x_i1 (List.mem_of_getElem? (i := 39) rfl) rfl
  have i2 : Cond.initialized "java/lang/Math" ∈ x_tb := x_i1 (List.mem_of_getElem? (i := 4) rfl) rfl
  have i3 : Cond.code Lib.Math.max.name Lib.Math.max.code 2 (some .int) ∈ x_tb := x_i1 (List.mem_of_getElem? (i := 40) rfl) rfl
  refine va_mmax C.1 C.2.1 (by rw [C.2.2.2.1]; exact hl.1.symm) C.2.2.2.2.1 (hts _ hl0) (hts _ i1) (hts _ i2) (hts _ i3) (by show 1 ≤ D + 1; omega) (by rw [x_wd_sum]; show _ ≤ 60 * (D + 1); omega) hk hn hd ?_
  have e1 : (if Int32.ofInt x < Int32.ofInt y then Int32.ofInt y else Int32.ofInt x) = Int32.ofInt (max x y) := by
    by_cases z : x < y
    · rw [if_pos ((xn_lt hx hy).mpr z)]
      congr 1
      omega
    · rw [if_neg (fun q => z ((xn_lt hx hy).mp q))]
      congr 1
      omega
  rw [e1]
  exact kk
theorem xj_mmin {i : Nat} {x y : Int} (hd : decode (x_cd M) pc = .ok (.invokestatic i, 3)) (hl0 : Cond.methodLink (x_y M).cls i (x_y 253) ∈ x_tb) (hw : x_wd st ≤ 8) (kk : xJ g (D + 1) M k n (pc + 3) ls (xi (min x y) :: st) h Q) : xJ g (D + 1) M k n pc ls (xi y :: xi x :: st) h Q := by
  intro p e s m args below meth c0 H locs la C R S hl ol os hk hn
  have hts := C.2.2.2.2.2.1
  have hy : x32 y = y := x_okh os
  have hx : x32 x = x := x_okh (x_okt os)
  have hv : x_ok (xi (min x y)) := by
    show x32 (min x y) = min x y
    rcases Int.le_total x y with z | z
    · first | (rw [Int.max_eq_right z]; assumption) | (rw [Int.min_eq_left z]; assumption)
    · first | (rw [Int.max_eq_left z]; assumption) | (rw [Int.min_eq_right z]; assumption)
  have kk := kk p e s m args below meth c0 H locs la C R S hl ol (x_okc hv (x_okt (x_okt os))) hk hn
  rw [x_my1] at hl0
  have i1 : Cond.static Lib.Math.min.name ∈ x_tb := x_i3 (List.mem_of_getElem? (i := 69) rfl) rfl
  have i2 : Cond.initialized "java/lang/Math" ∈ x_tb := x_i1 (List.mem_of_getElem? (i := 4) rfl) rfl
  have i3 : Cond.code Lib.Math.min.name Lib.Math.min.code 2 (some .int) ∈ x_tb := x_i3 (List.mem_of_getElem? (i := 70) rfl) rfl
  refine va_mmin C.1 C.2.1 (by rw [C.2.2.2.1]; exact hl.1.symm) C.2.2.2.2.1 (hts _ hl0) (hts _ i1) (hts _ i2) (hts _ i3) (by show 1 ≤ D + 1; omega) (by rw [x_wd_sum]; show _ ≤ 60 * (D + 1); omega) hk hn hd ?_
  have e1 : (if Int32.ofInt y < Int32.ofInt x then Int32.ofInt y else Int32.ofInt x) = Int32.ofInt (min x y) := by
    by_cases z : y < x
    · rw [if_pos ((xn_lt hy hx).mpr z)]
      congr 1
      omega
    · rw [if_neg (fun q => z ((xn_lt hy hx).mp q))]
      congr 1
      omega
  rw [e1]
  exact kk
theorem xj_mmaxL {i : Nat} {x y : Int} (hd : decode (x_cd M) pc = .ok (.invokestatic i, 3)) (hl0 : Cond.methodLink (x_y M).cls i (x_y 252) ∈ x_tb) (hw : x_wd st ≤ 8) (kk : xJ g (D + 1) M k n (pc + 3) ls (xl (max x y) :: st) h Q) : xJ g (D + 1) M k n pc ls (xl y :: xl x :: st) h Q := by
  intro p e s m args below meth c0 H locs la C R S hl ol os hk hn
  have hts := C.2.2.2.2.2.1
  have hy : x64 y = y := x_okh os
  have hx : x64 x = x := x_okh (x_okt os)
  have hv : x_ok (xl (max x y)) := by
    show x64 (max x y) = max x y
    rcases Int.le_total x y with z | z
    · first | (rw [Int.max_eq_right z]; assumption) | (rw [Int.min_eq_left z]; assumption)
    · first | (rw [Int.max_eq_left z]; assumption) | (rw [Int.min_eq_right z]; assumption)
  have kk := kk p e s m args below meth c0 H locs la C R S hl ol (x_okc hv (x_okt (x_okt os))) hk hn
  rw [x_my2] at hl0
  have i1 : Cond.static Lib.MathLoose.max_long.x ∈ x_tb := x_i2 (List.mem_of_getElem? (i := 196) rfl) rfl
  have i2 : Cond.initialized "java/lang/Math" ∈ x_tb := x_i1 (List.mem_of_getElem? (i := 4) rfl) rfl
  have i3 : Cond.code Lib.MathLoose.max_long.x Lib.MathLoose.max_long.code 4 (some .long) ∈ x_tb := x_i2 (List.mem_of_getElem? (i := 197) rfl) rfl
  refine va_mmax_long C.1 C.2.1 (by rw [C.2.2.2.1]; exact hl.1.symm) C.2.2.2.2.1 (hts _ hl0) (hts _ i1) (hts _ i2) (hts _ i3) (by show 1 ≤ D + 1; omega) (by rw [x_wd_sum]; show _ ≤ 60 * (D + 1); omega) hk hn hd ?_
  have e1 : (if Int64.ofInt y < Int64.ofInt x then Int64.ofInt x else Int64.ofInt y) = Int64.ofInt (max x y) := by
    by_cases z : y < x
    · rw [if_pos ((xn_ltL hy hx).mpr z)]
      congr 1
      omega
    · rw [if_neg (fun q => z ((xn_ltL hy hx).mp q))]
      congr 1
      omega
  rw [e1]
  exact kk
theorem xj_mminL {i : Nat} {x y : Int} (hd : decode (x_cd M) pc = .ok (.invokestatic i, 3)) (hl0 : Cond.methodLink (x_y M).cls i (x_y 254) ∈ x_tb) (hw : x_wd st ≤ 8) (kk : xJ g (D + 1) M k n (pc + 3) ls (xl (min x y) :: st) h Q) : xJ g (D + 1) M k n pc ls (xl y :: xl x :: st) h Q := by
  intro p e s m args below meth c0 H locs la C R S hl ol os hk hn
  have hts := C.2.2.2.2.2.1
  have hy : x64 y = y := x_okh os
  have hx : x64 x = x := x_okh (x_okt os)
  have hv : x_ok (xl (min x y)) := by
    show x64 (min x y) = min x y
    rcases Int.le_total x y with z | z
    · first | (rw [Int.max_eq_right z]; assumption) | (rw [Int.min_eq_left z]; assumption)
    · first | (rw [Int.max_eq_left z]; assumption) | (rw [Int.min_eq_right z]; assumption)
  have kk := kk p e s m args below meth c0 H locs la C R S hl ol (x_okc hv (x_okt (x_okt os))) hk hn
  rw [x_my3] at hl0
  have i1 : Cond.static Lib.MathLoose.min_long.x ∈ x_tb := x_i2 (List.mem_of_getElem? (i := 193) rfl) rfl
  have i2 : Cond.initialized "java/lang/Math" ∈ x_tb := x_i1 (List.mem_of_getElem? (i := 4) rfl) rfl
  have i3 : Cond.code Lib.MathLoose.min_long.x Lib.MathLoose.min_long.code 4 (some .long) ∈ x_tb := x_i2 (List.mem_of_getElem? (i := 194) rfl) rfl
  refine va_mmin_long C.1 C.2.1 (by rw [C.2.2.2.1]; exact hl.1.symm) C.2.2.2.2.1 (hts _ hl0) (hts _ i1) (hts _ i2) (hts _ i3) (by show 1 ≤ D + 1; omega) (by rw [x_wd_sum]; show _ ≤ 60 * (D + 1); omega) hk hn hd ?_
  have e1 : (if Int64.ofInt y < Int64.ofInt x then Int64.ofInt y else Int64.ofInt x) = Int64.ofInt (min x y) := by
    by_cases z : y < x
    · rw [if_pos ((xn_ltL hy hx).mpr z)]
      congr 1
      omega
    · rw [if_neg (fun q => z ((xn_ltL hy hx).mp q))]
      congr 1
      omega
  rw [e1]
  exact kk
end XM
abbrev xO : Type := Nat × Nat × Nat × Int
/-- an instruction, its length, and what its operands mean -/
abbrev xI : Type := Instr × Nat × xO
def x_icmp (c : Jvm.ClassFile.Cond) (x y : Int) (P N : Prop) : Prop := match c with
  | .eq => (x = y → P) ∧ (¬ x = y → N)
  | .ne => (¬ x = y → P) ∧ (x = y → N)
  | .lt => (x < y → P) ∧ (y ≤ x → N)
  | .ge => (y ≤ x → P) ∧ (x < y → N)
  | .gt => (y < x → P) ∧ (x ≤ y → N)
  | .le => (x ≤ y → P) ∧ (y < x → N)
def x_sw (J : Nat → Prop) (pc : Nat) (x : Int) : Int → List Int → Prop
  | _, [] => True
  | lo, o :: os => (x = lo → J ((pc : Int) + o).toNat) ∧ x_sw J pc x (lo + 1) os
def x_fitk (t : Nat) (v : xV) (P : Prop) : Prop := match t, v with
  | 0, .inl _ => P
  | 1, .inr (.inl _) => P
  | 2, .inr (.inr (.inl _)) => P
  | 3, .inl x => (x = 0 ∨ x = 1) ∧ P
  | _, _ => False
def x_gv (t : Nat) (x : Int) : xV := match t with
  | 1 => xl x
  | 2 => xr x.toNat
  | _ => xi x
/-- a call's end, by the type of its answer -/
def x_ck2 (c : Nat) (g : xG) (D M : Nat) (args : List xV) (h : xH) (st : List xV) (nx : List xV → xH → Prop) : Prop := match c with
  | 0 => xSi g D M args h (fun x h1 => nx (xi x :: st) h1)
  | 1 => xSl g D M args h (fun x h1 => nx (xl x :: st) h1)
  | 2 => xSr g D M args h (fun x h1 => nx (xr x :: st) h1)
  | _ => xSv g D M args h (fun h1 => nx st h1)
def x_wp1 (g : xG) (D M : Nat) (i : xI) (pc k n : Nat) (ls st : List xV) (h : xH) (Q : xV → xH → Prop) (nx : Nat → Nat → List xV → List xV → xH → Prop) : Prop :=
  match i.1 with
  | .iconst c => nx k n ls (xi c :: st) h
  | .bipush c => nx k n ls (xi c :: st) h
  | .sipush c => nx k n ls (xi c :: st) h
  | .ldc _ => (match i.2.2.1 with
    | 0 => nx k n ls (xi i.2.2.2.2.2 :: st) h
    | r => nx k n ls (xr r :: st) h)
  | .ldc_w _ => nx k n ls (xi i.2.2.2.2.2 :: st) h
  | .ldc2_w _ => nx k n ls (xl i.2.2.2.2.2 :: st) h
  | .lconst _ => nx k n ls (xl i.2.2.2.2.2 :: st) h
  | .aconst_null => nx k n ls (xr 0 :: st) h
  | .iload _ => (match ls[i.2.2.1]? with
    | some (.inl x) => nx k n ls (xi x :: st) h
    | _ => False)
  | .iload_n _ => (match ls[i.2.2.1]? with
    | some (.inl x) => nx k n ls (xi x :: st) h
    | _ => False)
  | .lload _ => (match ls[i.2.2.1]? with
    | some (.inr (.inl x)) => nx k n ls (xl x :: st) h
    | _ => False)
  | .lload_n _ => (match ls[i.2.2.1]? with
    | some (.inr (.inl x)) => nx k n ls (xl x :: st) h
    | _ => False)
  | .aload _ => (match ls[i.2.2.1]? with
    | some (.inr (.inr (.inl x))) => nx k n ls (xr x :: st) h
    | _ => False)
  | .aload_n _ => (match ls[i.2.2.1]? with
    | some (.inr (.inr (.inl x))) => nx k n ls (xr x :: st) h
    | _ => False)
  | .istore _ => (match st with
    | .inl x :: st => nx k n (x_st1 ls i.2.2.1 (xi x)) st h
    | _ => False)
  | .istore_n _ => (match st with
    | .inl x :: st => nx k n (x_st1 ls i.2.2.1 (xi x)) st h
    | _ => False)
  | .lstore _ => (match st with
    | .inr (.inl x) :: st => nx k n (x_st2 ls i.2.2.1 (xl x)) st h
    | _ => False)
  | .lstore_n _ => (match st with
    | .inr (.inl x) :: st => nx k n (x_st2 ls i.2.2.1 (xl x)) st h
    | _ => False)
  | .astore _ => (match st with
    | .inr (.inr (.inl x)) :: st => nx k n (x_st1 ls i.2.2.1 (xr x)) st h
    | _ => False)
  | .astore_n _ => (match st with
    | .inr (.inr (.inl x)) :: st => nx k n (x_st1 ls i.2.2.1 (xr x)) st h
    | _ => False)
  | .iinc _ c => (match ls[i.2.2.1]? with
    | some (.inl x) => nx k n (x_st1 ls i.2.2.1 (xi (x32 (x + c)))) st h
    | _ => False)
  | .iadd => (match st with
    | .inl y :: .inl x :: st => nx k n ls (xi (x32 (x + y)) :: st) h
    | _ => False)
  | .isub => (match st with
    | .inl y :: .inl x :: st => nx k n ls (xi (x32 (x - y)) :: st) h
    | _ => False)
  | .imul => (match st with
    | .inl y :: .inl x :: st => nx k n ls (xi (x32 (x * y)) :: st) h
    | _ => False)
  | .iand => (match st with
    | .inl y :: .inl x :: st => nx k n ls (xi (x_and x y) :: st) h
    | _ => False)
  | .ior => (match st with
    | .inl y :: .inl x :: st => nx k n ls (xi (x_or x y) :: st) h
    | _ => False)
  | .ishl => (match st with
    | .inl y :: .inl x :: st => nx k n ls (xi (x_shl x y) :: st) h
    | _ => False)
  | .ishr => (match st with
    | .inl y :: .inl x :: st => nx k n ls (xi (x_shr x y) :: st) h
    | _ => False)
  | .iushr => (match st with
    | .inl y :: .inl x :: st => nx k n ls (xi (x_ushr x y) :: st) h
    | _ => False)
  | .idiv => (match st with
    | .inl y :: .inl x :: st => y ≠ 0 ∧ nx k n ls (xi (x32 (x.tdiv y)) :: st) h
    | _ => False)
  | .irem => (match st with
    | .inl y :: .inl x :: st => y ≠ 0 ∧ nx k n ls (xi (x32 (x.tmod y)) :: st) h
    | _ => False)
  | .ladd => (match st with
    | .inr (.inl y) :: .inr (.inl x) :: st => nx k n ls (xl (x64 (x + y)) :: st) h
    | _ => False)
  | .lsub => (match st with
    | .inr (.inl y) :: .inr (.inl x) :: st => nx k n ls (xl (x64 (x - y)) :: st) h
    | _ => False)
  | .lmul => (match st with
    | .inr (.inl y) :: .inr (.inl x) :: st => nx k n ls (xl (x64 (x * y)) :: st) h
    | _ => False)
  | .land => (match st with
    | .inr (.inl y) :: .inr (.inl x) :: st => nx k n ls (xl (x_andL x y) :: st) h
    | _ => False)
  | .lor => (match st with
    | .inr (.inl y) :: .inr (.inl x) :: st => nx k n ls (xl (x_orL x y) :: st) h
    | _ => False)
  | .ldiv => (match st with
    | .inr (.inl y) :: .inr (.inl x) :: st => y ≠ 0 ∧ nx k n ls (xl (x64 (x.tdiv y)) :: st) h
    | _ => False)
  | .lcmp => (match st with
    | .inr (.inl y) :: .inr (.inl x) :: st => nx k n ls (xi (x_cmp x y) :: st) h
    | _ => False)
  | .lshl => (match st with
    | .inl y :: .inr (.inl x) :: st => nx k n ls (xl (x_shlL x y) :: st) h
    | _ => False)
  | .ineg => (match st with
    | .inl x :: st => nx k n ls (xi (x32 (-x)) :: st) h
    | _ => False)
  | .lneg => (match st with
    | .inr (.inl x) :: st => nx k n ls (xl (x64 (-x)) :: st) h
    | _ => False)
  | .i2l => (match st with
    | .inl x :: st => nx k n ls (xl x :: st) h
    | _ => False)
  | .l2i => (match st with
    | .inr (.inl x) :: st => nx k n ls (xi (x32 x) :: st) h
    | _ => False)
  | .i2c => (match st with
    | .inl x :: st => nx k n ls (xi (x_i2c x) :: st) h
    | _ => False)
  | .dup => (match st with
    | .inl x :: st => nx k n ls (xi x :: xi x :: st) h
    | .inr (.inr (.inl x)) :: st => nx k n ls (xr x :: xr x :: st) h
    | _ => False)
  | .pop => (match st with
    | .inl _ :: st => nx k n ls st h
    | .inr (.inr (.inl _)) :: st => nx k n ls st h
    | _ => False)
  | .dup2 => (match st with
    | .inl x :: .inr (.inr (.inl r)) :: st => nx k n ls (xi x :: xr r :: xi x :: xr r :: st) h
    | .inr (.inl x) :: st => nx k n ls (xl x :: xl x :: st) h
    | _ => False)
  | .if_icmp c _ => (match st with
    | .inl y :: .inl x :: st => x_icmp c x y (xJ g D M k n i.2.2.1 ls st h Q) (nx k n ls st h)
    | _ => False)
  | .ifCond c _ => (match st with
    | .inl x :: st => x_icmp c x 0 (xJ g D M k n i.2.2.1 ls st h Q) (nx k n ls st h)
    | _ => False)
  | .ifnull _ => (match st with
    | .inr (.inr (.inl r)) :: st => (r = 0 → xJ g D M k n i.2.2.1 ls st h Q) ∧ (¬ r = 0 → nx k n ls st h)
    | _ => False)
  | .ifnonnull _ => (match st with
    | .inr (.inr (.inl r)) :: st => (¬ r = 0 → xJ g D M k n i.2.2.1 ls st h Q) ∧ (r = 0 → nx k n ls st h)
    | _ => False)
  | .goto _ => nx k n ls st h
  | .tableswitch d lo hi offs => (match st with
    | .inl x :: st => ((x < lo ∨ hi < x) → xJ g D M k n ((pc : Int) + d).toNat ls st h Q) ∧ x_sw (fun t => xJ g D M k n t ls st h Q) pc x lo offs.toList
    | _ => False)
  | .getfield _ => (match st with
    | .inr (.inr (.inl r)) :: st => x_is h r i.2.2.1 i.2.2.2.2.1 ∧ nx k n ls (x_gv i.2.2.2.2.2.toNat (h.2 r i.2.2.2.1) :: st) h
    | _ => False)
  | .putfield _ => (match st with
    | v :: .inr (.inr (.inl r)) :: st => x_is h r i.2.2.1 i.2.2.2.2.1 ∧ x_fitk i.2.2.2.2.2.toNat v (nx k n ls st (h.1, x_up h.2 r i.2.2.2.1 (x_pl v)))
    | _ => False)
  | .getstatic _ => nx k n ls (xr (2 + i.2.2.1) :: st) h
  | .new _ => (k + 1 ≤ x_bc M ∧ n + i.2.2.2.1 ≤ x_bs M) ∧ nx (k + 1) (n + i.2.2.2.1) ls (xr (h.1.length + 16) :: st) (h.1 ++ [(i.2.2.1, i.2.2.2.1)], x_nw h.2 (h.1.length + 16))
  | .newarray _ => (match st with
    | .inl N :: st => (0 ≤ N ∧ N < 1000000 ∧ k + 1 ≤ x_bc M ∧ n + N.toNat ≤ x_bs M) ∧ nx (k + 1) (n + N.toNat) ls (xr (h.1.length + 16) :: st) (h.1 ++ [(i.2.2.1, N.toNat)], x_nw h.2 (h.1.length + 16))
    | _ => False)
  | .anewarray _ => (match st with
    | .inl N :: st => (0 ≤ N ∧ N < 1000000 ∧ k + 1 ≤ x_bc M ∧ n + N.toNat ≤ x_bs M) ∧ nx (k + 1) (n + N.toNat) ls (xr (h.1.length + 16) :: st) (h.1 ++ [(13, N.toNat)], x_nw h.2 (h.1.length + 16))
    | _ => False)
  | .iaload => (match i.2.2.1, st with
    | 0, .inl j :: .inr (.inr (.inl r)) :: st => (∃ N : Nat, x_is h r 10 N ∧ 0 ≤ j ∧ j < N) ∧ nx k n ls (xi (h.2 r j.toNat) :: st) h
    | 1, .inl j :: .inr (.inr (.inl 1)) :: st => (0 ≤ j ∧ j < g.L) ∧ nx k n ls (xi (g.xs j.toNat).toInt :: st) h
    | 2, .inl j :: .inr (.inr (.inl 2)) :: st => (0 ≤ j ∧ j < 10) ∧ nx k n ls (xi (x_ltv 0 j.toNat) :: st) h
    | 2, .inl j :: .inr (.inr (.inl 3)) :: st => (0 ≤ j ∧ j < 10) ∧ nx k n ls (xi (x_ltv 1 j.toNat) :: st) h
    | 2, .inl j :: .inr (.inr (.inl 4)) :: st => (0 ≤ j ∧ j < 10) ∧ nx k n ls (xi (x_ltv 2 j.toNat) :: st) h
    | _, _ => False)
  | .laload => (match st with
    | .inl j :: .inr (.inr (.inl r)) :: st => (∃ N : Nat, x_is h r 11 N ∧ 0 ≤ j ∧ j < N) ∧ nx k n ls (xl (h.2 r j.toNat) :: st) h
    | _ => False)
  | .baload => (match st with
    | .inl j :: .inr (.inr (.inl r)) :: st => (∃ N : Nat, x_is h r 12 N ∧ 0 ≤ j ∧ j < N) ∧ nx k n ls (xi (h.2 r j.toNat) :: st) h
    | _ => False)
  | .aaload => (match st with
    | .inl j :: .inr (.inr (.inl r)) :: st => (∃ N : Nat, x_is h r 13 N ∧ 0 ≤ j ∧ j < N) ∧ nx k n ls (xr (h.2 r j.toNat).toNat :: st) h
    | _ => False)
  | .iastore => (match st with
    | .inl x :: .inl j :: .inr (.inr (.inl r)) :: st => (∃ N : Nat, x_is h r 10 N ∧ 0 ≤ j ∧ j < N) ∧ nx k n ls st (h.1, x_up h.2 r j.toNat x)
    | _ => False)
  | .lastore => (match st with
    | .inr (.inl x) :: .inl j :: .inr (.inr (.inl r)) :: st => (∃ N : Nat, x_is h r 11 N ∧ 0 ≤ j ∧ j < N) ∧ nx k n ls st (h.1, x_up h.2 r j.toNat x)
    | _ => False)
  | .bastore => (match st with
    | .inl x :: .inl j :: .inr (.inr (.inl r)) :: st => (∃ N : Nat, x_is h r 12 N ∧ 0 ≤ j ∧ j < N) ∧ (x = 0 ∨ x = 1) ∧ nx k n ls st (h.1, x_up h.2 r j.toNat x)
    | _ => False)
  | .aastore => (match st with
    | .inr (.inr (.inl v)) :: .inl j :: .inr (.inr (.inl r)) :: st => (∃ N : Nat, x_is h r 13 N ∧ 0 ≤ j ∧ j < N) ∧ (∃ N2 : Nat, x_is h v 0 N2) ∧ nx k n ls st (h.1, x_up h.2 r j.toNat v)
    | _ => False)
  | .arraylength => (match i.2.2.1, st with
    | 0, .inr (.inr (.inl r)) :: st => ∃ N : Nat, x_is h r i.2.2.2.1 N ∧ nx k n ls (xi (N : Int) :: st) h
    | 1, .inr (.inr (.inl 1)) :: st => nx k n ls (xi (g.L : Int) :: st) h
    | 2, .inr (.inr (.inl 2)) :: st => nx k n ls (xi 10 :: st) h
    | 2, .inr (.inr (.inl 3)) :: st => nx k n ls (xi 10 :: st) h
    | 2, .inr (.inr (.inl 4)) :: st => nx k n ls (xi 10 :: st) h
    | _, _ => False)
  | .invokevirtual _ => (match D with
    | 0 => False
    | D + 1 => (match st.drop (x_np i.2.2.1) with
      | .inr (.inr (.inl r)) :: st' => (bif Nat.ble (x_wd st') 8 then
          (x_is h r i.2.2.2.1 (x_ft.getD i.2.2.2.1 []).length ∧
            (bif i.2.2.2.2.2 == 0 then x_ck2 i.2.2.2.2.1 g D i.2.2.1 (xr r :: (st.take (x_np i.2.2.1)).reverse) h st' (fun st h => nx k n ls st h)
             else ((k + x_bc i.2.2.1 ≤ x_bc M ∧ n + x_bs i.2.2.1 ≤ x_bs M) ∧ x_ck2 i.2.2.2.2.1 g D i.2.2.1 (xr r :: (st.take (x_np i.2.2.1)).reverse) h st' (fun st h => nx (k + x_bc i.2.2.1) (n + x_bs i.2.2.1) ls st h)))) else False)
      | _ => False))
  | .invokespecial _ => (match D with
    | 0 => False
    | D + 1 => (bif i.2.2.2.2.1 == 9 then
        (match st with
        | .inr (.inr (.inl r)) :: st' => (bif Nat.ble (x_wd st') 8 then ((∃ c N : Nat, x_is h r c N) ∧ nx k n ls st' h) else False)
        | _ => False)
      else (match st.drop (x_np i.2.2.1) with
      | .inr (.inr (.inl r)) :: st' => (bif Nat.ble (x_wd st') 8 then
          ((∃ c N : Nat, x_is h r c N) ∧ (k + x_bc i.2.2.1 ≤ x_bc M ∧ n + x_bs i.2.2.1 ≤ x_bs M) ∧ x_ck2 3 g D i.2.2.1 (xr r :: (st.take (x_np i.2.2.1)).reverse) h st' (fun st h => nx (k + x_bc i.2.2.1) (n + x_bs i.2.2.1) ls st h)) else False)
      | _ => False)))
  | .invokestatic _ => (match D with
    | 0 => False
    | D + 1 => (match i.2.2.2.2.1 with
      | 20 => (match st with
        | .inl y :: .inl x :: st' => (bif Nat.ble (x_wd st') 8 then nx k n ls (xi (max x y) :: st') h else False)
        | _ => False)
      | 21 => (match st with
        | .inl y :: .inl x :: st' => (bif Nat.ble (x_wd st') 8 then nx k n ls (xi (min x y) :: st') h else False)
        | _ => False)
      | 22 => (match st with
        | .inr (.inl y) :: .inr (.inl x) :: st' => (bif Nat.ble (x_wd st') 8 then nx k n ls (xl (max x y) :: st') h else False)
        | _ => False)
      | 23 => (match st with
        | .inr (.inl y) :: .inr (.inl x) :: st' => (bif Nat.ble (x_wd st') 8 then nx k n ls (xl (min x y) :: st') h else False)
        | _ => False)
      | c => (bif Nat.ble (x_np i.2.2.1) st.length && Nat.ble (x_wd (st.drop (x_np i.2.2.1))) 8 then x_ck2 c g D i.2.2.1 (st.take (x_np i.2.2.1)).reverse h (st.drop (x_np i.2.2.1)) (fun st h => nx k n ls st h) else False)))
  | .ireturn => (match i.2.2.1, st with
    | 0, [.inl x] => Q (xi x) h
    | 3, [.inl x] => (x = 0 ∨ x = 1) ∧ Q (xi x) h
    | _, _ => False)
  | .lreturn => (match st with
    | [.inr (.inl x)] => Q (xl x) h
    | _ => False)
  | .areturn => (match st with
    | [.inr (.inr (.inl x))] => Q (xr x) h
    | _ => False)
  | .return_ => (match st with
    | [] => Q xu h
    | _ => False)
  | _ => False
/-- where the run goes on: behind the instruction, or where it jumps to -/
def x_npc (pc : Nat) (i : xI) : Nat := match i.1 with
  | .goto _ => i.2.2.1
  | _ => pc + i.2.1
def x_wp (g : xG) (D M : Nat) (Q : xV → xH → Prop) : List xI → Nat → Nat → Nat → List xV → List xV → xH → Prop
  | [], pc, k, n, ls, st, h => xJ g D M k n pc ls st h Q
  | i :: is, pc, k, n, ls, st, h => x_wp1 g D M i pc k n ls st h Q (fun k n ls st h => x_wp g D M Q is (x_npc pc i) k n ls st h)
/-! what the tables must say of an instruction -/
def x_ck3 (M pc : Nat) (i : xI) : Bool := match i.1 with
  | .iconst c => i.2.1 == 1 && decide (x32 c = c)
  | .bipush c => i.2.1 == 2 && decide (x32 c = c) && decide ((Int8.ofInt c).toInt32 = Int32.ofInt c)
  | .sipush c => i.2.1 == 3 && decide (x32 c = c) && decide ((Int16.ofInt c).toInt32 = Int32.ofInt c)
  | .ldc j => i.2.1 == 2 && i.2.2.1 == 0 && decide (x32 i.2.2.2.2.2 = i.2.2.2.2.2) && x_qc M j i.2.2.2.2.2
  | .ldc_w j => i.2.1 == 3 && decide (x32 i.2.2.2.2.2 = i.2.2.2.2.2) && x_qc M j i.2.2.2.2.2
  | .ldc2_w j => i.2.1 == 3 && decide (x64 i.2.2.2.2.2 = i.2.2.2.2.2) && x_ql M j i.2.2.2.2.2
  | .lconst c => i.2.1 == 1 && decide (i.2.2.2.2.2 = ((c : Nat) : Int))
  | .aconst_null => i.2.1 == 1
  | .iload j => i.2.1 == 2 && i.2.2.1 == j
  | .iload_n j => i.2.1 == 1 && i.2.2.1 == (j : Nat)
  | .lload j => i.2.1 == 2 && i.2.2.1 == j
  | .lload_n j => i.2.1 == 1 && i.2.2.1 == (j : Nat)
  | .aload j => i.2.1 == 2 && i.2.2.1 == j
  | .aload_n j => i.2.1 == 1 && i.2.2.1 == (j : Nat)
  | .istore j => i.2.1 == 2 && i.2.2.1 == j && decide (j < x_ml M)
  | .istore_n j => i.2.1 == 1 && i.2.2.1 == (j : Nat) && decide ((j : Nat) < x_ml M)
  | .lstore j => i.2.1 == 2 && i.2.2.1 == j && decide (j + 1 < x_ml M)
  | .lstore_n j => i.2.1 == 1 && i.2.2.1 == (j : Nat) && decide ((j : Nat) + 1 < x_ml M)
  | .astore j => i.2.1 == 2 && i.2.2.1 == j && decide (j < x_ml M)
  | .astore_n j => i.2.1 == 1 && i.2.2.1 == (j : Nat) && decide ((j : Nat) < x_ml M)
  | .iinc j _ => i.2.1 == 3 && i.2.2.1 == j && decide (j < x_ml M)
  | .iadd | .isub | .imul | .iand | .ior | .ishl | .ishr | .iushr | .idiv | .irem | .ladd | .lsub | .lmul | .land | .lor | .ldiv | .lcmp | .lshl | .ineg | .lneg | .i2l | .l2i | .i2c | .dup | .pop | .dup2 => i.2.1 == 1
  | .iaload | .laload | .baload | .aaload | .iastore | .lastore | .bastore | .aastore => i.2.1 == 1
  | .arraylength => i.2.1 == 1 && (i.2.2.1 != 0 || Nat.ble 10 i.2.2.2.1)
  | .if_icmp _ off => i.2.1 == 3 && decide ((pc : Int) + off = (i.2.2.1 : Int))
  | .ifCond _ off => i.2.1 == 3 && decide ((pc : Int) + off = (i.2.2.1 : Int))
  | .ifnull off => i.2.1 == 3 && decide ((pc : Int) + off = (i.2.2.1 : Int))
  | .ifnonnull off => i.2.1 == 3 && decide ((pc : Int) + off = (i.2.2.1 : Int))
  | .goto off => i.2.1 == 3 && decide ((pc : Int) + off = (i.2.2.1 : Int))
  | .tableswitch d lo hi offs => decide (0 ≤ (pc : Int) + d) && decide ((offs.toList.length : Int) = hi - lo + 1) && offs.toList.all (fun o => decide (0 ≤ (pc : Int) + o))
  | .getfield j => i.2.1 == 3 && decide (i.2.2.1 < 10) && decide (i.2.2.2.1 < (x_ft.getD i.2.2.1 []).length) && decide (i.2.2.2.2.2 = (x_tc i.2.2.1 i.2.2.2.1 : Int)) && x_fk M j i.2.2.1 i.2.2.2.1
  | .putfield j => i.2.1 == 3 && decide (i.2.2.1 < 10) && decide (i.2.2.2.1 < (x_ft.getD i.2.2.1 []).length) && decide (i.2.2.2.2.2 = (x_tc i.2.2.1 i.2.2.2.1 : Int)) && x_fk M j i.2.2.1 i.2.2.2.1 && (!(x_T i.2.2.1 i.2.2.2.1).2.2.2 || (decide ((x_y M).name = "<init>") && decide ((x_T i.2.2.1 i.2.2.2.1).1 = (x_y M).cls)))
  | .getstatic j => i.2.1 == 3 && (match x_sn[i.2.2.1]? with
    | some q => decide ((x_y M).cls = q.1) && decide (j = q.2.1)
    | none => false)
  | .new j => i.2.1 == 3 && decide (i.2.2.1 < 10) && decide (i.2.2.2.1 = (x_ft.getD i.2.2.1 []).length) && x_ck M j i.2.2.1
  | .newarray t => i.2.1 == 2 && (match t with
    | .int => i.2.2.1 == 10
    | .long => i.2.2.1 == 11
    | .boolean => i.2.2.1 == 12
    | _ => false)
  | .anewarray j => i.2.1 == 3 && x_ck M j 0
  | .invokevirtual j => i.2.1 == 3 && x_mc i.2.2.1 && decide (i.2.2.1 < 279) && decide (i.2.2.2.1 < 10) && decide (x_cn.getD i.2.2.2.1 "" = (x_y i.2.2.1).cls) && x_lk M j i.2.2.1 && (x_ims.any fun q => q.1 == i.2.2.1) && (x_sel.any fun q => q.1 == i.2.2.1) && (i.2.2.2.2.2 != 0 || (x_bc i.2.2.1 == 0 && x_bs i.2.2.1 == 0))
  | .invokespecial j => i.2.1 == 3 && (if i.2.2.2.2.1 == 9 then x_ob M j else (x_mc i.2.2.1 && decide (i.2.2.1 < 279) && decide ((x_y i.2.2.1).name = "<init>") && decide (x_rt i.2.2.1 = none) && x_lk M j i.2.2.1 && (x_ims.any fun q => q.1 == i.2.2.1)))
  | .invokestatic j => i.2.1 == 3 && (match i.2.2.2.2.1 with
    | 20 => x_lk M j 251
    | 21 => x_lk M j 253
    | 22 => x_lk M j 252
    | 23 => x_lk M j 254
    | _ => x_mc i.2.2.1 && decide (i.2.2.1 < 279) && x_lk M j i.2.2.1 && (x_sts.any fun q => q.1 == i.2.2.1) && x_bc i.2.2.1 == 0 && x_bs i.2.2.1 == 0)
  | .ireturn => i.2.1 == 1 && ((i.2.2.1 == 0 && decide (x_rt M = some .int)) || (i.2.2.1 == 3 && decide (x_rt M = some .boolean)))
  | .lreturn => i.2.1 == 1 && decide (x_rt M = some .long)
  | .areturn => i.2.1 == 1 && (match x_rt M with
    | some (.object _) => true
    | _ => false)
  | .return_ => i.2.1 == 1 && decide (x_rt M = none)
  | _ => false
end
section
/-- the room of cells and slots isn't passed -/
theorem xj_b {g : xG} {D M k n pc : Nat} {ls st : List xV} {h : xH} {Q : xV → xH → Prop} (kk : k ≤ x_bc M → n ≤ x_bs M → xJ g D M k n pc ls st h Q) : xJ g D M k n pc ls st h Q := by
  intro p e s m args below meth c H locs la C R S hl ol os hk hn
  exact kk hk hn p e s m args below meth c H locs la C R S hl ol os hk hn
theorem x_nomath0 : ∀ q ∈ x_nm, q.2.2.cls ≠ "java/lang/Math" := by decide +kernel
theorem x_nomath {M j : Nat} (hM : M < 279) (m : Nat) (hm : (x_y m).cls = "java/lang/Math") : ¬ ((x_y M).cls, j, x_y m) ∈ x_nm := fun z => x_nomath0 _ z hm
/-! the conditions of a block are enough -/
theorem x_gv_fv {g : xG} {t : Nat} {x : Int} : x_gv t x = x_fv g t x := by
  unfold x_gv x_fv
  split
  · rfl
  · rfl
  · rename_i h1 h2
    rw [if_neg h1, if_neg h2]
theorem x_fitk_ok {t : Nat} {v : xV} {P : Prop} (h : x_fitk t v P) : x_fit t v ∧ P := by
  unfold x_fitk at h
  split at h
  · exact ⟨Or.inl rfl, h⟩
  · exact ⟨rfl, h⟩
  · exact ⟨rfl, h⟩
  · exact ⟨Or.inr ⟨rfl, h.1⟩, h.2⟩
  · exact h.elim
theorem x_ck2_ok {c : Nat} {g : xG} {D M : Nat} {args : List xV} {h : xH} {st : List xV} {nx : List xV → xH → Prop} {Q : xV → xH → Prop} (hw : x_ck2 c g D M args h st nx) (hn : ∀ r h1, nx (x_push r st) h1 → Q r h1) : xS g D M args h Q := by
  unfold x_ck2 at hw
  split at hw
  · refine xS_mono hw (fun r h1 hq => ?_)
    rcases r with x | x | r | u
    · exact hn (xi x) h1 hq
    · exact hq.elim
    · exact hq.elim
    · exact hq.elim
  · refine xS_mono hw (fun r h1 hq => ?_)
    rcases r with x | x | r | u
    · exact hq.elim
    · exact hn (xl x) h1 hq
    · exact hq.elim
    · exact hq.elim
  · refine xS_mono hw (fun r h1 hq => ?_)
    rcases r with x | x | r | u
    · exact hq.elim
    · exact hq.elim
    · exact hn (xr r) h1 hq
    · exact hq.elim
  · refine xS_mono hw (fun r h1 hq => ?_)
    rcases r with x | x | r | u
    · exact hq.elim
    · exact hq.elim
    · exact hq.elim
    · exact hn xu h1 hq
theorem x_sw_ok {J : Nat → Prop} {pc : Nat} {x : Int} : ∀ (os : List Int) (lo : Int), x_sw J pc x lo os → ∀ j : Nat, j < os.length → x = lo + j → ∃ off, os[j]? = some off ∧ J ((pc : Int) + off).toNat := by
  intro os
  induction os with
  | nil => intro lo _ j hj; simp at hj
  | cons o os ih =>
    intro lo hs j hj hx
    cases j with
    | zero => exact ⟨o, rfl, hs.1 (by omega)⟩
    | succ j =>
      obtain ⟨off, h1, h2⟩ := ih (lo + 1) hs.2 j (by simpa using hj) (by omega)
      exact ⟨off, by simpa using h1, h2⟩
theorem x_stk {np : Nat} {st st' : List xV} {v : xV} (h : st.drop np = v :: st') : st = ((st.take np).reverse).reverse ++ v :: st' ∧ ((st.take np).reverse).length = np := by
  have h1 : np < st.length := by
    rcases Nat.lt_or_ge np st.length with z | z
    · exact z
    · rw [List.drop_eq_nil_of_le z] at h; cases h
  refine ⟨?_, by rw [List.length_reverse, List.length_take]; omega⟩
  rw [List.reverse_reverse, ← h, List.take_append_drop]
theorem x_stk2 {np : Nat} {st : List xV} (h : np ≤ st.length) : st = ((st.take np).reverse).reverse ++ st.drop np ∧ ((st.take np).reverse).length = np := by
  refine ⟨by rw [List.reverse_reverse, List.take_append_drop], by rw [List.length_reverse, List.length_take]; omega⟩
set_option maxHeartbeats 4000000 in
theorem x_wp1_ok {g : xG} {D M pc k n len : Nat} {ins : Instr} {o : xO} {ls st : List xV} {h : xH} {Q : xV → xH → Prop} {nx : Nat → Nat → List xV → List xV → xH → Prop} (hM : M < 279) (hd : decode (x_cd M) pc = .ok (ins, len)) (hc : x_ck3 M pc (ins, len, o) = true) (hw : x_wp1 g D M (ins, len, o) pc k n ls st h Q nx)
    (hn : ∀ k n ls st h, nx k n ls st h → xJ g D M k n (x_npc pc (ins, len, o)) ls st h Q) : xJ g D M k n pc ls st h Q := by
  obtain ⟨a, b, c, v⟩ := o
  cases ins with
  | iadd =>
    simp only [x_ck3, Bool.and_eq_true, Bool.or_eq_true, beq_iff_eq, decide_eq_true_eq, Bool.not_eq_true', bne_iff_ne, ne_eq] at hc
    subst hc
    simp only [x_wp1] at hw
    split at hw
    · exact xj_iadd hd (hn _ _ _ _ _ hw)
    · exact hw.elim
  | isub =>
    simp only [x_ck3, Bool.and_eq_true, Bool.or_eq_true, beq_iff_eq, decide_eq_true_eq, Bool.not_eq_true', bne_iff_ne, ne_eq] at hc
    subst hc
    simp only [x_wp1] at hw
    split at hw
    · exact xj_isub hd (hn _ _ _ _ _ hw)
    · exact hw.elim
  | imul =>
    simp only [x_ck3, Bool.and_eq_true, Bool.or_eq_true, beq_iff_eq, decide_eq_true_eq, Bool.not_eq_true', bne_iff_ne, ne_eq] at hc
    subst hc
    simp only [x_wp1] at hw
    split at hw
    · exact xj_imul hd (hn _ _ _ _ _ hw)
    · exact hw.elim
  | iand =>
    simp only [x_ck3, Bool.and_eq_true, Bool.or_eq_true, beq_iff_eq, decide_eq_true_eq, Bool.not_eq_true', bne_iff_ne, ne_eq] at hc
    subst hc
    simp only [x_wp1] at hw
    split at hw
    · exact xj_iand hd (hn _ _ _ _ _ hw)
    · exact hw.elim
  | ior =>
    simp only [x_ck3, Bool.and_eq_true, Bool.or_eq_true, beq_iff_eq, decide_eq_true_eq, Bool.not_eq_true', bne_iff_ne, ne_eq] at hc
    subst hc
    simp only [x_wp1] at hw
    split at hw
    · exact xj_ior hd (hn _ _ _ _ _ hw)
    · exact hw.elim
  | ishl =>
    simp only [x_ck3, Bool.and_eq_true, Bool.or_eq_true, beq_iff_eq, decide_eq_true_eq, Bool.not_eq_true', bne_iff_ne, ne_eq] at hc
    subst hc
    simp only [x_wp1] at hw
    split at hw
    · exact xj_ishl hd (hn _ _ _ _ _ hw)
    · exact hw.elim
  | ishr =>
    simp only [x_ck3, Bool.and_eq_true, Bool.or_eq_true, beq_iff_eq, decide_eq_true_eq, Bool.not_eq_true', bne_iff_ne, ne_eq] at hc
    subst hc
    simp only [x_wp1] at hw
    split at hw
    · exact xj_ishr hd (hn _ _ _ _ _ hw)
    · exact hw.elim
  | iushr =>
    simp only [x_ck3, Bool.and_eq_true, Bool.or_eq_true, beq_iff_eq, decide_eq_true_eq, Bool.not_eq_true', bne_iff_ne, ne_eq] at hc
    subst hc
    simp only [x_wp1] at hw
    split at hw
    · exact xj_iushr hd (hn _ _ _ _ _ hw)
    · exact hw.elim
  | ladd =>
    simp only [x_ck3, Bool.and_eq_true, Bool.or_eq_true, beq_iff_eq, decide_eq_true_eq, Bool.not_eq_true', bne_iff_ne, ne_eq] at hc
    subst hc
    simp only [x_wp1] at hw
    split at hw
    · exact xj_ladd hd (hn _ _ _ _ _ hw)
    · exact hw.elim
  | lsub =>
    simp only [x_ck3, Bool.and_eq_true, Bool.or_eq_true, beq_iff_eq, decide_eq_true_eq, Bool.not_eq_true', bne_iff_ne, ne_eq] at hc
    subst hc
    simp only [x_wp1] at hw
    split at hw
    · exact xj_lsub hd (hn _ _ _ _ _ hw)
    · exact hw.elim
  | lmul =>
    simp only [x_ck3, Bool.and_eq_true, Bool.or_eq_true, beq_iff_eq, decide_eq_true_eq, Bool.not_eq_true', bne_iff_ne, ne_eq] at hc
    subst hc
    simp only [x_wp1] at hw
    split at hw
    · exact xj_lmul hd (hn _ _ _ _ _ hw)
    · exact hw.elim
  | land =>
    simp only [x_ck3, Bool.and_eq_true, Bool.or_eq_true, beq_iff_eq, decide_eq_true_eq, Bool.not_eq_true', bne_iff_ne, ne_eq] at hc
    subst hc
    simp only [x_wp1] at hw
    split at hw
    · exact xj_land hd (hn _ _ _ _ _ hw)
    · exact hw.elim
  | lor =>
    simp only [x_ck3, Bool.and_eq_true, Bool.or_eq_true, beq_iff_eq, decide_eq_true_eq, Bool.not_eq_true', bne_iff_ne, ne_eq] at hc
    subst hc
    simp only [x_wp1] at hw
    split at hw
    · exact xj_lor hd (hn _ _ _ _ _ hw)
    · exact hw.elim
  | lcmp =>
    simp only [x_ck3, Bool.and_eq_true, Bool.or_eq_true, beq_iff_eq, decide_eq_true_eq, Bool.not_eq_true', bne_iff_ne, ne_eq] at hc
    subst hc
    simp only [x_wp1] at hw
    split at hw
    · exact xj_lcmp hd (hn _ _ _ _ _ hw)
    · exact hw.elim
  | lshl =>
    simp only [x_ck3, Bool.and_eq_true, Bool.or_eq_true, beq_iff_eq, decide_eq_true_eq, Bool.not_eq_true', bne_iff_ne, ne_eq] at hc
    subst hc
    simp only [x_wp1] at hw
    split at hw
    · exact xj_lshl hd (hn _ _ _ _ _ hw)
    · exact hw.elim
  | ineg =>
    simp only [x_ck3, Bool.and_eq_true, Bool.or_eq_true, beq_iff_eq, decide_eq_true_eq, Bool.not_eq_true', bne_iff_ne, ne_eq] at hc
    subst hc
    simp only [x_wp1] at hw
    split at hw
    · exact xj_ineg hd (hn _ _ _ _ _ hw)
    · exact hw.elim
  | lneg =>
    simp only [x_ck3, Bool.and_eq_true, Bool.or_eq_true, beq_iff_eq, decide_eq_true_eq, Bool.not_eq_true', bne_iff_ne, ne_eq] at hc
    subst hc
    simp only [x_wp1] at hw
    split at hw
    · exact xj_lneg hd (hn _ _ _ _ _ hw)
    · exact hw.elim
  | i2l =>
    simp only [x_ck3, Bool.and_eq_true, Bool.or_eq_true, beq_iff_eq, decide_eq_true_eq, Bool.not_eq_true', bne_iff_ne, ne_eq] at hc
    subst hc
    simp only [x_wp1] at hw
    split at hw
    · exact xj_i2l hd (hn _ _ _ _ _ hw)
    · exact hw.elim
  | l2i =>
    simp only [x_ck3, Bool.and_eq_true, Bool.or_eq_true, beq_iff_eq, decide_eq_true_eq, Bool.not_eq_true', bne_iff_ne, ne_eq] at hc
    subst hc
    simp only [x_wp1] at hw
    split at hw
    · exact xj_l2i hd (hn _ _ _ _ _ hw)
    · exact hw.elim
  | i2c =>
    simp only [x_ck3, Bool.and_eq_true, Bool.or_eq_true, beq_iff_eq, decide_eq_true_eq, Bool.not_eq_true', bne_iff_ne, ne_eq] at hc
    subst hc
    simp only [x_wp1] at hw
    split at hw
    · exact xj_i2c hd (hn _ _ _ _ _ hw)
    · exact hw.elim
  | idiv =>
    simp only [x_ck3, Bool.and_eq_true, Bool.or_eq_true, beq_iff_eq, decide_eq_true_eq, Bool.not_eq_true', bne_iff_ne, ne_eq] at hc
    subst hc
    simp only [x_wp1] at hw
    split at hw
    · exact xj_idiv hd hw.1 (hn _ _ _ _ _ hw.2)
    · exact hw.elim
  | irem =>
    simp only [x_ck3, Bool.and_eq_true, Bool.or_eq_true, beq_iff_eq, decide_eq_true_eq, Bool.not_eq_true', bne_iff_ne, ne_eq] at hc
    subst hc
    simp only [x_wp1] at hw
    split at hw
    · exact xj_irem hd hw.1 (hn _ _ _ _ _ hw.2)
    · exact hw.elim
  | ldiv =>
    simp only [x_ck3, Bool.and_eq_true, Bool.or_eq_true, beq_iff_eq, decide_eq_true_eq, Bool.not_eq_true', bne_iff_ne, ne_eq] at hc
    subst hc
    simp only [x_wp1] at hw
    split at hw
    · exact xj_ldiv hd hw.1 (hn _ _ _ _ _ hw.2)
    · exact hw.elim
  | iconst c0 =>
    simp only [x_ck3, Bool.and_eq_true, Bool.or_eq_true, beq_iff_eq, decide_eq_true_eq, Bool.not_eq_true', bne_iff_ne, ne_eq] at hc
    obtain ⟨e1, e2⟩ := hc
    subst e1
    exact xj_iconst hd e2 (hn _ _ _ _ _ hw)
  | bipush c0 =>
    simp only [x_ck3, Bool.and_eq_true, Bool.or_eq_true, beq_iff_eq, decide_eq_true_eq, Bool.not_eq_true', bne_iff_ne, ne_eq] at hc
    obtain ⟨⟨e1, e2⟩, e3⟩ := hc
    subst e1
    exact xj_bipush hd e2 e3 (hn _ _ _ _ _ hw)
  | sipush c0 =>
    simp only [x_ck3, Bool.and_eq_true, Bool.or_eq_true, beq_iff_eq, decide_eq_true_eq, Bool.not_eq_true', bne_iff_ne, ne_eq] at hc
    obtain ⟨⟨e1, e2⟩, e3⟩ := hc
    subst e1
    exact xj_sipush hd e2 e3 (hn _ _ _ _ _ hw)
  | ldc j =>
    simp only [x_ck3, Bool.and_eq_true, Bool.or_eq_true, beq_iff_eq, decide_eq_true_eq, Bool.not_eq_true', bne_iff_ne, ne_eq] at hc
    obtain ⟨⟨⟨e1, e2⟩, e3⟩, e4⟩ := hc
    subst e1; subst e2
    exact xj_ldc hd e3 (x_qc_ok hM e4) (hn _ _ _ _ _ hw)
  | ldc_w j =>
    simp only [x_ck3, Bool.and_eq_true, Bool.or_eq_true, beq_iff_eq, decide_eq_true_eq, Bool.not_eq_true', bne_iff_ne, ne_eq] at hc
    obtain ⟨⟨e1, e3⟩, e4⟩ := hc
    subst e1
    exact xj_ldcw hd e3 (x_qc_ok hM e4) (hn _ _ _ _ _ hw)
  | ldc2_w j =>
    simp only [x_ck3, Bool.and_eq_true, Bool.or_eq_true, beq_iff_eq, decide_eq_true_eq, Bool.not_eq_true', bne_iff_ne, ne_eq] at hc
    obtain ⟨⟨e1, e3⟩, e4⟩ := hc
    subst e1
    exact xj_ldc2 hd e3 (x_ql_ok hM e4) (hn _ _ _ _ _ hw)
  | lconst c0 =>
    simp only [x_ck3, Bool.and_eq_true, Bool.or_eq_true, beq_iff_eq, decide_eq_true_eq, Bool.not_eq_true', bne_iff_ne, ne_eq] at hc
    obtain ⟨e1, e2⟩ := hc
    subst e1; subst e2
    exact xj_lconst hd (hn _ _ _ _ _ hw)
  | aconst_null =>
    simp only [x_ck3, Bool.and_eq_true, Bool.or_eq_true, beq_iff_eq, decide_eq_true_eq, Bool.not_eq_true', bne_iff_ne, ne_eq] at hc
    subst hc
    exact xj_null hd (hn _ _ _ _ _ hw)
  | iload j =>
    simp only [x_ck3, Bool.and_eq_true, Bool.or_eq_true, beq_iff_eq, decide_eq_true_eq, Bool.not_eq_true', bne_iff_ne, ne_eq] at hc
    obtain ⟨e1, e2⟩ := hc
    subst e1; subst e2
    simp only [x_wp1] at hw
    split at hw
    · rename_i hx
      exact xj_iload hd hx (hn _ _ _ _ _ hw)
    · exact hw.elim
  | iload_n j =>
    simp only [x_ck3, Bool.and_eq_true, Bool.or_eq_true, beq_iff_eq, decide_eq_true_eq, Bool.not_eq_true', bne_iff_ne, ne_eq] at hc
    obtain ⟨e1, e2⟩ := hc
    subst e1; subst e2
    simp only [x_wp1] at hw
    split at hw
    · rename_i hx
      exact xj_iload_n hd hx (hn _ _ _ _ _ hw)
    · exact hw.elim
  | lload j =>
    simp only [x_ck3, Bool.and_eq_true, Bool.or_eq_true, beq_iff_eq, decide_eq_true_eq, Bool.not_eq_true', bne_iff_ne, ne_eq] at hc
    obtain ⟨e1, e2⟩ := hc
    subst e1; subst e2
    simp only [x_wp1] at hw
    split at hw
    · rename_i hx
      exact xj_lload hd hx (hn _ _ _ _ _ hw)
    · exact hw.elim
  | lload_n j =>
    simp only [x_ck3, Bool.and_eq_true, Bool.or_eq_true, beq_iff_eq, decide_eq_true_eq, Bool.not_eq_true', bne_iff_ne, ne_eq] at hc
    obtain ⟨e1, e2⟩ := hc
    subst e1; subst e2
    simp only [x_wp1] at hw
    split at hw
    · rename_i hx
      exact xj_lload_n hd hx (hn _ _ _ _ _ hw)
    · exact hw.elim
  | aload j =>
    simp only [x_ck3, Bool.and_eq_true, Bool.or_eq_true, beq_iff_eq, decide_eq_true_eq, Bool.not_eq_true', bne_iff_ne, ne_eq] at hc
    obtain ⟨e1, e2⟩ := hc
    subst e1; subst e2
    simp only [x_wp1] at hw
    split at hw
    · rename_i hx
      exact xj_aload hd hx (hn _ _ _ _ _ hw)
    · exact hw.elim
  | aload_n j =>
    simp only [x_ck3, Bool.and_eq_true, Bool.or_eq_true, beq_iff_eq, decide_eq_true_eq, Bool.not_eq_true', bne_iff_ne, ne_eq] at hc
    obtain ⟨e1, e2⟩ := hc
    subst e1; subst e2
    simp only [x_wp1] at hw
    split at hw
    · rename_i hx
      exact xj_aload_n hd hx (hn _ _ _ _ _ hw)
    · exact hw.elim
  | istore j =>
    simp only [x_ck3, Bool.and_eq_true, Bool.or_eq_true, beq_iff_eq, decide_eq_true_eq, Bool.not_eq_true', bne_iff_ne, ne_eq] at hc
    obtain ⟨⟨e1, e2⟩, e3⟩ := hc
    subst e1; subst e2
    simp only [x_wp1] at hw
    split at hw
    · exact xj_istore hd e3 (hn _ _ _ _ _ hw)
    · exact hw.elim
  | istore_n j =>
    simp only [x_ck3, Bool.and_eq_true, Bool.or_eq_true, beq_iff_eq, decide_eq_true_eq, Bool.not_eq_true', bne_iff_ne, ne_eq] at hc
    obtain ⟨⟨e1, e2⟩, e3⟩ := hc
    subst e1; subst e2
    simp only [x_wp1] at hw
    split at hw
    · exact xj_istore_n hd e3 (hn _ _ _ _ _ hw)
    · exact hw.elim
  | lstore j =>
    simp only [x_ck3, Bool.and_eq_true, Bool.or_eq_true, beq_iff_eq, decide_eq_true_eq, Bool.not_eq_true', bne_iff_ne, ne_eq] at hc
    obtain ⟨⟨e1, e2⟩, e3⟩ := hc
    subst e1; subst e2
    simp only [x_wp1] at hw
    split at hw
    · exact xj_lstore hd e3 (hn _ _ _ _ _ hw)
    · exact hw.elim
  | lstore_n j =>
    simp only [x_ck3, Bool.and_eq_true, Bool.or_eq_true, beq_iff_eq, decide_eq_true_eq, Bool.not_eq_true', bne_iff_ne, ne_eq] at hc
    obtain ⟨⟨e1, e2⟩, e3⟩ := hc
    subst e1; subst e2
    simp only [x_wp1] at hw
    split at hw
    · exact xj_lstore_n hd e3 (hn _ _ _ _ _ hw)
    · exact hw.elim
  | astore j =>
    simp only [x_ck3, Bool.and_eq_true, Bool.or_eq_true, beq_iff_eq, decide_eq_true_eq, Bool.not_eq_true', bne_iff_ne, ne_eq] at hc
    obtain ⟨⟨e1, e2⟩, e3⟩ := hc
    subst e1; subst e2
    simp only [x_wp1] at hw
    split at hw
    · exact xj_astore hd e3 (hn _ _ _ _ _ hw)
    · exact hw.elim
  | astore_n j =>
    simp only [x_ck3, Bool.and_eq_true, Bool.or_eq_true, beq_iff_eq, decide_eq_true_eq, Bool.not_eq_true', bne_iff_ne, ne_eq] at hc
    obtain ⟨⟨e1, e2⟩, e3⟩ := hc
    subst e1; subst e2
    simp only [x_wp1] at hw
    split at hw
    · exact xj_astore_n hd e3 (hn _ _ _ _ _ hw)
    · exact hw.elim
  | iinc j c0 =>
    simp only [x_ck3, Bool.and_eq_true, Bool.or_eq_true, beq_iff_eq, decide_eq_true_eq, Bool.not_eq_true', bne_iff_ne, ne_eq] at hc
    obtain ⟨⟨e1, e2⟩, e3⟩ := hc
    subst e1; subst e2
    simp only [x_wp1] at hw
    split at hw
    · rename_i hx
      exact xj_iinc hd e3 hx (hn _ _ _ _ _ hw)
    · exact hw.elim
  | dup =>
    simp only [x_ck3, Bool.and_eq_true, Bool.or_eq_true, beq_iff_eq, decide_eq_true_eq, Bool.not_eq_true', bne_iff_ne, ne_eq] at hc
    subst hc
    simp only [x_wp1] at hw
    split at hw
    · exact xj_dup hd (by intro x z; cases z) (hn _ _ _ _ _ hw)
    · exact xj_dup hd (by intro x z; cases z) (hn _ _ _ _ _ hw)
    · exact hw.elim
  | pop =>
    simp only [x_ck3, Bool.and_eq_true, Bool.or_eq_true, beq_iff_eq, decide_eq_true_eq, Bool.not_eq_true', bne_iff_ne, ne_eq] at hc
    subst hc
    simp only [x_wp1] at hw
    split at hw
    · exact xj_pop hd (by intro x z; cases z) (hn _ _ _ _ _ hw)
    · exact xj_pop hd (by intro x z; cases z) (hn _ _ _ _ _ hw)
    · exact hw.elim
  | dup2 =>
    simp only [x_ck3, Bool.and_eq_true, Bool.or_eq_true, beq_iff_eq, decide_eq_true_eq, Bool.not_eq_true', bne_iff_ne, ne_eq] at hc
    subst hc
    simp only [x_wp1] at hw
    split at hw
    · exact xj_dup2 hd (by intro x z; cases z) (by intro x z; cases z) (hn _ _ _ _ _ hw)
    · exact xj_dup2L hd (hn _ _ _ _ _ hw)
    · exact hw.elim
  | if_icmp c0 off =>
    simp only [x_ck3, Bool.and_eq_true, Bool.or_eq_true, beq_iff_eq, decide_eq_true_eq, Bool.not_eq_true', bne_iff_ne, ne_eq] at hc
    obtain ⟨e1, e2⟩ := hc
    subst e1
    simp only [x_wp1] at hw
    split at hw
    · cases c0
      · exact xj_icmp_eq hd e2 hw.1 (fun z => hn _ _ _ _ _ (hw.2 z))
      · exact xj_icmp_ne hd e2 hw.1 (fun z => hn _ _ _ _ _ (hw.2 z))
      · exact xj_icmp_lt hd e2 hw.1 (fun z => hn _ _ _ _ _ (hw.2 (by omega)))
      · exact xj_icmp_ge hd e2 hw.1 (fun z => hn _ _ _ _ _ (hw.2 (by omega)))
      · exact xj_icmp_gt hd e2 hw.1 (fun z => hn _ _ _ _ _ (hw.2 (by omega)))
      · exact xj_icmp_le hd e2 hw.1 (fun z => hn _ _ _ _ _ (hw.2 (by omega)))
    · exact hw.elim
  | ifCond c0 off =>
    simp only [x_ck3, Bool.and_eq_true, Bool.or_eq_true, beq_iff_eq, decide_eq_true_eq, Bool.not_eq_true', bne_iff_ne, ne_eq] at hc
    obtain ⟨e1, e2⟩ := hc
    subst e1
    simp only [x_wp1] at hw
    split at hw
    · cases c0
      · exact xj_if_eq hd e2 hw.1 (fun z => hn _ _ _ _ _ (hw.2 z))
      · exact xj_if_ne hd e2 hw.1 (fun z => hn _ _ _ _ _ (hw.2 z))
      · exact xj_if_lt hd e2 hw.1 (fun z => hn _ _ _ _ _ (hw.2 (by omega)))
      · exact xj_if_ge hd e2 hw.1 (fun z => hn _ _ _ _ _ (hw.2 (by omega)))
      · exact xj_if_gt hd e2 hw.1 (fun z => hn _ _ _ _ _ (hw.2 (by omega)))
      · exact xj_if_le hd e2 hw.1 (fun z => hn _ _ _ _ _ (hw.2 (by omega)))
    · exact hw.elim
  | ifnull off =>
    simp only [x_ck3, Bool.and_eq_true, Bool.or_eq_true, beq_iff_eq, decide_eq_true_eq, Bool.not_eq_true', bne_iff_ne, ne_eq] at hc
    obtain ⟨e1, e2⟩ := hc
    subst e1
    simp only [x_wp1] at hw
    split at hw
    · exact xj_ifnull hd e2 hw.1 (fun z => hn _ _ _ _ _ (hw.2 z))
    · exact hw.elim
  | ifnonnull off =>
    simp only [x_ck3, Bool.and_eq_true, Bool.or_eq_true, beq_iff_eq, decide_eq_true_eq, Bool.not_eq_true', bne_iff_ne, ne_eq] at hc
    obtain ⟨e1, e2⟩ := hc
    subst e1
    simp only [x_wp1] at hw
    split at hw
    · exact xj_ifnonnull hd e2 hw.1 (fun z => hn _ _ _ _ _ (hw.2 z))
    · exact hw.elim
  | goto off =>
    simp only [x_ck3, Bool.and_eq_true, Bool.or_eq_true, beq_iff_eq, decide_eq_true_eq, Bool.not_eq_true', bne_iff_ne, ne_eq] at hc
    obtain ⟨e1, e2⟩ := hc
    subst e1
    exact xj_goto hd e2 (hn _ _ _ _ _ hw)
  | tableswitch d lo hi offs =>
    simp only [x_ck3, Bool.and_eq_true, decide_eq_true_eq] at hc
    obtain ⟨⟨e1, e2⟩, e3⟩ := hc
    simp only [x_wp1] at hw
    split at hw
    · rename_i x st
      have e4 : ∀ off ∈ offs.toList, 0 ≤ (pc : Int) + off := fun off ho => by simpa using List.all_eq_true.mp e3 off ho
      have hoff : ∀ z : Int, lo ≤ z → z ≤ hi → ∃ off, offs.toList[(z - lo).toNat]? = some off := fun z z1 z2 => ⟨_, List.getElem?_eq_getElem (by omega)⟩
      refine xj_table hd (tg := fun z => ((pc : Int) + (offs.toList.getD (z - lo).toNat 0)).toNat) (td := ((pc : Int) + d).toNat) (fun z z1 z2 => ?_) (by omega) (fun z1 z2 => ?_) hw.1
      · obtain ⟨off, h1⟩ := hoff z z1 z2
        refine ⟨off, by rw [← Array.getElem?_toList]; exact h1, ?_⟩
        have h2 : offs.toList.getD (z - lo).toNat 0 = off := by rw [List.getD_eq_getElem?_getD, h1]; rfl
        rw [h2]
        have h3 := e4 off (List.mem_of_getElem? h1)
        omega
      · obtain ⟨off, h1, h2⟩ := x_sw_ok _ _ hw.2 (x - lo).toNat (by omega) (by omega)
        have h3 : offs.toList.getD (x - lo).toNat 0 = off := by rw [List.getD_eq_getElem?_getD, h1]; rfl
        rw [h3]
        exact h2
    · exact hw.elim
  | getfield j =>
    simp only [x_ck3, Bool.and_eq_true, Bool.or_eq_true, beq_iff_eq, decide_eq_true_eq, Bool.not_eq_true', bne_iff_ne, ne_eq] at hc
    obtain ⟨⟨⟨⟨e1, e2⟩, e3⟩, e4⟩, e5⟩ := hc
    subst e1
    simp only [x_wp1] at hw
    split at hw
    · have e6 : v.toNat = x_tc a b := by rw [e4]; simp
      rw [e6, x_gv_fv (g := g)] at hw
      exact xj_getfield hd hw.1 e2 e3 (x_fk_ok hM e5) (hn _ _ _ _ _ hw.2)
    · exact hw.elim
  | putfield j =>
    simp only [x_ck3, Bool.and_eq_true, Bool.or_eq_true, beq_iff_eq, decide_eq_true_eq, Bool.not_eq_true', bne_iff_ne, ne_eq] at hc
    obtain ⟨⟨⟨⟨⟨e1, e2⟩, e3⟩, e4⟩, e5⟩, e7⟩ := hc
    subst e1
    simp only [x_wp1] at hw
    split at hw
    · have e6 : v.toNat = x_tc a b := by rw [e4]; simp
      rw [e6] at hw
      obtain ⟨h1, h2⟩ := hw
      obtain ⟨h3, h4⟩ := x_fitk_ok h2
      refine xj_putfield hd h1 e2 e3 (x_fk_ok hM e5) ?_ h3 (hn _ _ _ _ _ h4)
      rcases e7 with z | z
      · exact Or.inl z
      · cases hf : (x_T a b).2.2.2 with
        | false => exact Or.inl rfl
        | true => exact Or.inr ⟨rfl, z.1, z.2⟩
    · exact hw.elim
  | getstatic j =>
    simp only [x_ck3, Bool.and_eq_true, beq_iff_eq] at hc
    obtain ⟨e1, e2⟩ := hc
    subst e1
    split at e2
    · rename_i q hq
      simp only [Bool.and_eq_true, decide_eq_true_eq] at e2
      exact xj_getstatic hd hq e2.1 e2.2 (hn _ _ _ _ _ hw)
    · cases e2
  | new j =>
    simp only [x_ck3, Bool.and_eq_true, Bool.or_eq_true, beq_iff_eq, decide_eq_true_eq, Bool.not_eq_true', bne_iff_ne, ne_eq] at hc
    obtain ⟨⟨⟨e1, e2⟩, e3⟩, e4⟩ := hc
    subst e1; subst e3
    obtain ⟨⟨h1, h2⟩, h3⟩ := hw
    exact xj_new hd e2 (x_ck_ok hM e4) (x_pin_ok e2).1 (x_pin_ok e2).2 h1 h2 (hn _ _ _ _ _ h3)
  | newarray t =>
    simp only [x_ck3, Bool.and_eq_true, beq_iff_eq] at hc
    obtain ⟨e1, e2⟩ := hc
    subst e1
    simp only [x_wp1] at hw
    split at hw
    · obtain ⟨⟨h1, h2, h3, h4⟩, h5⟩ := hw
      have ht : (t = .int ∧ a = 10 ∧ a - 10 = 0) ∨ (t = .long ∧ a = 11 ∧ a - 10 = 1) ∨ (t = .boolean ∧ a = 12 ∧ a - 10 = 2) := by
        split at e2
        · simp only [beq_iff_eq] at e2; exact Or.inl ⟨rfl, e2, by omega⟩
        · simp only [beq_iff_eq] at e2; exact Or.inr (Or.inl ⟨rfl, e2, by omega⟩)
        · simp only [beq_iff_eq] at e2; exact Or.inr (Or.inr ⟨rfl, e2, by omega⟩)
        · cases e2
      exact xj_newarray hd ht h1 h2 h3 h4 (hn _ _ _ _ _ h5)
    · exact hw.elim
  | anewarray j =>
    simp only [x_ck3, Bool.and_eq_true, Bool.or_eq_true, beq_iff_eq, decide_eq_true_eq, Bool.not_eq_true', bne_iff_ne, ne_eq] at hc
    obtain ⟨e1, e2⟩ := hc
    subst e1
    simp only [x_wp1] at hw
    split at hw
    · obtain ⟨⟨h1, h2, h3, h4⟩, h5⟩ := hw
      exact xj_anewarray hd (x_ck_ok hM e2) h1 h2 h3 h4 (hn _ _ _ _ _ h5)
    · exact hw.elim
  | iaload =>
    simp only [x_ck3, Bool.and_eq_true, Bool.or_eq_true, beq_iff_eq, decide_eq_true_eq, Bool.not_eq_true', bne_iff_ne, ne_eq] at hc
    subst hc
    simp only [x_wp1] at hw
    split at hw
    · obtain ⟨⟨N, h1, h2, h3⟩, h4⟩ := hw
      exact xj_iaload hd h1 h2 h3 (hn _ _ _ _ _ h4)
    · exact xj_saload hd hw.1.1 hw.1.2 (hn _ _ _ _ _ hw.2)
    · exact xj_taload (t := 0) hd (by decide) hw.1.1 hw.1.2 (hn _ _ _ _ _ hw.2)
    · exact xj_taload (t := 1) hd (by decide) hw.1.1 hw.1.2 (hn _ _ _ _ _ hw.2)
    · exact xj_taload (t := 2) hd (by decide) hw.1.1 hw.1.2 (hn _ _ _ _ _ hw.2)
    · exact hw.elim
  | laload =>
    simp only [x_ck3, Bool.and_eq_true, Bool.or_eq_true, beq_iff_eq, decide_eq_true_eq, Bool.not_eq_true', bne_iff_ne, ne_eq] at hc
    subst hc
    simp only [x_wp1] at hw
    split at hw
    · obtain ⟨⟨N, h1, h2, h3⟩, h4⟩ := hw
      exact xj_laload hd h1 h2 h3 (hn _ _ _ _ _ h4)
    · exact hw.elim
  | baload =>
    simp only [x_ck3, Bool.and_eq_true, Bool.or_eq_true, beq_iff_eq, decide_eq_true_eq, Bool.not_eq_true', bne_iff_ne, ne_eq] at hc
    subst hc
    simp only [x_wp1] at hw
    split at hw
    · obtain ⟨⟨N, h1, h2, h3⟩, h4⟩ := hw
      exact xj_baload hd h1 h2 h3 (hn _ _ _ _ _ h4)
    · exact hw.elim
  | aaload =>
    simp only [x_ck3, Bool.and_eq_true, Bool.or_eq_true, beq_iff_eq, decide_eq_true_eq, Bool.not_eq_true', bne_iff_ne, ne_eq] at hc
    subst hc
    simp only [x_wp1] at hw
    split at hw
    · obtain ⟨⟨N, h1, h2, h3⟩, h4⟩ := hw
      exact xj_aaload hd h1 h2 h3 (hn _ _ _ _ _ h4)
    · exact hw.elim
  | iastore =>
    simp only [x_ck3, Bool.and_eq_true, Bool.or_eq_true, beq_iff_eq, decide_eq_true_eq, Bool.not_eq_true', bne_iff_ne, ne_eq] at hc
    subst hc
    simp only [x_wp1] at hw
    split at hw
    · obtain ⟨⟨N, h1, h2, h3⟩, h4⟩ := hw
      exact xj_iastore hd h1 h2 h3 (hn _ _ _ _ _ h4)
    · exact hw.elim
  | lastore =>
    simp only [x_ck3, Bool.and_eq_true, Bool.or_eq_true, beq_iff_eq, decide_eq_true_eq, Bool.not_eq_true', bne_iff_ne, ne_eq] at hc
    subst hc
    simp only [x_wp1] at hw
    split at hw
    · obtain ⟨⟨N, h1, h2, h3⟩, h4⟩ := hw
      exact xj_lastore hd h1 h2 h3 (hn _ _ _ _ _ h4)
    · exact hw.elim
  | bastore =>
    simp only [x_ck3, Bool.and_eq_true, Bool.or_eq_true, beq_iff_eq, decide_eq_true_eq, Bool.not_eq_true', bne_iff_ne, ne_eq] at hc
    subst hc
    simp only [x_wp1] at hw
    split at hw
    · obtain ⟨⟨N, h1, h2, h3⟩, h5, h4⟩ := hw
      exact xj_bastore hd h1 h2 h3 h5 (hn _ _ _ _ _ h4)
    · exact hw.elim
  | aastore =>
    simp only [x_ck3, Bool.and_eq_true, Bool.or_eq_true, beq_iff_eq, decide_eq_true_eq, Bool.not_eq_true', bne_iff_ne, ne_eq] at hc
    subst hc
    simp only [x_wp1] at hw
    split at hw
    · obtain ⟨⟨N, h1, h2, h3⟩, ⟨N2, h5⟩, h4⟩ := hw
      exact xj_aastore hd h1 h2 h3 (Or.inr h5) (by have := h5.1; omega) (hn _ _ _ _ _ h4)
    · exact hw.elim
  | arraylength =>
    simp only [x_ck3, Bool.and_eq_true, Bool.or_eq_true, beq_iff_eq, bne_iff_ne, ne_eq] at hc
    obtain ⟨e1, e2⟩ := hc
    subst e1
    simp only [x_wp1] at hw
    split at hw
    · obtain ⟨N, h1, h2⟩ := hw
      have h3 : 10 ≤ b := by
        rcases e2 with z | z
        · exact absurd rfl z
        · exact Nat.le_of_ble_eq_true z
      exact xj_arraylength hd h1 h3 (hn _ _ _ _ _ h2)
    · exact xj_slen hd (hn _ _ _ _ _ hw)
    · exact xj_tlen (t := 0) hd (by decide) (hn _ _ _ _ _ hw)
    · exact xj_tlen (t := 1) hd (by decide) (hn _ _ _ _ _ hw)
    · exact xj_tlen (t := 2) hd (by decide) (hn _ _ _ _ _ hw)
    · exact hw.elim
  | invokevirtual j =>
    simp only [x_ck3, Bool.and_eq_true, beq_iff_eq, decide_eq_true_eq] at hc
    obtain ⟨⟨⟨⟨⟨⟨⟨⟨e1, e2⟩, e3⟩, e4⟩, e5⟩, e6⟩, e7⟩, e8⟩, e9⟩ := hc
    subst e1
    simp only [x_wp1] at hw
    split at hw
    · exact hw.elim
    · split at hw
      · rename_i r st' hst
        obtain ⟨s1, s2⟩ := x_stk hst
        rw [s1]
        cases hwd : Nat.ble (x_wd st') 8 with
        | false => rw [hwd] at hw; exact hw.elim
        | true =>
          rw [hwd] at hw
          obtain ⟨h1, h2⟩ := hw
          have hnp := x_np_ok a e3
          rw [← s2] at hnp
          cases hv : (v == 0) with
          | true =>
            rw [hv] at h2
            have e10 : x_bc a = 0 ∧ x_bs a = 0 := by
              rcases Bool.or_eq_true _ _ ▸ e9 with z | z
              · rw [bne, hv] at z; cases z
              · simpa using z
            have hb : k + x_bc a = k := by rw [e10.1]; rfl
            have hs : n + x_bs a = n := by rw [e10.2]; rfl
            refine xj_b (fun hk hn1 => ?_)
            refine xj_invokevirtual hd (x_mc_ok e2) h1 e4 e5 (x_lk_ok hM e6) (x_ims_ok e7) (x_sel_ok e8) hnp (by omega) (by omega) (Nat.le_of_ble_eq_true hwd) ?_
            rw [hb, hs]
            exact x_ck2_ok h2 (fun r h1 hq => hn _ _ _ _ _ hq)
          | false =>
            rw [hv] at h2
            obtain ⟨⟨h3, h4⟩, h5⟩ := h2
            exact xj_invokevirtual hd (x_mc_ok e2) h1 e4 e5 (x_lk_ok hM e6) (x_ims_ok e7) (x_sel_ok e8) hnp h3 h4 (Nat.le_of_ble_eq_true hwd) (x_ck2_ok h5 (fun r h1 hq => hn _ _ _ _ _ hq))
      · exact hw.elim
  | invokespecial j =>
    simp only [x_ck3, Bool.and_eq_true, beq_iff_eq] at hc
    obtain ⟨e1, e2⟩ := hc
    subst e1
    simp only [x_wp1] at hw
    split at hw
    · exact hw.elim
    · cases h9 : (c == 9) with
      | true =>
        rw [h9] at hw
        rw [if_pos (by simpa using h9)] at e2
        simp only [cond_true] at hw
        split at hw
        · rename_i r st'
          cases hwd : Nat.ble (x_wd st') 8 with
          | false => rw [hwd] at hw; exact hw.elim
          | true =>
            rw [hwd] at hw
            obtain ⟨⟨c1, N1, h1⟩, h2⟩ := hw
            exact xj_objinit hd h1 (x_ob_ok hM e2) (Nat.le_of_ble_eq_true hwd) (hn _ _ _ _ _ h2)
        · exact hw.elim
      | false =>
        rw [h9] at hw
        rw [if_neg (by simpa using h9)] at e2
        simp only [Bool.and_eq_true, decide_eq_true_eq] at e2
        obtain ⟨⟨⟨⟨⟨e2, e3⟩, e4⟩, e5⟩, e6⟩, e7⟩ := e2
        simp only [cond_false] at hw
        split at hw
        · rename_i r st' hst
          obtain ⟨s1, s2⟩ := x_stk hst
          rw [s1]
          cases hwd : Nat.ble (x_wd st') 8 with
          | false => rw [hwd] at hw; exact hw.elim
          | true =>
            rw [hwd] at hw
            obtain ⟨⟨c1, N1, h1⟩, ⟨h3, h4⟩, h5⟩ := hw
            have hnp := x_np_ok a e3
            rw [← s2] at hnp
            exact xj_invokespecial hd (x_mc_ok e2) h1 e4 e5 (x_lk_ok hM e6) (x_ims_ok e7) hnp h3 h4 (Nat.le_of_ble_eq_true hwd) (x_ck2_ok h5 (fun r h1 hq => hn _ _ _ _ _ hq))
        · exact hw.elim
  | invokestatic j =>
    simp only [x_ck3, Bool.and_eq_true, beq_iff_eq] at hc
    obtain ⟨e1, e2⟩ := hc
    subst e1
    simp only [x_wp1] at hw
    split at hw
    · exact hw.elim
    · split at hw
      · split at hw
        · rename_i st'
          cases hwd : Nat.ble (x_wd st') 8 with
          | false => rw [hwd] at hw; exact hw.elim
          | true =>
            rw [hwd] at hw
            refine xj_mmax hd ?_ (Nat.le_of_ble_eq_true hwd) (hn _ _ _ _ _ hw)
            rcases x_lk_ok hM e2 with z | z
            · exact z
            · exact absurd z (x_nomath hM 251 (by decide))
        · exact hw.elim
      · split at hw
        · rename_i st'
          cases hwd : Nat.ble (x_wd st') 8 with
          | false => rw [hwd] at hw; exact hw.elim
          | true =>
            rw [hwd] at hw
            refine xj_mmin hd ?_ (Nat.le_of_ble_eq_true hwd) (hn _ _ _ _ _ hw)
            rcases x_lk_ok hM e2 with z | z
            · exact z
            · exact absurd z (x_nomath hM 253 (by decide))
        · exact hw.elim
      · split at hw
        · rename_i st'
          cases hwd : Nat.ble (x_wd st') 8 with
          | false => rw [hwd] at hw; exact hw.elim
          | true =>
            rw [hwd] at hw
            refine xj_mmaxL hd ?_ (Nat.le_of_ble_eq_true hwd) (hn _ _ _ _ _ hw)
            rcases x_lk_ok hM e2 with z | z
            · exact z
            · exact absurd z (x_nomath hM 252 (by decide))
        · exact hw.elim
      · split at hw
        · rename_i st'
          cases hwd : Nat.ble (x_wd st') 8 with
          | false => rw [hwd] at hw; exact hw.elim
          | true =>
            rw [hwd] at hw
            refine xj_mminL hd ?_ (Nat.le_of_ble_eq_true hwd) (hn _ _ _ _ _ hw)
            rcases x_lk_ok hM e2 with z | z
            · exact z
            · exact absurd z (x_nomath hM 254 (by decide))
        · exact hw.elim
      · rename_i c1 c2 c3 c4
        have e2 : (x_mc a && decide (a < 279) && x_lk M j a && (x_sts.any fun q => q.1 == a) && x_bc a == 0 && x_bs a == 0) = true := by
          split at e2
          · exact (c1 rfl).elim
          · exact (c2 rfl).elim
          · exact (c3 rfl).elim
          · exact (c4 rfl).elim
          · exact e2
        simp only [Bool.and_eq_true, decide_eq_true_eq, beq_iff_eq] at e2
        obtain ⟨⟨⟨⟨⟨e2, e3⟩, e6⟩, e7⟩, e8⟩, e9⟩ := e2
        cases hwd : (Nat.ble (x_np a) st.length && Nat.ble (x_wd (st.drop (x_np a))) 8) with
        | false => rw [hwd] at hw; exact hw.elim
        | true =>
          rw [hwd] at hw
          simp only [Bool.and_eq_true] at hwd
          obtain ⟨s1, s2⟩ := x_stk2 (Nat.le_of_ble_eq_true hwd.1)
          rw [s1]
          have hnp := x_np_ok a e3
          rw [← s2] at hnp
          have hb : k + x_bc a = k := by rw [e8]; rfl
          have hs : n + x_bs a = n := by rw [e9]; rfl
          refine xj_b (fun hk hn1 => ?_)
          refine xj_invokestatic hd (x_mc_ok e2) (x_lk_ok hM e6) (x_sts_ok e7) hnp (by omega) (by omega) (Nat.le_of_ble_eq_true hwd.2) ?_
          rw [hb, hs]
          exact x_ck2_ok hw (fun r h1 hq => hn _ _ _ _ _ hq)
  | ireturn =>
    simp only [x_ck3, Bool.and_eq_true, Bool.or_eq_true, beq_iff_eq, decide_eq_true_eq, Bool.not_eq_true', bne_iff_ne, ne_eq] at hc
    obtain ⟨e1, e2⟩ := hc
    subst e1
    simp only [x_wp1] at hw
    split at hw
    · refine xj_ireturn hd (Or.inl ?_) hw
      rcases e2 with ⟨-, z⟩ | ⟨z, -⟩
      · exact z
      · cases z
    · refine xj_ireturn hd (Or.inr ⟨?_, hw.1⟩) hw.2
      rcases e2 with ⟨z, -⟩ | ⟨-, z⟩
      · cases z
      · exact z
    · exact hw.elim
  | lreturn =>
    simp only [x_ck3, Bool.and_eq_true, Bool.or_eq_true, beq_iff_eq, decide_eq_true_eq, Bool.not_eq_true', bne_iff_ne, ne_eq] at hc
    obtain ⟨e1, e2⟩ := hc
    subst e1
    simp only [x_wp1] at hw
    split at hw
    · exact xj_lreturn hd e2 hw
    · exact hw.elim
  | areturn =>
    simp only [x_ck3, Bool.and_eq_true, beq_iff_eq] at hc
    obtain ⟨e1, e2⟩ := hc
    subst e1
    simp only [x_wp1] at hw
    split at hw
    · split at e2
      · rename_i hrt
        exact xj_areturn hd hrt hw
      · cases e2
    · exact hw.elim
  | return_ =>
    simp only [x_ck3, Bool.and_eq_true, Bool.or_eq_true, beq_iff_eq, decide_eq_true_eq, Bool.not_eq_true', bne_iff_ne, ne_eq] at hc
    obtain ⟨e1, e2⟩ := hc
    subst e1
    simp only [x_wp1] at hw
    split at hw
    · exact xj_return hd e2 hw
    · exact hw.elim
  | _ => exact hw.elim
def x_okb (M : Nat) : Nat → List xI → Bool
  | _, [] => true
  | pc, i :: is => decide (decode (x_cd M) pc = .ok (i.1, i.2.1)) && x_ck3 M pc i && x_okb M (x_npc pc i) is
theorem x_blk {g : xG} {D M : Nat} {Q : xV → xH → Prop} (hM : M < 279) : ∀ (is : List xI) {pc k n : Nat} {ls st : List xV} {h : xH}, x_okb M pc is = true → x_wp g D M Q is pc k n ls st h → xJ g D M k n pc ls st h Q := by
  intro is
  induction is with
  | nil => intro pc k n ls st h _ hw; exact hw
  | cons i is ih =>
    intro pc k n ls st h hc hw
    simp only [x_okb, Bool.and_eq_true, decide_eq_true_eq] at hc
    obtain ⟨⟨h1, h2⟩, h3⟩ := hc
    exact x_wp1_ok hM h1 h2 hw (fun k n ls st h hq => ih h3 hq)
/-- some locals are forgotten -/
def x_mask : List Bool → List xV → List xV
  | b :: bs, v :: vs => (bif b then v else xu) :: x_mask bs vs
  | _, _ => []
theorem x_mask_at : ∀ (bs : List Bool) (ls : List xV) (j : Nat) (v : xV), (x_mask bs ls)[j]? = some v → v = xu ∨ ls[j]? = some v := by
  intro bs
  induction bs with
  | nil => intro ls j v h; simp [x_mask] at h
  | cons b bs ih =>
    intro ls j v h
    cases ls with
    | nil => simp [x_mask] at h
    | cons w ls =>
      cases j with
      | zero =>
        cases b with
        | true => exact Or.inr h
        | false => exact Or.inl (Option.some.inj h).symm
      | succ j =>
        have h2 : (x_mask bs ls)[j]? = some v := by simpa [x_mask] using h
        rcases ih ls j v h2 with z | z
        · exact Or.inl z
        · exact Or.inr (by simpa using z)
theorem xj_mask {g : xG} {D M k n pc : Nat} {ls st : List xV} {h : xH} {Q : xV → xH → Prop} (bs : List Bool) (kk : xJ g D M k n pc (x_mask bs ls) st h Q) : xJ g D M k n pc ls st h Q := xj_fg (x_mask_at bs ls) kk
end
section
abbrev mX0_init : Nat := 0
abbrev mX0_tells : Nat := 1
abbrev mX0_open : Nat := 2
abbrev mX0_put : Nat := 3
abbrev mX0_stepAt : Nat := 4
abbrev mX0_kindAt : Nat := 5
abbrev mX0_numberAt : Nat := 6
abbrev mX0_firstOf : Nat := 7
abbrev mX1_init : Nat := 8
abbrev mX1_named : Nat := 9
abbrev mX1_name : Nat := 10
abbrev mX1_latestMeasure : Nat := 11
abbrev mX1_weigh : Nat := 12
abbrev mX1_nameSort : Nat := 13
abbrev mX1_mayWin : Nat := 14
abbrev mX1_needOf : Nat := 15
abbrev mX1_actFor : Nat := 16
abbrev mX1_told : Nat := 17
abbrev mX1_amount : Nat := 18
abbrev mX1_firstClause : Nat := 19
abbrev mX1_valueOf : Nat := 20
abbrev mX1_takenBy : Nat := 21
abbrev mX1_stepOf : Nat := 22
abbrev mX2_init : Nat := 23
abbrev mX2_actAt : Nat := 24
abbrev mX2_enact : Nat := 25
abbrev mX2_townOf : Nat := 26
abbrev mX2_copy : Nat := 27
abbrev mX3_init : Nat := 28
abbrev mX3_start : Nat := 29
abbrev mX3_search : Nat := 30
abbrev mX3_standAs : Nat := 31
abbrev mX3_weaves : Nat := 32
abbrev mX3_giverTo : Nat := 33
abbrev mX3_otherOf : Nat := 34
abbrev mX3_roomFrom : Nat := 35
abbrev mX3_carry : Nat := 36
abbrev mX4_init : Nat := 37
abbrev mX4_start : Nat := 38
abbrev mX4_hasMore : Nat := 39
abbrev mX4_token : Nat := 40
abbrev mX4_number : Nat := 41
abbrev mX4_pass : Nat := 42
abbrev mX4_fail : Nat := 43
abbrev mX4_expect : Nat := 44
abbrev mX4_emit : Nat := 45
abbrev mX4_readClause : Nat := 46
abbrev mX4_readTold : Nat := 47
abbrev mX4_readEither : Nat := 48
abbrev mX4_readAsk : Nat := 49
abbrev mX4_readSum : Nat := 50
abbrev mX4_readOne : Nat := 51
abbrev mX4_readBrackets : Nat := 52
abbrev mX5_init : Nat := 53
abbrev mX5_has : Nat := 54
abbrev mX5_isFull : Nat := 55
abbrev mX5_add : Nat := 56
abbrev mX5_get : Nat := 57
abbrev mX5_set : Nat := 58
abbrev mX5_copy : Nat := 59
abbrev mX6_init : Nat := 60
abbrev mX6_put : Nat := 61
abbrev mX6_addToken : Nat := 62
abbrev mX6_byteAt : Nat := 63
abbrev mX6_isLetter : Nat := 64
abbrev mX6_isDigit : Nat := 65
abbrev mX6_split : Nat := 66
abbrev mX6_addWord : Nat := 67
abbrev mX6_isWord : Nat := 68
abbrev mX6_addNumber : Nat := 69
abbrev mX6_addSign : Nat := 70
abbrev mX7_init : Nat := 71
abbrev mX7_add : Nat := 72
abbrev mX7_fill : Nat := 73
abbrev mX7_thingAt : Nat := 74
abbrev mX7_mix : Nat := 75
abbrev mX8_init : Nat := 76
abbrev mX8_town : Nat := 77
abbrev mX8_person : Nat := 78
abbrev mX8_die : Nat := 79
abbrev mX8_flaw : Nat := 80
abbrev mX8_web : Nat := 81
abbrev mX8_measure : Nat := 82
abbrev mX8_board : Nat := 83
abbrev mX8_days : Nat := 84
abbrev mX8_feed : Nat := 85
abbrev mX8_end : Nat := 86
abbrev mX8_act : Nat := 87
abbrev mX8_fault : Nat := 88
abbrev mX8_force : Nat := 89
abbrev mX8_sum : Nat := 90
abbrev mX8_says : Nat := 91
abbrev mX8_seal : Nat := 92
abbrev mX8_sealOf : Nat := 93
abbrev mX8_look : Nat := 94
abbrev mX8_allow : Nat := 95
abbrev mX8_kind : Nat := 96
abbrev mX8_claim : Nat := 97
abbrev mX8_claimOf : Nat := 98
abbrev mX8_undo : Nat := 99
abbrev mX8_fined : Nat := 100
abbrev mX8_book : Nat := 101
abbrev mX8_seed : Nat := 102
abbrev mX8_trade : Nat := 103
abbrev mX8_need : Nat := 104
abbrev mX8_doubt : Nat := 105
abbrev mX8_proof : Nat := 106
abbrev mX8_prize : Nat := 107
abbrev mX8_way : Nat := 108
abbrev mX8_lot : Nat := 109
abbrev mX8_draw : Nat := 110
abbrev mX8_count : Nat := 111
abbrev mX8_lotOf : Nat := 112
abbrev mX8_judge : Nat := 113
abbrev mX8_market : Nat := 114
abbrev mX8_tried : Nat := 115
abbrev mX8_image : Nat := 116
abbrev mX8_back : Nat := 117
abbrev mX8_about : Nat := 118
abbrev mX8_isWithin : Nat := 119
abbrev mX8_isDay : Nat := 120
abbrev mX8_holds : Nat := 121
abbrev mX8_isSpan : Nat := 122
abbrev mX8_isForged : Nat := 123
abbrev mX8_isGood : Nat := 124
abbrev mX8_hasGoodSeal : Nat := 125
abbrev mX8_isStanding : Nat := 126
abbrev mX8_hasPaidClaim : Nat := 127
abbrev mX8_sumOfClaims : Nat := 128
abbrev mX8_sumOfFines : Nat := 129
abbrev mX8_partOf : Nat := 130
abbrev mX8_power : Nat := 131
abbrev mX8_chanceOf : Nat := 132
abbrev mX8_countedHanks : Nat := 133
abbrev mX8_countedThreads : Nat := 134
abbrev mX8_triedWeb : Nat := 135
abbrev mX9_init : Nat := 136
abbrev mX9_copy : Nat := 137
abbrev mX9_copyCoins : Nat := 138
abbrev mX9_isIn : Nat := 139
abbrev mX9_isDay : Nat := 140
abbrev mX9_isPerson : Nat := 141
abbrev mX9_isWeb : Nat := 142
abbrev mX9_isSeal : Nat := 143
abbrev mX9_personAt : Nat := 144
abbrev mX9_sealAt : Nat := 145
abbrev mX9_town : Nat := 146
abbrev mX9_person : Nat := 147
abbrev mX9_die : Nat := 148
abbrev mX9_flaw : Nat := 149
abbrev mX9_flawsOf : Nat := 150
abbrev mX9_web : Nat := 151
abbrev mX9_measure : Nat := 152
abbrev mX9_measuresOf : Nat := 153
abbrev mX9_days : Nat := 154
abbrev mX9_four : Nat := 155
abbrev mX9_feed : Nat := 156
abbrev mX9_end : Nat := 157
abbrev mX9_see : Nat := 158
abbrev mX9_isLetter : Nat := 159
abbrev mX9_isDigit : Nat := 160
abbrev mX9_nextToken : Nat := 161
abbrev mX9_w3 : Nat := 162
abbrev mX9_w5 : Nat := 163
abbrev mX9_w4 : Nat := 164
abbrev mX9_w6 : Nat := 165
abbrev mX9_isWord : Nat := 166
abbrev mX9_emit : Nat := 167
abbrev mX9_push : Nat := 168
abbrev mX9_whole : Nat := 169
abbrev mX9_settle : Nat := 170
abbrev mX9_nameOf : Nat := 171
abbrev mX9_beginOne : Nat := 172
abbrev mX9_hasParen : Nat := 173
abbrev mX9_goesOn : Nat := 174
abbrev mX9_behindOne : Nat := 175
abbrev mX9_summed : Nat := 176
abbrev mX9_compareOf : Nat := 177
abbrev mX9_ask : Nat := 178
abbrev mX9_either : Nat := 179
abbrev mX9_sortOf : Nat := 180
abbrev mX9_take : Nat := 181
abbrev mX9_clause : Nat := 182
abbrev mX9_readText : Nat := 183
abbrev mX9_act : Nat := 184
abbrev mX9_fault : Nat := 185
abbrev mX9_putForce : Nat := 186
abbrev mX9_force : Nat := 187
abbrev mX9_clauseAt : Nat := 188
abbrev mX9_clausesOf : Nat := 189
abbrev mX9_firstOf : Nat := 190
abbrev mX9_actFor : Nat := 191
abbrev mX9_numberOf : Nat := 192
abbrev mX9_says : Nat := 193
abbrev mX9_clip : Nat := 194
abbrev mX9_two : Nat := 195
abbrev mX9_isAsked : Nat := 196
abbrev mX9_work : Nat := 197
abbrev mX9_name : Nat := 198
abbrev mX9_sortOfWeb : Nat := 199
abbrev mX9_lacks : Nat := 200
abbrev mX9_board : Nat := 201
abbrev mX9_sumOf : Nat := 202
abbrev mX9_sum : Nat := 203
abbrev mX9_seal : Nat := 204
abbrev mX9_isForged : Nat := 205
abbrev mX9_isGood : Nat := 206
abbrev mX9_sealOf : Nat := 207
abbrev mX9_look : Nat := 208
abbrev mX9_allow : Nat := 209
abbrev mX9_chance : Nat := 210
abbrev mX9_kind : Nat := 211
abbrev mX9_hasGoodSeal : Nat := 212
abbrev mX9_isPaid : Nat := 213
abbrev mX9_bountyLess : Nat := 214
abbrev mX9_claim : Nat := 215
abbrev mX9_claimOf : Nat := 216
abbrev mX9_undo : Nat := 217
abbrev mX9_fined : Nat := 218
abbrev mX9_book : Nat := 219
abbrev mX9_seed : Nat := 220
abbrev mX9_trade : Nat := 221
abbrev mX9_needOf : Nat := 222
abbrev mX9_need : Nat := 223
abbrev mX9_isWay : Nat := 224
abbrev mX9_goOn : Nat := 225
abbrev mX9_can : Nat := 226
abbrev mX9_isSpan : Nat := 227
abbrev mX9_findDoubt : Nat := 228
abbrev mX9_doubt : Nat := 229
abbrev mX9_proof : Nat := 230
abbrev mX9_drawOf : Nat := 231
abbrev mX9_mayWin : Nat := 232
abbrev mX9_prize : Nat := 233
abbrev mX9_way : Nat := 234
abbrev mX9_isLot : Nat := 235
abbrev mX9_lot : Nat := 236
abbrev mX9_draw : Nat := 237
abbrev mX9_count : Nat := 238
abbrev mX9_countedOf : Nat := 239
abbrev mX9_lotOf : Nat := 240
abbrev mX9_judge : Nat := 241
abbrev mX9_market : Nat := 242
abbrev mX9_tried : Nat := 243
abbrev mX9_image : Nat := 244
abbrev mX9_back : Nat := 245
abbrev mX9_about : Nat := 246
abbrev mL_law : Nat := 247
abbrev mJ11_isValidCodePoint_9a6ad : Nat := 248
abbrev mJ11_highSurrogate_5068e : Nat := 249
abbrev mJ11_lowSurrogate_5068e : Nat := 250
abbrev mJ9_max_7cf53 : Nat := 251
abbrev mJ9_max_f86c9 : Nat := 252
abbrev mJ9_min_7cf53 : Nat := 253
abbrev mJ9_min_f86c9 : Nat := 254
abbrev mJ0_length_8abf5 : Nat := 255
abbrev mJ0_charAt_5068e : Nat := 256
abbrev mJ0_indexOf_0f7a4 : Nat := 257
abbrev mJ0_indexOf_7cf53 : Nat := 258
abbrev mJ0_coder_7d493 : Nat := 259
abbrev mJ0_isLatin1_aae02 : Nat := 260
abbrev mJ0_checkIndex_df160 : Nat := 261
abbrev mJ0_checkBoundsBeginEnd_23922 : Nat := 262
abbrev mJ1_charAt_3b067 : Nat := 263
abbrev mJ1_canEncode_9a6ad : Nat := 264
abbrev mJ1_indexOf_4cfef : Nat := 265
abbrev mJ1_indexOfChar_4cfef : Nat := 266
abbrev mJ2_getChar_3b067 : Nat := 267
abbrev mJ2_length_9d52b : Nat := 268
abbrev mJ2_indexOf_4cfef : Nat := 269
abbrev mJ2_indexOfChar_4cfef : Nat := 270
abbrev mJ2_indexOfCharUnsafe_4cfef : Nat := 271
abbrev mJ2_indexOfSupplementary_4cfef : Nat := 272
abbrev mJ2_charAt_3b067 : Nat := 273
abbrev mJ2_checkIndex_2214a : Nat := 274
abbrev mJ2_checkBoundsBeginEnd_d044e : Nat := 275
abbrev mJ7_fill_53178 : Nat := 276
abbrev mJ3_checkIndex_8e157 : Nat := 277
abbrev mJ3_checkFromToIndex_8c36e : Nat := 278
end
section
/-! THE SHAPE OF THE HEAP behind the constructors: kinds and lengths of the first cells, and what their final fields hold -/
def zK : List (Nat × Nat) := [(8, 7), (2, 19), (5, 4), (10, 6), (5, 4), (10, 90), (5, 4), (10, 170), (5, 4), (10, 50), (5, 4), (10, 1400), (5, 4), (10, 90), (5, 4), (10, 400), (5, 4), (10, 400), (5, 4), (10, 320), (5, 4), (10, 480), (5, 4), (10, 120), (5, 4), (10, 830), (13, 10), (6, 6), (10, 300), (10, 301), (10, 301), (10, 301), (2, 19), (5, 4), (10, 6), (5, 4), (10, 90), (5, 4), (10, 170), (5, 4), (10, 50), (5, 4), (10, 1400), (5, 4), (10, 90), (5, 4), (10, 400), (5, 4), (10, 400), (5, 4), (10, 320), (5, 4), (10, 480), (5, 4), (10, 120), (5, 4), (10, 830), (13, 10), (4, 5), (1, 5), (10, 16), (11, 64), (3, 10), (5, 4), (10, 330), (5, 4), (10, 440), (5, 4), (10, 80), (5, 4), (10, 31), (5, 4), (10, 30), (5, 4), (10, 30), (5, 4), (10, 30), (7, 2), (10, 40), (9, 32), (10, 13700), (10, 13700), (11, 31), (11, 31), (10, 300), (10, 160), (10, 7), (11, 330), (12, 330), (10, 1024), (10, 32), (10, 32), (10, 10), (10, 64), (12, 50)]
/-- by cell: place, what it holds -/
def zPr : List (List (Nat × Nat)) := [[(0, 17), (1, 48), (2, 43), (3, 74), (4, 75), (5, 78), (6, 93)], [(0, 18), (1, 20), (2, 22), (3, 24), (4, 26), (5, 28), (6, 30), (7, 32), (8, 34), (9, 36), (10, 38), (11, 40), (12, 42)], [(0, 6), (1, 1), (2, 19)], [], [(0, 30), (1, 3), (2, 21)], [], [(0, 10), (1, 17), (2, 23)], [], [(0, 50), (1, 1), (2, 25)], [], [(0, 200), (1, 7), (2, 27)], [], [(0, 30), (1, 3), (2, 29)], [], [(0, 80), (1, 5), (2, 31)], [], [(0, 200), (1, 2), (2, 33)], [], [(0, 80), (1, 4), (2, 35)], [], [(0, 80), (1, 6), (2, 37)], [], [(0, 40), (1, 3), (2, 39)], [], [(0, 10), (1, 83), (2, 41)], [], [], [(0, 44), (1, 45), (2, 46), (3, 47)], [], [], [], [], [(0, 49), (1, 51), (2, 53), (3, 55), (4, 57), (5, 59), (6, 61), (7, 63), (8, 65), (9, 67), (10, 69), (11, 71), (12, 73)], [(0, 6), (1, 1), (2, 50)], [], [(0, 30), (1, 3), (2, 52)], [], [(0, 10), (1, 17), (2, 54)], [], [(0, 50), (1, 1), (2, 56)], [], [(0, 200), (1, 7), (2, 58)], [], [(0, 30), (1, 3), (2, 60)], [], [(0, 80), (1, 5), (2, 62)], [], [(0, 200), (1, 2), (2, 64)], [], [(0, 80), (1, 4), (2, 66)], [], [(0, 80), (1, 6), (2, 68)], [], [(0, 40), (1, 3), (2, 70)], [], [(0, 10), (1, 83), (2, 72)], [], [], [(0, 43)], [(0, 17), (1, 76), (2, 77)], [], [], [(0, 17), (1, 79), (2, 81), (3, 83), (4, 85), (5, 87), (6, 89), (7, 91)], [(0, 11), (1, 30), (2, 80)], [], [(0, 11), (1, 40), (2, 82)], [], [(0, 80), (1, 1), (2, 84)], [], [(0, 31), (1, 1), (2, 86)], [], [(0, 30), (1, 1), (2, 88)], [], [(0, 30), (1, 1), (2, 90)], [], [(0, 10), (1, 3), (2, 92)], [], [(0, 94)], [], [(0, 96), (1, 97), (2, 98), (3, 99), (4, 100), (17, 101), (21, 102), (22, 103), (23, 104), (24, 105), (25, 106), (26, 107), (27, 108), (30, 109), (31, 110)], [], [], [], [], [], [], [], [], [], [], [], [], [], [], []]
/-- what a final field of a first cell holds -/
def z_pt (r j : Nat) : Option Nat := ((zPr.getD (r - 16) []).find? fun q => q.1 == j).map fun q => q.2
def z_kd (r : Nat) : Option (Nat × Nat) := if r < 16 then none else zK[r - 16]?
def zSh (h : xH) : Prop := (∃ Ka, h.1 = zK ++ Ka) ∧ ∀ r j v, z_pt r j = some v → h.2 r j = (v : Int)
theorem z_is {h : xH} {r c N : Nat} (hs : zSh h) (hk : z_kd r = some (c, N)) : x_is h r c N := by
  unfold z_kd at hk
  split at hk
  · cases hk
  · obtain ⟨⟨Ka, e1⟩, -⟩ := hs
    refine ⟨by omega, ?_⟩
    rw [e1, List.getElem?_append_left (List.getElem?_eq_some_iff.mp hk).1]
    exact hk
theorem z_pt_lt {r j v : Nat} (h : z_pt r j = some v) : r - 16 < 95 := by
  rcases Nat.lt_or_ge (r - 16) 95 with z | z
  · exact z
  · exfalso
    unfold z_pt at h
    rw [List.getD_eq_getElem?_getD, List.getElem?_eq_none (by show 95 ≤ r - 16; exact z)] at h
    simp at h
/-- the places that are held are final fields of objects -/
theorem z_fin0 : ∀ i, i < 95 → ∀ q ∈ zPr.getD i [], (zK.getD i (99, 0)).1 < 10 ∧ (x_T (zK.getD i (99, 0)).1 q.1).2.2.2 = true := by decide +kernel
theorem z_16 : ∀ q ∈ zPr.getD 0 [], q.1 < 7 := by decide +kernel
theorem z_up {h : xH} {r c N j : Nat} {v : Int} (hs : zSh h) (hr : x_is h r c N) (hf : 10 ≤ c ∨ (x_T c j).2.2.2 = false) : zSh (h.1, x_up h.2 r j v) := by
  refine ⟨hs.1, fun r2 j2 v2 hp => ?_⟩
  show x_up h.2 r j v r2 j2 = (v2 : Int)
  unfold x_up
  by_cases e1 : r2 = r
  · by_cases e2 : j2 = j
    · exfalso
      subst e1; subst e2
      have h1 := z_pt_lt hp
      obtain ⟨⟨Ka, e3⟩, -⟩ := hs
      have h2 : zK[r2 - 16]? = some (c, N) := by
        have h3 := hr.2
        rw [e3, List.getElem?_append_left h1] at h3
        exact h3
      unfold z_pt at hp
      cases hfi : (zPr.getD (r2 - 16) []).find? fun q => q.1 == j2 with
      | none => rw [hfi] at hp; cases hp
      | some q =>
        have h4 := z_fin0 _ h1 q (List.mem_of_find?_eq_some hfi)
        have e5 : zK.getD (r2 - 16) (99, 0) = (c, N) := by rw [List.getD_eq_getElem?_getD, h2]; rfl
        have e6 : q.1 = j2 := by simpa using List.find?_some hfi
        rw [e5, e6] at h4
        rcases hf with z | z
        · have z1 : c < 10 := h4.1; omega
        · have z2 : (x_T c j2).2.2.2 = true := h4.2
          rw [z] at z2; cases z2
    · rw [if_pos e1, if_neg e2]; exact hs.2 r2 j2 v2 hp
  · rw [if_neg e1]; exact hs.2 r2 j2 v2 hp
theorem z_nw {h : xH} {e : Nat × Nat} (hs : zSh h) : zSh (h.1 ++ [e], x_nw h.2 (h.1.length + 16)) := by
  obtain ⟨⟨Ka, e1⟩, h2⟩ := hs
  refine ⟨⟨Ka ++ [e], by rw [e1, List.append_assoc]⟩, fun r j v hp => ?_⟩
  have h3 := z_pt_lt hp
  have h4 : h.1.length = 95 + Ka.length := by rw [e1, List.length_append]; rfl
  show x_nw h.2 (h.1.length + 16) r j = (v : Int)
  rw [x_nw_lt (by omega)]
  exact h2 r j v hp
def zQ (Q : xV → xH → Prop) : xV → xH → Prop := fun r h => zSh h ∧ Q r h
def zJ (g : xG) (D M k n pc : Nat) (ls st : List xV) (h : xH) (Q : xV → xH → Prop) : Prop := zSh h → xJ g D M k n pc ls st h (zQ Q)
def zS (g : xG) (D M : Nat) (args : List xV) (h : xH) (Q : xV → xH → Prop) : Prop := zSh h → xS g D M args h (zQ Q)
def zSi (g : xG) (D M : Nat) (args : List xV) (h : xH) (Q : Int → xH → Prop) : Prop := zS g D M args h (x_qi Q)
def zSl (g : xG) (D M : Nat) (args : List xV) (h : xH) (Q : Int → xH → Prop) : Prop := zS g D M args h (x_ql2 Q)
def zSr (g : xG) (D M : Nat) (args : List xV) (h : xH) (Q : Nat → xH → Prop) : Prop := zS g D M args h (x_qr Q)
def zSv (g : xG) (D M : Nat) (args : List xV) (h : xH) (Q : xH → Prop) : Prop := zS g D M args h (x_qv Q)
theorem z_entry {g : xG} {D M : Nat} {h : xH} {Q : xV → xH → Prop} {args : List xV} (hm : x_mok M) (ha : (x_en args).length ≤ x_ml M) (kk : zJ g D M 0 0 0 (x_l0 M args) [] h Q) : zS g D M args h Q := fun hs => x_entry hm ha (kk hs)
theorem zJ_sh {g : xG} {D M k n pc : Nat} {ls st : List xV} {h : xH} {Q : xV → xH → Prop} (kk : zSh h → zJ g D M k n pc ls st h Q) : zJ g D M k n pc ls st h Q := fun hs => kk hs hs
theorem zS_sh {g : xG} {D M : Nat} {args : List xV} {h : xH} {Q : xV → xH → Prop} (kk : zSh h → zS g D M args h Q) : zS g D M args h Q := fun hs => kk hs hs
theorem zS_mono {g : xG} {D M : Nat} {args : List xV} {h : xH} {Q1 Q2 : xV → xH → Prop} (hs : zS g D M args h Q1) (hq : ∀ r h1, zSh h1 → Q1 r h1 → Q2 r h1) : zS g D M args h Q2 := fun z => xS_mono (hs z) (fun r h1 hz => ⟨hz.1, hq r h1 hz.1 hz.2⟩)
def z_ck2 (c : Nat) (g : xG) (D M : Nat) (args : List xV) (h : xH) (st : List xV) (nx : List xV → xH → Prop) : Prop := match c with
  | 0 => zSi g D M args h (fun x h1 => nx (xi x :: st) h1)
  | 1 => zSl g D M args h (fun x h1 => nx (xl x :: st) h1)
  | 2 => zSr g D M args h (fun x h1 => nx (xr x :: st) h1)
  | _ => zSv g D M args h (fun h1 => nx st h1)
theorem z_ck2_ok {c : Nat} {g : xG} {D M : Nat} {args : List xV} {h : xH} {st : List xV} {nx : List xV → xH → Prop} (hs : zSh h) (hw : z_ck2 c g D M args h st nx) : x_ck2 c g D M args h st (fun st h1 => zSh h1 ∧ nx st h1) := by
  unfold z_ck2 at hw
  unfold x_ck2
  split
  · refine xS_mono (hw hs) (fun r h1 hq => ?_)
    rcases r with x | x | r | u
    · exact hq
    · exact hq.2.elim
    · exact hq.2.elim
    · exact hq.2.elim
  · refine xS_mono (hw hs) (fun r h1 hq => ?_)
    rcases r with x | x | r | u
    · exact hq.2.elim
    · exact hq
    · exact hq.2.elim
    · exact hq.2.elim
  · refine xS_mono (hw hs) (fun r h1 hq => ?_)
    rcases r with x | x | r | u
    · exact hq.2.elim
    · exact hq.2.elim
    · exact hq
    · exact hq.2.elim
  · rename_i c0 c1 c2
    have hw : zSv g D M args h (fun h1 => nx st h1) := by
      split at hw
      · exact (c0 rfl).elim
      · exact (c1 rfl).elim
      · exact (c2 rfl).elim
      · exact hw
    refine xS_mono (hw hs) (fun r h1 hq => ?_)
    rcases r with x | x | r | u
    · exact hq.2.elim
    · exact hq.2.elim
    · exact hq.2.elim
    · exact hq
/-- a cell of a kind: looked up (f = 0: asked) -/
def z_g (f : Nat) (h : xH) (r c N : Nat) (R : Prop) : Prop := match f with
  | 0 => x_is h r c N ∧ R
  | _ => (match z_kd r with
    | some (c', N') => (bif c' == c && N' == N then R else False)
    | none => False)
def z_a (f : Nat) (h : xH) (r c : Nat) (j : Int) (R : Prop) : Prop := match f with
  | 0 => (∃ N : Nat, x_is h r c N ∧ 0 ≤ j ∧ j < N) ∧ R
  | 1 => (match z_kd r with
    | some (c', N) => (bif c' == c then ((0 ≤ j ∧ j < (N : Int)) ∧ R) else False)
    | none => False)
  | _ => (match z_kd r with
    | some (c', N) => (bif c' == c && (decide (0 ≤ j) && decide (j < (N : Int))) then R else False)
    | none => False)
def z_v (f : Nat) (h : xH) (r j t : Nat) : xV := match f with
  | 0 => x_gv t (h.2 r j)
  | _ => (match z_pt r j with
    | some v => x_gv t (v : Int)
    | none => x_gv t (h.2 r j))
def z_l (f : Nat) (h : xH) (r c : Nat) (R : Nat → Prop) : Prop := match f with
  | 0 => ∃ N : Nat, x_is h r c N ∧ R N
  | _ => (match z_kd r with
    | some (c', N) => (bif c' == c then R N else False)
    | none => False)
theorem z_g_ok {f : Nat} {h : xH} {r c N : Nat} {R : Prop} (hs : zSh h) (hw : z_g f h r c N R) : x_is h r c N ∧ R := by
  unfold z_g at hw
  split at hw
  · exact hw
  · split at hw
    · rename_i c' N' hk
      cases hb : (c' == c && N' == N) with
      | false => rw [hb] at hw; exact hw.elim
      | true =>
        rw [hb] at hw
        simp only [Bool.and_eq_true, beq_iff_eq] at hb
        rw [hb.1, hb.2] at hk
        exact ⟨z_is hs hk, hw⟩
    · exact hw.elim
theorem z_l_ok {f : Nat} {h : xH} {r c : Nat} {R : Nat → Prop} (hs : zSh h) (hw : z_l f h r c R) : ∃ N : Nat, x_is h r c N ∧ R N := by
  unfold z_l at hw
  split at hw
  · exact hw
  · split at hw
    · rename_i c' N' hk
      cases hb : (c' == c) with
      | false => rw [hb] at hw; exact hw.elim
      | true =>
        rw [hb] at hw
        simp only [beq_iff_eq] at hb
        rw [hb] at hk
        exact ⟨N', z_is hs hk, hw⟩
    · exact hw.elim
theorem z_a_ok {f : Nat} {h : xH} {r c : Nat} {j : Int} {R : Prop} (hs : zSh h) (hw : z_a f h r c j R) : (∃ N : Nat, x_is h r c N ∧ 0 ≤ j ∧ j < N) ∧ R := by
  unfold z_a at hw
  split at hw
  · exact hw
  · split at hw
    · rename_i c' N' hk
      cases hb : (c' == c) with
      | false => rw [hb] at hw; exact hw.elim
      | true =>
        rw [hb] at hw
        simp only [beq_iff_eq] at hb
        rw [hb] at hk
        exact ⟨⟨N', z_is hs hk, hw.1⟩, hw.2⟩
    · exact hw.elim
  · split at hw
    · rename_i c' N' hk
      cases hb : (c' == c && (decide (0 ≤ j) && decide (j < (N' : Int)))) with
      | false => rw [hb] at hw; exact hw.elim
      | true =>
        rw [hb] at hw
        simp only [Bool.and_eq_true, beq_iff_eq, decide_eq_true_eq] at hb
        rw [hb.1] at hk
        exact ⟨⟨N', z_is hs hk, hb.2⟩, hw⟩
    · exact hw.elim
theorem z_v_ok {f : Nat} {h : xH} {r j t : Nat} (hs : zSh h) : z_v f h r j t = x_gv t (h.2 r j) := by
  unfold z_v
  split
  · rfl
  · split
    · rename_i v hv
      rw [hs.2 r j v hv]
    · rfl
def z_wp1 (g : xG) (D M : Nat) (f : Nat) (i : xI) (pc k n : Nat) (ls st : List xV) (h : xH) (Q : xV → xH → Prop) (nx : Nat → Nat → List xV → List xV → xH → Prop) : Prop :=
  match i.1 with
  | .iconst c => nx k n ls (xi c :: st) h
  | .bipush c => nx k n ls (xi c :: st) h
  | .sipush c => nx k n ls (xi c :: st) h
  | .ldc _ => (match i.2.2.1 with
    | 0 => nx k n ls (xi i.2.2.2.2.2 :: st) h
    | r => nx k n ls (xr r :: st) h)
  | .ldc_w _ => nx k n ls (xi i.2.2.2.2.2 :: st) h
  | .ldc2_w _ => nx k n ls (xl i.2.2.2.2.2 :: st) h
  | .lconst _ => nx k n ls (xl i.2.2.2.2.2 :: st) h
  | .aconst_null => nx k n ls (xr 0 :: st) h
  | .iload _ => (match ls[i.2.2.1]? with
    | some (.inl x) => nx k n ls (xi x :: st) h
    | _ => False)
  | .iload_n _ => (match ls[i.2.2.1]? with
    | some (.inl x) => nx k n ls (xi x :: st) h
    | _ => False)
  | .lload _ => (match ls[i.2.2.1]? with
    | some (.inr (.inl x)) => nx k n ls (xl x :: st) h
    | _ => False)
  | .lload_n _ => (match ls[i.2.2.1]? with
    | some (.inr (.inl x)) => nx k n ls (xl x :: st) h
    | _ => False)
  | .aload _ => (match ls[i.2.2.1]? with
    | some (.inr (.inr (.inl x))) => nx k n ls (xr x :: st) h
    | _ => False)
  | .aload_n _ => (match ls[i.2.2.1]? with
    | some (.inr (.inr (.inl x))) => nx k n ls (xr x :: st) h
    | _ => False)
  | .istore _ => (match st with
    | .inl x :: st => nx k n (x_st1 ls i.2.2.1 (xi x)) st h
    | _ => False)
  | .istore_n _ => (match st with
    | .inl x :: st => nx k n (x_st1 ls i.2.2.1 (xi x)) st h
    | _ => False)
  | .lstore _ => (match st with
    | .inr (.inl x) :: st => nx k n (x_st2 ls i.2.2.1 (xl x)) st h
    | _ => False)
  | .lstore_n _ => (match st with
    | .inr (.inl x) :: st => nx k n (x_st2 ls i.2.2.1 (xl x)) st h
    | _ => False)
  | .astore _ => (match st with
    | .inr (.inr (.inl x)) :: st => nx k n (x_st1 ls i.2.2.1 (xr x)) st h
    | _ => False)
  | .astore_n _ => (match st with
    | .inr (.inr (.inl x)) :: st => nx k n (x_st1 ls i.2.2.1 (xr x)) st h
    | _ => False)
  | .iinc _ c => (match ls[i.2.2.1]? with
    | some (.inl x) => nx k n (x_st1 ls i.2.2.1 (xi (x32 (x + c)))) st h
    | _ => False)
  | .iadd => (match st with
    | .inl y :: .inl x :: st => nx k n ls (xi (x32 (x + y)) :: st) h
    | _ => False)
  | .isub => (match st with
    | .inl y :: .inl x :: st => nx k n ls (xi (x32 (x - y)) :: st) h
    | _ => False)
  | .imul => (match st with
    | .inl y :: .inl x :: st => nx k n ls (xi (x32 (x * y)) :: st) h
    | _ => False)
  | .iand => (match st with
    | .inl y :: .inl x :: st => nx k n ls (xi (x_and x y) :: st) h
    | _ => False)
  | .ior => (match st with
    | .inl y :: .inl x :: st => nx k n ls (xi (x_or x y) :: st) h
    | _ => False)
  | .ishl => (match st with
    | .inl y :: .inl x :: st => nx k n ls (xi (x_shl x y) :: st) h
    | _ => False)
  | .ishr => (match st with
    | .inl y :: .inl x :: st => nx k n ls (xi (x_shr x y) :: st) h
    | _ => False)
  | .iushr => (match st with
    | .inl y :: .inl x :: st => nx k n ls (xi (x_ushr x y) :: st) h
    | _ => False)
  | .idiv => (match st with
    | .inl y :: .inl x :: st => y ≠ 0 ∧ nx k n ls (xi (x32 (x.tdiv y)) :: st) h
    | _ => False)
  | .irem => (match st with
    | .inl y :: .inl x :: st => y ≠ 0 ∧ nx k n ls (xi (x32 (x.tmod y)) :: st) h
    | _ => False)
  | .ladd => (match st with
    | .inr (.inl y) :: .inr (.inl x) :: st => nx k n ls (xl (x64 (x + y)) :: st) h
    | _ => False)
  | .lsub => (match st with
    | .inr (.inl y) :: .inr (.inl x) :: st => nx k n ls (xl (x64 (x - y)) :: st) h
    | _ => False)
  | .lmul => (match st with
    | .inr (.inl y) :: .inr (.inl x) :: st => nx k n ls (xl (x64 (x * y)) :: st) h
    | _ => False)
  | .land => (match st with
    | .inr (.inl y) :: .inr (.inl x) :: st => nx k n ls (xl (x_andL x y) :: st) h
    | _ => False)
  | .lor => (match st with
    | .inr (.inl y) :: .inr (.inl x) :: st => nx k n ls (xl (x_orL x y) :: st) h
    | _ => False)
  | .ldiv => (match st with
    | .inr (.inl y) :: .inr (.inl x) :: st => y ≠ 0 ∧ nx k n ls (xl (x64 (x.tdiv y)) :: st) h
    | _ => False)
  | .lcmp => (match st with
    | .inr (.inl y) :: .inr (.inl x) :: st => nx k n ls (xi (x_cmp x y) :: st) h
    | _ => False)
  | .lshl => (match st with
    | .inl y :: .inr (.inl x) :: st => nx k n ls (xl (x_shlL x y) :: st) h
    | _ => False)
  | .ineg => (match st with
    | .inl x :: st => nx k n ls (xi (x32 (-x)) :: st) h
    | _ => False)
  | .lneg => (match st with
    | .inr (.inl x) :: st => nx k n ls (xl (x64 (-x)) :: st) h
    | _ => False)
  | .i2l => (match st with
    | .inl x :: st => nx k n ls (xl x :: st) h
    | _ => False)
  | .l2i => (match st with
    | .inr (.inl x) :: st => nx k n ls (xi (x32 x) :: st) h
    | _ => False)
  | .i2c => (match st with
    | .inl x :: st => nx k n ls (xi (x_i2c x) :: st) h
    | _ => False)
  | .dup => (match st with
    | .inl x :: st => nx k n ls (xi x :: xi x :: st) h
    | .inr (.inr (.inl x)) :: st => nx k n ls (xr x :: xr x :: st) h
    | _ => False)
  | .pop => (match st with
    | .inl _ :: st => nx k n ls st h
    | .inr (.inr (.inl _)) :: st => nx k n ls st h
    | _ => False)
  | .dup2 => (match st with
    | .inl x :: .inr (.inr (.inl r)) :: st => nx k n ls (xi x :: xr r :: xi x :: xr r :: st) h
    | .inr (.inl x) :: st => nx k n ls (xl x :: xl x :: st) h
    | _ => False)
  | .if_icmp c _ => (match st with
    | .inl y :: .inl x :: st => x_icmp c x y (zJ g D M k n i.2.2.1 ls st h Q) (nx k n ls st h)
    | _ => False)
  | .ifCond c _ => (match st with
    | .inl x :: st => x_icmp c x 0 (zJ g D M k n i.2.2.1 ls st h Q) (nx k n ls st h)
    | _ => False)
  | .ifnull _ => (match st with
    | .inr (.inr (.inl r)) :: st => (r = 0 → zJ g D M k n i.2.2.1 ls st h Q) ∧ (¬ r = 0 → nx k n ls st h)
    | _ => False)
  | .ifnonnull _ => (match st with
    | .inr (.inr (.inl r)) :: st => (¬ r = 0 → zJ g D M k n i.2.2.1 ls st h Q) ∧ (r = 0 → nx k n ls st h)
    | _ => False)
  | .goto _ => nx k n ls st h
  | .tableswitch d lo hi offs => (match st with
    | .inl x :: st => ((x < lo ∨ hi < x) → zJ g D M k n ((pc : Int) + d).toNat ls st h Q) ∧ x_sw (fun t => zJ g D M k n t ls st h Q) pc x lo offs.toList
    | _ => False)
  | .getfield _ => (match st with
    | .inr (.inr (.inl r)) :: st => z_g f h r i.2.2.1 i.2.2.2.2.1 (nx k n ls (z_v f h r i.2.2.2.1 i.2.2.2.2.2.toNat :: st) h)
    | _ => False)
  | .putfield _ => (match st with
    | v :: .inr (.inr (.inl r)) :: st => z_g f h r i.2.2.1 i.2.2.2.2.1 (x_fitk i.2.2.2.2.2.toNat v (nx k n ls st (h.1, x_up h.2 r i.2.2.2.1 (x_pl v))))
    | _ => False)
  | .getstatic _ => nx k n ls (xr (2 + i.2.2.1) :: st) h
  | .new _ => (k + 1 ≤ x_bc M ∧ n + i.2.2.2.1 ≤ x_bs M) ∧ nx (k + 1) (n + i.2.2.2.1) ls (xr (h.1.length + 16) :: st) (h.1 ++ [(i.2.2.1, i.2.2.2.1)], x_nw h.2 (h.1.length + 16))
  | .newarray _ => (match st with
    | .inl N :: st => (0 ≤ N ∧ N < 1000000 ∧ k + 1 ≤ x_bc M ∧ n + N.toNat ≤ x_bs M) ∧ nx (k + 1) (n + N.toNat) ls (xr (h.1.length + 16) :: st) (h.1 ++ [(i.2.2.1, N.toNat)], x_nw h.2 (h.1.length + 16))
    | _ => False)
  | .anewarray _ => (match st with
    | .inl N :: st => (0 ≤ N ∧ N < 1000000 ∧ k + 1 ≤ x_bc M ∧ n + N.toNat ≤ x_bs M) ∧ nx (k + 1) (n + N.toNat) ls (xr (h.1.length + 16) :: st) (h.1 ++ [(13, N.toNat)], x_nw h.2 (h.1.length + 16))
    | _ => False)
  | .iaload => (match i.2.2.1, st with
    | 0, .inl j :: .inr (.inr (.inl r)) :: st => z_a f h r 10 j (nx k n ls (xi (h.2 r j.toNat) :: st) h)
    | 1, .inl j :: .inr (.inr (.inl 1)) :: st => (0 ≤ j ∧ j < g.L) ∧ nx k n ls (xi (g.xs j.toNat).toInt :: st) h
    | 2, .inl j :: .inr (.inr (.inl 2)) :: st => (0 ≤ j ∧ j < 10) ∧ nx k n ls (xi (x_ltv 0 j.toNat) :: st) h
    | 2, .inl j :: .inr (.inr (.inl 3)) :: st => (0 ≤ j ∧ j < 10) ∧ nx k n ls (xi (x_ltv 1 j.toNat) :: st) h
    | 2, .inl j :: .inr (.inr (.inl 4)) :: st => (0 ≤ j ∧ j < 10) ∧ nx k n ls (xi (x_ltv 2 j.toNat) :: st) h
    | _, _ => False)
  | .laload => (match st with
    | .inl j :: .inr (.inr (.inl r)) :: st => z_a f h r 11 j (nx k n ls (xl (h.2 r j.toNat) :: st) h)
    | _ => False)
  | .baload => (match st with
    | .inl j :: .inr (.inr (.inl r)) :: st => z_a f h r 12 j (nx k n ls (xi (h.2 r j.toNat) :: st) h)
    | _ => False)
  | .aaload => (match st with
    | .inl j :: .inr (.inr (.inl r)) :: st => z_a f h r 13 j (nx k n ls (xr (h.2 r j.toNat).toNat :: st) h)
    | _ => False)
  | .iastore => (match st with
    | .inl x :: .inl j :: .inr (.inr (.inl r)) :: st => z_a f h r 10 j (nx k n ls st (h.1, x_up h.2 r j.toNat x))
    | _ => False)
  | .lastore => (match st with
    | .inr (.inl x) :: .inl j :: .inr (.inr (.inl r)) :: st => z_a f h r 11 j (nx k n ls st (h.1, x_up h.2 r j.toNat x))
    | _ => False)
  | .bastore => (match st with
    | .inl x :: .inl j :: .inr (.inr (.inl r)) :: st => z_a f h r 12 j ((x = 0 ∨ x = 1) ∧ nx k n ls st (h.1, x_up h.2 r j.toNat x))
    | _ => False)
  | .aastore => (match st with
    | .inr (.inr (.inl v)) :: .inl j :: .inr (.inr (.inl r)) :: st => z_a f h r 13 j ((∃ N2 : Nat, x_is h v 0 N2) ∧ nx k n ls st (h.1, x_up h.2 r j.toNat v))
    | _ => False)
  | .arraylength => (match i.2.2.1, st with
    | 0, .inr (.inr (.inl r)) :: st => z_l f h r i.2.2.2.1 (fun N => nx k n ls (xi (N : Int) :: st) h)
    | 1, .inr (.inr (.inl 1)) :: st => nx k n ls (xi (g.L : Int) :: st) h
    | 2, .inr (.inr (.inl 2)) :: st => nx k n ls (xi 10 :: st) h
    | 2, .inr (.inr (.inl 3)) :: st => nx k n ls (xi 10 :: st) h
    | 2, .inr (.inr (.inl 4)) :: st => nx k n ls (xi 10 :: st) h
    | _, _ => False)
  | .invokevirtual _ => (match D with
    | 0 => False
    | D + 1 => (match st.drop (x_np i.2.2.1) with
      | .inr (.inr (.inl r)) :: st' => (bif Nat.ble (x_wd st') 8 then
          (z_g f h r i.2.2.2.1 (x_ft.getD i.2.2.2.1 []).length
            (bif i.2.2.2.2.2 == 0 then z_ck2 i.2.2.2.2.1 g D i.2.2.1 (xr r :: (st.take (x_np i.2.2.1)).reverse) h st' (fun st h => nx k n ls st h)
             else ((k + x_bc i.2.2.1 ≤ x_bc M ∧ n + x_bs i.2.2.1 ≤ x_bs M) ∧ z_ck2 i.2.2.2.2.1 g D i.2.2.1 (xr r :: (st.take (x_np i.2.2.1)).reverse) h st' (fun st h => nx (k + x_bc i.2.2.1) (n + x_bs i.2.2.1) ls st h)))) else False)
      | _ => False))
  | .invokespecial _ => (match D with
    | 0 => False
    | D + 1 => (bif i.2.2.2.2.1 == 9 then
        (match st with
        | .inr (.inr (.inl r)) :: st' => (bif Nat.ble (x_wd st') 8 then ((∃ c N : Nat, x_is h r c N) ∧ nx k n ls st' h) else False)
        | _ => False)
      else (match st.drop (x_np i.2.2.1) with
      | .inr (.inr (.inl r)) :: st' => (bif Nat.ble (x_wd st') 8 then
          ((∃ c N : Nat, x_is h r c N) ∧ (k + x_bc i.2.2.1 ≤ x_bc M ∧ n + x_bs i.2.2.1 ≤ x_bs M) ∧ z_ck2 3 g D i.2.2.1 (xr r :: (st.take (x_np i.2.2.1)).reverse) h st' (fun st h => nx (k + x_bc i.2.2.1) (n + x_bs i.2.2.1) ls st h)) else False)
      | _ => False)))
  | .invokestatic _ => (match D with
    | 0 => False
    | D + 1 => (match i.2.2.2.2.1 with
      | 20 => (match st with
        | .inl y :: .inl x :: st' => (bif Nat.ble (x_wd st') 8 then nx k n ls (xi (max x y) :: st') h else False)
        | _ => False)
      | 21 => (match st with
        | .inl y :: .inl x :: st' => (bif Nat.ble (x_wd st') 8 then nx k n ls (xi (min x y) :: st') h else False)
        | _ => False)
      | 22 => (match st with
        | .inr (.inl y) :: .inr (.inl x) :: st' => (bif Nat.ble (x_wd st') 8 then nx k n ls (xl (max x y) :: st') h else False)
        | _ => False)
      | 23 => (match st with
        | .inr (.inl y) :: .inr (.inl x) :: st' => (bif Nat.ble (x_wd st') 8 then nx k n ls (xl (min x y) :: st') h else False)
        | _ => False)
      | c => (bif Nat.ble (x_np i.2.2.1) st.length && Nat.ble (x_wd (st.drop (x_np i.2.2.1))) 8 then z_ck2 c g D i.2.2.1 (st.take (x_np i.2.2.1)).reverse h (st.drop (x_np i.2.2.1)) (fun st h => nx k n ls st h) else False)))
  | .ireturn => (match i.2.2.1, st with
    | 0, [.inl x] => Q (xi x) h
    | 3, [.inl x] => (x = 0 ∨ x = 1) ∧ Q (xi x) h
    | _, _ => False)
  | .lreturn => (match st with
    | [.inr (.inl x)] => Q (xl x) h
    | _ => False)
  | .areturn => (match st with
    | [.inr (.inr (.inl x))] => Q (xr x) h
    | _ => False)
  | .return_ => (match st with
    | [] => Q xu h
    | _ => False)
  | _ => False

abbrev zI : Type := Nat × xI
def z_wp (g : xG) (D M : Nat) (Q : xV → xH → Prop) : List zI → Nat → Nat → Nat → List xV → List xV → xH → Prop
  | [], pc, k, n, ls, st, h => zJ g D M k n pc ls st h Q
  | i :: is, pc, k, n, ls, st, h => z_wp1 g D M i.1 i.2 pc k n ls st h Q (fun k n ls st h => z_wp g D M Q is (x_npc pc i.2) k n ls st h)
theorem x_icmp_mono {c : Jvm.ClassFile.Cond} {x y : Int} {P N P' N' : Prop} (h1 : P → P') (h2 : N → N') (h : x_icmp c x y P N) : x_icmp c x y P' N' := by
  cases c <;> exact ⟨fun z => h1 (h.1 z), fun z => h2 (h.2 z)⟩
theorem x_sw_mono {J J' : Nat → Prop} {pc : Nat} {x : Int} (hJ : ∀ t, J t → J' t) : ∀ (os : List Int) (lo : Int), x_sw J pc x lo os → x_sw J' pc x lo os := by
  intro os
  induction os with
  | nil => intro lo _; trivial
  | cons o os ih => intro lo hs; exact ⟨fun z => hJ _ (hs.1 z), ih _ hs.2⟩
theorem x_bif {b : Bool} {P : Prop} (h : b = true) (p : P) : (bif b then P else False) := by rw [h]; exact p
theorem x_fitk_mono {t : Nat} {v : xV} {P P' : Prop} (h1 : P → P') (h : x_fitk t v P) : x_fitk t v P' := by
  unfold x_fitk at h ⊢
  split at h
  · exact h1 h
  · exact h1 h
  · exact h1 h
  · exact ⟨h.1, h1 h.2⟩
  · exact h.elim
set_option maxHeartbeats 4000000 in
theorem z2x {g : xG} {D M pc k n len f : Nat} {ins : Instr} {o : xO} {ls st : List xV} {h : xH} {Q : xV → xH → Prop} {nx : Nat → Nat → List xV → List xV → xH → Prop} (hni : (x_y M).name ≠ "<init>") (hc : x_ck3 M pc (ins, len, o) = true) (hs : zSh h) (hw : z_wp1 g D M f (ins, len, o) pc k n ls st h Q nx) :
    x_wp1 g D M (ins, len, o) pc k n ls st h (zQ Q) (fun k n ls st h => zSh h ∧ nx k n ls st h) := by
  obtain ⟨a, b, c, v⟩ := o
  cases ins with
  | iconst c0 =>
    exact ⟨hs, hw⟩
  | bipush c0 =>
    exact ⟨hs, hw⟩
  | sipush c0 =>
    exact ⟨hs, hw⟩
  | ldc_w j =>
    exact ⟨hs, hw⟩
  | ldc2_w j =>
    exact ⟨hs, hw⟩
  | lconst c0 =>
    exact ⟨hs, hw⟩
  | aconst_null =>
    exact ⟨hs, hw⟩
  | getstatic j =>
    exact ⟨hs, hw⟩
  | goto off =>
    exact ⟨hs, hw⟩
  | ldc j =>
    simp only [z_wp1] at hw
    simp only [x_wp1]
    cases a with
    | zero => exact ⟨hs, hw⟩
    | succ a => exact ⟨hs, hw⟩
  | iadd =>
    simp only [z_wp1] at hw
    split at hw
    · exact ⟨hs, hw⟩
    · exact hw.elim
  | isub =>
    simp only [z_wp1] at hw
    split at hw
    · exact ⟨hs, hw⟩
    · exact hw.elim
  | imul =>
    simp only [z_wp1] at hw
    split at hw
    · exact ⟨hs, hw⟩
    · exact hw.elim
  | iand =>
    simp only [z_wp1] at hw
    split at hw
    · exact ⟨hs, hw⟩
    · exact hw.elim
  | ior =>
    simp only [z_wp1] at hw
    split at hw
    · exact ⟨hs, hw⟩
    · exact hw.elim
  | ishl =>
    simp only [z_wp1] at hw
    split at hw
    · exact ⟨hs, hw⟩
    · exact hw.elim
  | ishr =>
    simp only [z_wp1] at hw
    split at hw
    · exact ⟨hs, hw⟩
    · exact hw.elim
  | iushr =>
    simp only [z_wp1] at hw
    split at hw
    · exact ⟨hs, hw⟩
    · exact hw.elim
  | ladd =>
    simp only [z_wp1] at hw
    split at hw
    · exact ⟨hs, hw⟩
    · exact hw.elim
  | lsub =>
    simp only [z_wp1] at hw
    split at hw
    · exact ⟨hs, hw⟩
    · exact hw.elim
  | lmul =>
    simp only [z_wp1] at hw
    split at hw
    · exact ⟨hs, hw⟩
    · exact hw.elim
  | land =>
    simp only [z_wp1] at hw
    split at hw
    · exact ⟨hs, hw⟩
    · exact hw.elim
  | lor =>
    simp only [z_wp1] at hw
    split at hw
    · exact ⟨hs, hw⟩
    · exact hw.elim
  | lcmp =>
    simp only [z_wp1] at hw
    split at hw
    · exact ⟨hs, hw⟩
    · exact hw.elim
  | lshl =>
    simp only [z_wp1] at hw
    split at hw
    · exact ⟨hs, hw⟩
    · exact hw.elim
  | ineg =>
    simp only [z_wp1] at hw
    split at hw
    · exact ⟨hs, hw⟩
    · exact hw.elim
  | lneg =>
    simp only [z_wp1] at hw
    split at hw
    · exact ⟨hs, hw⟩
    · exact hw.elim
  | i2l =>
    simp only [z_wp1] at hw
    split at hw
    · exact ⟨hs, hw⟩
    · exact hw.elim
  | l2i =>
    simp only [z_wp1] at hw
    split at hw
    · exact ⟨hs, hw⟩
    · exact hw.elim
  | i2c =>
    simp only [z_wp1] at hw
    split at hw
    · exact ⟨hs, hw⟩
    · exact hw.elim
  | istore j =>
    simp only [z_wp1] at hw
    split at hw
    · exact ⟨hs, hw⟩
    · exact hw.elim
  | istore_n j =>
    simp only [z_wp1] at hw
    split at hw
    · exact ⟨hs, hw⟩
    · exact hw.elim
  | lstore j =>
    simp only [z_wp1] at hw
    split at hw
    · exact ⟨hs, hw⟩
    · exact hw.elim
  | lstore_n j =>
    simp only [z_wp1] at hw
    split at hw
    · exact ⟨hs, hw⟩
    · exact hw.elim
  | astore j =>
    simp only [z_wp1] at hw
    split at hw
    · exact ⟨hs, hw⟩
    · exact hw.elim
  | astore_n j =>
    simp only [z_wp1] at hw
    split at hw
    · exact ⟨hs, hw⟩
    · exact hw.elim
  | idiv =>
    simp only [z_wp1] at hw
    split at hw
    · exact ⟨hw.1, hs, hw.2⟩
    · exact hw.elim
  | irem =>
    simp only [z_wp1] at hw
    split at hw
    · exact ⟨hw.1, hs, hw.2⟩
    · exact hw.elim
  | ldiv =>
    simp only [z_wp1] at hw
    split at hw
    · exact ⟨hw.1, hs, hw.2⟩
    · exact hw.elim
  | iload j =>
    simp only [z_wp1] at hw
    simp only [x_wp1]
    split at hw
    · rename_i hx
      rw [hx]
      exact ⟨hs, hw⟩
    · exact hw.elim
  | iload_n j =>
    simp only [z_wp1] at hw
    simp only [x_wp1]
    split at hw
    · rename_i hx
      rw [hx]
      exact ⟨hs, hw⟩
    · exact hw.elim
  | lload j =>
    simp only [z_wp1] at hw
    simp only [x_wp1]
    split at hw
    · rename_i hx
      rw [hx]
      exact ⟨hs, hw⟩
    · exact hw.elim
  | lload_n j =>
    simp only [z_wp1] at hw
    simp only [x_wp1]
    split at hw
    · rename_i hx
      rw [hx]
      exact ⟨hs, hw⟩
    · exact hw.elim
  | aload j =>
    simp only [z_wp1] at hw
    simp only [x_wp1]
    split at hw
    · rename_i hx
      rw [hx]
      exact ⟨hs, hw⟩
    · exact hw.elim
  | aload_n j =>
    simp only [z_wp1] at hw
    simp only [x_wp1]
    split at hw
    · rename_i hx
      rw [hx]
      exact ⟨hs, hw⟩
    · exact hw.elim
  | iinc j c0 =>
    simp only [z_wp1] at hw
    simp only [x_wp1]
    split at hw
    · rename_i hx
      rw [hx]
      exact ⟨hs, hw⟩
    · exact hw.elim
  | dup =>
    simp only [z_wp1] at hw
    split at hw
    · exact ⟨hs, hw⟩
    · exact ⟨hs, hw⟩
    · exact hw.elim
  | pop =>
    simp only [z_wp1] at hw
    split at hw
    · exact ⟨hs, hw⟩
    · exact ⟨hs, hw⟩
    · exact hw.elim
  | dup2 =>
    simp only [z_wp1] at hw
    split at hw
    · exact ⟨hs, hw⟩
    · exact ⟨hs, hw⟩
    · exact hw.elim
  | if_icmp c0 off =>
    simp only [z_wp1] at hw
    split at hw
    · exact x_icmp_mono (fun z => z hs) (fun z => ⟨hs, z⟩) hw
    · exact hw.elim
  | ifCond c0 off =>
    simp only [z_wp1] at hw
    split at hw
    · exact x_icmp_mono (fun z => z hs) (fun z => ⟨hs, z⟩) hw
    · exact hw.elim
  | ifnull off =>
    simp only [z_wp1] at hw
    split at hw
    · exact ⟨fun z => hw.1 z hs, fun z => ⟨hs, hw.2 z⟩⟩
    · exact hw.elim
  | ifnonnull off =>
    simp only [z_wp1] at hw
    split at hw
    · exact ⟨fun z => hw.1 z hs, fun z => ⟨hs, hw.2 z⟩⟩
    · exact hw.elim
  | tableswitch d lo hi offs =>
    simp only [z_wp1] at hw
    split at hw
    · exact ⟨fun z => hw.1 z hs, x_sw_mono (fun t z => z hs) _ _ hw.2⟩
    · exact hw.elim
  | getfield j =>
    simp only [z_wp1] at hw
    split at hw
    · obtain ⟨h1, h2⟩ := z_g_ok hs hw
      rw [z_v_ok hs] at h2
      exact ⟨h1, hs, h2⟩
    · exact hw.elim
  | putfield j =>
    simp only [x_ck3, Bool.and_eq_true, Bool.or_eq_true, Bool.not_eq_true', decide_eq_true_eq] at hc
    have hfin : (x_T a b).2.2.2 = false := by
      rcases hc.2 with z | z
      · exact z
      · exact absurd z.1 hni
    simp only [z_wp1] at hw
    split at hw
    · obtain ⟨h1, h2⟩ := z_g_ok hs hw
      exact ⟨h1, x_fitk_mono (fun z => ⟨z_up hs h1 (Or.inr hfin), z⟩) h2⟩
    · exact hw.elim
  | new j =>
    exact ⟨hw.1, z_nw hs, hw.2⟩
  | newarray t =>
    simp only [z_wp1] at hw
    split at hw
    · exact ⟨hw.1, z_nw hs, hw.2⟩
    · exact hw.elim
  | anewarray j =>
    simp only [z_wp1] at hw
    split at hw
    · exact ⟨hw.1, z_nw hs, hw.2⟩
    · exact hw.elim
  | iaload =>
    simp only [z_wp1] at hw
    split at hw
    · obtain ⟨h1, h2⟩ := z_a_ok hs hw
      exact ⟨h1, hs, h2⟩
    · exact ⟨hw.1, hs, hw.2⟩
    · exact ⟨hw.1, hs, hw.2⟩
    · exact ⟨hw.1, hs, hw.2⟩
    · exact ⟨hw.1, hs, hw.2⟩
    · exact hw.elim
  | laload =>
    simp only [z_wp1] at hw
    split at hw
    · obtain ⟨h1, h2⟩ := z_a_ok hs hw
      exact ⟨h1, hs, h2⟩
    · exact hw.elim
  | baload =>
    simp only [z_wp1] at hw
    split at hw
    · obtain ⟨h1, h2⟩ := z_a_ok hs hw
      exact ⟨h1, hs, h2⟩
    · exact hw.elim
  | aaload =>
    simp only [z_wp1] at hw
    split at hw
    · obtain ⟨h1, h2⟩ := z_a_ok hs hw
      exact ⟨h1, hs, h2⟩
    · exact hw.elim
  | iastore =>
    simp only [z_wp1] at hw
    split at hw
    · obtain ⟨⟨N, h1⟩, h2⟩ := z_a_ok hs hw
      exact ⟨⟨N, h1⟩, z_up hs h1.1 (Or.inl (by decide)), h2⟩
    · exact hw.elim
  | lastore =>
    simp only [z_wp1] at hw
    split at hw
    · obtain ⟨⟨N, h1⟩, h2⟩ := z_a_ok hs hw
      exact ⟨⟨N, h1⟩, z_up hs h1.1 (Or.inl (by decide)), h2⟩
    · exact hw.elim
  | bastore =>
    simp only [z_wp1] at hw
    split at hw
    · obtain ⟨⟨N, h1⟩, h2⟩ := z_a_ok hs hw
      exact ⟨⟨N, h1⟩, h2.1, z_up hs h1.1 (Or.inl (by decide)), h2.2⟩
    · exact hw.elim
  | aastore =>
    simp only [z_wp1] at hw
    split at hw
    · obtain ⟨⟨N, h1⟩, h2⟩ := z_a_ok hs hw
      exact ⟨⟨N, h1⟩, h2.1, z_up hs h1.1 (Or.inl (by decide)), h2.2⟩
    · exact hw.elim
  | arraylength =>
    simp only [z_wp1] at hw
    split at hw
    · obtain ⟨N, h1, h2⟩ := z_l_ok hs hw
      exact ⟨N, h1, hs, h2⟩
    · exact ⟨hs, hw⟩
    · exact ⟨hs, hw⟩
    · exact ⟨hs, hw⟩
    · exact ⟨hs, hw⟩
    · exact hw.elim
  | invokevirtual j =>
    simp only [z_wp1] at hw
    simp only [x_wp1]
    split at hw
    · exact hw.elim
    · split at hw
      · rename_i r st' hst
        rw [hst]
        cases hwd : Nat.ble (x_wd st') 8 with
        | false => rw [hwd] at hw; exact hw.elim
        | true =>
          rw [hwd] at hw
          simp only [hwd]
          obtain ⟨h1, h2⟩ := z_g_ok hs hw
          refine ⟨h1, ?_⟩
          cases hv : (v == 0) with
          | true =>
            rw [hv] at h2
            exact z_ck2_ok hs h2
          | false =>
            rw [hv] at h2
            exact ⟨h2.1, z_ck2_ok hs h2.2⟩
      · exact hw.elim
  | invokespecial j =>
    simp only [z_wp1] at hw
    simp only [x_wp1]
    split at hw
    · exact hw.elim
    · cases h9 : (c == 9) with
      | true =>
        rw [h9] at hw
        simp only [cond_true] at hw ⊢
        split at hw
        · rename_i r st'
          cases hwd : Nat.ble (x_wd st') 8 with
          | false => rw [hwd] at hw; exact hw.elim
          | true =>
            rw [hwd] at hw
            simp only [hwd]
            exact ⟨hw.1, hs, hw.2⟩
        · exact hw.elim
      | false =>
        rw [h9] at hw
        simp only [cond_false] at hw ⊢
        split at hw
        · rename_i r st' hst
          rw [hst]
          cases hwd : Nat.ble (x_wd st') 8 with
          | false => rw [hwd] at hw; exact hw.elim
          | true =>
            rw [hwd] at hw
            simp only [hwd]
            exact ⟨hw.1, hw.2.1, z_ck2_ok hs hw.2.2⟩
        · exact hw.elim
  | invokestatic j =>
    simp only [z_wp1] at hw
    simp only [x_wp1]
    split at hw
    · exact hw.elim
    · split at hw
      · split at hw
        · rename_i st'
          cases hwd : Nat.ble (x_wd st') 8 with
          | false => rw [hwd] at hw; exact hw.elim
          | true =>
            rw [hwd] at hw
            simp only [hwd]
            exact ⟨hs, hw⟩
        · exact hw.elim
      · split at hw
        · rename_i st'
          cases hwd : Nat.ble (x_wd st') 8 with
          | false => rw [hwd] at hw; exact hw.elim
          | true =>
            rw [hwd] at hw
            simp only [hwd]
            exact ⟨hs, hw⟩
        · exact hw.elim
      · split at hw
        · rename_i st'
          cases hwd : Nat.ble (x_wd st') 8 with
          | false => rw [hwd] at hw; exact hw.elim
          | true =>
            rw [hwd] at hw
            simp only [hwd]
            exact ⟨hs, hw⟩
        · exact hw.elim
      · split at hw
        · rename_i st'
          cases hwd : Nat.ble (x_wd st') 8 with
          | false => rw [hwd] at hw; exact hw.elim
          | true =>
            rw [hwd] at hw
            simp only [hwd]
            exact ⟨hs, hw⟩
        · exact hw.elim
      · rename_i c1 c2 c3 c4
        dsimp only
        split
        · exact (c1 rfl).elim
        · exact (c2 rfl).elim
        · exact (c3 rfl).elim
        · exact (c4 rfl).elim
        · cases hwd : (Nat.ble (x_np a) st.length && Nat.ble (x_wd (st.drop (x_np a))) 8) with
          | false => rw [hwd] at hw; exact hw.elim
          | true =>
            rw [hwd] at hw
            exact z_ck2_ok hs hw
  | ireturn =>
    simp only [z_wp1] at hw
    split at hw
    · exact ⟨hs, hw⟩
    · exact ⟨hw.1, hs, hw.2⟩
    · exact hw.elim
  | lreturn =>
    simp only [z_wp1] at hw
    split at hw
    · exact ⟨hs, hw⟩
    · exact hw.elim
  | areturn =>
    simp only [z_wp1] at hw
    split at hw
    · exact ⟨hs, hw⟩
    · exact hw.elim
  | return_ =>
    simp only [z_wp1] at hw
    split at hw
    · exact ⟨hs, hw⟩
    · exact hw.elim
  | _ => exact hw.elim
theorem z_blk {g : xG} {D M : Nat} {Q : xV → xH → Prop} (hM : M < 279) (hni : (x_y M).name ≠ "<init>") : ∀ (is : List zI) {pc k n : Nat} {ls st : List xV} {h : xH}, x_okb M pc (is.map fun q => q.2) = true → z_wp g D M Q is pc k n ls st h → zJ g D M k n pc ls st h Q := by
  intro is
  induction is with
  | nil => intro pc k n ls st h _ hw; exact hw
  | cons i is ih =>
    intro pc k n ls st h hc hw hs
    simp only [List.map_cons, x_okb, Bool.and_eq_true, decide_eq_true_eq] at hc
    obtain ⟨⟨h1, h2⟩, h3⟩ := hc
    exact x_wp1_ok hM h1 h2 (z2x hni h2 hs hw) (fun k n ls st h hq => ih h3 hq.2 hq.1)
theorem zj_mask {g : xG} {D M k n pc : Nat} {ls st : List xV} {h : xH} {Q : xV → xH → Prop} (bs : List Bool) (kk : zJ g D M k n pc (x_mask bs ls) st h Q) : zJ g D M k n pc ls st h Q := fun hs => xj_mask bs (kk hs)
end
