section
-- ===== PART A: goes FIRST, ahead of the names: the tables' words, and 'selects' of the private methods out of them =====
/-- a private method of a class that the tables say can be made, by its rows of tables_1 -/
def lw_okq (q : MethodName × Nat) : Prop := (q.1.cls ≠ "java/lang/invoke/MethodHandle" ∧ q.1.cls ≠ "java/lang/invoke/VarHandle") ∧ Cond.instantiable q.1.cls q.2 ∈ tables_1 ∧ Cond.privateMethod q.1 ∈ tables_1 ∧ Cond.instanceMethod q.1 ∈ tables_1
theorem lw_p0 : lw_okq (⟨"LeapJoin$Tape", "isClause", "(LLeapJoin$Tables;)Z"⟩, 3) := ⟨⟨by decide +kernel, by decide +kernel⟩, List.mem_of_getElem? (i := 31) (by decide +kernel), List.mem_of_getElem? (i := 306) (by decide +kernel), List.mem_of_getElem? (i := 307) (by decide +kernel)⟩
theorem lw_p1 : lw_okq (⟨"LeapJoin$Tape", "peek", "()I"⟩, 3) := ⟨⟨by decide +kernel, by decide +kernel⟩, List.mem_of_getElem? (i := 31) (by decide +kernel), List.mem_of_getElem? (i := 314) (by decide +kernel), List.mem_of_getElem? (i := 315) (by decide +kernel)⟩
theorem lw_p2 : lw_okq (⟨"LeapJoin$Tape", "isRow", "(LLeapJoin$Tables;I)Z"⟩, 3) := ⟨⟨by decide +kernel, by decide +kernel⟩, List.mem_of_getElem? (i := 31) (by decide +kernel), List.mem_of_getElem? (i := 333) (by decide +kernel), List.mem_of_getElem? (i := 334) (by decide +kernel)⟩
theorem lw_p3 : lw_okq (⟨"LeapJoin$Tape", "number", "()I"⟩, 3) := ⟨⟨by decide +kernel, by decide +kernel⟩, List.mem_of_getElem? (i := 31) (by decide +kernel), List.mem_of_getElem? (i := 337) (by decide +kernel), List.mem_of_getElem? (i := 338) (by decide +kernel)⟩
theorem lw_p4 : lw_okq (⟨"LeapJoin$Tape", "isStep", "(LLeapJoin$Script;)Z"⟩, 3) := ⟨⟨by decide +kernel, by decide +kernel⟩, List.mem_of_getElem? (i := 31) (by decide +kernel), List.mem_of_getElem? (i := 361) (by decide +kernel), List.mem_of_getElem? (i := 362) (by decide +kernel)⟩
theorem lw_p5 : lw_okq (⟨"LeapJoin$Tape", "isOrder", "(LLeapJoin$Script;)Z"⟩, 3) := ⟨⟨by decide +kernel, by decide +kernel⟩, List.mem_of_getElem? (i := 31) (by decide +kernel), List.mem_of_getElem? (i := 365) (by decide +kernel), List.mem_of_getElem? (i := 366) (by decide +kernel)⟩
theorem lw_p6 : lw_okq (⟨"LeapJoin$Tape", "isRowOfStep", "(LLeapJoin$Script;)Z"⟩, 3) := ⟨⟨by decide +kernel, by decide +kernel⟩, List.mem_of_getElem? (i := 31) (by decide +kernel), List.mem_of_getElem? (i := 379) (by decide +kernel), List.mem_of_getElem? (i := 380) (by decide +kernel)⟩
theorem lw_p7 : lw_okq (⟨"LeapJoin", "textOfTables", "()I"⟩, 17) := ⟨⟨by decide +kernel, by decide +kernel⟩, List.mem_of_getElem? (i := 23) (by decide +kernel), List.mem_of_getElem? (i := 391) (by decide +kernel), List.mem_of_getElem? (i := 392) (by decide +kernel)⟩
theorem lw_p8 : lw_okq (⟨"LeapJoin", "renew", "()V"⟩, 17) := ⟨⟨by decide +kernel, by decide +kernel⟩, List.mem_of_getElem? (i := 23) (by decide +kernel), List.mem_of_getElem? (i := 410) (by decide +kernel), List.mem_of_getElem? (i := 411) (by decide +kernel)⟩
theorem lw_p9 : lw_okq (⟨"LeapJoin$Join", "addLetters", "(I)V"⟩, 13) := ⟨⟨by decide +kernel, by decide +kernel⟩, List.mem_of_getElem? (i := 87) (by decide +kernel), List.mem_of_getElem? (i := 435) (by decide +kernel), List.mem_of_getElem? (i := 436) (by decide +kernel)⟩
theorem lw_p10 : lw_okq (⟨"LeapJoin$Join", "open", "(LLeapJoin$Tables;)V"⟩, 13) := ⟨⟨by decide +kernel, by decide +kernel⟩, List.mem_of_getElem? (i := 87) (by decide +kernel), List.mem_of_getElem? (i := 439) (by decide +kernel), List.mem_of_getElem? (i := 440) (by decide +kernel)⟩
theorem lw_p11 : lw_okq (⟨"LeapJoin$Join", "load", "(LLeapJoin$Tables;I)V"⟩, 13) := ⟨⟨by decide +kernel, by decide +kernel⟩, List.mem_of_getElem? (i := 87) (by decide +kernel), List.mem_of_getElem? (i := 445) (by decide +kernel), List.mem_of_getElem? (i := 446) (by decide +kernel)⟩
theorem lw_p12 : lw_okq (⟨"LeapJoin$Join", "addSorted", "(II)V"⟩, 13) := ⟨⟨by decide +kernel, by decide +kernel⟩, List.mem_of_getElem? (i := 87) (by decide +kernel), List.mem_of_getElem? (i := 451) (by decide +kernel), List.mem_of_getElem? (i := 452) (by decide +kernel)⟩
theorem lw_p13 : lw_okq (⟨"LeapJoin$Join", "search", "(I)V"⟩, 13) := ⟨⟨by decide +kernel, by decide +kernel⟩, List.mem_of_getElem? (i := 87) (by decide +kernel), List.mem_of_getElem? (i := 455) (by decide +kernel), List.mem_of_getElem? (i := 456) (by decide +kernel)⟩
theorem lw_p14 : lw_okq (⟨"LeapJoin$Join", "isOpened", "(I)Z"⟩, 13) := ⟨⟨by decide +kernel, by decide +kernel⟩, List.mem_of_getElem? (i := 87) (by decide +kernel), List.mem_of_getElem? (i := 459) (by decide +kernel), List.mem_of_getElem? (i := 460) (by decide +kernel)⟩
theorem lw_p15 : lw_okq (⟨"LeapJoin$Join", "greatestKey", "(I)I"⟩, 13) := ⟨⟨by decide +kernel, by decide +kernel⟩, List.mem_of_getElem? (i := 87) (by decide +kernel), List.mem_of_getElem? (i := 463) (by decide +kernel), List.mem_of_getElem? (i := 464) (by decide +kernel)⟩
def lw_privs_1 : List (MethodName × Nat) := [(⟨"LeapJoin$Tape", "isClause", "(LLeapJoin$Tables;)Z"⟩, 3), (⟨"LeapJoin$Tape", "peek", "()I"⟩, 3), (⟨"LeapJoin$Tape", "isRow", "(LLeapJoin$Tables;I)Z"⟩, 3), (⟨"LeapJoin$Tape", "number", "()I"⟩, 3), (⟨"LeapJoin$Tape", "isStep", "(LLeapJoin$Script;)Z"⟩, 3), (⟨"LeapJoin$Tape", "isOrder", "(LLeapJoin$Script;)Z"⟩, 3), (⟨"LeapJoin$Tape", "isRowOfStep", "(LLeapJoin$Script;)Z"⟩, 3), (⟨"LeapJoin", "textOfTables", "()I"⟩, 17), (⟨"LeapJoin", "renew", "()V"⟩, 17), (⟨"LeapJoin$Join", "addLetters", "(I)V"⟩, 13), (⟨"LeapJoin$Join", "open", "(LLeapJoin$Tables;)V"⟩, 13), (⟨"LeapJoin$Join", "load", "(LLeapJoin$Tables;I)V"⟩, 13), (⟨"LeapJoin$Join", "addSorted", "(II)V"⟩, 13), (⟨"LeapJoin$Join", "search", "(I)V"⟩, 13), (⟨"LeapJoin$Join", "isOpened", "(I)Z"⟩, 13), (⟨"LeapJoin$Join", "greatestKey", "(I)I"⟩, 13)]
theorem lw_r1 : ∀ q ∈ lw_privs_1, lw_okq q := List.forall_mem_cons.mpr ⟨lw_p0, List.forall_mem_cons.mpr ⟨lw_p1, List.forall_mem_cons.mpr ⟨lw_p2, List.forall_mem_cons.mpr ⟨lw_p3, List.forall_mem_cons.mpr ⟨lw_p4, List.forall_mem_cons.mpr ⟨lw_p5, List.forall_mem_cons.mpr ⟨lw_p6, List.forall_mem_cons.mpr ⟨lw_p7, List.forall_mem_cons.mpr ⟨lw_p8, List.forall_mem_cons.mpr ⟨lw_p9, List.forall_mem_cons.mpr ⟨lw_p10, List.forall_mem_cons.mpr ⟨lw_p11, List.forall_mem_cons.mpr ⟨lw_p12, List.forall_mem_cons.mpr ⟨lw_p13, List.forall_mem_cons.mpr ⟨lw_p14, List.forall_mem_cons.mpr ⟨lw_p15, fun _ h => absurd h List.not_mem_nil⟩⟩⟩⟩⟩⟩⟩⟩⟩⟩⟩⟩⟩⟩⟩⟩
theorem lw_p16 : lw_okq (⟨"LeapJoin$Join", "lowestBelow", "(II)I"⟩, 13) := ⟨⟨by decide +kernel, by decide +kernel⟩, List.mem_of_getElem? (i := 87) (by decide +kernel), List.mem_of_getElem? (i := 470) (by decide +kernel), List.mem_of_getElem? (i := 471) (by decide +kernel)⟩
theorem lw_p17 : lw_okq (⟨"LeapJoin$Join", "deepen", "(II)V"⟩, 13) := ⟨⟨by decide +kernel, by decide +kernel⟩, List.mem_of_getElem? (i := 87) (by decide +kernel), List.mem_of_getElem? (i := 474) (by decide +kernel), List.mem_of_getElem? (i := 475) (by decide +kernel)⟩
theorem lw_p18 : lw_okq (⟨"LeapJoin$Join", "narrow", "(II)V"⟩, 13) := ⟨⟨by decide +kernel, by decide +kernel⟩, List.mem_of_getElem? (i := 87) (by decide +kernel), List.mem_of_getElem? (i := 478) (by decide +kernel), List.mem_of_getElem? (i := 479) (by decide +kernel)⟩
theorem lw_p19 : lw_okq (⟨"LeapJoin$Join", "isLeapt", "(II)Z"⟩, 13) := ⟨⟨by decide +kernel, by decide +kernel⟩, List.mem_of_getElem? (i := 87) (by decide +kernel), List.mem_of_getElem? (i := 482) (by decide +kernel), List.mem_of_getElem? (i := 483) (by decide +kernel)⟩
theorem lw_p20 : lw_okq (⟨"LeapJoin", "textOfScript", "()I"⟩, 17) := ⟨⟨by decide +kernel, by decide +kernel⟩, List.mem_of_getElem? (i := 23) (by decide +kernel), List.mem_of_getElem? (i := 486) (by decide +kernel), List.mem_of_getElem? (i := 487) (by decide +kernel)⟩
theorem lw_p21 : lw_okq (⟨"LeapJoin", "isAsked", "(I)Z"⟩, 17) := ⟨⟨by decide +kernel, by decide +kernel⟩, List.mem_of_getElem? (i := 23) (by decide +kernel), List.mem_of_getElem? (i := 518) (by decide +kernel), List.mem_of_getElem? (i := 519) (by decide +kernel)⟩
theorem lw_p22 : lw_okq (⟨"LeapJoin", "isDone", "(IIIII)Z"⟩, 17) := ⟨⟨by decide +kernel, by decide +kernel⟩, List.mem_of_getElem? (i := 23) (by decide +kernel), List.mem_of_getElem? (i := 675) (by decide +kernel), List.mem_of_getElem? (i := 676) (by decide +kernel)⟩
theorem lw_p23 : lw_okq (⟨"LeapJoin", "attempt", "(IIIII)I"⟩, 17) := ⟨⟨by decide +kernel, by decide +kernel⟩, List.mem_of_getElem? (i := 23) (by decide +kernel), List.mem_of_getElem? (i := 679) (by decide +kernel), List.mem_of_getElem? (i := 680) (by decide +kernel)⟩
theorem lw_p24 : lw_okq (⟨"LeapJoin$Tables", "isFitting", "(III)Z"⟩, 7) := ⟨⟨by decide +kernel, by decide +kernel⟩, List.mem_of_getElem? (i := 49) (by decide +kernel), List.mem_of_getElem? (i := 687) (by decide +kernel), List.mem_of_getElem? (i := 688) (by decide +kernel)⟩
theorem lw_p25 : lw_okq (⟨"LeapJoin$Tables", "remove", "(II)V"⟩, 7) := ⟨⟨by decide +kernel, by decide +kernel⟩, List.mem_of_getElem? (i := 49) (by decide +kernel), List.mem_of_getElem? (i := 708) (by decide +kernel), List.mem_of_getElem? (i := 709) (by decide +kernel)⟩
theorem lw_p26 : lw_okq (⟨"LeapJoin", "goOneWay", "()V"⟩, 17) := ⟨⟨by decide +kernel, by decide +kernel⟩, List.mem_of_getElem? (i := 23) (by decide +kernel), List.mem_of_getElem? (i := 733) (by decide +kernel), List.mem_of_getElem? (i := 734) (by decide +kernel)⟩
theorem lw_p27 : lw_okq (⟨"LeapJoin", "draw", "(I)I"⟩, 17) := ⟨⟨by decide +kernel, by decide +kernel⟩, List.mem_of_getElem? (i := 23) (by decide +kernel), List.mem_of_getElem? (i := 737) (by decide +kernel), List.mem_of_getElem? (i := 738) (by decide +kernel)⟩
theorem lw_p28 : lw_okq (⟨"LeapJoin", "isScript", "(I)Z"⟩, 17) := ⟨⟨by decide +kernel, by decide +kernel⟩, List.mem_of_getElem? (i := 23) (by decide +kernel), List.mem_of_getElem? (i := 797) (by decide +kernel), List.mem_of_getElem? (i := 798) (by decide +kernel)⟩
theorem lw_p29 : lw_okq (⟨"LeapJoin", "tableWithMostRows", "()I"⟩, 17) := ⟨⟨by decide +kernel, by decide +kernel⟩, List.mem_of_getElem? (i := 23) (by decide +kernel), List.mem_of_getElem? (i := 829) (by decide +kernel), List.mem_of_getElem? (i := 830) (by decide +kernel)⟩
theorem lw_p30 : lw_okq (⟨"LeapJoin", "tableWithMostGiven", "()I"⟩, 17) := ⟨⟨by decide +kernel, by decide +kernel⟩, List.mem_of_getElem? (i := 23) (by decide +kernel), List.mem_of_getElem? (i := 833) (by decide +kernel), List.mem_of_getElem? (i := 834) (by decide +kernel)⟩
theorem lw_p31 : lw_okq (⟨"LeapJoin", "givenRows", "(I)I"⟩, 17) := ⟨⟨by decide +kernel, by decide +kernel⟩, List.mem_of_getElem? (i := 23) (by decide +kernel), List.mem_of_getElem? (i := 837) (by decide +kernel), List.mem_of_getElem? (i := 838) (by decide +kernel)⟩
def lw_privs_2 : List (MethodName × Nat) := [(⟨"LeapJoin$Join", "lowestBelow", "(II)I"⟩, 13), (⟨"LeapJoin$Join", "deepen", "(II)V"⟩, 13), (⟨"LeapJoin$Join", "narrow", "(II)V"⟩, 13), (⟨"LeapJoin$Join", "isLeapt", "(II)Z"⟩, 13), (⟨"LeapJoin", "textOfScript", "()I"⟩, 17), (⟨"LeapJoin", "isAsked", "(I)Z"⟩, 17), (⟨"LeapJoin", "isDone", "(IIIII)Z"⟩, 17), (⟨"LeapJoin", "attempt", "(IIIII)I"⟩, 17), (⟨"LeapJoin$Tables", "isFitting", "(III)Z"⟩, 7), (⟨"LeapJoin$Tables", "remove", "(II)V"⟩, 7), (⟨"LeapJoin", "goOneWay", "()V"⟩, 17), (⟨"LeapJoin", "draw", "(I)I"⟩, 17), (⟨"LeapJoin", "isScript", "(I)Z"⟩, 17), (⟨"LeapJoin", "tableWithMostRows", "()I"⟩, 17), (⟨"LeapJoin", "tableWithMostGiven", "()I"⟩, 17), (⟨"LeapJoin", "givenRows", "(I)I"⟩, 17)]
theorem lw_r2 : ∀ q ∈ lw_privs_2, lw_okq q := List.forall_mem_cons.mpr ⟨lw_p16, List.forall_mem_cons.mpr ⟨lw_p17, List.forall_mem_cons.mpr ⟨lw_p18, List.forall_mem_cons.mpr ⟨lw_p19, List.forall_mem_cons.mpr ⟨lw_p20, List.forall_mem_cons.mpr ⟨lw_p21, List.forall_mem_cons.mpr ⟨lw_p22, List.forall_mem_cons.mpr ⟨lw_p23, List.forall_mem_cons.mpr ⟨lw_p24, List.forall_mem_cons.mpr ⟨lw_p25, List.forall_mem_cons.mpr ⟨lw_p26, List.forall_mem_cons.mpr ⟨lw_p27, List.forall_mem_cons.mpr ⟨lw_p28, List.forall_mem_cons.mpr ⟨lw_p29, List.forall_mem_cons.mpr ⟨lw_p30, List.forall_mem_cons.mpr ⟨lw_p31, fun _ h => absurd h List.not_mem_nil⟩⟩⟩⟩⟩⟩⟩⟩⟩⟩⟩⟩⟩⟩⟩⟩
theorem lw_p32 : lw_okq (⟨"LeapJoin", "dangling", "()I"⟩, 17) := ⟨⟨by decide +kernel, by decide +kernel⟩, List.mem_of_getElem? (i := 23) (by decide +kernel), List.mem_of_getElem? (i := 847) (by decide +kernel), List.mem_of_getElem? (i := 848) (by decide +kernel)⟩
theorem lw_p33 : lw_okq (⟨"LeapJoin", "tellingCouples", "()I"⟩, 17) := ⟨⟨by decide +kernel, by decide +kernel⟩, List.mem_of_getElem? (i := 23) (by decide +kernel), List.mem_of_getElem? (i := 851) (by decide +kernel), List.mem_of_getElem? (i := 852) (by decide +kernel)⟩
theorem lw_p34 : lw_okq (⟨"java/lang/Throwable", "fillInStackTrace", "(I)Ljava/lang/Throwable;"⟩, 6) := ⟨⟨by decide +kernel, by decide +kernel⟩, List.mem_of_getElem? (i := 917) (by decide +kernel), List.mem_of_getElem? (i := 915) (by decide +kernel), List.mem_of_getElem? (i := 916) (by decide +kernel)⟩
theorem lw_p35 : lw_okq (⟨"LeapJoinModel", "readAll", "()I"⟩, 43) := ⟨⟨by decide +kernel, by decide +kernel⟩, List.mem_of_getElem? (i := 947) (by decide +kernel), List.mem_of_getElem? (i := 1107) (by decide +kernel), List.mem_of_getElem? (i := 1108) (by decide +kernel)⟩
theorem lw_p36 : lw_okq (⟨"LeapJoinModel", "begins", "()V"⟩, 43) := ⟨⟨by decide +kernel, by decide +kernel⟩, List.mem_of_getElem? (i := 947) (by decide +kernel), List.mem_of_getElem? (i := 1111) (by decide +kernel), List.mem_of_getElem? (i := 1112) (by decide +kernel)⟩
theorem lw_p37 : lw_okq (⟨"LeapJoinModel", "readTable", "(I)V"⟩, 43) := ⟨⟨by decide +kernel, by decide +kernel⟩, List.mem_of_getElem? (i := 947) (by decide +kernel), List.mem_of_getElem? (i := 1115) (by decide +kernel), List.mem_of_getElem? (i := 1116) (by decide +kernel)⟩
theorem lw_p38 : lw_okq (⟨"LeapJoinModel", "readHead", "(I)V"⟩, 43) := ⟨⟨by decide +kernel, by decide +kernel⟩, List.mem_of_getElem? (i := 947) (by decide +kernel), List.mem_of_getElem? (i := 1119) (by decide +kernel), List.mem_of_getElem? (i := 1120) (by decide +kernel)⟩
theorem lw_p39 : lw_okq (⟨"LeapJoinModel", "ahead", "()I"⟩, 43) := ⟨⟨by decide +kernel, by decide +kernel⟩, List.mem_of_getElem? (i := 947) (by decide +kernel), List.mem_of_getElem? (i := 1123) (by decide +kernel), List.mem_of_getElem? (i := 1124) (by decide +kernel)⟩
theorem lw_p40 : lw_okq (⟨"LeapJoinModel", "here", "()I"⟩, 43) := ⟨⟨by decide +kernel, by decide +kernel⟩, List.mem_of_getElem? (i := 947) (by decide +kernel), List.mem_of_getElem? (i := 1127) (by decide +kernel), List.mem_of_getElem? (i := 1128) (by decide +kernel)⟩
theorem lw_p41 : lw_okq (⟨"LeapJoinModel", "isLetter", "(I)Z"⟩, 43) := ⟨⟨by decide +kernel, by decide +kernel⟩, List.mem_of_getElem? (i := 947) (by decide +kernel), List.mem_of_getElem? (i := 1131) (by decide +kernel), List.mem_of_getElem? (i := 1132) (by decide +kernel)⟩
theorem lw_p42 : lw_okq (⟨"LeapJoinModel", "bad", "()V"⟩, 43) := ⟨⟨by decide +kernel, by decide +kernel⟩, List.mem_of_getElem? (i := 947) (by decide +kernel), List.mem_of_getElem? (i := 1135) (by decide +kernel), List.mem_of_getElem? (i := 1136) (by decide +kernel)⟩
theorem lw_p43 : lw_okq (⟨"LeapJoinModel", "must", "(I)V"⟩, 43) := ⟨⟨by decide +kernel, by decide +kernel⟩, List.mem_of_getElem? (i := 947) (by decide +kernel), List.mem_of_getElem? (i := 1142) (by decide +kernel), List.mem_of_getElem? (i := 1143) (by decide +kernel)⟩
theorem lw_p44 : lw_okq (⟨"LeapJoinModel", "readRow", "(I)V"⟩, 43) := ⟨⟨by decide +kernel, by decide +kernel⟩, List.mem_of_getElem? (i := 947) (by decide +kernel), List.mem_of_getElem? (i := 1149) (by decide +kernel), List.mem_of_getElem? (i := 1150) (by decide +kernel)⟩
theorem lw_p45 : lw_okq (⟨"LeapJoinModel", "number", "(I)I"⟩, 43) := ⟨⟨by decide +kernel, by decide +kernel⟩, List.mem_of_getElem? (i := 947) (by decide +kernel), List.mem_of_getElem? (i := 1153) (by decide +kernel), List.mem_of_getElem? (i := 1154) (by decide +kernel)⟩
theorem lw_p46 : lw_okq (⟨"LeapJoinModel", "ends", "()I"⟩, 43) := ⟨⟨by decide +kernel, by decide +kernel⟩, List.mem_of_getElem? (i := 947) (by decide +kernel), List.mem_of_getElem? (i := 1157) (by decide +kernel), List.mem_of_getElem? (i := 1158) (by decide +kernel)⟩
theorem lw_p47 : lw_okq (⟨"LeapJoinModel", "readScript", "(I)I"⟩, 43) := ⟨⟨by decide +kernel, by decide +kernel⟩, List.mem_of_getElem? (i := 947) (by decide +kernel), List.mem_of_getElem? (i := 1161) (by decide +kernel), List.mem_of_getElem? (i := 1162) (by decide +kernel)⟩
def lw_privs_3 : List (MethodName × Nat) := [(⟨"LeapJoin", "dangling", "()I"⟩, 17), (⟨"LeapJoin", "tellingCouples", "()I"⟩, 17), (⟨"java/lang/Throwable", "fillInStackTrace", "(I)Ljava/lang/Throwable;"⟩, 6), (⟨"LeapJoinModel", "readAll", "()I"⟩, 43), (⟨"LeapJoinModel", "begins", "()V"⟩, 43), (⟨"LeapJoinModel", "readTable", "(I)V"⟩, 43), (⟨"LeapJoinModel", "readHead", "(I)V"⟩, 43), (⟨"LeapJoinModel", "ahead", "()I"⟩, 43), (⟨"LeapJoinModel", "here", "()I"⟩, 43), (⟨"LeapJoinModel", "isLetter", "(I)Z"⟩, 43), (⟨"LeapJoinModel", "bad", "()V"⟩, 43), (⟨"LeapJoinModel", "must", "(I)V"⟩, 43), (⟨"LeapJoinModel", "readRow", "(I)V"⟩, 43), (⟨"LeapJoinModel", "number", "(I)I"⟩, 43), (⟨"LeapJoinModel", "ends", "()I"⟩, 43), (⟨"LeapJoinModel", "readScript", "(I)I"⟩, 43)]
theorem lw_r3 : ∀ q ∈ lw_privs_3, lw_okq q := List.forall_mem_cons.mpr ⟨lw_p32, List.forall_mem_cons.mpr ⟨lw_p33, List.forall_mem_cons.mpr ⟨lw_p34, List.forall_mem_cons.mpr ⟨lw_p35, List.forall_mem_cons.mpr ⟨lw_p36, List.forall_mem_cons.mpr ⟨lw_p37, List.forall_mem_cons.mpr ⟨lw_p38, List.forall_mem_cons.mpr ⟨lw_p39, List.forall_mem_cons.mpr ⟨lw_p40, List.forall_mem_cons.mpr ⟨lw_p41, List.forall_mem_cons.mpr ⟨lw_p42, List.forall_mem_cons.mpr ⟨lw_p43, List.forall_mem_cons.mpr ⟨lw_p44, List.forall_mem_cons.mpr ⟨lw_p45, List.forall_mem_cons.mpr ⟨lw_p46, List.forall_mem_cons.mpr ⟨lw_p47, fun _ h => absurd h List.not_mem_nil⟩⟩⟩⟩⟩⟩⟩⟩⟩⟩⟩⟩⟩⟩⟩⟩
theorem lw_p48 : lw_okq (⟨"LeapJoinModel", "readStep", "(I)V"⟩, 43) := ⟨⟨by decide +kernel, by decide +kernel⟩, List.mem_of_getElem? (i := 947) (by decide +kernel), List.mem_of_getElem? (i := 1165) (by decide +kernel), List.mem_of_getElem? (i := 1166) (by decide +kernel)⟩
theorem lw_p49 : lw_okq (⟨"LeapJoinModel", "digit", "()I"⟩, 43) := ⟨⟨by decide +kernel, by decide +kernel⟩, List.mem_of_getElem? (i := 947) (by decide +kernel), List.mem_of_getElem? (i := 1169) (by decide +kernel), List.mem_of_getElem? (i := 1170) (by decide +kernel)⟩
theorem lw_p50 : lw_okq (⟨"LeapJoinModel", "takeTables", "()I"⟩, 43) := ⟨⟨by decide +kernel, by decide +kernel⟩, List.mem_of_getElem? (i := 947) (by decide +kernel), List.mem_of_getElem? (i := 1177) (by decide +kernel), List.mem_of_getElem? (i := 1178) (by decide +kernel)⟩
theorem lw_p51 : lw_okq (⟨"LeapJoinModel", "hasRow", "(IIII)Z"⟩, 43) := ⟨⟨by decide +kernel, by decide +kernel⟩, List.mem_of_getElem? (i := 947) (by decide +kernel), List.mem_of_getElem? (i := 1181) (by decide +kernel), List.mem_of_getElem? (i := 1182) (by decide +kernel)⟩
theorem lw_p52 : lw_okq (⟨"LeapJoinModel", "countLess", "(IIII)I"⟩, 43) := ⟨⟨by decide +kernel, by decide +kernel⟩, List.mem_of_getElem? (i := 947) (by decide +kernel), List.mem_of_getElem? (i := 1185) (by decide +kernel), List.mem_of_getElem? (i := 1186) (by decide +kernel)⟩
theorem lw_p53 : lw_okq (⟨"LeapJoinModel", "many", "(I)I"⟩, 43) := ⟨⟨by decide +kernel, by decide +kernel⟩, List.mem_of_getElem? (i := 947) (by decide +kernel), List.mem_of_getElem? (i := 1189) (by decide +kernel), List.mem_of_getElem? (i := 1190) (by decide +kernel)⟩
theorem lw_p54 : lw_okq (⟨"LeapJoinModel", "compares", "(IIIII)I"⟩, 43) := ⟨⟨by decide +kernel, by decide +kernel⟩, List.mem_of_getElem? (i := 947) (by decide +kernel), List.mem_of_getElem? (i := 1193) (by decide +kernel), List.mem_of_getElem? (i := 1194) (by decide +kernel)⟩
theorem lw_p55 : lw_okq (⟨"LeapJoinModel", "putsNow", "(IIII)I"⟩, 43) := ⟨⟨by decide +kernel, by decide +kernel⟩, List.mem_of_getElem? (i := 947) (by decide +kernel), List.mem_of_getElem? (i := 1200) (by decide +kernel), List.mem_of_getElem? (i := 1201) (by decide +kernel)⟩
theorem lw_p56 : lw_okq (⟨"LeapJoinModel", "hand", "(IIIII)I"⟩, 43) := ⟨⟨by decide +kernel, by decide +kernel⟩, List.mem_of_getElem? (i := 947) (by decide +kernel), List.mem_of_getElem? (i := 1208) (by decide +kernel), List.mem_of_getElem? (i := 1209) (by decide +kernel)⟩
theorem lw_p57 : lw_okq (⟨"LeapJoinModel", "whyNot", "(IIIII)I"⟩, 43) := ⟨⟨by decide +kernel, by decide +kernel⟩, List.mem_of_getElem? (i := 947) (by decide +kernel), List.mem_of_getElem? (i := 1212) (by decide +kernel), List.mem_of_getElem? (i := 1213) (by decide +kernel)⟩
theorem lw_p58 : lw_okq (⟨"LeapJoinModel", "whyPut", "(IIII)I"⟩, 43) := ⟨⟨by decide +kernel, by decide +kernel⟩, List.mem_of_getElem? (i := 947) (by decide +kernel), List.mem_of_getElem? (i := 1216) (by decide +kernel), List.mem_of_getElem? (i := 1217) (by decide +kernel)⟩
theorem lw_p59 : lw_okq (⟨"LeapJoinModel", "isTable", "(I)Z"⟩, 43) := ⟨⟨by decide +kernel, by decide +kernel⟩, List.mem_of_getElem? (i := 947) (by decide +kernel), List.mem_of_getElem? (i := 1220) (by decide +kernel), List.mem_of_getElem? (i := 1221) (by decide +kernel)⟩
theorem lw_p60 : lw_okq (⟨"LeapJoinModel", "isRow", "(IIII)Z"⟩, 43) := ⟨⟨by decide +kernel, by decide +kernel⟩, List.mem_of_getElem? (i := 947) (by decide +kernel), List.mem_of_getElem? (i := 1224) (by decide +kernel), List.mem_of_getElem? (i := 1225) (by decide +kernel)⟩
theorem lw_p61 : lw_okq (⟨"LeapJoinModel", "whyTake", "(IIII)I"⟩, 43) := ⟨⟨by decide +kernel, by decide +kernel⟩, List.mem_of_getElem? (i := 947) (by decide +kernel), List.mem_of_getElem? (i := 1228) (by decide +kernel), List.mem_of_getElem? (i := 1229) (by decide +kernel)⟩
theorem lw_p62 : lw_okq (⟨"LeapJoinModel", "areTables", "()Z"⟩, 43) := ⟨⟨by decide +kernel, by decide +kernel⟩, List.mem_of_getElem? (i := 947) (by decide +kernel), List.mem_of_getElem? (i := 1232) (by decide +kernel), List.mem_of_getElem? (i := 1233) (by decide +kernel)⟩
theorem lw_p63 : lw_okq (⟨"LeapJoinModel", "act", "(IIIII)I"⟩, 43) := ⟨⟨by decide +kernel, by decide +kernel⟩, List.mem_of_getElem? (i := 947) (by decide +kernel), List.mem_of_getElem? (i := 1236) (by decide +kernel), List.mem_of_getElem? (i := 1237) (by decide +kernel)⟩
def lw_privs_4 : List (MethodName × Nat) := [(⟨"LeapJoinModel", "readStep", "(I)V"⟩, 43), (⟨"LeapJoinModel", "digit", "()I"⟩, 43), (⟨"LeapJoinModel", "takeTables", "()I"⟩, 43), (⟨"LeapJoinModel", "hasRow", "(IIII)Z"⟩, 43), (⟨"LeapJoinModel", "countLess", "(IIII)I"⟩, 43), (⟨"LeapJoinModel", "many", "(I)I"⟩, 43), (⟨"LeapJoinModel", "compares", "(IIIII)I"⟩, 43), (⟨"LeapJoinModel", "putsNow", "(IIII)I"⟩, 43), (⟨"LeapJoinModel", "hand", "(IIIII)I"⟩, 43), (⟨"LeapJoinModel", "whyNot", "(IIIII)I"⟩, 43), (⟨"LeapJoinModel", "whyPut", "(IIII)I"⟩, 43), (⟨"LeapJoinModel", "isTable", "(I)Z"⟩, 43), (⟨"LeapJoinModel", "isRow", "(IIII)Z"⟩, 43), (⟨"LeapJoinModel", "whyTake", "(IIII)I"⟩, 43), (⟨"LeapJoinModel", "areTables", "()Z"⟩, 43), (⟨"LeapJoinModel", "act", "(IIIII)I"⟩, 43)]
theorem lw_r4 : ∀ q ∈ lw_privs_4, lw_okq q := List.forall_mem_cons.mpr ⟨lw_p48, List.forall_mem_cons.mpr ⟨lw_p49, List.forall_mem_cons.mpr ⟨lw_p50, List.forall_mem_cons.mpr ⟨lw_p51, List.forall_mem_cons.mpr ⟨lw_p52, List.forall_mem_cons.mpr ⟨lw_p53, List.forall_mem_cons.mpr ⟨lw_p54, List.forall_mem_cons.mpr ⟨lw_p55, List.forall_mem_cons.mpr ⟨lw_p56, List.forall_mem_cons.mpr ⟨lw_p57, List.forall_mem_cons.mpr ⟨lw_p58, List.forall_mem_cons.mpr ⟨lw_p59, List.forall_mem_cons.mpr ⟨lw_p60, List.forall_mem_cons.mpr ⟨lw_p61, List.forall_mem_cons.mpr ⟨lw_p62, List.forall_mem_cons.mpr ⟨lw_p63, fun _ h => absurd h List.not_mem_nil⟩⟩⟩⟩⟩⟩⟩⟩⟩⟩⟩⟩⟩⟩⟩⟩
theorem lw_p64 : lw_okq (⟨"LeapJoinModel", "keep", "()V"⟩, 43) := ⟨⟨by decide +kernel, by decide +kernel⟩, List.mem_of_getElem? (i := 947) (by decide +kernel), List.mem_of_getElem? (i := 1240) (by decide +kernel), List.mem_of_getElem? (i := 1241) (by decide +kernel)⟩
theorem lw_p65 : lw_okq (⟨"LeapJoinModel", "doNow", "(IIIII)I"⟩, 43) := ⟨⟨by decide +kernel, by decide +kernel⟩, List.mem_of_getElem? (i := 947) (by decide +kernel), List.mem_of_getElem? (i := 1244) (by decide +kernel), List.mem_of_getElem? (i := 1245) (by decide +kernel)⟩
theorem lw_p66 : lw_okq (⟨"LeapJoinModel", "takesNow", "(IIII)I"⟩, 43) := ⟨⟨by decide +kernel, by decide +kernel⟩, List.mem_of_getElem? (i := 947) (by decide +kernel), List.mem_of_getElem? (i := 1248) (by decide +kernel), List.mem_of_getElem? (i := 1249) (by decide +kernel)⟩
theorem lw_p67 : lw_okq (⟨"LeapJoinModel", "isUsed", "(I)Z"⟩, 43) := ⟨⟨by decide +kernel, by decide +kernel⟩, List.mem_of_getElem? (i := 947) (by decide +kernel), List.mem_of_getElem? (i := 1252) (by decide +kernel), List.mem_of_getElem? (i := 1253) (by decide +kernel)⟩
theorem lw_p68 : lw_okq (⟨"LeapJoinModel", "note", "(II)V"⟩, 43) := ⟨⟨by decide +kernel, by decide +kernel⟩, List.mem_of_getElem? (i := 947) (by decide +kernel), List.mem_of_getElem? (i := 1256) (by decide +kernel), List.mem_of_getElem? (i := 1257) (by decide +kernel)⟩
theorem lw_p69 : lw_okq (⟨"LeapJoinModel", "rowsNow", "()I"⟩, 43) := ⟨⟨by decide +kernel, by decide +kernel⟩, List.mem_of_getElem? (i := 947) (by decide +kernel), List.mem_of_getElem? (i := 1260) (by decide +kernel), List.mem_of_getElem? (i := 1261) (by decide +kernel)⟩
theorem lw_p70 : lw_okq (⟨"LeapJoinModel", "joinsNow", "()V"⟩, 43) := ⟨⟨by decide +kernel, by decide +kernel⟩, List.mem_of_getElem? (i := 947) (by decide +kernel), List.mem_of_getElem? (i := 1264) (by decide +kernel), List.mem_of_getElem? (i := 1265) (by decide +kernel)⟩
theorem lw_p71 : lw_okq (⟨"LeapJoinModel", "joins", "(I)V"⟩, 43) := ⟨⟨by decide +kernel, by decide +kernel⟩, List.mem_of_getElem? (i := 947) (by decide +kernel), List.mem_of_getElem? (i := 1268) (by decide +kernel), List.mem_of_getElem? (i := 1269) (by decide +kernel)⟩
theorem lw_p72 : lw_okq (⟨"LeapJoinModel", "laysOrder", "(I)V"⟩, 43) := ⟨⟨by decide +kernel, by decide +kernel⟩, List.mem_of_getElem? (i := 947) (by decide +kernel), List.mem_of_getElem? (i := 1272) (by decide +kernel), List.mem_of_getElem? (i := 1273) (by decide +kernel)⟩
theorem lw_p73 : lw_okq (⟨"LeapJoinModel", "asked", "()I"⟩, 43) := ⟨⟨by decide +kernel, by decide +kernel⟩, List.mem_of_getElem? (i := 947) (by decide +kernel), List.mem_of_getElem? (i := 1276) (by decide +kernel), List.mem_of_getElem? (i := 1277) (by decide +kernel)⟩
theorem lw_p74 : lw_okq (⟨"LeapJoinModel", "lettersOf", "(I)I"⟩, 43) := ⟨⟨by decide +kernel, by decide +kernel⟩, List.mem_of_getElem? (i := 947) (by decide +kernel), List.mem_of_getElem? (i := 1280) (by decide +kernel), List.mem_of_getElem? (i := 1281) (by decide +kernel)⟩
theorem lw_p75 : lw_okq (⟨"LeapJoinModel", "goes", "(I)V"⟩, 43) := ⟨⟨by decide +kernel, by decide +kernel⟩, List.mem_of_getElem? (i := 947) (by decide +kernel), List.mem_of_getElem? (i := 1284) (by decide +kernel), List.mem_of_getElem? (i := 1285) (by decide +kernel)⟩
theorem lw_p76 : lw_okq (⟨"LeapJoinModel", "takesRow", "()V"⟩, 43) := ⟨⟨by decide +kernel, by decide +kernel⟩, List.mem_of_getElem? (i := 947) (by decide +kernel), List.mem_of_getElem? (i := 1288) (by decide +kernel), List.mem_of_getElem? (i := 1289) (by decide +kernel)⟩
theorem lw_p77 : lw_okq (⟨"LeapJoinModel", "laysKeys", "(I)Z"⟩, 43) := ⟨⟨by decide +kernel, by decide +kernel⟩, List.mem_of_getElem? (i := 947) (by decide +kernel), List.mem_of_getElem? (i := 1292) (by decide +kernel), List.mem_of_getElem? (i := 1293) (by decide +kernel)⟩
theorem lw_p78 : lw_okq (⟨"LeapJoinModel", "isIn", "(II)Z"⟩, 43) := ⟨⟨by decide +kernel, by decide +kernel⟩, List.mem_of_getElem? (i := 947) (by decide +kernel), List.mem_of_getElem? (i := 1296) (by decide +kernel), List.mem_of_getElem? (i := 1297) (by decide +kernel)⟩
theorem lw_p79 : lw_okq (⟨"LeapJoinModel", "columnOf", "(II)I"⟩, 43) := ⟨⟨by decide +kernel, by decide +kernel⟩, List.mem_of_getElem? (i := 947) (by decide +kernel), List.mem_of_getElem? (i := 1300) (by decide +kernel), List.mem_of_getElem? (i := 1301) (by decide +kernel)⟩
def lw_privs_5 : List (MethodName × Nat) := [(⟨"LeapJoinModel", "keep", "()V"⟩, 43), (⟨"LeapJoinModel", "doNow", "(IIIII)I"⟩, 43), (⟨"LeapJoinModel", "takesNow", "(IIII)I"⟩, 43), (⟨"LeapJoinModel", "isUsed", "(I)Z"⟩, 43), (⟨"LeapJoinModel", "note", "(II)V"⟩, 43), (⟨"LeapJoinModel", "rowsNow", "()I"⟩, 43), (⟨"LeapJoinModel", "joinsNow", "()V"⟩, 43), (⟨"LeapJoinModel", "joins", "(I)V"⟩, 43), (⟨"LeapJoinModel", "laysOrder", "(I)V"⟩, 43), (⟨"LeapJoinModel", "asked", "()I"⟩, 43), (⟨"LeapJoinModel", "lettersOf", "(I)I"⟩, 43), (⟨"LeapJoinModel", "goes", "(I)V"⟩, 43), (⟨"LeapJoinModel", "takesRow", "()V"⟩, 43), (⟨"LeapJoinModel", "laysKeys", "(I)Z"⟩, 43), (⟨"LeapJoinModel", "isIn", "(II)Z"⟩, 43), (⟨"LeapJoinModel", "columnOf", "(II)I"⟩, 43)]
theorem lw_r5 : ∀ q ∈ lw_privs_5, lw_okq q := List.forall_mem_cons.mpr ⟨lw_p64, List.forall_mem_cons.mpr ⟨lw_p65, List.forall_mem_cons.mpr ⟨lw_p66, List.forall_mem_cons.mpr ⟨lw_p67, List.forall_mem_cons.mpr ⟨lw_p68, List.forall_mem_cons.mpr ⟨lw_p69, List.forall_mem_cons.mpr ⟨lw_p70, List.forall_mem_cons.mpr ⟨lw_p71, List.forall_mem_cons.mpr ⟨lw_p72, List.forall_mem_cons.mpr ⟨lw_p73, List.forall_mem_cons.mpr ⟨lw_p74, List.forall_mem_cons.mpr ⟨lw_p75, List.forall_mem_cons.mpr ⟨lw_p76, List.forall_mem_cons.mpr ⟨lw_p77, List.forall_mem_cons.mpr ⟨lw_p78, List.forall_mem_cons.mpr ⟨lw_p79, fun _ h => absurd h List.not_mem_nil⟩⟩⟩⟩⟩⟩⟩⟩⟩⟩⟩⟩⟩⟩⟩⟩
theorem lw_p80 : lw_okq (⟨"LeapJoinModel", "fits", "(III)Z"⟩, 43) := ⟨⟨by decide +kernel, by decide +kernel⟩, List.mem_of_getElem? (i := 947) (by decide +kernel), List.mem_of_getElem? (i := 1304) (by decide +kernel), List.mem_of_getElem? (i := 1305) (by decide +kernel)⟩
theorem lw_p81 : lw_okq (⟨"LeapJoinModel", "takesKey", "(II)V"⟩, 43) := ⟨⟨by decide +kernel, by decide +kernel⟩, List.mem_of_getElem? (i := 947) (by decide +kernel), List.mem_of_getElem? (i := 1308) (by decide +kernel), List.mem_of_getElem? (i := 1309) (by decide +kernel)⟩
theorem lw_p82 : lw_okq (⟨"LeapJoinModel", "greatestKey", "(I)I"⟩, 43) := ⟨⟨by decide +kernel, by decide +kernel⟩, List.mem_of_getElem? (i := 947) (by decide +kernel), List.mem_of_getElem? (i := 1312) (by decide +kernel), List.mem_of_getElem? (i := 1313) (by decide +kernel)⟩
theorem lw_p83 : lw_okq (⟨"LeapJoinModel", "keyAt", "(II)I"⟩, 43) := ⟨⟨by decide +kernel, by decide +kernel⟩, List.mem_of_getElem? (i := 947) (by decide +kernel), List.mem_of_getElem? (i := 1316) (by decide +kernel), List.mem_of_getElem? (i := 1317) (by decide +kernel)⟩
theorem lw_p84 : lw_okq (⟨"LeapJoinModel", "firstBehind", "(II)I"⟩, 43) := ⟨⟨by decide +kernel, by decide +kernel⟩, List.mem_of_getElem? (i := 947) (by decide +kernel), List.mem_of_getElem? (i := 1321) (by decide +kernel), List.mem_of_getElem? (i := 1322) (by decide +kernel)⟩
theorem lw_p85 : lw_okq (⟨"LeapJoinModel", "firstIn", "(I)I"⟩, 43) := ⟨⟨by decide +kernel, by decide +kernel⟩, List.mem_of_getElem? (i := 947) (by decide +kernel), List.mem_of_getElem? (i := 1325) (by decide +kernel), List.mem_of_getElem? (i := 1326) (by decide +kernel)⟩
theorem lw_p86 : lw_okq (⟨"LeapJoinModel", "leaps", "(III)Z"⟩, 43) := ⟨⟨by decide +kernel, by decide +kernel⟩, List.mem_of_getElem? (i := 947) (by decide +kernel), List.mem_of_getElem? (i := 1329) (by decide +kernel), List.mem_of_getElem? (i := 1330) (by decide +kernel)⟩
theorem lw_p87 : lw_okq (⟨"LeapJoinModel", "drawWay", "()V"⟩, 43) := ⟨⟨by decide +kernel, by decide +kernel⟩, List.mem_of_getElem? (i := 947) (by decide +kernel), List.mem_of_getElem? (i := 1349) (by decide +kernel), List.mem_of_getElem? (i := 1350) (by decide +kernel)⟩
theorem lw_p88 : lw_okq (⟨"LeapJoinModel", "draw", "(I)I"⟩, 43) := ⟨⟨by decide +kernel, by decide +kernel⟩, List.mem_of_getElem? (i := 947) (by decide +kernel), List.mem_of_getElem? (i := 1353) (by decide +kernel), List.mem_of_getElem? (i := 1354) (by decide +kernel)⟩
theorem lw_p89 : lw_okq (⟨"LeapJoinModel", "tryOne", "(IIIII)V"⟩, 43) := ⟨⟨by decide +kernel, by decide +kernel⟩, List.mem_of_getElem? (i := 947) (by decide +kernel), List.mem_of_getElem? (i := 1359) (by decide +kernel), List.mem_of_getElem? (i := 1360) (by decide +kernel)⟩
theorem lw_p90 : lw_okq (⟨"LeapJoinModel", "rowsOfAll", "()I"⟩, 43) := ⟨⟨by decide +kernel, by decide +kernel⟩, List.mem_of_getElem? (i := 947) (by decide +kernel), List.mem_of_getElem? (i := 1380) (by decide +kernel), List.mem_of_getElem? (i := 1381) (by decide +kernel)⟩
theorem lw_p91 : lw_okq (⟨"LeapJoinModel", "isAsked", "(I)Z"⟩, 43) := ⟨⟨by decide +kernel, by decide +kernel⟩, List.mem_of_getElem? (i := 947) (by decide +kernel), List.mem_of_getElem? (i := 1400) (by decide +kernel), List.mem_of_getElem? (i := 1401) (by decide +kernel)⟩
theorem lw_p92 : lw_okq (⟨"LeapJoinModel", "numberOf", "(II)I"⟩, 43) := ⟨⟨by decide +kernel, by decide +kernel⟩, List.mem_of_getElem? (i := 947) (by decide +kernel), List.mem_of_getElem? (i := 1404) (by decide +kernel), List.mem_of_getElem? (i := 1405) (by decide +kernel)⟩
theorem lw_p93 : lw_okq (⟨"LeapJoinModel", "triesOrders", "()V"⟩, 43) := ⟨⟨by decide +kernel, by decide +kernel⟩, List.mem_of_getElem? (i := 947) (by decide +kernel), List.mem_of_getElem? (i := 1420) (by decide +kernel), List.mem_of_getElem? (i := 1421) (by decide +kernel)⟩
theorem lw_p94 : lw_okq (⟨"LeapJoinModel", "givenBy", "(I)I"⟩, 43) := ⟨⟨by decide +kernel, by decide +kernel⟩, List.mem_of_getElem? (i := 947) (by decide +kernel), List.mem_of_getElem? (i := 1432) (by decide +kernel), List.mem_of_getElem? (i := 1433) (by decide +kernel)⟩
theorem lw_p95 : lw_okq (⟨"LeapJoinModel", "isOf", "(III)Z"⟩, 43) := ⟨⟨by decide +kernel, by decide +kernel⟩, List.mem_of_getElem? (i := 947) (by decide +kernel), List.mem_of_getElem? (i := 1436) (by decide +kernel), List.mem_of_getElem? (i := 1437) (by decide +kernel)⟩
def lw_privs_6 : List (MethodName × Nat) := [(⟨"LeapJoinModel", "fits", "(III)Z"⟩, 43), (⟨"LeapJoinModel", "takesKey", "(II)V"⟩, 43), (⟨"LeapJoinModel", "greatestKey", "(I)I"⟩, 43), (⟨"LeapJoinModel", "keyAt", "(II)I"⟩, 43), (⟨"LeapJoinModel", "firstBehind", "(II)I"⟩, 43), (⟨"LeapJoinModel", "firstIn", "(I)I"⟩, 43), (⟨"LeapJoinModel", "leaps", "(III)Z"⟩, 43), (⟨"LeapJoinModel", "drawWay", "()V"⟩, 43), (⟨"LeapJoinModel", "draw", "(I)I"⟩, 43), (⟨"LeapJoinModel", "tryOne", "(IIIII)V"⟩, 43), (⟨"LeapJoinModel", "rowsOfAll", "()I"⟩, 43), (⟨"LeapJoinModel", "isAsked", "(I)Z"⟩, 43), (⟨"LeapJoinModel", "numberOf", "(II)I"⟩, 43), (⟨"LeapJoinModel", "triesOrders", "()V"⟩, 43), (⟨"LeapJoinModel", "givenBy", "(I)I"⟩, 43), (⟨"LeapJoinModel", "isOf", "(III)Z"⟩, 43)]
theorem lw_r6 : ∀ q ∈ lw_privs_6, lw_okq q := List.forall_mem_cons.mpr ⟨lw_p80, List.forall_mem_cons.mpr ⟨lw_p81, List.forall_mem_cons.mpr ⟨lw_p82, List.forall_mem_cons.mpr ⟨lw_p83, List.forall_mem_cons.mpr ⟨lw_p84, List.forall_mem_cons.mpr ⟨lw_p85, List.forall_mem_cons.mpr ⟨lw_p86, List.forall_mem_cons.mpr ⟨lw_p87, List.forall_mem_cons.mpr ⟨lw_p88, List.forall_mem_cons.mpr ⟨lw_p89, List.forall_mem_cons.mpr ⟨lw_p90, List.forall_mem_cons.mpr ⟨lw_p91, List.forall_mem_cons.mpr ⟨lw_p92, List.forall_mem_cons.mpr ⟨lw_p93, List.forall_mem_cons.mpr ⟨lw_p94, List.forall_mem_cons.mpr ⟨lw_p95, fun _ h => absurd h List.not_mem_nil⟩⟩⟩⟩⟩⟩⟩⟩⟩⟩⟩⟩⟩⟩⟩⟩
theorem lw_p96 : lw_okq (⟨"LeapJoinModel", "counts", "()V"⟩, 43) := ⟨⟨by decide +kernel, by decide +kernel⟩, List.mem_of_getElem? (i := 947) (by decide +kernel), List.mem_of_getElem? (i := 1448) (by decide +kernel), List.mem_of_getElem? (i := 1449) (by decide +kernel)⟩
theorem lw_p97 : lw_okq (⟨"LeapJoinModel", "extremeOf", "(II)I"⟩, 43) := ⟨⟨by decide +kernel, by decide +kernel⟩, List.mem_of_getElem? (i := 947) (by decide +kernel), List.mem_of_getElem? (i := 1460) (by decide +kernel), List.mem_of_getElem? (i := 1461) (by decide +kernel)⟩
theorem lw_p98 : lw_okq (⟨"LeapJoinModel", "isTold", "(II)Z"⟩, 43) := ⟨⟨by decide +kernel, by decide +kernel⟩, List.mem_of_getElem? (i := 947) (by decide +kernel), List.mem_of_getElem? (i := 1468) (by decide +kernel), List.mem_of_getElem? (i := 1469) (by decide +kernel)⟩
theorem lw_p99 : lw_okq (⟨"LeapJoinModel", "takesFour", "(IIII)V"⟩, 43) := ⟨⟨by decide +kernel, by decide +kernel⟩, List.mem_of_getElem? (i := 947) (by decide +kernel), List.mem_of_getElem? (i := 1476) (by decide +kernel), List.mem_of_getElem? (i := 1477) (by decide +kernel)⟩
theorem lw_p100 : lw_okq (⟨"LeapJoinModel", "comparesFour", "(I)I"⟩, 43) := ⟨⟨by decide +kernel, by decide +kernel⟩, List.mem_of_getElem? (i := 947) (by decide +kernel), List.mem_of_getElem? (i := 1480) (by decide +kernel), List.mem_of_getElem? (i := 1481) (by decide +kernel)⟩
theorem lw_p101 : lw_okq (⟨"LeapJoinModel", "hasMean", "(I)Z"⟩, 43) := ⟨⟨by decide +kernel, by decide +kernel⟩, List.mem_of_getElem? (i := 947) (by decide +kernel), List.mem_of_getElem? (i := 1492) (by decide +kernel), List.mem_of_getElem? (i := 1493) (by decide +kernel)⟩
theorem lw_p102 : lw_okq (⟨"LeapJoinModel", "meanOf", "(I)D"⟩, 43) := ⟨⟨by decide +kernel, by decide +kernel⟩, List.mem_of_getElem? (i := 947) (by decide +kernel), List.mem_of_getElem? (i := 1496) (by decide +kernel), List.mem_of_getElem? (i := 1497) (by decide +kernel)⟩
theorem lw_p103 : lw_okq (⟨"LeapJoinModel", "putAside", "()V"⟩, 43) := ⟨⟨by decide +kernel, by decide +kernel⟩, List.mem_of_getElem? (i := 947) (by decide +kernel), List.mem_of_getElem? (i := 1537) (by decide +kernel), List.mem_of_getElem? (i := 1538) (by decide +kernel)⟩
theorem lw_p104 : lw_okq (⟨"LeapJoinModel", "bringBack", "()V"⟩, 43) := ⟨⟨by decide +kernel, by decide +kernel⟩, List.mem_of_getElem? (i := 947) (by decide +kernel), List.mem_of_getElem? (i := 1541) (by decide +kernel), List.mem_of_getElem? (i := 1542) (by decide +kernel)⟩
theorem lw_p105 : lw_okq (⟨"LeapJoinModel", "isScript", "(I)Z"⟩, 43) := ⟨⟨by decide +kernel, by decide +kernel⟩, List.mem_of_getElem? (i := 947) (by decide +kernel), List.mem_of_getElem? (i := 1549) (by decide +kernel), List.mem_of_getElem? (i := 1550) (by decide +kernel)⟩
theorem lw_p106 : lw_okq (⟨"LeapJoinModel", "goSteps", "(IZ)I"⟩, 43) := ⟨⟨by decide +kernel, by decide +kernel⟩, List.mem_of_getElem? (i := 947) (by decide +kernel), List.mem_of_getElem? (i := 1557) (by decide +kernel), List.mem_of_getElem? (i := 1558) (by decide +kernel)⟩
theorem lw_p107 : lw_okq (⟨"LeapJoinModel", "sumOfRows", "()I"⟩, 43) := ⟨⟨by decide +kernel, by decide +kernel⟩, List.mem_of_getElem? (i := 947) (by decide +kernel), List.mem_of_getElem? (i := 1569) (by decide +kernel), List.mem_of_getElem? (i := 1570) (by decide +kernel)⟩
theorem lw_p108 : lw_okq (⟨"LeapJoinModel", "greatestTable", "(Z)I"⟩, 43) := ⟨⟨by decide +kernel, by decide +kernel⟩, List.mem_of_getElem? (i := 947) (by decide +kernel), List.mem_of_getElem? (i := 1573) (by decide +kernel), List.mem_of_getElem? (i := 1574) (by decide +kernel)⟩
theorem lw_p109 : lw_okq (⟨"LeapJoinModel", "notGiven", "()I"⟩, 43) := ⟨⟨by decide +kernel, by decide +kernel⟩, List.mem_of_getElem? (i := 947) (by decide +kernel), List.mem_of_getElem? (i := 1580) (by decide +kernel), List.mem_of_getElem? (i := 1581) (by decide +kernel)⟩
theorem lw_p110 : lw_okq (⟨"LeapJoinModel", "couples", "()I"⟩, 43) := ⟨⟨by decide +kernel, by decide +kernel⟩, List.mem_of_getElem? (i := 947) (by decide +kernel), List.mem_of_getElem? (i := 1584) (by decide +kernel), List.mem_of_getElem? (i := 1585) (by decide +kernel)⟩
def lw_privs_7 : List (MethodName × Nat) := [(⟨"LeapJoinModel", "counts", "()V"⟩, 43), (⟨"LeapJoinModel", "extremeOf", "(II)I"⟩, 43), (⟨"LeapJoinModel", "isTold", "(II)Z"⟩, 43), (⟨"LeapJoinModel", "takesFour", "(IIII)V"⟩, 43), (⟨"LeapJoinModel", "comparesFour", "(I)I"⟩, 43), (⟨"LeapJoinModel", "hasMean", "(I)Z"⟩, 43), (⟨"LeapJoinModel", "meanOf", "(I)D"⟩, 43), (⟨"LeapJoinModel", "putAside", "()V"⟩, 43), (⟨"LeapJoinModel", "bringBack", "()V"⟩, 43), (⟨"LeapJoinModel", "isScript", "(I)Z"⟩, 43), (⟨"LeapJoinModel", "goSteps", "(IZ)I"⟩, 43), (⟨"LeapJoinModel", "sumOfRows", "()I"⟩, 43), (⟨"LeapJoinModel", "greatestTable", "(Z)I"⟩, 43), (⟨"LeapJoinModel", "notGiven", "()I"⟩, 43), (⟨"LeapJoinModel", "couples", "()I"⟩, 43)]
theorem lw_r7 : ∀ q ∈ lw_privs_7, lw_okq q := List.forall_mem_cons.mpr ⟨lw_p96, List.forall_mem_cons.mpr ⟨lw_p97, List.forall_mem_cons.mpr ⟨lw_p98, List.forall_mem_cons.mpr ⟨lw_p99, List.forall_mem_cons.mpr ⟨lw_p100, List.forall_mem_cons.mpr ⟨lw_p101, List.forall_mem_cons.mpr ⟨lw_p102, List.forall_mem_cons.mpr ⟨lw_p103, List.forall_mem_cons.mpr ⟨lw_p104, List.forall_mem_cons.mpr ⟨lw_p105, List.forall_mem_cons.mpr ⟨lw_p106, List.forall_mem_cons.mpr ⟨lw_p107, List.forall_mem_cons.mpr ⟨lw_p108, List.forall_mem_cons.mpr ⟨lw_p109, List.forall_mem_cons.mpr ⟨lw_p110, fun _ h => absurd h List.not_mem_nil⟩⟩⟩⟩⟩⟩⟩⟩⟩⟩⟩⟩⟩⟩⟩
def lw_privs : List (MethodName × Nat) := lw_privs_1 ++ (lw_privs_2 ++ (lw_privs_3 ++ (lw_privs_4 ++ (lw_privs_5 ++ (lw_privs_6 ++ (lw_privs_7))))))
def lw_tbl : List Cond := k2_sels lw_privs ++ tables_1
theorem lw_privs_ok : ∀ q ∈ lw_privs, lw_okq q := by
  show ∀ q ∈ lw_privs_1 ++ (lw_privs_2 ++ (lw_privs_3 ++ (lw_privs_4 ++ (lw_privs_5 ++ (lw_privs_6 ++ (lw_privs_7)))))), lw_okq q
  exact List.forall_mem_append.mpr ⟨lw_r1, List.forall_mem_append.mpr ⟨lw_r2, List.forall_mem_append.mpr ⟨lw_r3, List.forall_mem_append.mpr ⟨lw_r4, List.forall_mem_append.mpr ⟨lw_r5, List.forall_mem_append.mpr ⟨lw_r6, lw_r7⟩⟩⟩⟩⟩⟩
/-- the streams that the claim lets the run draw from -/
abbrev lw_cs : List Choice := [Jvm.Choice.named "NaN.bits"]
theorem lw_bits : nanBits ∈ lw_cs := by first | decide | exact List.mem_cons_self | simp [lw_cs, nanBits]
end
section
/-! ===== BEGIN words of one list among another's, by their places ===== -/
theorem goodIn_r {big : List Cond} (ws : List Cond) (ps : List Nat) (hp : ws = ps.filterMap (fun i => big[i]?)) (h : ws.all goodWord = true) : GoodIn big ws := by
  intro w hw
  have h1 := List.all_eq_true.mp h w hw
  rw [hp] at hw
  obtain ⟨i, -, hi⟩ := List.mem_filterMap.mp hw
  have hm : w ∈ big := by first | exact List.mem_of_getElem? hi | exact List.getElem?_mem hi
  exact ⟨hm, good_of_word h1⟩
theorem goodIn_app {big a b : List Cond} (ha : GoodIn big a) (hb : GoodIn big b) : GoodIn big (a ++ b) := fun w h => (List.mem_append.mp h).elim (ha w) (hb w)
theorem goodIn_ca {big a b : List Cond} {c : Cond} (ha : GoodIn big (c :: a)) (hb : GoodIn big b) : GoodIn big (c :: (a ++ b)) := fun w h => (List.mem_cons.mp h).elim (fun e => ha w (List.mem_cons.mpr (Or.inl e))) (fun h => (List.mem_append.mp h).elim (fun h => ha w (List.mem_cons.mpr (Or.inr h))) (hb w))
theorem goodIn_sub {big ws : List Cond} (hm : ∀ w ∈ ws, w ∈ big) (h : ws.all goodWord = true) : GoodIn big ws := fun w hw => ⟨hm w hw, good_of_word (List.all_eq_true.mp h w hw)⟩
/-! ===== END ===== -/

/-! ===== BEGIN exceptions that leave a method, and their catching by the caller (launches without stack traces) ===== -/
section VXA
/-! The laws vx_back, vx_callV, vx_callS, vx_callSW, vx_throw0, vx_throwS follow proofs of the library, with one case more: JvmDerived/Free/Laws.lean (Back.of_free), Shelf42/LK1.lean (callV, callS), Shelf/KitTraced.lean (throwNew0V, throwNewS). -/
/-- where a method has thrown q: the class by its name, the cell, what was written, the world -/
def vx_T (XC : String → State → State → Prop) (st : State) (q : Addr) (t : State) (mc ms : Nat) (free : Addr → Prop) : Prop :=
  ∃ (E : String) (ce : Cell) (L : List Loc), XC E st t ∧ t.heap[q]? = some ce ∧ ce.vm = .none ∧ st.vm.findClass E = some ce.cls ∧ st.WarmedH t.vm ∧ st.sameButNew ({ t with vm := st.vm } : State) L mc ms ∧ ∀ z ∈ L, free z.base
def vx_Q (Qc : Array Value → State → Outcome → State → Prop) (XC : String → State → State → Prop) (mc ms : Nat) (free : Addr → Prop) : Array Value → State → Outcome → State → Prop := fun a st o t =>
  (Qc a st o t ∧ ∃ L, FrameEnd st o t L mc ms ∧ ∀ q ∈ L, free q.base) ∨ ∃ q, o = .threw q ∧ vx_T XC st q t mc ms free
/-- a callee that returns or throws -/
def vx_Met (l : Launch) (y : MethodName) (ws : List Cond) (rm : Room) (Pc : Array Value → State → Prop) (Qc : Array Value → State → Outcome → State → Prop) (XC : String → State → State → Prop) (mc ms : Nat) (free : Addr → Prop) : Prop :=
  MetFree l y (headSpec ws rm) Pc (fun _ _ _ _ _ => True) (vx_Q Qc XC mc ms free)
def vx_Post (XC : String → State → State → Prop) (mc ms : Nat) (free : Addr → Prop) : Pt → Array Value → Addr → Pt → Prop := fun A a q B =>
  ∃ (g : JFrame) (mk : MethodId) (t : State) (L : List Loc) (E : String) (ce : Cell), B.U.heap = t.heap ∧ B.U.vm = t.vm ∧ XC E (A.U.calling g mk a) t ∧ t.heap[q]? = some ce ∧ ce.vm = .none ∧ A.U.vm.findClass E = some ce.cls ∧ B.locs = A.locs ++ L ∧ (∀ z ∈ L, free z.base) ∧ B.cells = A.cells + mc ∧ B.slots = A.slots + ms
def vx_Back (l : Launch) (R : Room) (p : Program) (e : Env) (below : List Frame) (s : State) (sargs : Array Value) (y : MethodName) (len W9 : Nat)
    (Pre : Pt → Array Value → Prop) (Post : Pt → Array Value → Option Value → Pt → Prop) (PostX : Pt → Array Value → Addr → Pt → Prop) : Prop :=
  ∀ (m : MethodId) (meth : Method) (c : Code) (A : Pt) (g : JFrame) (ig : Instr) (mk : MethodId) (a : Array Value),
    Stand p l e R s m sargs below meth c A.U A.locs A.cells A.slots → g.method = m → g.locals.size = c.maxLocals → decode c.code g.pc = .ok (ig, len) →
    2 * g.monitorRoom + (g.stack.map fun v => v.category).sum ≤ W9 → A.U.methodNamed? y = some mk → Pre A a →
    (∃ (v : Option Value) (B : Pt), Stand p l e R s m sargs below meth c B.U B.locs B.cells B.slots ∧ Post A a v B ∧
      Steps p.tables e below (doInvoke e (A.U.setTop g) [] mk a).1 (B.U.setTop { g with pc := g.pc + len, stack := v.toList ++ g.stack })) ∨
    (∃ (q : Addr) (B : Pt), Stand p l e R s m sargs below meth c B.U B.locs B.cells B.slots ∧ PostX A a q B ∧
      Steps p.tables e below (doInvoke e (A.U.setTop g) [] mk a).1 ((B.U.setTop g).pushFrame (.throwing q)))
section Payer
variable {l : Launch} {R : Room} {p : Program} {e : Env} {below : List Frame} {s : State} {sargs : Array Value} {y : MethodName} {len W9 : Nat}
theorem vx_back {ws : List Cond} {rm : Room} {Pc : Array Value → State → Prop} {Qc : Array Value → State → Outcome → State → Prop} {XC : String → State → State → Prop} {mc ms : Nat} {free : Addr → Prop} {bytes : ByteArray} {maxL : Nat} {ret : Option FieldType}
    (hM : vx_Met l y ws rm Pc Qc XC mc ms free) (hblind : FrameBlind Pc) (hrc : rm.cells = mc) (hrs : rm.slots = ms)
    (hframes : rm.frames + 1 ≤ R.frames) (hlocals : W9 + (maxL + 11) + rm.locals ≤ R.locals)
    (hws : ∀ w ∈ ws, ∀ a' U, s.WarmedH U.vm → w.before a' U = true) (hcode : Cond.code y bytes maxL ret ∈ ws) (hinit : ∀ a' U, s.WarmedH U.vm → (Cond.initialized y.cls).before a' U = true) :
    vx_Back l R p e below s sargs y len W9 (PreOf R mc ms Pc) (PostOf Qc mc ms free) (vx_Post XC mc ms free) := by
  intro m meth c A g ig mk a X hg hsize hdg hW hn hp
  have h1 : (headSpec ws rm).pre.before a A.U = true := atoms_intro fun w hw => hws w hw _ _ X.warmed
  have h2 : (Cond.code y bytes maxL ret).before a A.U = true := hws _ hcode _ _ X.warmed
  have h3 : (Cond.initialized y.cls).before a A.U = true := hinit _ _ X.warmed
  have h4 : A.cells + (headSpec ws rm).room.cells ≤ R.cells := by rw [show (headSpec ws rm).room.cells = mc from hrc]; exact hp.1
  have h5 : A.slots + (headSpec ws rm).room.slots ≤ R.slots := by rw [show (headSpec ws rm).room.slots = ms from hrs]; exact hp.2.1
  have hPc : Pc a (A.U.calling g mk a) := hblind _ _ _ _ hp.2.2
  obtain ⟨U, Ls, c0, s0⟩ := A
  dsimp only [Pt.U, Pt.locs, Pt.cells, Pt.slots] at h1 h2 h3 h4 h5 X hn hPc ⊢
  obtain ⟨methY, cY, hmY, hcY, -, hlY, -, -, -, -⟩ := Cond.code_spec hn h2
  obtain ⟨kY, hkY, -⟩ := className_of_methodNamed hn
  have hinitY : kY.init = .initialized := Cond.initialized_spec (findClass_of_methodNamed hn) hkY h3
  have h : At U g.method c below := by rw [hg]; exact X.here
  have hlocals9 : W9 + (maxL + 11) + (headSpec ws rm).room.locals ≤ R.locals := hlocals
  have happ : (headSpec ws rm).appliesLoose y e.platform (U.calling g mk a) = true :=
    Spec.appliesLoose_calling (g := g) h hdg hn hkY hinitY
      (X.room_calling (g := g) (R' := (headSpec ws rm).room) hsize hmY hcY hframes (by rw [hlY]; omega) h4 h5) h1
  obtain ⟨mid, hmid⟩ := h.above
  have hfr : (U.setTop g).frames = (.java g :: mid) ++ below := by rw [State.frames_setTop' g h.top, hmid]; rfl
  obtain ⟨o, s₂, hsteps, -, hend, hq⟩ := Steps.callFree hM p X.admits X.cas X.clock (acts := []) hfr happ hPc trivial
  have hq' : vx_Q Qc XC mc ms free a (U.calling g mk a) o s₂ := hq
  rw [State.frames_setTop' g h.top] at hend
  obtain ⟨g₀, hg0⟩ := Option.isSome_iff_exists.mp h.top
  obtain ⟨r, hr⟩ := State.topJava?_eq_some.mp hg0
  have hr' : (({ U with heap := s₂.heap, slotsUsed := s₂.slotsUsed } : State).setVm s₂.vm).frames = .java g₀ :: r := hr
  rcases hq' with ⟨hqc, L, hfe, hL⟩ | ⟨q, rfl, E, ce, L, hx, hce, hcv, hcl, hW₂, hsm, hL⟩
  · obtain ⟨⟨v, rfl⟩, hW₂, e2, q2, q3, q4, q5, q6⟩ := id hfe
    have e3 : s₂ = ({ (U.calling g mk a).setFrames s₂.frames with heap := s₂.heap, slotsUsed := s₂.slotsUsed } : State).setVm s₂.vm := by
      have : s₂ = ({ s₂ with vm := (U.calling g mk a).vm } : State).setVm s₂.vm := rfl
      rw [e2] at this
      exact this
    obtain ⟨c₂, i₂, len₂, hc₂, hd₂, hf₂⟩ := hend
    have hW' : U.WarmedH s₂.vm := hW₂
    have hcc : c₂ = c := by
      have h1 : s₂.code? g.method = U.code? g.method := by
        rw [State.code?_eq, State.code?_eq, hW'.alike.method?]
      exact Option.some.inj (hc₂.symm.trans (h1.trans h.code))
    subst hcc
    have hlen : len₂ = len := by rw [hdg] at hd₂; cases hd₂; rfl
    subst hlen
    have hs₂ : s₂ = (({ U with heap := s₂.heap, slotsUsed := s₂.slotsUsed } : State).setVm s₂.vm).setTop { g with pc := g.pc + len₂, stack := v.toList ++ g.stack } := by
      refine e3.trans ?_
      rw [hf₂, State.calling_eq h.top, State.setFrames_setFrames, State.setTop_of_frames _ hr', hr]
      rfl
    have hsame : U.sameButNew ({ U with heap := s₂.heap, slotsUsed := s₂.slotsUsed } : State) L mc ms := by
      refine ⟨?_, q2, q3, q4, q5, q6⟩
      obtain ⟨t, ht, -⟩ := State.frames_cons hr
      show ({ U with heap := s₂.heap, slotsUsed := s₂.slotsUsed } : State) = { U.setFrames U.frames with heap := s₂.heap, slotsUsed := s₂.slotsUsed }
      rw [State.setFrames_self ht]
    subst hg
    refine Or.inl ⟨v, ⟨(({ U with heap := s₂.heap, slotsUsed := s₂.slotsUsed } : State).setVm s₂.vm), Ls ++ L, c0 + mc, s0 + ms⟩,
      ⟨X.admits, X.cas, X.clock, X.frames, X.room, X.hears, X.method, X.code, (X.here.setHeapUsed s₂.heap s₂.slotsUsed).setVm hW'.alike, X.tail, State.WarmedH.trans X.warmed hW', X.limits, X.bytes, X.same.trans (hsame.setVm s.vm)⟩,
      ⟨g, mk, s₂, L, rfl, rfl, hqc, rfl, hL, rfl, rfl⟩, ?_⟩
    show Steps p.tables e below _ ((({ U with heap := s₂.heap, slotsUsed := s₂.slotsUsed } : State).setVm s₂.vm).setTop { g with pc := g.pc + len₂, stack := v.toList ++ g.stack })
    rw [← hs₂]
    exact hsteps
  · obtain ⟨e2, q2, q3, q4, q5, q6⟩ := id hsm
    have e3 : s₂ = ({ (U.calling g mk a).setFrames s₂.frames with heap := s₂.heap, slotsUsed := s₂.slotsUsed } : State).setVm s₂.vm := by
      have : s₂ = ({ s₂ with vm := (U.calling g mk a).vm } : State).setVm s₂.vm := rfl
      rw [e2] at this
      exact this
    have hf₂ : s₂.frames = .throwing q :: .java g :: U.frames.tail := hend
    have hW' : U.WarmedH s₂.vm := hW₂
    have hs₂ : s₂ = ((({ U with heap := s₂.heap, slotsUsed := s₂.slotsUsed } : State).setVm s₂.vm).setTop g).pushFrame (.throwing q) := by
      refine e3.trans ?_
      rw [hf₂, State.calling_eq h.top, State.setFrames_setFrames, State.pushFrame, State.frames_setTop _ hr', State.setTop_of_frames _ hr', State.setFrames_setFrames, hr]
      rfl
    have hsame : U.sameButNew ({ U with heap := s₂.heap, slotsUsed := s₂.slotsUsed } : State) L mc ms := by
      refine ⟨?_, q2, q3, q4, q5, q6⟩
      obtain ⟨t, ht, -⟩ := State.frames_cons hr
      show ({ U with heap := s₂.heap, slotsUsed := s₂.slotsUsed } : State) = { U.setFrames U.frames with heap := s₂.heap, slotsUsed := s₂.slotsUsed }
      rw [State.setFrames_self ht]
    subst hg
    refine Or.inr ⟨q, ⟨(({ U with heap := s₂.heap, slotsUsed := s₂.slotsUsed } : State).setVm s₂.vm), Ls ++ L, c0 + mc, s0 + ms⟩,
      ⟨X.admits, X.cas, X.clock, X.frames, X.room, X.hears, X.method, X.code, (X.here.setHeapUsed s₂.heap s₂.slotsUsed).setVm hW'.alike, X.tail, State.WarmedH.trans X.warmed hW', X.limits, X.bytes, X.same.trans (hsame.setVm s.vm)⟩,
      ⟨g, mk, s₂, L, E, ce, rfl, rfl, hx, hce, hcv, hcl, rfl, hL, rfl, rfl⟩, ?_⟩
    show Steps p.tables e below _ (((({ U with heap := s₂.heap, slotsUsed := s₂.slotsUsed } : State).setVm s₂.vm).setTop g).pushFrame (.throwing q))
    rw [← hs₂]
    exact hsteps
end Payer
section Calls
variable {p : Program} {l : Launch} {e : Env} {R : Room} {s : State} {m : MethodId} {args : Array Value} {below : List Frame} {meth : Method} {c : Code} {T : State} {locs : List Loc} {cells slots : Nat}
theorem vx_callV (X : Stand p l e R s m args below meth c T locs cells slots) (hexec : p.tables.exec = Jvm.exec) {own C : String} {index : Nat} {y : MethodName} {bytes : ByteArray} {maxL : Nat} {ret : Option FieldType}
    (hown : s.vm.findClass own = some m.cls) (hlink : (Cond.methodLink own index y).before args s = true) (hinst : (Cond.instanceMethod y).before args s = true) (hsel : (Cond.selects C y y).before args s = true)
    (hcode : (Cond.code y bytes maxL ret).before args s = true) (hy : y.cls ≠ "java/lang/invoke/MethodHandle" ∧ y.cls ≠ "java/lang/invoke/VarHandle")
    {W9 : Nat} {Pre : Pt → Array Value → Prop} {Post : Pt → Array Value → Option Value → Pt → Prop} {PostX : Pt → Array Value → Addr → Pt → Prop} (hK : vx_Back l R p e below s args y 3 W9 Pre Post PostX)
    {b : Addr} {cellB : Cell} (hcell : T.heap[b]? = some cellB) (hobj : cellB.vm.isStatics = false) (hcls : s.vm.findClass C = some cellB.cls)
    {g : JFrame} (hg : g.method = m) (hsize : g.locals.size = c.maxLocals) {argsL rest : List Value} (hlen : ∀ sig, parseMethodDescriptor y.desc = some sig → argsL.length = sig.parameters.length)
    (hstack : g.stack = argsL.reverse ++ .ref b :: rest) (hW : 2 * g.monitorRoom + (rest.map fun v => v.category).sum ≤ W9) (hdg : decode c.code g.pc = .ok (.invokevirtual index, 3))
    (hpre : ∀ vm₁, s.WarmedH vm₁ → Pre ⟨T.setVm vm₁, locs, cells, slots⟩ (Value.ref b :: argsL).toArray) :
    (∃ (v : Option Value) (vm₁ : Vm) (B : Pt), s.WarmedH vm₁ ∧ Stand p l e R s m args below meth c B.U B.locs B.cells B.slots ∧ Post ⟨T.setVm vm₁, locs, cells, slots⟩ (Value.ref b :: argsL).toArray v B ∧
      ∀ target, Steps p.tables e below (B.U.setTop { g with pc := g.pc + 3, stack := v.toList ++ rest }) target → Steps p.tables e below (T.setTop g) target) ∨
    (∃ (q : Addr) (vm₁ : Vm) (B : Pt), s.WarmedH vm₁ ∧ Stand p l e R s m args below meth c B.U B.locs B.cells B.slots ∧ PostX ⟨T.setVm vm₁, locs, cells, slots⟩ (Value.ref b :: argsL).toArray q B ∧
      Steps p.tables e below (T.setTop g) ((B.U.setTop { g with stack := rest }).pushFrame (.throwing q))) := by
  obtain ⟨mk, methM, hnamed, hmethM, hstM, habM⟩ := Cond.instanceMethod_spec hinst
  obtain ⟨methM', cM, hmethM', -, -, -, -, -, -, hsigM⟩ := Cond.code_spec hnamed hcode
  cases hmethM.symm.trans hmethM'
  obtain ⟨c2, r2, m2, q1, q2, q3, q4, kP, hkP, hkPi⟩ := Cond.selects_spec hsel
  cases hcls.symm.trans q1
  cases (State.methodFound?_of_named hnamed hy).symm.trans q2
  cases hnamed.symm.trans q3
  have hselP : selectMethod e.platform s.vm cellB.cls mk = .method mk := by rw [Launch.admits_selectMethod X.admits]; exact q4
  obtain ⟨vm₁, X₁, hstep₁⟩ := X.invokevirtual hexec hown hlink hnamed hmethM hstM hkP hkPi hy (a := b) (cell := cellB) hcell
    (fun z h => by rw [h] at hobj; cases hobj) hselP hmethM habM hkP hkPi (g := g) hg (argsL := argsL) (rest := rest) (hlen _ hsigM) hstack hdg
  rcases hK m meth c ⟨T.setVm vm₁, locs, cells, slots⟩ { g with stack := rest } (.invokevirtual index) mk (Value.ref b :: argsL).toArray X₁ hg hsize hdg hW (X₁.named hnamed) (hpre vm₁ X₁.warmed) with ⟨v, B, X', hpost, hsteps⟩ | ⟨q, B, X', hpost, hsteps⟩
  · exact Or.inl ⟨v, vm₁, B, X₁.warmed, X', hpost, fun target h => hstep₁ _ fun acts => by rw [doInvoke_state]; exact hsteps.trans h⟩
  · exact Or.inr ⟨q, vm₁, B, X₁.warmed, X', hpost, hstep₁ _ fun acts => by rw [doInvoke_state]; exact hsteps⟩
theorem vx_callS (X : Stand p l e R s m args below meth c T locs cells slots) (hexec : p.tables.exec = Jvm.exec) {own : String} {index : Nat} {y : MethodName} {bytes : ByteArray} {maxL : Nat} {ret : Option FieldType}
    (hown : s.vm.findClass own = some m.cls) (hlink : (Cond.methodLink own index y).before args s = true) (hstat : (Cond.static y).before args s = true) (hinit : (Cond.initialized y.cls).before args s = true)
    (hcode : (Cond.code y bytes maxL ret).before args s = true) (hy : y.cls ≠ "java/lang/invoke/MethodHandle" ∧ y.cls ≠ "java/lang/invoke/VarHandle")
    {W9 : Nat} {Pre : Pt → Array Value → Prop} {Post : Pt → Array Value → Option Value → Pt → Prop} {PostX : Pt → Array Value → Addr → Pt → Prop} (hK : vx_Back l R p e below s args y 3 W9 Pre Post PostX)
    {g : JFrame} (hg : g.method = m) (hsize : g.locals.size = c.maxLocals) {argsL rest : List Value} (hlen : ∀ sig, parseMethodDescriptor y.desc = some sig → argsL.length = sig.parameters.length)
    (hstack : g.stack = argsL.reverse ++ rest) (hW : 2 * g.monitorRoom + (rest.map fun v => v.category).sum ≤ W9) (hdg : decode c.code g.pc = .ok (.invokestatic index, 3))
    (hpre : ∀ vm₁, s.WarmedH vm₁ → Pre ⟨T.setVm vm₁, locs, cells, slots⟩ argsL.toArray) :
    (∃ (v : Option Value) (vm₁ : Vm) (B : Pt), s.WarmedH vm₁ ∧ Stand p l e R s m args below meth c B.U B.locs B.cells B.slots ∧ Post ⟨T.setVm vm₁, locs, cells, slots⟩ argsL.toArray v B ∧
      ∀ target, Steps p.tables e below (B.U.setTop { g with pc := g.pc + 3, stack := v.toList ++ rest }) target → Steps p.tables e below (T.setTop g) target) ∨
    (∃ (q : Addr) (vm₁ : Vm) (B : Pt), s.WarmedH vm₁ ∧ Stand p l e R s m args below meth c B.U B.locs B.cells B.slots ∧ PostX ⟨T.setVm vm₁, locs, cells, slots⟩ argsL.toArray q B ∧
      Steps p.tables e below (T.setTop g) ((B.U.setTop { g with stack := rest }).pushFrame (.throwing q))) := by
  obtain ⟨mk, hnamed⟩ := Cond.code_named hcode
  obtain ⟨methM, cM, hmethM, -, -, -, -, -, -, hsigM⟩ := Cond.code_spec hnamed hcode
  have hstatic : methM.isStatic = true := Cond.static_spec hnamed hmethM hstat
  obtain ⟨kP, hkP, -⟩ := className_of_methodNamed hnamed
  have hinitP : kP.init = .initialized := Cond.initialized_spec (findClass_of_methodNamed hnamed) hkP hinit
  obtain ⟨vm₁, X₁, hstep₁⟩ := X.invokestatic hexec hown hlink hnamed hmethM hstatic hkP hinitP hy (g := g) hg (argsL := argsL) (rest := rest) (hlen _ hsigM) hstack hdg
  rcases hK m meth c ⟨T.setVm vm₁, locs, cells, slots⟩ { g with stack := rest } (.invokestatic index) mk argsL.toArray X₁ hg hsize hdg hW (X₁.named hnamed) (hpre vm₁ X₁.warmed) with ⟨v, B, X', hpost, hsteps⟩ | ⟨q, B, X', hpost, hsteps⟩
  · exact Or.inl ⟨v, vm₁, B, X₁.warmed, X', hpost, fun target h => hstep₁ _ fun acts => by rw [doInvoke_state]; exact hsteps.trans h⟩
  · exact Or.inr ⟨q, vm₁, B, X₁.warmed, X', hpost, hstep₁ _ fun acts => by rw [doInvoke_state]; exact hsteps⟩
end Calls
theorem vx_cls {s : State} {T : State} {vm₁ : Vm} {E : String} {k : ClassId} (hW : s.WarmedH vm₁) (h : (T.setVm vm₁).vm.findClass E = some k) : s.vm.findClass E = some k := by
  have h1 : vm₁.findClass E = some k := h
  rw [hW.alike.findClass] at h1
  exact h1
/-- the method's frame g, with q thrown over it -/
def vx_W (p : Program) (l : Launch) (e : Env) (R : Room) (s : State) (m : MethodId) (args : Array Value) (below : List Frame) (meth : Method) (c : Code) (H : Heap) (locs : List Loc) (cells slots : Nat) (Q : State → Prop) (g : JFrame) (q : Addr) : Prop :=
  ∀ T : State, T.heap = H → Stand p l e R s m args below meth c T locs cells slots → ∃ t, Steps p.tables e below ((T.setTop g).pushFrame (.throwing q)) t ∧ Q t
def vx_Run (p : Program) (l : Launch) (e : Env) (R : Room) (s : State) (m : MethodId) (args : Array Value) (below : List Frame) (meth : Method) (c : Code) (H : Heap) (locs : List Loc) (cells slots mc ms : Nat) (g : JFrame) (rest : List Value) (Qa : State → Outcome → State → Prop) (XC : String → State → State → Prop) (free : Addr → Prop) : Prop :=
  ∀ T : State, T.heap = H → Stand p l e R s m args below meth c T locs cells slots →
    (∃ (v : Option Value) (st₀ t T' : State) (L : List Loc), st₀.heap = H ∧ Stand p l e R s m args below meth c T' (locs ++ L) (cells + mc) (slots + ms) ∧ (∀ q ∈ L, free q.base) ∧ T'.heap = t.heap ∧ T'.vm = t.vm ∧ Qa st₀ (.returned v) t ∧
      Goes p e below T g T' { g with pc := g.pc + 3, stack := v.toList ++ rest }) ∨
    (∃ (q : Addr) (st₀ t T' : State) (L : List Loc) (E : String) (ce : Cell), st₀.heap = H ∧ Stand p l e R s m args below meth c T' (locs ++ L) (cells + mc) (slots + ms) ∧ (∀ z ∈ L, free z.base) ∧ T'.heap = t.heap ∧ T'.vm = t.vm ∧ XC E st₀ t ∧ t.heap[q]? = some ce ∧ ce.vm = .none ∧ s.vm.findClass E = some ce.cls ∧
      Steps p.tables e below (T.setTop g) ((T'.setTop { g with stack := rest }).pushFrame (.throwing q)))
def vx_X {S : Type} (px : S → Prop) (B : String → S → State → Prop) (A : Nat → Prop) : String → State → State → Prop := fun E st t => ∃ u : S, px u ∧ B E u t ∧ va_F A st t
section Runs
variable {p : Program} {l : Launch} {e : Env} {R : Room} {s : State} {m : MethodId} {args : Array Value} {below : List Frame} {meth : Method} {c : Code} {H : Heap} {locs : List Loc} {cells slots : Nat}
variable {y : MethodName} {bytes cc : ByteArray} {maxL nL mc ms n index : Nat} {ret : Option FieldType} {ws : List Cond} {rm : Room} {Pc : Array Value → State → Prop} {Qc : Array Value → State → Outcome → State → Prop} {XC : String → State → State → Prop} {free : Addr → Prop} {Ts : List Cond} {own C : String} {b : Addr} {As rest : List Value} {g : JFrame}
theorem vx_callBack (cb : CallB R s args own index y bytes maxL ret ws rm mc ms n) (hM : vx_Met l y ws rm Pc Qc XC mc ms free) (hbl : FrameBlind Pc) : vx_Back l R p e below s args y 3 8 (PreOf R mc ms Pc) (PostOf Qc mc ms free) (vx_Post XC mc ms free) := by
  obtain ⟨hrc, hrs, hfr, hlo, hws, hcw, -, hini, -⟩ := cb
  exact vx_back (bytes := bytes) (maxL := maxL) (ret := ret) hM hbl hrc hrs hfr hlo hws hcw (fun a' U hW => word_at hW (Or.inl (by first | rfl | simp [Cond.onTables, Cond.keeps, Cond.steady])) hini)
theorem vx_runV (S : CallFix p m c cc nL s args Ts own) (hM : vx_Met l y ws rm Pc Qc XC mc ms free) (cw : CallW R s args own C index y bytes maxL ret ws rm mc ms n) (hp : PreV s H C b Pc As)
    (hg : g.method = m) (hn : As.length = n) (hsize : g.locals.size = nL) (hstack : g.stack = As.reverse ++ .ref b :: rest) (hW : 2 * g.monitorRoom + (rest.map fun v => v.category).sum ≤ 8) (hdg : decode cc g.pc = .ok (.invokevirtual index, 3)) (hf : cells + mc ≤ R.cells ∧ slots + ms ≤ R.slots) :
    vx_Run p l e R s m args below meth c H locs cells slots mc ms g rest (Qc (Value.ref b :: As).toArray) XC free := by
  have hK : vx_Back l R p e below s args y 3 8 (PreOf R mc ms Pc) (PostOf Qc mc ms free) (vx_Post XC mc ms free) := vx_callBack cw.1 hM hp.1
  obtain ⟨⟨-, -, -, -, -, -, hcode, -, hy, hlen, hl⟩, hin, hse⟩ := cw
  obtain ⟨hx, hb, hml, ho, -⟩ := S
  obtain ⟨-, ⟨cellB, hcB, hoB, hclB⟩, hPc⟩ := hp
  intro T hT X
  rcases vx_callV X hx (C := C) (bytes := bytes) (maxL := maxL) (ret := ret) ho hl hin hse hcode hy hK (by rw [hT]; exact hcB) hoB hclB hg (hsize.trans hml.symm) (argsL := As) (rest := rest) (fun sig h => hn.trans (hlen sig h)) hstack hW (by rw [hb]; exact hdg)
    (fun vm₁ hW₁ => ⟨hf.1, hf.2, hPc (T.setVm vm₁) hT hW₁⟩) with ⟨v, vm₁, ⟨U', l2, c2, s2⟩, hW₁, X', ⟨g', mk, t, L, e1, e2, hq, h1, hL, h2, h3⟩, st⟩ | ⟨q, vm₁, ⟨U', l2, c2, s2⟩, hW₁, X', ⟨g', mk, t, L, E, ce, e1, e2, hq, hce, hcv, hcl, h1, hL, h2, h3⟩, st⟩
  · dsimp only [Pt.U, Pt.locs, Pt.cells, Pt.slots] at X' e1 e2 h1 h2 h3 st
    subst h1; subst h2; subst h3
    exact Or.inl ⟨v, (T.setVm vm₁).calling g' mk (Value.ref b :: As).toArray, t, U', L, hT, X', hL, e1, e2, hq, st⟩
  · dsimp only [Pt.U, Pt.locs, Pt.cells, Pt.slots] at X' e1 e2 h1 h2 h3 st hcl
    subst h1; subst h2; subst h3
    exact Or.inr ⟨q, (T.setVm vm₁).calling g' mk (Value.ref b :: As).toArray, t, U', L, E, ce, hT, X', hL, e1, e2, hq, hce, hcv, vx_cls hW₁ hcl, st⟩
theorem vx_runS (S : CallFix p m c cc nL s args Ts own) (hM : vx_Met l y ws rm Pc Qc XC mc ms free) (cw : CallB R s args own index y bytes maxL ret ws rm mc ms n ∧ (Cond.static y).before args s = true) (hp : PreS s H Pc As)
    (hg : g.method = m) (hn : As.length = n) (hsize : g.locals.size = nL) (hstack : g.stack = As.reverse ++ rest) (hW : 2 * g.monitorRoom + (rest.map fun v => v.category).sum ≤ 8) (hdg : decode cc g.pc = .ok (.invokestatic index, 3)) (hf : cells + mc ≤ R.cells ∧ slots + ms ≤ R.slots) :
    vx_Run p l e R s m args below meth c H locs cells slots mc ms g rest (Qc As.toArray) XC free := by
  have hK : vx_Back l R p e below s args y 3 8 (PreOf R mc ms Pc) (PostOf Qc mc ms free) (vx_Post XC mc ms free) := vx_callBack cw.1 hM hp.1
  obtain ⟨⟨-, -, -, -, -, -, hcode, hini, hy, hlen, hl⟩, hstt⟩ := cw
  obtain ⟨hx, hb, hml, ho, -⟩ := S
  intro T hT X
  rcases vx_callS X hx (bytes := bytes) (maxL := maxL) (ret := ret) ho hl hstt hini hcode hy hK hg (hsize.trans hml.symm) (argsL := As) (rest := rest) (fun sig h => hn.trans (hlen sig h)) hstack hW (by rw [hb]; exact hdg)
    (fun vm₁ hW₁ => ⟨hf.1, hf.2, hp.2 (T.setVm vm₁) hT hW₁⟩) with ⟨v, vm₁, ⟨U', l2, c2, s2⟩, hW₁, X', ⟨g', mk, t, L, e1, e2, hq, h1, hL, h2, h3⟩, st⟩ | ⟨q, vm₁, ⟨U', l2, c2, s2⟩, hW₁, X', ⟨g', mk, t, L, E, ce, e1, e2, hq, hce, hcv, hcl, h1, hL, h2, h3⟩, st⟩
  · dsimp only [Pt.U, Pt.locs, Pt.cells, Pt.slots] at X' e1 e2 h1 h2 h3 st
    subst h1; subst h2; subst h3
    exact Or.inl ⟨v, (T.setVm vm₁).calling g' mk As.toArray, t, U', L, hT, X', hL, e1, e2, hq, st⟩
  · dsimp only [Pt.U, Pt.locs, Pt.cells, Pt.slots] at X' e1 e2 h1 h2 h3 st hcl
    subst h1; subst h2; subst h3
    exact Or.inr ⟨q, (T.setVm vm₁).calling g' mk As.toArray, t, U', L, E, ce, hT, X', hL, e1, e2, hq, hce, hcv, vx_cls hW₁ hcl, st⟩
end Runs
section Rows
variable {p : Program} {l : Launch} {e : Env} {R : Room} {s : State} {m : MethodId} {args : Array Value} {below : List Frame} {meth : Method} {c : Code} {H : Heap} {locs : List Loc} {cells slots : Nat} {Q : State → Prop}
variable {mc ms : Nat} {free : Addr → Prop} {A0 A1 : Nat → Prop} {H0 : Heap} {a : Array Value} {pc : Nat} {ls : Array Slot} {st0 rest : List Value}
theorem vx_keep {st₀ t T' : State} {L : List Loc} (h0 : st₀.heap = H) (e1 : T'.heap = t.heap) (hS : va_S A0 H0 H locs) (hA : ∀ q, q < H.size → A1 q → A0 q) (hf : ∀ q, free q → A0 q) (hL : ∀ q ∈ L, free q.base) (hF : va_F A1 st₀ t) :
    H.size ≤ T'.heap.size ∧ (∀ q : Nat, q < H.size → ¬ A1 q → T'.heap[q]? = H[q]?) ∧ va_S A0 H0 T'.heap (locs ++ L) := by
  obtain ⟨hz, hk⟩ := hF
  rw [h0] at hz hk
  exact ⟨by rw [e1]; exact hz, fun q h1 h2 => by rw [e1]; exact hk q h1 h2,
    ⟨Nat.le_trans hS.1 (by rw [e1]; exact hz), fun q h1 h2 => by rw [e1, hk q (Nat.lt_of_lt_of_le h1 hS.1) (fun z => h2 (hA q (Nat.lt_of_lt_of_le h1 hS.1) z))]; exact hS.2.1 q h1 h2, fun q hq => by
      rcases List.mem_append.mp hq with h | h
      · exact hS.2.2 q h
      · exact hf _ (hL q h)⟩⟩
theorem vx_calli {S SX : Type} {post : Int32 → S → Prop} {px : SX → Prop} {B : S → State → Prop} {BX : String → SX → State → Prop} {AX : Nat → Prop} (hr : vx_Run p l e R s m args below meth c H locs cells slots mc ms (F0 m pc ls st0) rest (va_Qi post B A1 a) (vx_X px BX AX) free) (hS : va_S A0 H0 H locs) (hA : ∀ q, q < H.size → A1 q → A0 q) (hf : ∀ q, free q → A0 q) (hAX : ∀ q, q < H.size → AX q → A0 q)
    (kx : ∀ (E : String) (ce : Cell) (q9 : Addr) (u : SX) (t : State) (H1 : Heap) (locs1 : List Loc), t.heap = H1 → s.vm.Alike t.vm → px u → BX E u t → H.size ≤ H1.size → (∀ q : Nat, q < H.size → ¬ AX q → H1[q]? = H[q]?) → va_S A0 H0 H1 locs1 → H1[q9]? = some ce → ce.vm = .none → s.vm.findClass E = some ce.cls → vx_W p l e R s m args below meth c H1 locs1 (cells + mc) (slots + ms) Q (F0 m pc ls rest) q9)
    (kk : ∀ (r : Int32) (u : S) (t : State) (H1 : Heap) (locs1 : List Loc), t.heap = H1 → s.vm.Alike t.vm → post r u → B u t → H.size ≤ H1.size → (∀ q : Nat, q < H.size → ¬ A1 q → H1[q]? = H[q]?) → va_S A0 H0 H1 locs1 → W p l e R s m args below meth c H1 locs1 (cells + mc) (slots + ms) Q (F0 m (pc + 3) ls (.int r :: rest))) : W p l e R s m args below meth c H locs cells slots Q (F0 m pc ls st0) := by
  intro T hT X
  rcases hr T hT X with ⟨v, st₀, t, T', L, h0, X', hL, e1, e2, ⟨⟨r, u, hv, hp, hb⟩, hF⟩, st⟩ | ⟨q, st₀, t, T', L, E, ce, h0, X', hL, e1, e2, ⟨u, hp, hb, hF⟩, hce, hcv, hcl, st⟩
  · cases hv
    obtain ⟨k1, k2, k3⟩ := vx_keep h0 e1 hS hA hf hL hF
    obtain ⟨t2, a1, b1⟩ := kk r u t T'.heap (locs ++ L) e1.symm (by rw [← e2]; exact X'.warmed.alike) hp hb k1 k2 k3 T' rfl X'
    exact ⟨t2, st t2 a1, b1⟩
  · obtain ⟨k1, k2, k3⟩ := vx_keep h0 e1 hS hAX hf hL hF
    obtain ⟨t2, a1, b1⟩ := kx E ce q u t T'.heap (locs ++ L) e1.symm (by rw [← e2]; exact X'.warmed.alike) hp hb k1 k2 k3 (by rw [e1]; exact hce) hcv hcl T' rfl X'
    exact ⟨t2, st.trans a1, b1⟩
theorem vx_calll {S SX : Type} {post : Int64 → S → Prop} {px : SX → Prop} {B : S → State → Prop} {BX : String → SX → State → Prop} {AX : Nat → Prop} (hr : vx_Run p l e R s m args below meth c H locs cells slots mc ms (F0 m pc ls st0) rest (va_Ql post B A1 a) (vx_X px BX AX) free) (hS : va_S A0 H0 H locs) (hA : ∀ q, q < H.size → A1 q → A0 q) (hf : ∀ q, free q → A0 q) (hAX : ∀ q, q < H.size → AX q → A0 q)
    (kx : ∀ (E : String) (ce : Cell) (q9 : Addr) (u : SX) (t : State) (H1 : Heap) (locs1 : List Loc), t.heap = H1 → s.vm.Alike t.vm → px u → BX E u t → H.size ≤ H1.size → (∀ q : Nat, q < H.size → ¬ AX q → H1[q]? = H[q]?) → va_S A0 H0 H1 locs1 → H1[q9]? = some ce → ce.vm = .none → s.vm.findClass E = some ce.cls → vx_W p l e R s m args below meth c H1 locs1 (cells + mc) (slots + ms) Q (F0 m pc ls rest) q9)
    (kk : ∀ (r : Int64) (u : S) (t : State) (H1 : Heap) (locs1 : List Loc), t.heap = H1 → s.vm.Alike t.vm → post r u → B u t → H.size ≤ H1.size → (∀ q : Nat, q < H.size → ¬ A1 q → H1[q]? = H[q]?) → va_S A0 H0 H1 locs1 → W p l e R s m args below meth c H1 locs1 (cells + mc) (slots + ms) Q (F0 m (pc + 3) ls (.long r :: rest))) : W p l e R s m args below meth c H locs cells slots Q (F0 m pc ls st0) := by
  intro T hT X
  rcases hr T hT X with ⟨v, st₀, t, T', L, h0, X', hL, e1, e2, ⟨⟨r, u, hv, hp, hb⟩, hF⟩, st⟩ | ⟨q, st₀, t, T', L, E, ce, h0, X', hL, e1, e2, ⟨u, hp, hb, hF⟩, hce, hcv, hcl, st⟩
  · cases hv
    obtain ⟨k1, k2, k3⟩ := vx_keep h0 e1 hS hA hf hL hF
    obtain ⟨t2, a1, b1⟩ := kk r u t T'.heap (locs ++ L) e1.symm (by rw [← e2]; exact X'.warmed.alike) hp hb k1 k2 k3 T' rfl X'
    exact ⟨t2, st t2 a1, b1⟩
  · obtain ⟨k1, k2, k3⟩ := vx_keep h0 e1 hS hAX hf hL hF
    obtain ⟨t2, a1, b1⟩ := kx E ce q u t T'.heap (locs ++ L) e1.symm (by rw [← e2]; exact X'.warmed.alike) hp hb k1 k2 k3 (by rw [e1]; exact hce) hcv hcl T' rfl X'
    exact ⟨t2, st.trans a1, b1⟩
theorem vx_callf {S SX : Type} {post : UInt32 → S → Prop} {px : SX → Prop} {B : S → State → Prop} {BX : String → SX → State → Prop} {AX : Nat → Prop} (hr : vx_Run p l e R s m args below meth c H locs cells slots mc ms (F0 m pc ls st0) rest (va_Qf post B A1 a) (vx_X px BX AX) free) (hS : va_S A0 H0 H locs) (hA : ∀ q, q < H.size → A1 q → A0 q) (hf : ∀ q, free q → A0 q) (hAX : ∀ q, q < H.size → AX q → A0 q)
    (kx : ∀ (E : String) (ce : Cell) (q9 : Addr) (u : SX) (t : State) (H1 : Heap) (locs1 : List Loc), t.heap = H1 → s.vm.Alike t.vm → px u → BX E u t → H.size ≤ H1.size → (∀ q : Nat, q < H.size → ¬ AX q → H1[q]? = H[q]?) → va_S A0 H0 H1 locs1 → H1[q9]? = some ce → ce.vm = .none → s.vm.findClass E = some ce.cls → vx_W p l e R s m args below meth c H1 locs1 (cells + mc) (slots + ms) Q (F0 m pc ls rest) q9)
    (kk : ∀ (r : UInt32) (u : S) (t : State) (H1 : Heap) (locs1 : List Loc), t.heap = H1 → s.vm.Alike t.vm → post r u → B u t → H.size ≤ H1.size → (∀ q : Nat, q < H.size → ¬ A1 q → H1[q]? = H[q]?) → va_S A0 H0 H1 locs1 → W p l e R s m args below meth c H1 locs1 (cells + mc) (slots + ms) Q (F0 m (pc + 3) ls (.float r :: rest))) : W p l e R s m args below meth c H locs cells slots Q (F0 m pc ls st0) := by
  intro T hT X
  rcases hr T hT X with ⟨v, st₀, t, T', L, h0, X', hL, e1, e2, ⟨⟨r, u, hv, hp, hb⟩, hF⟩, st⟩ | ⟨q, st₀, t, T', L, E, ce, h0, X', hL, e1, e2, ⟨u, hp, hb, hF⟩, hce, hcv, hcl, st⟩
  · cases hv
    obtain ⟨k1, k2, k3⟩ := vx_keep h0 e1 hS hA hf hL hF
    obtain ⟨t2, a1, b1⟩ := kk r u t T'.heap (locs ++ L) e1.symm (by rw [← e2]; exact X'.warmed.alike) hp hb k1 k2 k3 T' rfl X'
    exact ⟨t2, st t2 a1, b1⟩
  · obtain ⟨k1, k2, k3⟩ := vx_keep h0 e1 hS hAX hf hL hF
    obtain ⟨t2, a1, b1⟩ := kx E ce q u t T'.heap (locs ++ L) e1.symm (by rw [← e2]; exact X'.warmed.alike) hp hb k1 k2 k3 (by rw [e1]; exact hce) hcv hcl T' rfl X'
    exact ⟨t2, st.trans a1, b1⟩
theorem vx_calld {S SX : Type} {post : UInt64 → S → Prop} {px : SX → Prop} {B : S → State → Prop} {BX : String → SX → State → Prop} {AX : Nat → Prop} (hr : vx_Run p l e R s m args below meth c H locs cells slots mc ms (F0 m pc ls st0) rest (va_Qd post B A1 a) (vx_X px BX AX) free) (hS : va_S A0 H0 H locs) (hA : ∀ q, q < H.size → A1 q → A0 q) (hf : ∀ q, free q → A0 q) (hAX : ∀ q, q < H.size → AX q → A0 q)
    (kx : ∀ (E : String) (ce : Cell) (q9 : Addr) (u : SX) (t : State) (H1 : Heap) (locs1 : List Loc), t.heap = H1 → s.vm.Alike t.vm → px u → BX E u t → H.size ≤ H1.size → (∀ q : Nat, q < H.size → ¬ AX q → H1[q]? = H[q]?) → va_S A0 H0 H1 locs1 → H1[q9]? = some ce → ce.vm = .none → s.vm.findClass E = some ce.cls → vx_W p l e R s m args below meth c H1 locs1 (cells + mc) (slots + ms) Q (F0 m pc ls rest) q9)
    (kk : ∀ (r : UInt64) (u : S) (t : State) (H1 : Heap) (locs1 : List Loc), t.heap = H1 → s.vm.Alike t.vm → post r u → B u t → H.size ≤ H1.size → (∀ q : Nat, q < H.size → ¬ A1 q → H1[q]? = H[q]?) → va_S A0 H0 H1 locs1 → W p l e R s m args below meth c H1 locs1 (cells + mc) (slots + ms) Q (F0 m (pc + 3) ls (.double r :: rest))) : W p l e R s m args below meth c H locs cells slots Q (F0 m pc ls st0) := by
  intro T hT X
  rcases hr T hT X with ⟨v, st₀, t, T', L, h0, X', hL, e1, e2, ⟨⟨r, u, hv, hp, hb⟩, hF⟩, st⟩ | ⟨q, st₀, t, T', L, E, ce, h0, X', hL, e1, e2, ⟨u, hp, hb, hF⟩, hce, hcv, hcl, st⟩
  · cases hv
    obtain ⟨k1, k2, k3⟩ := vx_keep h0 e1 hS hA hf hL hF
    obtain ⟨t2, a1, b1⟩ := kk r u t T'.heap (locs ++ L) e1.symm (by rw [← e2]; exact X'.warmed.alike) hp hb k1 k2 k3 T' rfl X'
    exact ⟨t2, st t2 a1, b1⟩
  · obtain ⟨k1, k2, k3⟩ := vx_keep h0 e1 hS hAX hf hL hF
    obtain ⟨t2, a1, b1⟩ := kx E ce q u t T'.heap (locs ++ L) e1.symm (by rw [← e2]; exact X'.warmed.alike) hp hb k1 k2 k3 (by rw [e1]; exact hce) hcv hcl T' rfl X'
    exact ⟨t2, st.trans a1, b1⟩
theorem vx_callv {S SX : Type} {post : S → Prop} {px : SX → Prop} {B : S → State → Prop} {BX : String → SX → State → Prop} {AX : Nat → Prop} (hr : vx_Run p l e R s m args below meth c H locs cells slots mc ms (F0 m pc ls st0) rest (va_Qv post B A1 a) (vx_X px BX AX) free) (hS : va_S A0 H0 H locs) (hA : ∀ q, q < H.size → A1 q → A0 q) (hf : ∀ q, free q → A0 q) (hAX : ∀ q, q < H.size → AX q → A0 q)
    (kx : ∀ (E : String) (ce : Cell) (q9 : Addr) (u : SX) (t : State) (H1 : Heap) (locs1 : List Loc), t.heap = H1 → s.vm.Alike t.vm → px u → BX E u t → H.size ≤ H1.size → (∀ q : Nat, q < H.size → ¬ AX q → H1[q]? = H[q]?) → va_S A0 H0 H1 locs1 → H1[q9]? = some ce → ce.vm = .none → s.vm.findClass E = some ce.cls → vx_W p l e R s m args below meth c H1 locs1 (cells + mc) (slots + ms) Q (F0 m pc ls rest) q9)
    (kk : ∀ (u : S) (t : State) (H1 : Heap) (locs1 : List Loc), t.heap = H1 → s.vm.Alike t.vm → post u → B u t → H.size ≤ H1.size → (∀ q : Nat, q < H.size → ¬ A1 q → H1[q]? = H[q]?) → va_S A0 H0 H1 locs1 → W p l e R s m args below meth c H1 locs1 (cells + mc) (slots + ms) Q (F0 m (pc + 3) ls (rest))) : W p l e R s m args below meth c H locs cells slots Q (F0 m pc ls st0) := by
  intro T hT X
  rcases hr T hT X with ⟨v, st₀, t, T', L, h0, X', hL, e1, e2, ⟨⟨u, hv, hp, hb⟩, hF⟩, st⟩ | ⟨q, st₀, t, T', L, E, ce, h0, X', hL, e1, e2, ⟨u, hp, hb, hF⟩, hce, hcv, hcl, st⟩
  · cases hv
    obtain ⟨k1, k2, k3⟩ := vx_keep h0 e1 hS hA hf hL hF
    obtain ⟨t2, a1, b1⟩ := kk u t T'.heap (locs ++ L) e1.symm (by rw [← e2]; exact X'.warmed.alike) hp hb k1 k2 k3 T' rfl X'
    exact ⟨t2, st t2 a1, b1⟩
  · obtain ⟨k1, k2, k3⟩ := vx_keep h0 e1 hS hAX hf hL hF
    obtain ⟨t2, a1, b1⟩ := kx E ce q u t T'.heap (locs ++ L) e1.symm (by rw [← e2]; exact X'.warmed.alike) hp hb k1 k2 k3 (by rw [e1]; exact hce) hcv hcl T' rfl X'
    exact ⟨t2, st.trans a1, b1⟩
/-- caught by the row x of this method's table; the rows ahead don't take it -/
theorem vx_catch {own name : String} {E : String} {ce : Cell} {q : Addr} (hown : s.vm.findClass own = some m.cls) (pre : List ExceptionTableEntry) (x : ExceptionTableEntry) (suf : List ExceptionTableEntry) (hsplit : c.exceptionTable.toList = pre ++ x :: suf)
    (hpass : ∀ z ∈ pre, covers z pc = false ∨ (z.catchType ≠ 0 ∧ ∃ nm : String, (Cond.classLink own z.catchType nm).before args s = true ∧ va_Nc E nm s)) (hx : covers x pc = true) (h0 : x.catchType ≠ 0)
    (hlink : (Cond.classLink own x.catchType name).before args s = true) (hcast : (Cond.castable E name).before args s = true) (hcell : H[q]? = some ce) (hv : ce.vm = .none) (hcl : s.vm.findClass E = some ce.cls)
    (kk : W p l e R s m args below meth c H locs cells slots Q (F0 m x.handlerPc ls [.ref q])) : vx_W p l e R s m args below meth c H locs cells slots Q (F0 m pc ls rest) q := by
  intro T hT X
  have hpl : e.platform.magicAccessors = ({} : Platform).magicAccessors := by rw [X.admits.platform]
  obtain ⟨c3, c4, hc3, hc4, hasg⟩ := Cond.castable_spec hcast
  cases Option.some.inj (hc3.symm.trans hcl)
  obtain ⟨c5, hc5, hcl5⟩ := Cond.classLink_spec hown hlink e.platform hpl
  cases Option.some.inj (hc4.symm.trans hc5)
  obtain ⟨vm', X', st⟩ := X.thenCaughtThrough q (g := F0 m pc ls rest) rfl (Steps.refl _) (by rw [hT]; exact hcell) (by rw [hv]; rfl) (by obtain ⟨k9, h9, -⟩ := Vm.findClass_spec hcl; exact ⟨k9, h9⟩) pre x suf hsplit
    (fun z hz => by
      rcases hpass z hz with h | ⟨hz0, nm, hl1, hn1⟩
      · exact Or.inl h
      · obtain ⟨c6, hc6, hcl6⟩ := Cond.classLink_spec hown hl1 e.platform hpl
        obtain ⟨a8, b8, h1, h2, h3⟩ := hn1
        cases Option.some.inj (h1.symm.trans hcl)
        cases Option.some.inj (h2.symm.trans hc6)
        exact Or.inr ⟨hz0, _, hcl6, h3⟩) hx (Or.inr ⟨h0, c4, hcl5, hasg⟩)
  obtain ⟨t, a1, b1⟩ := kk (T.setVm vm') hT X'
  exact ⟨t, st.trans a1, b1⟩
end Rows
section Ends
variable {p : Program} {l : Launch} {e : Env} {R : Room} {s : State} {m : MethodId} {args : Array Value} {below : List Frame} {meth : Method} {c : Code} {H : Heap} {locs : List Loc} {cells slots : Nat} {Q : State → Prop}
variable {mc ms : Nat} {free : Addr → Prop} {A0 A1 : Nat → Prop} {H0 : Heap} {a : Array Value} {ls : Array Slot} {st0 rest : List Value}
variable {Qc : Array Value → State → Outcome → State → Prop} {XC : String → State → State → Prop}
/-- what a body that may throw owes at its end -/
def vx_MQ (below : List Frame) (Qc : Array Value → State → Outcome → State → Prop) (XC : String → State → State → Prop) (a : Array Value) (s : State) (mc ms : Nat) (free : Addr → Prop) : State → Prop := fun t =>
  ∃ o, t.status = .running ∧ Ended t below o ∧ vx_Q Qc XC mc ms free a s o t
theorem vx_ret {g : JFrame} {mc ms : Nat} (k : W p l e R s m args below meth c H locs cells slots (MQ below Qc args s mc ms free) g) : W p l e R s m args below meth c H locs cells slots (vx_MQ below Qc XC args s mc ms free) g := by
  intro T hT X
  obtain ⟨t, a1, o, b1, b2, b3, b4⟩ := k T hT X
  exact ⟨t, a1, o, b1, b2, Or.inl ⟨b3, b4⟩⟩
/-- not caught here: it goes on to the caller -/
theorem vx_widen {g : JFrame} {q : Addr} {k n : Nat} (h1 : cells ≤ k) (h2 : slots ≤ n) (kk : vx_W p l e R s m args below meth c H locs k n Q g q) : vx_W p l e R s m args below meth c H locs cells slots Q g q := fun T hT X => kk T hT (stand_widen X h1 h2)
theorem vx_out {pc : Nat} {E : String} {ce : Cell} {q : Addr} {mc ms : Nat} (hout : ∀ x ∈ c.exceptionTable.toList, covers x pc = false) (hlocks : meth.locks = false) (hcell : H[q]? = some ce) (hv : ce.vm = .none) (hcl : s.vm.findClass E = some ce.cls)
    (hx : ∀ t : State, t.heap = H → s.vm.Alike t.vm → XC E s t) (hf : ∀ z ∈ locs, free z.base) (hc : cells ≤ mc) (hs : slots ≤ ms) :
    vx_W p l e R s m args below meth c H locs cells slots (vx_MQ below Qc XC args s mc ms free) (F0 m pc ls rest) q := by
  intro T hT X
  obtain ⟨st1, hrun, hend, hW, hsm⟩ := X.leaveThrown q (g := F0 m pc ls rest) rfl rfl rfl hout hlocks
  have hcell9 : (T.setFrames (.throwing q :: below)).heap[q]? = some ce := by
    show T.heap[q]? = some ce
    rw [hT]; exact hcell
  exact ⟨_, st1, .threw q, hrun, hend, Or.inr ⟨q, rfl, E, ce, locs, hx _ hT hW.alike, hcell9, hv, hcl, hW, hsm.mono hc hs, hf⟩⟩
theorem vx_frame {U : State} {k n : Nat} (h : s.sameButNew ({ U with vm := s.vm } : State) locs k n) : s.heap.size ≤ U.heap.size ∧ ∀ q : Nat, q < s.heap.size → (∀ z ∈ locs, z.base ≠ q) → U.heap[q]? = s.heap[q]? := by
  obtain ⟨-, h2, -, -, -, h6⟩ := h
  refine ⟨h2, fun q hq hz => ?_⟩
  obtain ⟨c9, e1, e2, e3, e4⟩ := h6 q _ (Array.getElem?_eq_getElem hq)
  have hs : c9.slots = (s.heap[q]).slots := Array.ext_getElem? fun i => e4 i fun hm => hz _ hm rfl
  have h9 : c9 = s.heap[q] := by
    rw [hs] at e2
    exact e2
  have e5 : U.heap[q]? = some c9 := e1
  rw [e5, h9, Array.getElem?_eq_getElem hq]
/-- the words of a throw but the four that speak of the heap -/
def vx_no (w : Cond) : Bool := decide (w ≠ .isRef (.static Bundle.tN "UNASSIGNED_STACK" Bundle.steD)) && decide (w ≠ .isRef (.static Bundle.tN "SUPPRESSED_SENTINEL" Bundle.listD)) && decide (w ≠ .laysStatic Bundle.tN "UNASSIGNED_STACK" Bundle.steD) && decide (w ≠ .laysStatic Bundle.tN "SUPPRESSED_SENTINEL" Bundle.listD)
def vx_at0 (own : String) (ic : Nat) (X : String) (names : List String) : List Cond := (Bundle.ownAtoms0 own ic X names).filter vx_no
def vx_atS (own : String) (ic : Nat) (X : String) (names : List String) : List Cond := (Bundle.ownAtoms own ic X names).filter vx_no
/-- a word that the tables alone decide, or a good one -/
def vx_ot (w : Cond) : Bool := w.onTables || goodWord w
theorem vx_ot_at {args a' : Array Value} {s U : State} {w : Cond} (hW : s.WarmedH U.vm) (hvm : s.vm = U.vm) (hg : vx_ot w = true) (h : w.before args s = true) : w.before a' U = true := by
  simp only [vx_ot, Bool.or_eq_true] at hg
  rcases hg with hg | hg
  · exact va_tabs hg hvm h
  · exact word_at hW (good_of_word hg) h
/-- a list's words: the good ones out of the method's own list, the others by premises of their own -/
theorem vx_hat {args : Array Value} {s : State} {L B : List Cond} (h1 : ∀ w ∈ L.filter goodWord, w.before args s = true) (h2 : ∀ w ∈ L.filter (fun w => !goodWord w), w ∈ B) (h3 : ∀ w ∈ B, w.before args s = true) : ∀ w ∈ L, w.before args s = true := by
  intro w hw
  by_cases g : goodWord w = true
  · exact h1 w (List.mem_filter.mpr ⟨hw, g⟩)
  · refine h3 w (h2 w (List.mem_filter.mpr ⟨hw, ?_⟩))
    show (!goodWord w) = true
    cases hgw : goodWord w
    · rfl
    · exact absurd hgw g
theorem vx_c {args : Array Value} {s : State} {w : Cond} {B : List Cond} (h : w.before args s = true) (t : ∀ w ∈ B, w.before args s = true) : ∀ w' ∈ w :: B, w'.before args s = true := fun w' h' => (List.mem_cons.mp h').elim (fun e => by rw [e]; exact h) (t w')
theorem vx_n {args : Array Value} {s : State} : ∀ w ∈ ([] : List Cond), w.before args s = true := fun _ h => nomatch h
theorem vx_own {args : Array Value} {s : State} {L : List Cond} (h1 : ∀ w ∈ L.filter vx_no, w.before args s = true)
    (hU : (Cond.isRef (.static Bundle.tN "UNASSIGNED_STACK" Bundle.steD)).before args s = true) (hN : (Cond.isRef (.static Bundle.tN "SUPPRESSED_SENTINEL" Bundle.listD)).before args s = true)
    (lU : (Cond.laysStatic Bundle.tN "UNASSIGNED_STACK" Bundle.steD).before args s = true) (lN : (Cond.laysStatic Bundle.tN "SUPPRESSED_SENTINEL" Bundle.listD).before args s = true) : ∀ w ∈ L, w.before args s = true := by
  intro w hw
  by_cases e1 : w = .isRef (.static Bundle.tN "UNASSIGNED_STACK" Bundle.steD)
  · rw [e1]; exact hU
  · by_cases e2 : w = .isRef (.static Bundle.tN "SUPPRESSED_SENTINEL" Bundle.listD)
    · rw [e2]; exact hN
    · by_cases e3 : w = .laysStatic Bundle.tN "UNASSIGNED_STACK" Bundle.steD
      · rw [e3]; exact lU
      · by_cases e4 : w = .laysStatic Bundle.tN "SUPPRESSED_SENTINEL" Bundle.listD
        · rw [e4]; exact lN
        · exact h1 w (List.mem_filter.mpr ⟨hw, by unfold vx_no; rw [decide_eq_true e1, decide_eq_true e2, decide_eq_true e3, decide_eq_true e4]; rfl⟩)
/-- where a static field lies, its class's statics cell in H -/
def vx_L (C n d : String) (A : Nat → Prop) (U : State) (H : Heap) : Prop := ∃ (c : ClassId) (k : Class) (i : Nat) (f : Field) (a : Nat) (cell : Cell), U.vm.findClass C = some c ∧ U.fieldFound? C n d = some (c, k, i, f) ∧ f.isStatic = true ∧ k.statics = some a ∧ H[a]? = some cell ∧ cell.vm.isStatics = true ∧ cell.cls = c ∧ f.slot < cell.slots.size ∧ k.staticTypes[f.slot]? = some f.type ∧ ¬ A a
theorem vx_L.moved {C n d : String} {A : Nat → Prop} {u U : State} {H : Heap} (hvm : u.vm.Alike U.vm) (h : vx_L C n d A u H) : vx_L C n d A U H := by
  obtain ⟨c, k, i, f, a, cell, h1, h2, h3, h4, h5, h6, h7, h8, h9, h10⟩ := h
  obtain ⟨k', hi', he⟩ := State.fieldFound?_setVm hvm h2
  exact ⟨c, k', i, f, a, cell, by rw [hvm.findClass]; exact h1, hi', h3, by rw [he]; exact h4, h5, h6, h7, h8, by rw [he]; exact h9, h10⟩
theorem vx_L.kept {C n d : String} {A : Nat → Prop} {U : State} {H H1 : Heap} (h : vx_L C n d A U H) (hq : ∀ a : Nat, a < H.size → ¬ A a → H1[a]? = H[a]?) : vx_L C n d A U H1 := by
  obtain ⟨c, k, i, f, a, cell, h1, h2, h3, h4, h5, h6, h7, h8, h9, h10⟩ := h
  exact ⟨c, k, i, f, a, cell, h1, h2, h3, h4, by rw [hq a (Array.getElem?_eq_some_iff.mp h5).1 h10]; exact h5, h6, h7, h8, h9, h10⟩
theorem vx_L.narrow {C n d : String} {A B : Nat → Prop} {U : State} {H : Heap} (h : vx_L C n d A U H) (hAB : ∀ q, B q → A q) : vx_L C n d B U H := by
  obtain ⟨c, k, i, f, a, cell, h1, h2, h3, h4, h5, h6, h7, h8, h9, h10⟩ := h
  exact ⟨c, k, i, f, a, cell, h1, h2, h3, h4, h5, h6, h7, h8, h9, fun z => h10 (hAB _ z)⟩
theorem vx_L.word {C n d : String} {A : Nat → Prop} {s : State} {args : Array Value} (h : vx_L C n d A s s.heap) : (Cond.laysStatic C n d).before args s = true := by
  obtain ⟨c, k, i, f, a, cell, h1, h2, h3, h4, h5, h6, h7, h8, h9, -⟩ := h
  show (Cond.laysStatic C n d).holds args s none s [] = true
  exact Cond.laysStatic_of h1 h2 h3 h4 h5 h6 h7 h8 h9
/-- .. and what it holds: null or some reference -/
def vx_Zq (C n d : String) (A : Nat → Prop) (U : State) (H : Heap) : Prop := va_Zq C n d A U H ∧ vx_L C n d A U H
theorem vx_Zq.moved {C n d : String} {A : Nat → Prop} {u U : State} {H : Heap} (hvm : u.vm.Alike U.vm) (h : vx_Zq C n d A u H) : vx_Zq C n d A U H := ⟨va_Zq.moved hvm h.1, vx_L.moved hvm h.2⟩
theorem vx_Zq.kept {C n d : String} {A : Nat → Prop} {U : State} {H H1 : Heap} (h : vx_Zq C n d A U H) (hq : ∀ a : Nat, a < H.size → ¬ A a → H1[a]? = H[a]?) : vx_Zq C n d A U H1 := ⟨va_Zq.kept h.1 hq, vx_L.kept h.2 hq⟩
theorem vx_Zq.narrow {C n d : String} {A B : Nat → Prop} {U : State} {H : Heap} (h : vx_Zq C n d A U H) (hAB : ∀ q, B q → A q) : vx_Zq C n d B U H := ⟨va_Zq.narrow h.1 hAB, vx_L.narrow h.2 hAB⟩
theorem vx_Zqof {args : Array Value} {s : State} {C n d : String} {A : Nat → Prop} (hl : (Cond.laysStatic C n d).before args s = true) (hini : (Cond.initialized C).before args s = true) (h : (Cond.isRef (.static C n d)).before args s = true) (hA : ∀ a : Nat, a < s.heap.size → ¬ A a) : vx_Zq C n d A s s.heap := by
  refine ⟨va_Zqof hl hini h hA, ?_⟩
  obtain ⟨c, k, i, f, a, cell, h1, h2, h3, h4, h5, h6, h7, h8, h9⟩ := Cond.laysStatic_spec hl
  exact ⟨c, k, i, f, a, cell, h1, h2, h3, h4, h5, h6, h7, h8, h9, hA a (Array.getElem?_eq_some_iff.mp h5).1⟩
theorem vx_isRef {C n d : String} {v : Value} {A : Nat → Prop} {s : State} {args : Array Value} (h : va_Z C n d v A s s.heap) (hv : v.isRef = true) : (Cond.isRef (.static C n d)).before args s = true := by
  obtain ⟨cf, kf, fi, f, a, cell, h1, h2, h3, h4, h5, h6, h7, -⟩ := h
  have he : (Term.static C n d).eval args s none [] s = some v := by
    simp [Term.eval, State.fieldNamed?, h1, h2, h4, h5, h6, h7]
  simp only [Cond.before, Cond.holds, Cond.value, he]
  cases v <;> simp_all [Value.isRef]
theorem vx_isRefq {C n d : String} {A : Nat → Prop} {s : State} {args : Array Value} (h : va_Zq C n d A s s.heap) : (Cond.isRef (.static C n d)).before args s = true := by
  rcases h with h | ⟨t, h⟩
  · exact vx_isRef h rfl
  · exact vx_isRef h rfl
/-- the same frame, seen from here: as if the method were called anew in this heap -/
theorem vx_rebase {T : State} (X : Stand p l e R s m args below meth c T locs cells slots) {R' : Room} (hf : R'.frames ≤ R.frames) (hl : R'.locals ≤ R.locals) (hc : cells + R'.cells ≤ R.cells) (hs : slots + R'.slots ≤ R.slots) :
    Stand p l e R' ((T.setVm s.vm).setFrames (.invoking m args :: below)) m args below meth c T [] 0 0 := by
  have htop : (T.setVm s.vm).topJava?.isSome := X.here.top
  have hF : ((T.setVm s.vm).setFrames (.invoking m args :: below)).frames = .invoking m args :: below := State.frames_setFrames _ (State.cur_lt_of_top htop)
  obtain ⟨g₀, hg0⟩ := Option.isSome_iff_exists.mp htop
  obtain ⟨r, hr⟩ := State.topJava?_eq_some.mp hg0
  have hl9 : e.platform.stackLimits (T.setVm s.vm).me = e.platform.stackLimits s.me := X.limits
  have hb9 : (T.setVm s.vm).me.stackBytes = s.me.stackBytes := X.bytes
  refine ⟨X.admits, X.cas, X.clock, hF, ?_, X.hears, X.method, X.code, X.here, X.tail, X.warmed, ?_, ?_, ?_⟩
  · have h := X.room
    have hU : ((T.setVm s.vm).setFrames (.invoking m args :: below)).localsInUse = s.localsInUse := by
      rw [State.localsInUse_invoking hF (meth := meth) (c := c) X.method X.code, State.localsInUse_invoking X.frames X.method X.code]
    simp only [State.hasRoom, Bool.and_eq_true, decide_eq_true_eq] at h ⊢
    obtain ⟨⟨⟨⟨h1, h2, h3, h4, h5, h6⟩, h7⟩, h8⟩, h9⟩ := h
    rw [X.frames, List.length_cons] at h2 h3
    have q1 := X.heapSize
    have q2 := X.used
    simp only [hF, hU, List.length_cons, State.stackLimits_setFrames, State.stackBytes_setFrames, hl9, hb9]
    refine ⟨⟨⟨⟨by omega, by omega, by omega, by omega, by omega, h6⟩, ?_⟩, ?_⟩, X.book⟩
    · show T.heap.size + R'.cells ≤ e.platform.maxCells
      omega
    · show T.slotsUsed + R'.slots ≤ e.platform.maxSlots
      omega
  · rw [State.stackLimits_setFrames]; rfl
  · rw [State.stackBytes_setFrames]; rfl
  · refine ⟨?_, Nat.le_refl _, Nat.le_refl _, ?_, ?_, fun a c9 h9 => ⟨c9, h9, rfl, rfl, fun _ _ => rfl⟩⟩
    · obtain ⟨t, ht, -⟩ := State.frames_cons hr
      show T.setVm s.vm = { ((T.setVm s.vm).setFrames (.invoking m args :: below)).setFrames (T.setVm s.vm).frames with heap := T.heap, slotsUsed := T.slotsUsed }
      rw [State.setFrames_setFrames, State.setFrames_self ht]
      rfl
    · show T.slotsUsed = T.slotsUsed + ((T.heap.toList.drop T.heap.size).map (·.slots.size)).sum
      rw [List.drop_eq_nil_of_le (Nat.le_of_eq Array.length_toList)]
      rfl
    · show ((T.heap.toList.drop T.heap.size).map (·.slots.size)).sum ≤ 0
      rw [List.drop_eq_nil_of_le (Nat.le_of_eq Array.length_toList)]
      exact Nat.le_refl _
/-- 'throw new E()': new; dup; invokespecial; athrow -/
theorem vx_throw0 {cc : ByteArray} {pc : Nat} (hexec : p.tables.exec = Jvm.exec) (hb : c.code = cc) (hl : l.stackTraces = false) {own cls : String} {names : List String} {ik ic mc ms : Nat} {A : Nat → Prop}
    (hown : s.vm.findClass own = some m.cls) (hcls : Bundle.fit cls = true) (hnames : ∀ n ∈ names, Bundle.fit n = true)
    (hk : (Cond.classLink own ik cls).before args s = true) (hini : (Cond.initialized cls).before args s = true) (hat : ∀ w ∈ vx_at0 own ic cls names, w.before args s = true)
    (hgood : ∀ w ∈ Cond.classLink own ik cls :: Cond.initialized cls :: vx_at0 own ic cls names, vx_ot w = true)
    (hU : vx_Zq Bundle.tN "UNASSIGNED_STACK" Bundle.steD A s s.heap) (hN : vx_Zq Bundle.tN "SUPPRESSED_SENTINEL" Bundle.listD A s s.heap) (hS : va_S A s.heap H locs) (hsize : ls.size = c.maxLocals)
    (d0 : decode cc pc = .ok (.new ik, 3)) (d3 : decode cc (pc + 3) = .ok (.dup, 1)) (d4 : decode cc (pc + 4) = .ok (.invokespecial ic, 3)) (d7 : decode cc (pc + 7) = .ok (.athrow, 1))
    (hout : ∀ x ∈ c.exceptionTable.toList, covers x (pc + 7) = false)
    (hRframes : names.length + 3 < R.frames) (hRlocals : (rest.map fun v => v.category).sum + (13 * (names.length + 1) + 42) ≤ R.locals) (hRcells : cells + 1 ≤ R.cells) (hRslots : slots + 6 ≤ R.slots) (hlocks : meth.locks = false)
    (hx : ∀ t : State, s.vm.Alike t.vm → H.size ≤ t.heap.size → (∀ q : Nat, q < H.size → t.heap[q]? = H[q]?) → XC cls s t)
    (hf : ∀ z ∈ locs, free z.base) (hc : cells + 1 ≤ mc) (hs : slots + 6 ≤ ms) :
    W p l e R s m args below meth c H locs cells slots (vx_MQ below Qc XC args s mc ms free) (F0 m pc ls rest) := by
  intro T hT X
  have htr : e.platform.stackTraces = false := (show e.platform.stackTraces = l.stackTraces by rw [X.admits.platform]).trans hl
  have Y := vx_rebase X (R' := { frames := R.frames, locals := R.locals, cells := 1, slots := 6 }) (Nat.le_refl _) (Nat.le_refl _) hRcells hRslots
  obtain ⟨s', hA⟩ : ∃ z, z = (T.setVm s.vm).setFrames (.invoking m args :: below) := ⟨_, rfl⟩
  rw [← hA] at Y
  have hvm : s'.vm = s.vm := by rw [hA]; rfl
  have hhp : s'.heap = H := by rw [hA]; exact hT
  have hW0 : s.WarmedH s'.vm := by rw [hvm]; exact State.WarmedH.refl s
  have hat' : ∀ w ∈ vx_at0 own ic cls names, w.before args s' = true := fun w hw => vx_ot_at hW0 hvm.symm (hgood w (List.mem_cons_of_mem _ (List.mem_cons_of_mem _ hw))) (hat w hw)
  have hk' : (Cond.classLink own ik cls).before args s' = true := vx_ot_at hW0 hvm.symm (hgood _ List.mem_cons_self) hk
  have hini' : (Cond.initialized cls).before args s' = true := vx_ot_at hW0 hvm.symm (hgood _ (List.mem_cons_of_mem _ List.mem_cons_self)) hini
  have hU' : vx_Zq Bundle.tN "UNASSIGNED_STACK" Bundle.steD A s' s'.heap := by rw [hhp]; exact vx_Zq.moved hW0.alike (hU.kept hS.2.1)
  have hN' : vx_Zq Bundle.tN "SUPPRESSED_SENTINEL" Bundle.listD A s' s'.heap := by rw [hhp]; exact vx_Zq.moved hW0.alike (hN.kept hS.2.1)
  have h : ∀ w ∈ Bundle.ownAtoms0 own ic cls names, w.before args s' = true := vx_own hat' (vx_isRefq hU'.1) (vx_isRefq hN'.1) hU'.2.word hN'.2.word
  have hown' : s'.vm.findClass own = some m.cls := by rw [hvm]; exact hown
  have hins : (Cond.instantiable cls 6).before args s' = true := h _ (by simp [Bundle.ownAtoms0])
  obtain ⟨vm₁, cX, kX, hfX, hkX, -, -, X₁, st1⟩ := Y.newCold hexec (own := own) (C := cls) (index := ik) (n := 6) hown' hk' hins hini'
    (g := F0 m pc ls rest) rfl (by rw [hb]; exact d0) (Nat.le_refl _) (Nat.le_refl _)
  generalize hT1 : (T.setVm vm₁).pushCell { cls := cX, slots := kX.instanceTypes.map defaultValue, vm := .none } = T1 at X₁ st1
  have hcat : (Value.ref T.heap.size).category = 1 := rfl
  have hcellA : T1.heap[T.heap.size]? = some (freshCell cX kX) := by rw [← hT1]; exact State.heap_pushCell_size _ _
  have d3' : decode c.code (pc + 3) = .ok (.dup, 1) := by rw [hb]; exact d3
  obtain ⟨U, hsteps, hrun, hend, hW, hsame, ce, hce, hO⟩ := X₁.ctorThrow0 hexec htr (own := own) (cls := cls) (names := names) (ic := ic) hown' hcls hnames h (fun x hx => nomatch hx) hfX hkX hcellA (by rw [hhp, hT]; exact Nat.le_refl _)
    (g := { method := m, pc := pc + 4, locals := ls, stack := .ref T.heap.size :: .ref T.heap.size :: rest, locked := none }) rfl hsize rfl rfl (rest := rest) rfl
    (by rw [hb]; exact d4) (by rw [hb]; exact d7) hout hRframes (by simp only [List.map_cons, List.sum_cons, hcat]; omega) hlocks
  obtain ⟨f1, f2⟩ := vx_frame hsame
  rw [hhp] at f1 f2
  have hWs : s.WarmedH U.vm := State.WarmedH.trans hW0 hW
  have hcl : s.vm.findClass cls = some ce.cls := by
    have h9 := hO.cls
    rw [hvm] at h9
    exact h9
  have hall : s.sameButNew ({ U with vm := s.vm } : State) locs mc ms := by
    subst hA
    obtain ⟨e1, e2⟩ := hsame
    rw [State.setFrames_setFrames] at e1
    have h2 : (T.setVm s.vm).sameButNew ({ U with vm := s.vm } : State) [] (0 + 1) (0 + 6) := ⟨e1, e2⟩
    have h3 := X.same.trans h2
    rw [List.append_nil] at h3
    exact h3.mono hc hs
  refine ⟨U, ?_, .threw T.heap.size, hrun, hend, Or.inr ⟨T.heap.size, rfl, cls, ce, locs, hx U hWs.alike f1 (fun q hq => f2 q hq (fun z hz => nomatch hz)), hce, hO.vm, hcl, hWs, hall, hf⟩⟩
  refine st1 _ ?_
  show Steps p.tables e below (T1.setTop { method := m, pc := pc + 3, locals := ls, stack := .ref T.heap.size :: rest, locked := none }) _
  jvm_step X₁.here [X₁.here.top, hexec, d3', Value.category]
  exact hsteps
/-- 'throw new E("text")': new; dup; ldc; invokespecial; athrow -/
theorem vx_throwS {cc : ByteArray} {pc : Nat} (hexec : p.tables.exec = Jvm.exec) (hb : c.code = cc) (hl : l.stackTraces = false) {own cls text : String} {names : List String} {ik is ic mc ms sa : Nat} {A : Nat → Prop}
    (hown : s.vm.findClass own = some m.cls) (hcls : Bundle.fit cls = true) (hnames : ∀ n ∈ names, Bundle.fit n = true)
    (hk : (Cond.classLink own ik cls).before args s = true) (hini : (Cond.initialized cls).before args s = true) (hstr : vk_R own is text sa s) (hat : ∀ w ∈ vx_atS own ic cls names, w.before args s = true)
    (hgood : ∀ w ∈ Cond.classLink own ik cls :: Cond.initialized cls :: vx_atS own ic cls names, vx_ot w = true)
    (hU : vx_Zq Bundle.tN "UNASSIGNED_STACK" Bundle.steD A s s.heap) (hN : vx_Zq Bundle.tN "SUPPRESSED_SENTINEL" Bundle.listD A s s.heap) (hS : va_S A s.heap H locs) (hsize : ls.size = c.maxLocals)
    (d0 : decode cc pc = .ok (.new ik, 3)) (d3 : decode cc (pc + 3) = .ok (.dup, 1)) (d4 : decode cc (pc + 4) = .ok (.ldc is, 2)) (d6 : decode cc (pc + 6) = .ok (.invokespecial ic, 3)) (d9 : decode cc (pc + 9) = .ok (.athrow, 1))
    (hout : ∀ x ∈ c.exceptionTable.toList, covers x (pc + 9) = false)
    (hRframes : names.length + 3 < R.frames) (hRlocals : (rest.map fun v => v.category).sum + (13 * (names.length + 1) + 43) ≤ R.locals) (hRcells : cells + 1 ≤ R.cells) (hRslots : slots + 6 ≤ R.slots) (hlocks : meth.locks = false)
    (hx : ∀ t : State, s.vm.Alike t.vm → H.size ≤ t.heap.size → (∀ q : Nat, q < H.size → t.heap[q]? = H[q]?) → XC cls s t)
    (hf : ∀ z ∈ locs, free z.base) (hc : cells + 1 ≤ mc) (hs : slots + 6 ≤ ms) :
    W p l e R s m args below meth c H locs cells slots (vx_MQ below Qc XC args s mc ms free) (F0 m pc ls rest) := by
  intro T hT X
  have htr : e.platform.stackTraces = false := (show e.platform.stackTraces = l.stackTraces by rw [X.admits.platform]).trans hl
  have Y := vx_rebase X (R' := { frames := R.frames, locals := R.locals, cells := 1, slots := 6 }) (Nat.le_refl _) (Nat.le_refl _) hRcells hRslots
  obtain ⟨s', hA⟩ : ∃ z, z = (T.setVm s.vm).setFrames (.invoking m args :: below) := ⟨_, rfl⟩
  rw [← hA] at Y
  have hvm : s'.vm = s.vm := by rw [hA]; rfl
  have hhp : s'.heap = H := by rw [hA]; exact hT
  have hW0 : s.WarmedH s'.vm := by rw [hvm]; exact State.WarmedH.refl s
  have hat' : ∀ w ∈ vx_atS own ic cls names, w.before args s' = true := fun w hw => vx_ot_at hW0 hvm.symm (hgood w (List.mem_cons_of_mem _ (List.mem_cons_of_mem _ hw))) (hat w hw)
  have hk' : (Cond.classLink own ik cls).before args s' = true := vx_ot_at hW0 hvm.symm (hgood _ List.mem_cons_self) hk
  have hini' : (Cond.initialized cls).before args s' = true := vx_ot_at hW0 hvm.symm (hgood _ (List.mem_cons_of_mem _ List.mem_cons_self)) hini
  have hU' : vx_Zq Bundle.tN "UNASSIGNED_STACK" Bundle.steD A s' s'.heap := by rw [hhp]; exact vx_Zq.moved hW0.alike (hU.kept hS.2.1)
  have hN' : vx_Zq Bundle.tN "SUPPRESSED_SENTINEL" Bundle.listD A s' s'.heap := by rw [hhp]; exact vx_Zq.moved hW0.alike (hN.kept hS.2.1)
  have h : ∀ w ∈ Bundle.ownAtoms own ic cls names, w.before args s' = true := vx_own hat' (vx_isRefq hU'.1) (vx_isRefq hN'.1) hU'.2.word hN'.2.word
  have hown' : s'.vm.findClass own = some m.cls := by rw [hvm]; exact hown
  have hins : (Cond.instantiable cls 6).before args s' = true := h _ (by simp [Bundle.ownAtoms])
  obtain ⟨vm₁, cX, kX, hfX, hkX, -, -, X₁, st1⟩ := Y.newCold hexec (own := own) (C := cls) (index := ik) (n := 6) hown' hk' hins hini'
    (g := F0 m pc ls rest) rfl (by rw [hb]; exact d0) (Nat.le_refl _) (Nat.le_refl _)
  generalize hT1 : (T.setVm vm₁).pushCell { cls := cX, slots := kX.instanceTypes.map defaultValue, vm := .none } = T1 at X₁ st1
  have hcat : (Value.ref T.heap.size).category = 1 := rfl
  have hcellA : T1.heap[T.heap.size]? = some (freshCell cX kX) := by rw [← hT1]; exact State.heap_pushCell_size _ _
  have d3' : decode c.code (pc + 3) = .ok (.dup, 1) := by rw [hb]; exact d3
  have d4' : decode c.code (pc + 4) = .ok (.ldc is, 2) := by rw [hb]; exact d4
  have hstr' : vk_R own is text sa s' := vk_R.warm hW0 hstr
  obtain ⟨U, hsteps, hrun, hend, hW, hsame, ce, hce, hO⟩ := X₁.ctorThrowS hexec htr (own := own) (cls := cls) (names := names) (ic := ic) hown' hcls hnames h (fun x hx => nomatch hx) hfX hkX hcellA (by rw [hhp, hT]; exact Nat.le_refl _) (msg := .ref sa) rfl
    (g := { method := m, pc := pc + 6, locals := ls, stack := .ref sa :: .ref T.heap.size :: .ref T.heap.size :: rest, locked := none }) rfl hsize rfl rfl (rest := rest) rfl
    (by rw [hb]; exact d6) (by rw [hb]; exact d9) hout hRframes (by simp only [List.map_cons, List.sum_cons, hcat]; omega) hlocks
  obtain ⟨f1, f2⟩ := vx_frame hsame
  rw [hhp] at f1 f2
  have hWs : s.WarmedH U.vm := State.WarmedH.trans hW0 hW
  have hcl : s.vm.findClass cls = some ce.cls := by
    have h9 := hO.cls
    rw [hvm] at h9
    exact h9
  have hall : s.sameButNew ({ U with vm := s.vm } : State) locs mc ms := by
    subst hA
    obtain ⟨e1, e2⟩ := hsame
    rw [State.setFrames_setFrames] at e1
    have h2 : (T.setVm s.vm).sameButNew ({ U with vm := s.vm } : State) [] (0 + 1) (0 + 6) := ⟨e1, e2⟩
    have h3 := X.same.trans h2
    rw [List.append_nil] at h3
    exact h3.mono hc hs
  refine ⟨U, ?_, .threw T.heap.size, hrun, hend, Or.inr ⟨T.heap.size, rfl, cls, ce, locs, hx U hWs.alike f1 (fun q hq => f2 q hq (fun z hz => nomatch hz)), hce, hO.vm, hcl, hWs, hall, hf⟩⟩
  refine st1 _ ?_
  show Steps p.tables e below (T1.setTop { method := m, pc := pc + 3, locals := ls, stack := .ref T.heap.size :: rest, locked := none }) _
  jvm_step X₁.here [X₁.here.top, hexec, d3', Value.category]
  exact X₁.ldcString hexec (own := own) (text := text) (index := is) (a := sa) hown' hstr'.1 hstr'.2
    (g := { method := m, pc := pc + 4, locals := ls, stack := .ref T.heap.size :: .ref T.heap.size :: rest, locked := none }) rfl d4' _ hsteps
/-- 'throw new E("text")', the text by a wide index -/
theorem vx_throwSW {cc : ByteArray} {pc : Nat} (hexec : p.tables.exec = Jvm.exec) (hb : c.code = cc) (hl : l.stackTraces = false) {own cls text : String} {names : List String} {ik is ic mc ms sa : Nat} {A : Nat → Prop}
    (hown : s.vm.findClass own = some m.cls) (hcls : Bundle.fit cls = true) (hnames : ∀ n ∈ names, Bundle.fit n = true)
    (hk : (Cond.classLink own ik cls).before args s = true) (hini : (Cond.initialized cls).before args s = true) (hstr : vk_R own is text sa s) (hat : ∀ w ∈ vx_atS own ic cls names, w.before args s = true)
    (hgood : ∀ w ∈ Cond.classLink own ik cls :: Cond.initialized cls :: vx_atS own ic cls names, vx_ot w = true)
    (hU : vx_Zq Bundle.tN "UNASSIGNED_STACK" Bundle.steD A s s.heap) (hN : vx_Zq Bundle.tN "SUPPRESSED_SENTINEL" Bundle.listD A s s.heap) (hS : va_S A s.heap H locs) (hsize : ls.size = c.maxLocals)
    (d0 : decode cc pc = .ok (.new ik, 3)) (d3 : decode cc (pc + 3) = .ok (.dup, 1)) (d4 : decode cc (pc + 4) = .ok (.ldc_w is, 3)) (d7 : decode cc (pc + 7) = .ok (.invokespecial ic, 3)) (d10 : decode cc (pc + 10) = .ok (.athrow, 1))
    (hout : ∀ x ∈ c.exceptionTable.toList, covers x (pc + 10) = false)
    (hRframes : names.length + 3 < R.frames) (hRlocals : (rest.map fun v => v.category).sum + (13 * (names.length + 1) + 43) ≤ R.locals) (hRcells : cells + 1 ≤ R.cells) (hRslots : slots + 6 ≤ R.slots) (hlocks : meth.locks = false)
    (hx : ∀ t : State, s.vm.Alike t.vm → H.size ≤ t.heap.size → (∀ q : Nat, q < H.size → t.heap[q]? = H[q]?) → XC cls s t)
    (hf : ∀ z ∈ locs, free z.base) (hc : cells + 1 ≤ mc) (hs : slots + 6 ≤ ms) :
    W p l e R s m args below meth c H locs cells slots (vx_MQ below Qc XC args s mc ms free) (F0 m pc ls rest) := by
  intro T hT X
  have htr : e.platform.stackTraces = false := (show e.platform.stackTraces = l.stackTraces by rw [X.admits.platform]).trans hl
  have Y := vx_rebase X (R' := { frames := R.frames, locals := R.locals, cells := 1, slots := 6 }) (Nat.le_refl _) (Nat.le_refl _) hRcells hRslots
  obtain ⟨s', hA⟩ : ∃ z, z = (T.setVm s.vm).setFrames (.invoking m args :: below) := ⟨_, rfl⟩
  rw [← hA] at Y
  have hvm : s'.vm = s.vm := by rw [hA]; rfl
  have hhp : s'.heap = H := by rw [hA]; exact hT
  have hW0 : s.WarmedH s'.vm := by rw [hvm]; exact State.WarmedH.refl s
  have hat' : ∀ w ∈ vx_atS own ic cls names, w.before args s' = true := fun w hw => vx_ot_at hW0 hvm.symm (hgood w (List.mem_cons_of_mem _ (List.mem_cons_of_mem _ hw))) (hat w hw)
  have hk' : (Cond.classLink own ik cls).before args s' = true := vx_ot_at hW0 hvm.symm (hgood _ List.mem_cons_self) hk
  have hini' : (Cond.initialized cls).before args s' = true := vx_ot_at hW0 hvm.symm (hgood _ (List.mem_cons_of_mem _ List.mem_cons_self)) hini
  have hU' : vx_Zq Bundle.tN "UNASSIGNED_STACK" Bundle.steD A s' s'.heap := by rw [hhp]; exact vx_Zq.moved hW0.alike (hU.kept hS.2.1)
  have hN' : vx_Zq Bundle.tN "SUPPRESSED_SENTINEL" Bundle.listD A s' s'.heap := by rw [hhp]; exact vx_Zq.moved hW0.alike (hN.kept hS.2.1)
  have h : ∀ w ∈ Bundle.ownAtoms own ic cls names, w.before args s' = true := vx_own hat' (vx_isRefq hU'.1) (vx_isRefq hN'.1) hU'.2.word hN'.2.word
  have hown' : s'.vm.findClass own = some m.cls := by rw [hvm]; exact hown
  have hins : (Cond.instantiable cls 6).before args s' = true := h _ (by simp [Bundle.ownAtoms])
  obtain ⟨vm₁, cX, kX, hfX, hkX, -, -, X₁, st1⟩ := Y.newCold hexec (own := own) (C := cls) (index := ik) (n := 6) hown' hk' hins hini'
    (g := F0 m pc ls rest) rfl (by rw [hb]; exact d0) (Nat.le_refl _) (Nat.le_refl _)
  generalize hT1 : (T.setVm vm₁).pushCell { cls := cX, slots := kX.instanceTypes.map defaultValue, vm := .none } = T1 at X₁ st1
  have hcat : (Value.ref T.heap.size).category = 1 := rfl
  have hcellA : T1.heap[T.heap.size]? = some (freshCell cX kX) := by rw [← hT1]; exact State.heap_pushCell_size _ _
  have d3' : decode c.code (pc + 3) = .ok (.dup, 1) := by rw [hb]; exact d3
  have d4' : decode c.code (pc + 4) = .ok (.ldc_w is, 3) := by rw [hb]; exact d4
  have hstr' : vk_R own is text sa s' := vk_R.warm hW0 hstr
  obtain ⟨U, hsteps, hrun, hend, hW, hsame, ce, hce, hO⟩ := X₁.ctorThrowS hexec htr (own := own) (cls := cls) (names := names) (ic := ic) hown' hcls hnames h (fun x hx => nomatch hx) hfX hkX hcellA (by rw [hhp, hT]; exact Nat.le_refl _) (msg := .ref sa) rfl
    (g := { method := m, pc := pc + 7, locals := ls, stack := .ref sa :: .ref T.heap.size :: .ref T.heap.size :: rest, locked := none }) rfl hsize rfl rfl (rest := rest) rfl
    (by rw [hb]; exact d7) (by rw [hb]; exact d10) hout hRframes (by simp only [List.map_cons, List.sum_cons, hcat]; omega) hlocks
  obtain ⟨f1, f2⟩ := vx_frame hsame
  rw [hhp] at f1 f2
  have hWs : s.WarmedH U.vm := State.WarmedH.trans hW0 hW
  have hcl : s.vm.findClass cls = some ce.cls := by
    have h9 := hO.cls
    rw [hvm] at h9
    exact h9
  have hall : s.sameButNew ({ U with vm := s.vm } : State) locs mc ms := by
    subst hA
    obtain ⟨e1, e2⟩ := hsame
    rw [State.setFrames_setFrames] at e1
    have h2 : (T.setVm s.vm).sameButNew ({ U with vm := s.vm } : State) [] (0 + 1) (0 + 6) := ⟨e1, e2⟩
    have h3 := X.same.trans h2
    rw [List.append_nil] at h3
    exact h3.mono hc hs
  refine ⟨U, ?_, .threw T.heap.size, hrun, hend, Or.inr ⟨T.heap.size, rfl, cls, ce, locs, hx U hWs.alike f1 (fun q hq => f2 q hq (fun z hz => nomatch hz)), hce, hO.vm, hcl, hWs, hall, hf⟩⟩
  refine st1 _ ?_
  show Steps p.tables e below (T1.setTop { method := m, pc := pc + 3, locals := ls, stack := .ref T.heap.size :: rest, locked := none }) _
  jvm_step X₁.here [X₁.here.top, hexec, d3', Value.category]
  exact X₁.ldcStringW hexec (own := own) (text := text) (index := is) (a := sa) hown' hstr'.1 hstr'.2
    (g := { method := m, pc := pc + 4, locals := ls, stack := .ref T.heap.size :: .ref T.heap.size :: rest, locked := none }) rfl d4' _ hsteps
end Ends
section Bodies
variable {l : Launch}
theorem vx_ofW {y : MethodName} {ws ws' : List Cond} {rm : Room} {Pc : Array Value → State → Prop} {Qc : Array Value → State → Outcome → State → Prop} {XC : String → State → State → Prop} {mc ms : Nat} {free : Addr → Prop} {cc : ByteArray} {maxL : Nat} {ret : Option FieldType}
    (hy : plainName y.cls = true) (hw : ws = Cond.code y cc maxL ret :: ws')
    (body : ∀ p e s m args below meth c s₁, BodyLoose p l y (headSpec ws rm) cc maxL ret e s m args below meth c s₁ → c.maxLocals = maxL → (∀ x ∈ c.exceptionTable.toList, False) → Pc args s →
      W p l e (headSpec ws rm).room s m args below meth c s.heap [] 0 0 (vx_MQ below Qc XC args s mc ms free) (entryFrame m args maxL)) : vx_Met l y ws rm Pc Qc XC mc ms free := by
  refine MetFree.of_bodyS (code := cc) (maxLocals := maxL) (ret := ret) hy ?_ ?_
  · intro args s m h hn
    obtain ⟨meth, c, h1, h2, h3, h4, h5, h6, -, -⟩ := Cond.code_spec hn (atoms_spec (ws := ws) h _ (by rw [hw]; exact List.mem_cons_self))
    exact ⟨meth, c, h1, h2, h3, h4, h5, h6⟩
  · intro p e s m args below meth c s₁ B hml hP _
    have hh0 : s₁.heap = s.heap := by rw [B.state]; rfl
    have ht : ∀ x ∈ c.exceptionTable.toList, False := by
      obtain ⟨meth9, c9, h1, h2, -, -, -, -, h7, -⟩ := Cond.code_spec B.named (atoms_spec (ws := ws) B.pre _ (by rw [hw]; exact List.mem_cons_self))
      cases Option.some.inj (h1.symm.trans B.method)
      cases Option.some.inj (h2.symm.trans (Stand.of_body B).code)
      intro x hx
      rw [Array.isEmpty_iff.mp h7] at hx
      cases hx
    obtain ⟨t, a1, o, b1, b2, b3⟩ := body p e s m args below meth c s₁ B hml ht hP s₁ hh0 (Stand.of_body B)
    exact ⟨t, o, a1, b1, b2, b3⟩
/-- the table of a body with handlers -/
theorem vx_table {p : Program} {x y : MethodName} {S : Spec} {cc bytes : ByteArray} {maxL maxL' : Nat} {ret ret' : Option FieldType} {e : Env} {s s₁ : State} {m : MethodId} {args : Array Value} {below : List Frame} {meth : Method} {c : Code} {hh : List (Nat × Nat × Nat × Nat)}
    (B : BodyLoose p l y S cc maxL ret e s m args below meth c s₁) (h : (Cond.codeWith y bytes maxL' ret' hh).before args s = true) : c.exceptionTable.toList = tableOf hh := by
  obtain ⟨m9, meth9, c9, hn9, h1, h2, -, -, h6, -⟩ := Cond.codeWith_spec h
  cases Option.some.inj (hn9.symm.trans B.named)
  cases Option.some.inj (h1.symm.trans B.method)
  cases Option.some.inj (h2.symm.trans (Stand.of_body B).code)
  rw [← h6, table_eq]
end Bodies
end VXA
/-! ===== END ===== -/
/-! ===== BEGIN a static call of a method with an exception table ===== -/
section VXS
variable {p : Program} {l : Launch} {e : Env} {R : Room} {s : State} {m : MethodId} {args : Array Value} {below : List Frame} {meth : Method} {c : Code} {T : State} {H : Heap} {locs : List Loc} {cells slots : Nat}
abbrev vx_CSW (R : Room) (s : State) (args : Array Value) (own : String) (index : Nat) (y : MethodName) (bytes : ByteArray) (maxL : Nat) (ret : Option FieldType) (hh : List (Nat × Nat × Nat × Nat)) (ws : List Cond) (rm : Room) (mc ms n : Nat) : Prop :=
  (rm.cells = mc ∧ rm.slots = ms ∧ rm.frames + 1 ≤ R.frames ∧ 8 + (maxL + 11) + rm.locals ≤ R.locals ∧ (∀ w ∈ ws, ∀ (a' : Array Value) (U : State), s.WarmedH U.vm → w.before a' U = true) ∧ Cond.codeWith y bytes maxL ret hh ∈ ws) ∧
  (Cond.codeWith y bytes maxL ret hh).before args s = true ∧ (Cond.initialized y.cls).before args s = true ∧ (y.cls ≠ "java/lang/invoke/MethodHandle" ∧ y.cls ≠ "java/lang/invoke/VarHandle") ∧
  (∀ sig, parseMethodDescriptor y.desc = some sig → n = sig.parameters.length) ∧ (Cond.methodLink own index y).before args s = true ∧ (Cond.static y).before args s = true
theorem vx_cwSW {own : String} {index maxL mc ms : Nat} {y : MethodName} {bytes : ByteArray} {ret : Option FieldType} {hh : List (Nat × Nat × Nat × Nat)} {Ts ws ws' : List Cond} {rm : Room} (n : Nat) (ht : ∀ w ∈ Ts, w.before args s = true) (hT : GoodIn Ts (va_wsS own index y ws)) (hw : ws = Cond.codeWith y bytes maxL ret hh :: ws') (hrc : rm.cells = mc) (hrs : rm.slots = ms)
    (hd : y.cls ≠ "java/lang/invoke/MethodHandle" ∧ y.cls ≠ "java/lang/invoke/VarHandle" ∧ (parseMethodDescriptor y.desc).map (fun d => d.parameters.length) = some n) (hR : rm.frames + 1 ≤ R.frames ∧ 8 + (maxL + 11) + rm.locals ≤ R.locals) :
    vx_CSW R s args own index y bytes maxL ret hh ws rm mc ms n := by
  have ok : ∀ w ∈ va_wsS own index y ws, w.before args s = true := fun w h => ht w (hT w h).1
  have hG : GoodIn Ts ws := fun w h => hT w (by unfold va_wsS; exact List.mem_append_right _ h)
  have hc : Cond.codeWith y bytes maxL ret hh ∈ ws := by rw [hw]; exact List.mem_cons_self
  refine ⟨⟨hrc, hrs, hR.1, hR.2, pay_in ht hG, hc⟩, ht _ (hG _ hc).1, ok _ (by simp [va_wsS]), ⟨hd.1, hd.2.1⟩, fun sig h => ?_, ok _ (by simp [va_wsS]), ok _ (by simp [va_wsS])⟩
  have h2 := hd.2.2
  rw [h] at h2
  exact (Option.some.inj h2).symm
theorem vx_callSW (X : Stand p l e R s m args below meth c T locs cells slots) (hexec : p.tables.exec = Jvm.exec) {own : String} {index : Nat} {y : MethodName} {bytes : ByteArray} {maxL : Nat} {ret : Option FieldType} {hh : List (Nat × Nat × Nat × Nat)}
    (hown : s.vm.findClass own = some m.cls) (hlink : (Cond.methodLink own index y).before args s = true) (hstat : (Cond.static y).before args s = true) (hinit : (Cond.initialized y.cls).before args s = true)
    (hcode : (Cond.codeWith y bytes maxL ret hh).before args s = true) (hy : y.cls ≠ "java/lang/invoke/MethodHandle" ∧ y.cls ≠ "java/lang/invoke/VarHandle")
    {W9 : Nat} {Pre : Pt → Array Value → Prop} {Post : Pt → Array Value → Option Value → Pt → Prop} (hK : Back l R p e below s args y 3 W9 Pre Post)
    {g : JFrame} (hg : g.method = m) (hsize : g.locals.size = c.maxLocals) {argsL rest : List Value} (hlen : ∀ sig, parseMethodDescriptor y.desc = some sig → argsL.length = sig.parameters.length)
    (hstack : g.stack = argsL.reverse ++ rest) (hW : 2 * g.monitorRoom + (rest.map fun v => v.category).sum ≤ W9) (hdg : decode c.code g.pc = .ok (.invokestatic index, 3))
    (hpre : ∀ vm₁, s.WarmedH vm₁ → Pre ⟨T.setVm vm₁, locs, cells, slots⟩ argsL.toArray) :
    ∃ (v : Option Value) (vm₁ : Vm) (B : Pt), s.WarmedH vm₁ ∧ Stand p l e R s m args below meth c B.U B.locs B.cells B.slots ∧ Post ⟨T.setVm vm₁, locs, cells, slots⟩ argsL.toArray v B ∧
      ∀ target, Steps p.tables e below (B.U.setTop { g with pc := g.pc + 3, stack := v.toList ++ rest }) target → Steps p.tables e below (T.setTop g) target := by
  obtain ⟨mk, methM, cM, hnamed, hmethM, -, -, -, -, -, -, hsigM⟩ := Cond.codeWith_spec hcode
  have hstatic : methM.isStatic = true := Cond.static_spec hnamed hmethM hstat
  obtain ⟨kP, hkP, -⟩ := className_of_methodNamed hnamed
  have hinitP : kP.init = .initialized := Cond.initialized_spec (findClass_of_methodNamed hnamed) hkP hinit
  obtain ⟨vm₁, X₁, hstep₁⟩ := X.invokestatic hexec hown hlink hnamed hmethM hstatic hkP hinitP hy (g := g) hg (argsL := argsL) (rest := rest) (hlen _ hsigM) hstack hdg
  obtain ⟨v, B, X', hpost, hsteps⟩ := hK m meth c ⟨T.setVm vm₁, locs, cells, slots⟩ { g with stack := rest } (.invokestatic index) mk argsL.toArray X₁ hg hsize hdg hW (X₁.named hnamed) (hpre vm₁ X₁.warmed)
  exact ⟨v, vm₁, B, X₁.warmed, X', hpost, fun target h => hstep₁ _ fun acts => by rw [doInvoke_state]; exact hsteps.trans h⟩
theorem vx_runSW {y : MethodName} {bytes cc : ByteArray} {maxL nL mc ms n index : Nat} {ret : Option FieldType} {hh : List (Nat × Nat × Nat × Nat)} {ws : List Cond} {rm : Room} {Pc : Array Value → State → Prop} {Qc : Array Value → State → Outcome → State → Prop} {free : Addr → Prop} {Ts : List Cond} {own : String} {As rest : List Value} {g : JFrame}
    (S : CallFix p m c cc nL s args Ts own) (hM : Met l y ws rm Pc Qc mc ms free) (cw : vx_CSW R s args own index y bytes maxL ret hh ws rm mc ms n) (hp : PreS s H Pc As)
    (hg : g.method = m) (hn : As.length = n) (hsize : g.locals.size = nL) (hstack : g.stack = As.reverse ++ rest) (hW : 2 * g.monitorRoom + (rest.map fun v => v.category).sum ≤ 8) (hdg : decode cc g.pc = .ok (.invokestatic index, 3)) (hf : cells + mc ≤ R.cells ∧ slots + ms ≤ R.slots) :
    va_Run p l e R s m args below meth c H locs cells slots mc ms g rest (Qc As.toArray) (free) := by
  obtain ⟨⟨hrc, hrs, hfr, hlo, hws, hcw⟩, hcode, hini, hy, hlen, hl, hstt⟩ := cw
  have hK : Back l R p e below s args y 3 8 (PreOf R mc ms Pc) (PostOf Qc mc ms free) := va_backW (hh := hh) (bytes := bytes) (maxL := maxL) (ret := ret) hM hp.1 hrc hrs hfr hlo hws hcw (fun a' U hW => word_at hW (Or.inl (by first | rfl | simp [Cond.onTables, Cond.keeps, Cond.steady])) hini)
  obtain ⟨hx, hb, hml, ho, -⟩ := S
  intro T hT X
  obtain ⟨v, vm₁, ⟨U', l2, c2, s2⟩, hW₁, X', ⟨g', mk, t, L, e1, e2, hq, h1, hL, h2, h3⟩, st⟩ := vx_callSW X hx (hh := hh) (bytes := bytes) (maxL := maxL) (ret := ret) ho hl hstt hini hcode hy hK hg (hsize.trans hml.symm) (argsL := As) (rest := rest) (fun sig h => hn.trans (hlen sig h)) hstack hW (by rw [hb]; exact hdg)
    (fun vm₁ hW₁ => ⟨hf.1, hf.2, hp.2 (T.setVm vm₁) hT hW₁⟩)
  dsimp only [Pt.U, Pt.locs, Pt.cells, Pt.slots] at X' e1 e2 h1 h2 h3 st
  subst h1; subst h2; subst h3
  exact ⟨v, (T.setVm vm₁).calling g' mk As.toArray, t, U', L, hT, X', hL, e1, e2, hq, st⟩
/-- not caught here, past rows that name other classes: it goes on to the caller -/
theorem vx_outP {p : Program} {l : Launch} {e : Env} {R : Room} {s : State} {m : MethodId} {args : Array Value} {below : List Frame} {meth : Method} {c : Code} {H : Heap} {locs : List Loc} {cells slots : Nat} {free : Addr → Prop} {ls : Array Slot} {rest : List Value} {Qc : Array Value → State → Outcome → State → Prop} {XC : String → State → State → Prop}
    {pc : Nat} {own E : String} {ce : Cell} {q : Addr} {mc ms : Nat} (hown : s.vm.findClass own = some m.cls) (hlocks : meth.locks = false)
    (hpass : ∀ z ∈ c.exceptionTable.toList, covers z pc = false ∨ (z.catchType ≠ 0 ∧ ∃ nm : String, (Cond.classLink own z.catchType nm).before args s = true ∧ va_Nc E nm s)) (hcell : H[q]? = some ce) (hv : ce.vm = .none) (hcl : s.vm.findClass E = some ce.cls)
    (hx : ∀ t : State, t.heap = H → s.vm.Alike t.vm → XC E s t) (hf : ∀ z ∈ locs, free z.base) (hc : cells ≤ mc) (hs : slots ≤ ms) :
    vx_W p l e R s m args below meth c H locs cells slots (vx_MQ below Qc XC args s mc ms free) (F0 m pc ls rest) q := by
  intro T hT X
  have hpl : e.platform.magicAccessors = ({} : Platform).magicAccessors := by rw [X.admits.platform]
  obtain ⟨vm', hW', X', st⟩ := X.outThrough hlocks q (g := F0 m pc ls rest) rfl rfl rfl (cell := ce) (by rw [hT]; exact hcell) (by rw [hv]; rfl)
    (by obtain ⟨k9, h9, -⟩ := Vm.findClass_spec hcl; exact ⟨k9, h9⟩) (fun z hz => by
      rcases hpass z hz with h | ⟨hz0, nm, hl1, hn1⟩
      · exact Or.inl h
      · obtain ⟨c6, hc6, hcl6⟩ := Cond.classLink_spec hown hl1 e.platform hpl
        obtain ⟨a8, b8, h1, h2, h3⟩ := hn1
        cases Option.some.inj (h1.symm.trans hcl)
        cases Option.some.inj (h2.symm.trans hc6)
        exact Or.inr ⟨hz0, _, hcl6, h3⟩)
  obtain ⟨g₀, hfr⟩ := X'.frames_eq
  have hcell9 : ((T.setVm vm').setFrames (.throwing q :: below)).heap[q]? = some ce := by
    show T.heap[q]? = some ce
    rw [hT]; exact hcell
  have hend : Ended ((T.setVm vm').setFrames (.throwing q :: below)) below (.threw q) := State.frames_setFrames _ (State.cur_lt_of_frames hfr)
  refine ⟨(T.setVm vm').setFrames (.throwing q :: below), ?_, .threw q, X'.here.running, hend, Or.inr ⟨q, rfl, E, ce, locs, hx _ hT (X'.ends _).1.alike, hcell9, hv, hcl, (X'.ends _).1, (X'.ends _).2.mono hc hs, hf⟩⟩
  rw [X.pushThrowing_eq]
  exact st
/-- a thing of a world lies in the heap -/
theorem vx_lt {D : va_G} {cl : List vw_C} {ws : va_W} {H1 : Heap} (h : va_P D cl ws H1) {k : Nat} {q : Nat × va_E} (hk : ws[k]? = some q) : q.1 < H1.size := (h k q hk).lt
end VXS
/-! ===== END ===== -/
/-! ===== BEGIN methods with a table of their own: called by a name, returning or throwing ===== -/
section VXH
/-! vx_backW, vx_callVX, vx_callSX, vx_callVW, vx_runVW, vx_runVX, vx_runSX, vx_ofWH follow the same proofs as their sisters above (Free/Laws.lean, Shelf42/LK1.lean); vx_outP calls Shelf42/NT130.lean (outThrough). -/
section
variable {l : Launch} {R : Room} {p : Program} {e : Env} {below : List Frame} {s : State} {sargs : Array Value} {y : MethodName} {len W9 : Nat}
theorem vx_backW {ws : List Cond} {rm : Room} {Pc : Array Value → State → Prop} {Qc : Array Value → State → Outcome → State → Prop} {XC : String → State → State → Prop} {mc ms : Nat} {free : Addr → Prop} {bytes : ByteArray} {maxL : Nat} {ret : Option FieldType} {hh : List (Nat × Nat × Nat × Nat)}
    (hM : vx_Met l y ws rm Pc Qc XC mc ms free) (hblind : FrameBlind Pc) (hrc : rm.cells = mc) (hrs : rm.slots = ms)
    (hframes : rm.frames + 1 ≤ R.frames) (hlocals : W9 + (maxL + 11) + rm.locals ≤ R.locals)
    (hws : ∀ w ∈ ws, ∀ a' U, s.WarmedH U.vm → w.before a' U = true) (hcode : Cond.codeWith y bytes maxL ret hh ∈ ws) (hinit : ∀ a' U, s.WarmedH U.vm → (Cond.initialized y.cls).before a' U = true) :
    vx_Back l R p e below s sargs y len W9 (PreOf R mc ms Pc) (PostOf Qc mc ms free) (vx_Post XC mc ms free) := by
  intro m meth c A g ig mk a X hg hsize hdg hW hn hp
  have h1 : (headSpec ws rm).pre.before a A.U = true := atoms_intro fun w hw => hws w hw _ _ X.warmed
  have h2 : (Cond.codeWith y bytes maxL ret hh).before a A.U = true := hws _ hcode _ _ X.warmed
  have h3 : (Cond.initialized y.cls).before a A.U = true := hinit _ _ X.warmed
  have h4 : A.cells + (headSpec ws rm).room.cells ≤ R.cells := by rw [show (headSpec ws rm).room.cells = mc from hrc]; exact hp.1
  have h5 : A.slots + (headSpec ws rm).room.slots ≤ R.slots := by rw [show (headSpec ws rm).room.slots = ms from hrs]; exact hp.2.1
  have hPc : Pc a (A.U.calling g mk a) := hblind _ _ _ _ hp.2.2
  obtain ⟨U, Ls, c0, s0⟩ := A
  dsimp only [Pt.U, Pt.locs, Pt.cells, Pt.slots] at h1 h2 h3 h4 h5 X hn hPc ⊢
  obtain ⟨m9, methY, cY, hn9, hmY, hcY, -, hlY, -⟩ := Cond.codeWith_spec h2
  cases Option.some.inj (hn9.symm.trans hn)
  obtain ⟨kY, hkY, -⟩ := className_of_methodNamed hn
  have hinitY : kY.init = .initialized := Cond.initialized_spec (findClass_of_methodNamed hn) hkY h3
  have h : At U g.method c below := by rw [hg]; exact X.here
  have hlocals9 : W9 + (maxL + 11) + (headSpec ws rm).room.locals ≤ R.locals := hlocals
  have happ : (headSpec ws rm).appliesLoose y e.platform (U.calling g mk a) = true :=
    Spec.appliesLoose_calling (g := g) h hdg hn hkY hinitY
      (X.room_calling (g := g) (R' := (headSpec ws rm).room) hsize hmY hcY hframes (by rw [hlY]; omega) h4 h5) h1
  obtain ⟨mid, hmid⟩ := h.above
  have hfr : (U.setTop g).frames = (.java g :: mid) ++ below := by rw [State.frames_setTop' g h.top, hmid]; rfl
  obtain ⟨o, s₂, hsteps, -, hend, hq⟩ := Steps.callFree hM p X.admits X.cas X.clock (acts := []) hfr happ hPc trivial
  have hq' : vx_Q Qc XC mc ms free a (U.calling g mk a) o s₂ := hq
  rw [State.frames_setTop' g h.top] at hend
  obtain ⟨g₀, hg0⟩ := Option.isSome_iff_exists.mp h.top
  obtain ⟨r, hr⟩ := State.topJava?_eq_some.mp hg0
  have hr' : (({ U with heap := s₂.heap, slotsUsed := s₂.slotsUsed } : State).setVm s₂.vm).frames = .java g₀ :: r := hr
  rcases hq' with ⟨hqc, L, hfe, hL⟩ | ⟨q, rfl, E, ce, L, hx, hce, hcv, hcl, hW₂, hsm, hL⟩
  · obtain ⟨⟨v, rfl⟩, hW₂, e2, q2, q3, q4, q5, q6⟩ := id hfe
    have e3 : s₂ = ({ (U.calling g mk a).setFrames s₂.frames with heap := s₂.heap, slotsUsed := s₂.slotsUsed } : State).setVm s₂.vm := by
      have : s₂ = ({ s₂ with vm := (U.calling g mk a).vm } : State).setVm s₂.vm := rfl
      rw [e2] at this
      exact this
    obtain ⟨c₂, i₂, len₂, hc₂, hd₂, hf₂⟩ := hend
    have hW' : U.WarmedH s₂.vm := hW₂
    have hcc : c₂ = c := by
      have h1 : s₂.code? g.method = U.code? g.method := by
        rw [State.code?_eq, State.code?_eq, hW'.alike.method?]
      exact Option.some.inj (hc₂.symm.trans (h1.trans h.code))
    subst hcc
    have hlen : len₂ = len := by rw [hdg] at hd₂; cases hd₂; rfl
    subst hlen
    have hs₂ : s₂ = (({ U with heap := s₂.heap, slotsUsed := s₂.slotsUsed } : State).setVm s₂.vm).setTop { g with pc := g.pc + len₂, stack := v.toList ++ g.stack } := by
      refine e3.trans ?_
      rw [hf₂, State.calling_eq h.top, State.setFrames_setFrames, State.setTop_of_frames _ hr', hr]
      rfl
    have hsame : U.sameButNew ({ U with heap := s₂.heap, slotsUsed := s₂.slotsUsed } : State) L mc ms := by
      refine ⟨?_, q2, q3, q4, q5, q6⟩
      obtain ⟨t, ht, -⟩ := State.frames_cons hr
      show ({ U with heap := s₂.heap, slotsUsed := s₂.slotsUsed } : State) = { U.setFrames U.frames with heap := s₂.heap, slotsUsed := s₂.slotsUsed }
      rw [State.setFrames_self ht]
    subst hg
    refine Or.inl ⟨v, ⟨(({ U with heap := s₂.heap, slotsUsed := s₂.slotsUsed } : State).setVm s₂.vm), Ls ++ L, c0 + mc, s0 + ms⟩,
      ⟨X.admits, X.cas, X.clock, X.frames, X.room, X.hears, X.method, X.code, (X.here.setHeapUsed s₂.heap s₂.slotsUsed).setVm hW'.alike, X.tail, State.WarmedH.trans X.warmed hW', X.limits, X.bytes, X.same.trans (hsame.setVm s.vm)⟩,
      ⟨g, mk, s₂, L, rfl, rfl, hqc, rfl, hL, rfl, rfl⟩, ?_⟩
    show Steps p.tables e below _ ((({ U with heap := s₂.heap, slotsUsed := s₂.slotsUsed } : State).setVm s₂.vm).setTop { g with pc := g.pc + len₂, stack := v.toList ++ g.stack })
    rw [← hs₂]
    exact hsteps
  · obtain ⟨e2, q2, q3, q4, q5, q6⟩ := id hsm
    have e3 : s₂ = ({ (U.calling g mk a).setFrames s₂.frames with heap := s₂.heap, slotsUsed := s₂.slotsUsed } : State).setVm s₂.vm := by
      have : s₂ = ({ s₂ with vm := (U.calling g mk a).vm } : State).setVm s₂.vm := rfl
      rw [e2] at this
      exact this
    have hf₂ : s₂.frames = .throwing q :: .java g :: U.frames.tail := hend
    have hW' : U.WarmedH s₂.vm := hW₂
    have hs₂ : s₂ = ((({ U with heap := s₂.heap, slotsUsed := s₂.slotsUsed } : State).setVm s₂.vm).setTop g).pushFrame (.throwing q) := by
      refine e3.trans ?_
      rw [hf₂, State.calling_eq h.top, State.setFrames_setFrames, State.pushFrame, State.frames_setTop _ hr', State.setTop_of_frames _ hr', State.setFrames_setFrames, hr]
      rfl
    have hsame : U.sameButNew ({ U with heap := s₂.heap, slotsUsed := s₂.slotsUsed } : State) L mc ms := by
      refine ⟨?_, q2, q3, q4, q5, q6⟩
      obtain ⟨t, ht, -⟩ := State.frames_cons hr
      show ({ U with heap := s₂.heap, slotsUsed := s₂.slotsUsed } : State) = { U.setFrames U.frames with heap := s₂.heap, slotsUsed := s₂.slotsUsed }
      rw [State.setFrames_self ht]
    subst hg
    refine Or.inr ⟨q, ⟨(({ U with heap := s₂.heap, slotsUsed := s₂.slotsUsed } : State).setVm s₂.vm), Ls ++ L, c0 + mc, s0 + ms⟩,
      ⟨X.admits, X.cas, X.clock, X.frames, X.room, X.hears, X.method, X.code, (X.here.setHeapUsed s₂.heap s₂.slotsUsed).setVm hW'.alike, X.tail, State.WarmedH.trans X.warmed hW', X.limits, X.bytes, X.same.trans (hsame.setVm s.vm)⟩,
      ⟨g, mk, s₂, L, E, ce, rfl, rfl, hx, hce, hcv, hcl, rfl, hL, rfl, rfl⟩, ?_⟩
    show Steps p.tables e below _ (((({ U with heap := s₂.heap, slotsUsed := s₂.slotsUsed } : State).setVm s₂.vm).setTop g).pushFrame (.throwing q))
    rw [← hs₂]
    exact hsteps
end
variable {p : Program} {l : Launch} {e : Env} {R : Room} {s : State} {m : MethodId} {args : Array Value} {below : List Frame} {meth : Method} {c : Code} {T : State} {H : Heap} {locs : List Loc} {cells slots : Nat}
theorem vx_callVX (X : Stand p l e R s m args below meth c T locs cells slots) (hexec : p.tables.exec = Jvm.exec) {own C : String} {index : Nat} {y : MethodName} {bytes : ByteArray} {maxL : Nat} {ret : Option FieldType} {hh : List (Nat × Nat × Nat × Nat)}
    (hown : s.vm.findClass own = some m.cls) (hlink : (Cond.methodLink own index y).before args s = true) (hinst : (Cond.instanceMethod y).before args s = true) (hsel : (Cond.selects C y y).before args s = true)
    (hcode : (Cond.codeWith y bytes maxL ret hh).before args s = true) (hy : y.cls ≠ "java/lang/invoke/MethodHandle" ∧ y.cls ≠ "java/lang/invoke/VarHandle")
    {W9 : Nat} {Pre : Pt → Array Value → Prop} {Post : Pt → Array Value → Option Value → Pt → Prop} {PostX : Pt → Array Value → Addr → Pt → Prop} (hK : vx_Back l R p e below s args y 3 W9 Pre Post PostX)
    {b : Addr} {cellB : Cell} (hcell : T.heap[b]? = some cellB) (hobj : cellB.vm.isStatics = false) (hcls : s.vm.findClass C = some cellB.cls)
    {g : JFrame} (hg : g.method = m) (hsize : g.locals.size = c.maxLocals) {argsL rest : List Value} (hlen : ∀ sig, parseMethodDescriptor y.desc = some sig → argsL.length = sig.parameters.length)
    (hstack : g.stack = argsL.reverse ++ .ref b :: rest) (hW : 2 * g.monitorRoom + (rest.map fun v => v.category).sum ≤ W9) (hdg : decode c.code g.pc = .ok (.invokevirtual index, 3))
    (hpre : ∀ vm₁, s.WarmedH vm₁ → Pre ⟨T.setVm vm₁, locs, cells, slots⟩ (Value.ref b :: argsL).toArray) :
    (∃ (v : Option Value) (vm₁ : Vm) (B : Pt), s.WarmedH vm₁ ∧ Stand p l e R s m args below meth c B.U B.locs B.cells B.slots ∧ Post ⟨T.setVm vm₁, locs, cells, slots⟩ (Value.ref b :: argsL).toArray v B ∧
      ∀ target, Steps p.tables e below (B.U.setTop { g with pc := g.pc + 3, stack := v.toList ++ rest }) target → Steps p.tables e below (T.setTop g) target) ∨
    (∃ (q : Addr) (vm₁ : Vm) (B : Pt), s.WarmedH vm₁ ∧ Stand p l e R s m args below meth c B.U B.locs B.cells B.slots ∧ PostX ⟨T.setVm vm₁, locs, cells, slots⟩ (Value.ref b :: argsL).toArray q B ∧
      Steps p.tables e below (T.setTop g) ((B.U.setTop { g with stack := rest }).pushFrame (.throwing q))) := by
  obtain ⟨mk, methM, hnamed, hmethM, hstM, habM⟩ := Cond.instanceMethod_spec hinst
  obtain ⟨m8, methM', cM, hn8, hmethM', -, -, -, -, -, -, hsigM⟩ := Cond.codeWith_spec hcode
  cases Option.some.inj (hn8.symm.trans hnamed)
  cases hmethM.symm.trans hmethM'
  obtain ⟨c2, r2, m2, q1, q2, q3, q4, kP, hkP, hkPi⟩ := Cond.selects_spec hsel
  cases hcls.symm.trans q1
  cases (State.methodFound?_of_named hnamed hy).symm.trans q2
  cases hnamed.symm.trans q3
  have hselP : selectMethod e.platform s.vm cellB.cls mk = .method mk := by rw [Launch.admits_selectMethod X.admits]; exact q4
  obtain ⟨vm₁, X₁, hstep₁⟩ := X.invokevirtual hexec hown hlink hnamed hmethM hstM hkP hkPi hy (a := b) (cell := cellB) hcell
    (fun z h => by rw [h] at hobj; cases hobj) hselP hmethM habM hkP hkPi (g := g) hg (argsL := argsL) (rest := rest) (hlen _ hsigM) hstack hdg
  rcases hK m meth c ⟨T.setVm vm₁, locs, cells, slots⟩ { g with stack := rest } (.invokevirtual index) mk (Value.ref b :: argsL).toArray X₁ hg hsize hdg hW (X₁.named hnamed) (hpre vm₁ X₁.warmed) with ⟨v, B, X', hpost, hsteps⟩ | ⟨q, B, X', hpost, hsteps⟩
  · exact Or.inl ⟨v, vm₁, B, X₁.warmed, X', hpost, fun target h => hstep₁ _ fun acts => by rw [doInvoke_state]; exact hsteps.trans h⟩
  · exact Or.inr ⟨q, vm₁, B, X₁.warmed, X', hpost, hstep₁ _ fun acts => by rw [doInvoke_state]; exact hsteps⟩
theorem vx_callSX (X : Stand p l e R s m args below meth c T locs cells slots) (hexec : p.tables.exec = Jvm.exec) {own : String} {index : Nat} {y : MethodName} {bytes : ByteArray} {maxL : Nat} {ret : Option FieldType} {hh : List (Nat × Nat × Nat × Nat)}
    (hown : s.vm.findClass own = some m.cls) (hlink : (Cond.methodLink own index y).before args s = true) (hstat : (Cond.static y).before args s = true) (hinit : (Cond.initialized y.cls).before args s = true)
    (hcode : (Cond.codeWith y bytes maxL ret hh).before args s = true) (hy : y.cls ≠ "java/lang/invoke/MethodHandle" ∧ y.cls ≠ "java/lang/invoke/VarHandle")
    {W9 : Nat} {Pre : Pt → Array Value → Prop} {Post : Pt → Array Value → Option Value → Pt → Prop} {PostX : Pt → Array Value → Addr → Pt → Prop} (hK : vx_Back l R p e below s args y 3 W9 Pre Post PostX)
    {g : JFrame} (hg : g.method = m) (hsize : g.locals.size = c.maxLocals) {argsL rest : List Value} (hlen : ∀ sig, parseMethodDescriptor y.desc = some sig → argsL.length = sig.parameters.length)
    (hstack : g.stack = argsL.reverse ++ rest) (hW : 2 * g.monitorRoom + (rest.map fun v => v.category).sum ≤ W9) (hdg : decode c.code g.pc = .ok (.invokestatic index, 3))
    (hpre : ∀ vm₁, s.WarmedH vm₁ → Pre ⟨T.setVm vm₁, locs, cells, slots⟩ argsL.toArray) :
    (∃ (v : Option Value) (vm₁ : Vm) (B : Pt), s.WarmedH vm₁ ∧ Stand p l e R s m args below meth c B.U B.locs B.cells B.slots ∧ Post ⟨T.setVm vm₁, locs, cells, slots⟩ argsL.toArray v B ∧
      ∀ target, Steps p.tables e below (B.U.setTop { g with pc := g.pc + 3, stack := v.toList ++ rest }) target → Steps p.tables e below (T.setTop g) target) ∨
    (∃ (q : Addr) (vm₁ : Vm) (B : Pt), s.WarmedH vm₁ ∧ Stand p l e R s m args below meth c B.U B.locs B.cells B.slots ∧ PostX ⟨T.setVm vm₁, locs, cells, slots⟩ argsL.toArray q B ∧
      Steps p.tables e below (T.setTop g) ((B.U.setTop { g with stack := rest }).pushFrame (.throwing q))) := by
  obtain ⟨mk, methM, cM, hnamed, hmethM, -, -, -, -, -, -, hsigM⟩ := Cond.codeWith_spec hcode
  have hstatic : methM.isStatic = true := Cond.static_spec hnamed hmethM hstat
  obtain ⟨kP, hkP, -⟩ := className_of_methodNamed hnamed
  have hinitP : kP.init = .initialized := Cond.initialized_spec (findClass_of_methodNamed hnamed) hkP hinit
  obtain ⟨vm₁, X₁, hstep₁⟩ := X.invokestatic hexec hown hlink hnamed hmethM hstatic hkP hinitP hy (g := g) hg (argsL := argsL) (rest := rest) (hlen _ hsigM) hstack hdg
  rcases hK m meth c ⟨T.setVm vm₁, locs, cells, slots⟩ { g with stack := rest } (.invokestatic index) mk argsL.toArray X₁ hg hsize hdg hW (X₁.named hnamed) (hpre vm₁ X₁.warmed) with ⟨v, B, X', hpost, hsteps⟩ | ⟨q, B, X', hpost, hsteps⟩
  · exact Or.inl ⟨v, vm₁, B, X₁.warmed, X', hpost, fun target h => hstep₁ _ fun acts => by rw [doInvoke_state]; exact hsteps.trans h⟩
  · exact Or.inr ⟨q, vm₁, B, X₁.warmed, X', hpost, hstep₁ _ fun acts => by rw [doInvoke_state]; exact hsteps⟩
theorem vx_callVW (X : Stand p l e R s m args below meth c T locs cells slots) (hexec : p.tables.exec = Jvm.exec) {own C : String} {index : Nat} {y : MethodName} {bytes : ByteArray} {maxL : Nat} {ret : Option FieldType} {hh : List (Nat × Nat × Nat × Nat)}
    (hown : s.vm.findClass own = some m.cls) (hlink : (Cond.methodLink own index y).before args s = true) (hinst : (Cond.instanceMethod y).before args s = true) (hsel : (Cond.selects C y y).before args s = true)
    (hcode : (Cond.codeWith y bytes maxL ret hh).before args s = true) (hy : y.cls ≠ "java/lang/invoke/MethodHandle" ∧ y.cls ≠ "java/lang/invoke/VarHandle")
    {W9 : Nat} {Pre : Pt → Array Value → Prop} {Post : Pt → Array Value → Option Value → Pt → Prop} (hK : Back l R p e below s args y 3 W9 Pre Post)
    {b : Addr} {cellB : Cell} (hcell : T.heap[b]? = some cellB) (hobj : cellB.vm.isStatics = false) (hcls : s.vm.findClass C = some cellB.cls)
    {g : JFrame} (hg : g.method = m) (hsize : g.locals.size = c.maxLocals) {argsL rest : List Value} (hlen : ∀ sig, parseMethodDescriptor y.desc = some sig → argsL.length = sig.parameters.length)
    (hstack : g.stack = argsL.reverse ++ .ref b :: rest) (hW : 2 * g.monitorRoom + (rest.map fun v => v.category).sum ≤ W9) (hdg : decode c.code g.pc = .ok (.invokevirtual index, 3))
    (hpre : ∀ vm₁, s.WarmedH vm₁ → Pre ⟨T.setVm vm₁, locs, cells, slots⟩ (Value.ref b :: argsL).toArray) :
    ∃ (v : Option Value) (vm₁ : Vm) (B : Pt), s.WarmedH vm₁ ∧ Stand p l e R s m args below meth c B.U B.locs B.cells B.slots ∧ Post ⟨T.setVm vm₁, locs, cells, slots⟩ (Value.ref b :: argsL).toArray v B ∧
      ∀ target, Steps p.tables e below (B.U.setTop { g with pc := g.pc + 3, stack := v.toList ++ rest }) target → Steps p.tables e below (T.setTop g) target := by
  obtain ⟨mk, methM, hnamed, hmethM, hstM, habM⟩ := Cond.instanceMethod_spec hinst
  obtain ⟨m8, methM', cM, hn8, hmethM', -, -, -, -, -, -, hsigM⟩ := Cond.codeWith_spec hcode
  cases Option.some.inj (hn8.symm.trans hnamed)
  cases hmethM.symm.trans hmethM'
  obtain ⟨c2, r2, m2, q1, q2, q3, q4, kP, hkP, hkPi⟩ := Cond.selects_spec hsel
  cases hcls.symm.trans q1
  cases (State.methodFound?_of_named hnamed hy).symm.trans q2
  cases hnamed.symm.trans q3
  have hselP : selectMethod e.platform s.vm cellB.cls mk = .method mk := by rw [Launch.admits_selectMethod X.admits]; exact q4
  obtain ⟨vm₁, X₁, hstep₁⟩ := X.invokevirtual hexec hown hlink hnamed hmethM hstM hkP hkPi hy (a := b) (cell := cellB) hcell
    (fun z h => by rw [h] at hobj; cases hobj) hselP hmethM habM hkP hkPi (g := g) hg (argsL := argsL) (rest := rest) (hlen _ hsigM) hstack hdg
  obtain ⟨v, B, X', hpost, hsteps⟩ := hK m meth c ⟨T.setVm vm₁, locs, cells, slots⟩ { g with stack := rest } (.invokevirtual index) mk (Value.ref b :: argsL).toArray X₁ hg hsize hdg hW (X₁.named hnamed) (hpre vm₁ X₁.warmed)
  exact ⟨v, vm₁, B, X₁.warmed, X', hpost, fun target h => hstep₁ _ fun acts => by rw [doInvoke_state]; exact hsteps.trans h⟩
abbrev vx_CVW (R : Room) (s : State) (args : Array Value) (own C : String) (index : Nat) (y : MethodName) (bytes : ByteArray) (maxL : Nat) (ret : Option FieldType) (hh : List (Nat × Nat × Nat × Nat)) (ws : List Cond) (rm : Room) (mc ms n : Nat) : Prop :=
  (rm.cells = mc ∧ rm.slots = ms ∧ rm.frames + 1 ≤ R.frames ∧ 8 + (maxL + 11) + rm.locals ≤ R.locals ∧ (∀ w ∈ ws, ∀ (a' : Array Value) (U : State), s.WarmedH U.vm → w.before a' U = true) ∧ Cond.codeWith y bytes maxL ret hh ∈ ws) ∧
  (Cond.codeWith y bytes maxL ret hh).before args s = true ∧ (Cond.initialized y.cls).before args s = true ∧ (y.cls ≠ "java/lang/invoke/MethodHandle" ∧ y.cls ≠ "java/lang/invoke/VarHandle") ∧
  (∀ sig, parseMethodDescriptor y.desc = some sig → n = sig.parameters.length) ∧ (Cond.methodLink own index y).before args s = true ∧ (Cond.instanceMethod y).before args s = true ∧ (Cond.selects C y y).before args s = true
theorem vx_cwVW {own C : String} {index maxL mc ms : Nat} {y : MethodName} {bytes : ByteArray} {ret : Option FieldType} {hh : List (Nat × Nat × Nat × Nat)} {Ts ws ws' : List Cond} {rm : Room} (n : Nat) (ht : ∀ w ∈ Ts, w.before args s = true) (hT : GoodIn Ts (wsV own index C y ws)) (hw : ws = Cond.codeWith y bytes maxL ret hh :: ws') (hrc : rm.cells = mc) (hrs : rm.slots = ms)
    (hd : y.cls = C ∧ y.cls ≠ "java/lang/invoke/MethodHandle" ∧ y.cls ≠ "java/lang/invoke/VarHandle" ∧ (parseMethodDescriptor y.desc).map (fun d => d.parameters.length) = some n) (hR : rm.frames + 1 ≤ R.frames ∧ 8 + (maxL + 11) + rm.locals ≤ R.locals) :
    vx_CVW R s args own C index y bytes maxL ret hh ws rm mc ms n := by
  obtain ⟨hC, hd⟩ := hd
  subst hC
  have ok : ∀ w ∈ wsV own index y.cls y ws, w.before args s = true := fun w h => ht w (hT w h).1
  have hG : GoodIn Ts ws := fun w h => hT w (by unfold wsV; exact List.mem_append_right _ h)
  have hc : Cond.codeWith y bytes maxL ret hh ∈ ws := by rw [hw]; exact List.mem_cons_self
  refine ⟨⟨hrc, hrs, hR.1, hR.2, pay_in ht hG, hc⟩, ht _ (hG _ hc).1, ok _ (by simp [wsV]), ⟨hd.1, hd.2.1⟩, fun sig h => ?_, ok _ (by simp [wsV]), ok _ (by simp [wsV]), ok _ (by simp [wsV])⟩
  have h2 := hd.2.2
  rw [h] at h2
  exact (Option.some.inj h2).symm
theorem vx_runVW {y : MethodName} {bytes cc : ByteArray} {maxL nL mc ms n index : Nat} {ret : Option FieldType} {hh : List (Nat × Nat × Nat × Nat)} {ws : List Cond} {rm : Room} {Pc : Array Value → State → Prop} {Qc : Array Value → State → Outcome → State → Prop} {free : Addr → Prop} {Ts : List Cond} {own C : String} {b : Addr} {As rest : List Value} {g : JFrame}
    (S : CallFix p m c cc nL s args Ts own) (hM : Met l y ws rm Pc Qc mc ms free) (cw : vx_CVW R s args own C index y bytes maxL ret hh ws rm mc ms n) (hp : PreV s H C b Pc As)
    (hg : g.method = m) (hn : As.length = n) (hsize : g.locals.size = nL) (hstack : g.stack = As.reverse ++ .ref b :: rest) (hW : 2 * g.monitorRoom + (rest.map fun v => v.category).sum ≤ 8) (hdg : decode cc g.pc = .ok (.invokevirtual index, 3)) (hf : cells + mc ≤ R.cells ∧ slots + ms ≤ R.slots) :
    va_Run p l e R s m args below meth c H locs cells slots mc ms g rest (Qc (Value.ref b :: As).toArray) free := by
  obtain ⟨⟨hrc, hrs, hfr, hlo, hws, hcw⟩, hcode, hini, hy, hlen, hl, hin, hse⟩ := cw
  have hK : Back l R p e below s args y 3 8 (PreOf R mc ms Pc) (PostOf Qc mc ms free) := va_backW (hh := hh) (bytes := bytes) (maxL := maxL) (ret := ret) hM hp.1 hrc hrs hfr hlo hws hcw (fun a' U hW => word_at hW (Or.inl (by first | rfl | simp [Cond.onTables, Cond.keeps, Cond.steady])) hini)
  obtain ⟨hx, hb, hml, ho, -⟩ := S
  obtain ⟨-, ⟨cellB, hcB, hoB, hclB⟩, hPc⟩ := hp
  intro T hT X
  obtain ⟨v, vm₁, ⟨U', l2, c2, s2⟩, hW₁, X', ⟨g', mk, t, L, e1, e2, hq, h1, hL, h2, h3⟩, st⟩ := vx_callVW X hx (C := C) (hh := hh) (bytes := bytes) (maxL := maxL) (ret := ret) ho hl hin hse hcode hy hK (by rw [hT]; exact hcB) hoB hclB hg (hsize.trans hml.symm) (argsL := As) (rest := rest) (fun sig h => hn.trans (hlen sig h)) hstack hW (by rw [hb]; exact hdg)
    (fun vm₁ hW₁ => ⟨hf.1, hf.2, hPc (T.setVm vm₁) hT hW₁⟩)
  dsimp only [Pt.U, Pt.locs, Pt.cells, Pt.slots] at X' e1 e2 h1 h2 h3 st
  subst h1; subst h2; subst h3
  exact ⟨v, (T.setVm vm₁).calling g' mk (Value.ref b :: As).toArray, t, U', L, hT, X', hL, e1, e2, hq, st⟩
section
variable {y : MethodName} {bytes cc : ByteArray} {maxL nL mc ms n index : Nat} {ret : Option FieldType} {ws : List Cond} {rm : Room} {Pc : Array Value → State → Prop} {Qc : Array Value → State → Outcome → State → Prop} {XC : String → State → State → Prop} {free : Addr → Prop} {Ts : List Cond} {own C : String} {b : Addr} {As rest : List Value} {g : JFrame}
theorem vx_runVX {hh : List (Nat × Nat × Nat × Nat)} (S : CallFix p m c cc nL s args Ts own) (hM : vx_Met l y ws rm Pc Qc XC mc ms free) (cw : vx_CVW R s args own C index y bytes maxL ret hh ws rm mc ms n) (hp : PreV s H C b Pc As)
    (hg : g.method = m) (hn : As.length = n) (hsize : g.locals.size = nL) (hstack : g.stack = As.reverse ++ .ref b :: rest) (hW : 2 * g.monitorRoom + (rest.map fun v => v.category).sum ≤ 8) (hdg : decode cc g.pc = .ok (.invokevirtual index, 3)) (hf : cells + mc ≤ R.cells ∧ slots + ms ≤ R.slots) :
    vx_Run p l e R s m args below meth c H locs cells slots mc ms g rest (Qc (Value.ref b :: As).toArray) XC free := by
  obtain ⟨⟨hrc, hrs, hfr, hlo, hws, hcw⟩, hcode, hini, hy, hlen, hl, hin, hse⟩ := cw
  have hK : vx_Back l R p e below s args y 3 8 (PreOf R mc ms Pc) (PostOf Qc mc ms free) (vx_Post XC mc ms free) := vx_backW (hh := hh) (bytes := bytes) (maxL := maxL) (ret := ret) hM hp.1 hrc hrs hfr hlo hws hcw (fun a' U hW => word_at hW (Or.inl (by first | rfl | simp [Cond.onTables, Cond.keeps, Cond.steady])) hini)
  obtain ⟨hx, hb, hml, ho, -⟩ := S
  obtain ⟨-, ⟨cellB, hcB, hoB, hclB⟩, hPc⟩ := hp
  intro T hT X
  rcases vx_callVX X hx (C := C) (hh := hh) (bytes := bytes) (maxL := maxL) (ret := ret) ho hl hin hse hcode hy hK (by rw [hT]; exact hcB) hoB hclB hg (hsize.trans hml.symm) (argsL := As) (rest := rest) (fun sig h => hn.trans (hlen sig h)) hstack hW (by rw [hb]; exact hdg)
    (fun vm₁ hW₁ => ⟨hf.1, hf.2, hPc (T.setVm vm₁) hT hW₁⟩) with ⟨v, vm₁, ⟨U', l2, c2, s2⟩, hW₁, X', ⟨g', mk, t, L, e1, e2, hq, h1, hL, h2, h3⟩, st⟩ | ⟨q, vm₁, ⟨U', l2, c2, s2⟩, hW₁, X', ⟨g', mk, t, L, E, ce, e1, e2, hq, hce, hcv, hcl, h1, hL, h2, h3⟩, st⟩
  · dsimp only [Pt.U, Pt.locs, Pt.cells, Pt.slots] at X' e1 e2 h1 h2 h3 st
    subst h1; subst h2; subst h3
    exact Or.inl ⟨v, (T.setVm vm₁).calling g' mk (Value.ref b :: As).toArray, t, U', L, hT, X', hL, e1, e2, hq, st⟩
  · dsimp only [Pt.U, Pt.locs, Pt.cells, Pt.slots] at X' e1 e2 h1 h2 h3 st hcl
    subst h1; subst h2; subst h3
    exact Or.inr ⟨q, (T.setVm vm₁).calling g' mk (Value.ref b :: As).toArray, t, U', L, E, ce, hT, X', hL, e1, e2, hq, hce, hcv, vx_cls hW₁ hcl, st⟩
theorem vx_runSX {hh : List (Nat × Nat × Nat × Nat)} (S : CallFix p m c cc nL s args Ts own) (hM : vx_Met l y ws rm Pc Qc XC mc ms free) (cw : vx_CSW R s args own index y bytes maxL ret hh ws rm mc ms n) (hp : PreS s H Pc As)
    (hg : g.method = m) (hn : As.length = n) (hsize : g.locals.size = nL) (hstack : g.stack = As.reverse ++ rest) (hW : 2 * g.monitorRoom + (rest.map fun v => v.category).sum ≤ 8) (hdg : decode cc g.pc = .ok (.invokestatic index, 3)) (hf : cells + mc ≤ R.cells ∧ slots + ms ≤ R.slots) :
    vx_Run p l e R s m args below meth c H locs cells slots mc ms g rest (Qc As.toArray) XC free := by
  obtain ⟨⟨hrc, hrs, hfr, hlo, hws, hcw⟩, hcode, hini, hy, hlen, hl, hstt⟩ := cw
  have hK : vx_Back l R p e below s args y 3 8 (PreOf R mc ms Pc) (PostOf Qc mc ms free) (vx_Post XC mc ms free) := vx_backW (hh := hh) (bytes := bytes) (maxL := maxL) (ret := ret) hM hp.1 hrc hrs hfr hlo hws hcw (fun a' U hW => word_at hW (Or.inl (by first | rfl | simp [Cond.onTables, Cond.keeps, Cond.steady])) hini)
  obtain ⟨hx, hb, hml, ho, -⟩ := S
  intro T hT X
  rcases vx_callSX X hx (hh := hh) (bytes := bytes) (maxL := maxL) (ret := ret) ho hl hstt hini hcode hy hK hg (hsize.trans hml.symm) (argsL := As) (rest := rest) (fun sig h => hn.trans (hlen sig h)) hstack hW (by rw [hb]; exact hdg)
    (fun vm₁ hW₁ => ⟨hf.1, hf.2, hp.2 (T.setVm vm₁) hT hW₁⟩) with ⟨v, vm₁, ⟨U', l2, c2, s2⟩, hW₁, X', ⟨g', mk, t, L, e1, e2, hq, h1, hL, h2, h3⟩, st⟩ | ⟨q, vm₁, ⟨U', l2, c2, s2⟩, hW₁, X', ⟨g', mk, t, L, E, ce, e1, e2, hq, hce, hcv, hcl, h1, hL, h2, h3⟩, st⟩
  · dsimp only [Pt.U, Pt.locs, Pt.cells, Pt.slots] at X' e1 e2 h1 h2 h3 st
    subst h1; subst h2; subst h3
    exact Or.inl ⟨v, (T.setVm vm₁).calling g' mk As.toArray, t, U', L, hT, X', hL, e1, e2, hq, st⟩
  · dsimp only [Pt.U, Pt.locs, Pt.cells, Pt.slots] at X' e1 e2 h1 h2 h3 st hcl
    subst h1; subst h2; subst h3
    exact Or.inr ⟨q, (T.setVm vm₁).calling g' mk As.toArray, t, U', L, E, ce, hT, X', hL, e1, e2, hq, hce, hcv, vx_cls hW₁ hcl, st⟩
end
end VXH
theorem vx_ofWH {l : Launch} {y : MethodName} {ws ws' : List Cond} {rm : Room} {Pc : Array Value → State → Prop} {Qc : Array Value → State → Outcome → State → Prop} {XC : String → State → State → Prop} {mc ms : Nat} {free : Addr → Prop} {cc : ByteArray} {maxL : Nat} {ret : Option FieldType} {hh : List (Nat × Nat × Nat × Nat)}
    (hy : plainName y.cls = true) (hw : ws = Cond.codeWith y cc maxL ret hh :: ws')
    (body : ∀ p e s m args below meth c s₁, BodyLoose p l y (headSpec ws rm) cc maxL ret e s m args below meth c s₁ → c.maxLocals = maxL → Pc args s →
      W p l e (headSpec ws rm).room s m args below meth c s.heap [] 0 0 (vx_MQ below Qc XC args s mc ms free) (entryFrame m args maxL)) : vx_Met l y ws rm Pc Qc XC mc ms free := by
  refine MetFree.of_bodyS (code := cc) (maxLocals := maxL) (ret := ret) hy ?_ ?_
  · intro args s m h hn
    obtain ⟨m9, meth, c, hn9, h1, h2, h3, h4, -, h5, h6, -⟩ := Cond.codeWith_spec (atoms_spec (ws := ws) h _ (by rw [hw]; exact List.mem_cons_self))
    cases hn.symm.trans hn9
    exact ⟨meth, c, h1, h2, h3, h4, h5, h6⟩
  · intro p e s m args below meth c s₁ B hml hP _
    have hh0 : s₁.heap = s.heap := by rw [B.state]; rfl
    obtain ⟨t, a1, o, b1, b2, b3⟩ := body p e s m args below meth c s₁ B hml hP s₁ hh0 (Stand.of_body B)
    exact ⟨t, o, a1, b1, b2, b3⟩
/-! ===== END ===== -/
end
section
def RX0 : String := "LeapJoin$Figures"
def TX0 : u_T := fun k => match k with
  | 0 => ("LeapJoin$Figures", "tally", "[I", true)
  | _ => ("LeapJoin$Figures", "told", "[I", true)
def tyX0 : Nat → FieldType := fun k => match k with
  | 0 => .array .int
  | _ => .array .int
theorem nmX0 : ∀ a, a < 2 → ∀ b, b < 2 → a ≠ b → (TX0 a).2.1 ≠ (TX0 b).2.1 := by decide +kernel
theorem tyX0_ok : ∀ k, k < 2 → parseFieldDescriptor (TX0 k).2.2.1 = some (tyX0 k) := by decide +kernel
abbrev cX0_init : ByteArray := prog_2_method_1_code
def yX0_init : MethodName := ⟨RX0, "<init>", "()V"⟩
abbrev cX0_tallyUp : ByteArray := prog_2_method_2_code
def yX0_tallyUp : MethodName := ⟨RX0, "tallyUp", "(LLeapJoin$Join;I)V"⟩
abbrev cX0_numbers : ByteArray := prog_2_method_3_code
def yX0_numbers : MethodName := ⟨RX0, "numbers", "()I"⟩
abbrev cX0_least : ByteArray := prog_2_method_4_code
def yX0_least : MethodName := ⟨RX0, "least", "()I"⟩
abbrev cX0_greatest : ByteArray := prog_2_method_5_code
def yX0_greatest : MethodName := ⟨RX0, "greatest", "()I"⟩
abbrev cX0_oftenest : ByteArray := prog_2_method_6_code
def yX0_oftenest : MethodName := ⟨RX0, "oftenest", "()I"⟩
abbrev cX0_givenBits : ByteArray := prog_2_method_7_code
def yX0_givenBits : MethodName := ⟨RX0, "givenBits", "(LLeapJoin$Join;LLeapJoin$Tables;I)I"⟩
abbrev cX0_unlike : ByteArray := prog_2_method_8_code
def yX0_unlike : MethodName := ⟨RX0, "unlike", "(LLeapJoin$Join;I)I"⟩
abbrev cX0_isTold : ByteArray := prog_2_method_9_code
def yX0_isTold : MethodName := ⟨RX0, "isTold", "(LLeapJoin$Join;II)Z"⟩
abbrev cX0_meanOf : ByteArray := prog_2_method_10_code
def yX0_meanOf : MethodName := ⟨RX0, "meanOf", "(LLeapJoin$Join;I)D"⟩
abbrev cX0_spreadOf : ByteArray := prog_2_method_11_code
def yX0_spreadOf : MethodName := ⟨RX0, "spreadOf", "(LLeapJoin$Join;I)D"⟩
abbrev cX0_bitsOfDouble : ByteArray := prog_2_method_12_code
def yX0_bitsOfDouble : MethodName := ⟨RX0, "bitsOfDouble", "(D)J"⟩
abbrev cX0_bitsOfFloat : ByteArray := prog_2_method_13_code
def yX0_bitsOfFloat : MethodName := ⟨RX0, "bitsOfFloat", "(F)I"⟩
def RX1 : String := "LeapJoin$Join"
def TX1 : u_T := fun k => match k with
  | 0 => ("LeapJoin$Join", "many", "I", false)
  | 1 => ("LeapJoin$Join", "leaps", "I", false)
  | 2 => ("LeapJoin$Join", "depths", "I", false)
  | 3 => ("LeapJoin$Join", "met", "[I", true)
  | 4 => ("LeapJoin$Join", "sequence", "[I", true)
  | 5 => ("LeapJoin$Join", "found", "[I", true)
  | 6 => ("LeapJoin$Join", "prefix", "[I", true)
  | 7 => ("LeapJoin$Join", "sorted", "[I", true)
  | 8 => ("LeapJoin$Join", "columns", "[I", true)
  | 9 => ("LeapJoin$Join", "shift", "[I", true)
  | 10 => ("LeapJoin$Join", "start", "[I", true)
  | 11 => ("LeapJoin$Join", "stop", "[I", true)
  | _ => ("LeapJoin$Join", "at", "[I", true)
def tyX1 : Nat → FieldType := fun k => match k with
  | 0 => .int
  | 1 => .int
  | 2 => .int
  | 3 => .array .int
  | 4 => .array .int
  | 5 => .array .int
  | 6 => .array .int
  | 7 => .array .int
  | 8 => .array .int
  | 9 => .array .int
  | 10 => .array .int
  | 11 => .array .int
  | _ => .array .int
theorem nmX1 : ∀ a, a < 13 → ∀ b, b < 13 → a ≠ b → (TX1 a).2.1 ≠ (TX1 b).2.1 := by decide +kernel
theorem tyX1_ok : ∀ k, k < 13 → parseFieldDescriptor (TX1 k).2.2.1 = some (tyX1 k) := by decide +kernel
abbrev cX1_init : ByteArray := prog_3_method_1_code
def yX1_init : MethodName := ⟨RX1, "<init>", "()V"⟩
abbrev cX1_findBy : ByteArray := prog_3_method_2_code
def yX1_findBy : MethodName := ⟨RX1, "findBy", "(LLeapJoin$Tables;I)V"⟩
abbrev cX1_findLeading : ByteArray := prog_3_method_3_code
def yX1_findLeading : MethodName := ⟨RX1, "findLeading", "(LLeapJoin$Tables;I)V"⟩
abbrev cX1_letterOf : ByteArray := prog_3_method_4_code
def yX1_letterOf : MethodName := ⟨RX1, "letterOf", "(II)I"⟩
abbrev cX1_addLetters : ByteArray := prog_3_method_5_code
def yX1_addLetters : MethodName := ⟨RX1, "addLetters", "(I)V"⟩
abbrev cX1_open : ByteArray := prog_3_method_6_code
def yX1_open : MethodName := ⟨RX1, "open", "(LLeapJoin$Tables;)V"⟩
abbrev cX1_load : ByteArray := prog_3_method_7_code
def yX1_load : MethodName := ⟨RX1, "load", "(LLeapJoin$Tables;I)V"⟩
abbrev cX1_addSorted : ByteArray := prog_3_method_8_code
def yX1_addSorted : MethodName := ⟨RX1, "addSorted", "(II)V"⟩
abbrev cX1_search : ByteArray := prog_3_method_9_code
def yX1_search : MethodName := ⟨RX1, "search", "(I)V"⟩
abbrev cX1_deepen : ByteArray := prog_3_method_10_code
def yX1_deepen : MethodName := ⟨RX1, "deepen", "(II)V"⟩
abbrev cX1_isOpened : ByteArray := prog_3_method_11_code
def yX1_isOpened : MethodName := ⟨RX1, "isOpened", "(I)Z"⟩
abbrev cX1_greatestKey : ByteArray := prog_3_method_12_code
def yX1_greatestKey : MethodName := ⟨RX1, "greatestKey", "(I)I"⟩
abbrev cX1_lowestBelow : ByteArray := prog_3_method_13_code
def yX1_lowestBelow : MethodName := ⟨RX1, "lowestBelow", "(II)I"⟩
abbrev cX1_isLeapt : ByteArray := prog_3_method_14_code
def yX1_isLeapt : MethodName := ⟨RX1, "isLeapt", "(II)Z"⟩
abbrev cX1_narrow : ByteArray := prog_3_method_15_code
def yX1_narrow : MethodName := ⟨RX1, "narrow", "(II)V"⟩
abbrev cX1_rowAt : ByteArray := prog_3_method_16_code
def yX1_rowAt : MethodName := ⟨RX1, "rowAt", "(I)I"⟩
abbrev cX1_numberAt : ByteArray := prog_3_method_17_code
def yX1_numberAt : MethodName := ⟨RX1, "numberAt", "(II)I"⟩
abbrev cX1_compareAt : ByteArray := prog_3_method_18_code
def yX1_compareAt : MethodName := ⟨RX1, "compareAt", "(IIIII)I"⟩
def RX2 : String := "LeapJoin$Log"
def TX2 : u_T := fun k => match k with
  | 0 => ("LeapJoin$Log", "parts", "[I", true)
  | 1 => ("LeapJoin$Log", "next", "I", false)
  | _ => ("LeapJoin$Log", "held", "I", false)
def tyX2 : Nat → FieldType := fun k => match k with
  | 0 => .array .int
  | 1 => .int
  | _ => .int
theorem nmX2 : ∀ a, a < 3 → ∀ b, b < 3 → a ≠ b → (TX2 a).2.1 ≠ (TX2 b).2.1 := by decide +kernel
theorem tyX2_ok : ∀ k, k < 3 → parseFieldDescriptor (TX2 k).2.2.1 = some (tyX2 k) := by decide +kernel
abbrev cX2_init : ByteArray := prog_4_method_1_code
def yX2_init : MethodName := ⟨RX2, "<init>", "()V"⟩
abbrev cX2_clear : ByteArray := prog_4_method_2_code
def yX2_clear : MethodName := ⟨RX2, "clear", "()V"⟩
abbrev cX2_copyFrom : ByteArray := prog_4_method_3_code
def yX2_copyFrom : MethodName := ⟨RX2, "copyFrom", "(LLeapJoin$Log;)V"⟩
abbrev cX2_add : ByteArray := prog_4_method_4_code
def yX2_add : MethodName := ⟨RX2, "add", "(III)V"⟩
abbrev cX2_dropLatest : ByteArray := prog_4_method_5_code
def yX2_dropLatest : MethodName := ⟨RX2, "dropLatest", "()V"⟩
abbrev cX2_shown : ByteArray := prog_4_method_6_code
def yX2_shown : MethodName := ⟨RX2, "shown", "()I"⟩
abbrev cX2_partOf : ByteArray := prog_4_method_7_code
def yX2_partOf : MethodName := ⟨RX2, "partOf", "(II)I"⟩
def RX3 : String := "LeapJoin$Past"
def TX3 : u_T := fun k => match k with
  | 0 => ("LeapJoin$Past", "many", "I", false)
  | 1 => ("LeapJoin$Past", "parts", "[I", true)
  | _ => ("LeapJoin$Past", "next", "I", false)
def tyX3 : Nat → FieldType := fun k => match k with
  | 0 => .int
  | 1 => .array .int
  | _ => .int
theorem nmX3 : ∀ a, a < 3 → ∀ b, b < 3 → a ≠ b → (TX3 a).2.1 ≠ (TX3 b).2.1 := by decide +kernel
theorem tyX3_ok : ∀ k, k < 3 → parseFieldDescriptor (TX3 k).2.2.1 = some (tyX3 k) := by decide +kernel
abbrev cX3_init : ByteArray := prog_5_method_1_code
def yX3_init : MethodName := ⟨RX3, "<init>", "()V"⟩
abbrev cX3_clear : ByteArray := prog_5_method_2_code
def yX3_clear : MethodName := ⟨RX3, "clear", "()V"⟩
abbrev cX3_add : ByteArray := prog_5_method_3_code
def yX3_add : MethodName := ⟨RX3, "add", "(III)V"⟩
abbrev cX3_dropLatest : ByteArray := prog_5_method_4_code
def yX3_dropLatest : MethodName := ⟨RX3, "dropLatest", "()V"⟩
abbrev cX3_sortDropped : ByteArray := prog_5_method_5_code
def yX3_sortDropped : MethodName := ⟨RX3, "sortDropped", "()I"⟩
abbrev cX3_numberDropped : ByteArray := prog_5_method_6_code
def yX3_numberDropped : MethodName := ⟨RX3, "numberDropped", "()I"⟩
abbrev cX3_rowDropped : ByteArray := prog_5_method_7_code
def yX3_rowDropped : MethodName := ⟨RX3, "rowDropped", "()I"⟩
def RX4 : String := "LeapJoin$Script"
def TX4 : u_T := fun k => match k with
  | 0 => ("LeapJoin$Script", "many", "I", false)
  | _ => ("LeapJoin$Script", "parts", "[I", true)
def tyX4 : Nat → FieldType := fun k => match k with
  | 0 => .int
  | _ => .array .int
theorem nmX4 : ∀ a, a < 2 → ∀ b, b < 2 → a ≠ b → (TX4 a).2.1 ≠ (TX4 b).2.1 := by decide +kernel
theorem tyX4_ok : ∀ k, k < 2 → parseFieldDescriptor (TX4 k).2.2.1 = some (tyX4 k) := by decide +kernel
abbrev cX4_init : ByteArray := prog_6_method_1_code
def yX4_init : MethodName := ⟨RX4, "<init>", "()V"⟩
abbrev cX4_clear : ByteArray := prog_6_method_2_code
def yX4_clear : MethodName := ⟨RX4, "clear", "()V"⟩
abbrev cX4_copyFrom : ByteArray := prog_6_method_3_code
def yX4_copyFrom : MethodName := ⟨RX4, "copyFrom", "(LLeapJoin$Script;)V"⟩
abbrev cX4_add : ByteArray := prog_6_method_4_code
def yX4_add : MethodName := ⟨RX4, "add", "(II)V"⟩
abbrev cX4_setNumber : ByteArray := prog_6_method_5_code
def yX4_setNumber : MethodName := ⟨RX4, "setNumber", "(II)V"⟩
abbrev cX4_partOf : ByteArray := prog_6_method_6_code
def yX4_partOf : MethodName := ⟨RX4, "partOf", "(II)I"⟩
abbrev cX4_rehearse : ByteArray := prog_6_method_7_code
def yX4_rehearse : MethodName := ⟨RX4, "rehearse", "(LLeapJoin$Tables;)I"⟩
def RX5 : String := "LeapJoin$Tables"
def TX5 : u_T := fun k => match k with
  | 0 => ("LeapJoin$Tables", "many", "I", false)
  | 1 => ("LeapJoin$Tables", "used", "I", false)
  | 2 => ("LeapJoin$Tables", "order", "I", false)
  | 3 => ("LeapJoin$Tables", "width", "[I", true)
  | 4 => ("LeapJoin$Tables", "size", "[I", true)
  | 5 => ("LeapJoin$Tables", "letters", "[I", true)
  | _ => ("LeapJoin$Tables", "rows", "[I", true)
def tyX5 : Nat → FieldType := fun k => match k with
  | 0 => .int
  | 1 => .int
  | 2 => .int
  | 3 => .array .int
  | 4 => .array .int
  | 5 => .array .int
  | _ => .array .int
theorem nmX5 : ∀ a, a < 7 → ∀ b, b < 7 → a ≠ b → (TX5 a).2.1 ≠ (TX5 b).2.1 := by decide +kernel
theorem tyX5_ok : ∀ k, k < 7 → parseFieldDescriptor (TX5 k).2.2.1 = some (tyX5 k) := by decide +kernel
abbrev cX5_init : ByteArray := prog_7_method_1_code
def yX5_init : MethodName := ⟨RX5, "<init>", "()V"⟩
abbrev cX5_packed : ByteArray := prog_7_method_2_code
def yX5_packed : MethodName := ⟨RX5, "packed", "(III)I"⟩
abbrev cX5_clear : ByteArray := prog_7_method_3_code
def yX5_clear : MethodName := ⟨RX5, "clear", "()V"⟩
abbrev cX5_copyFrom : ByteArray := prog_7_method_4_code
def yX5_copyFrom : MethodName := ⟨RX5, "copyFrom", "(LLeapJoin$Tables;)V"⟩
abbrev cX5_isTable : ByteArray := prog_7_method_5_code
def yX5_isTable : MethodName := ⟨RX5, "isTable", "(I)Z"⟩
abbrev cX5_isUsed : ByteArray := prog_7_method_6_code
def yX5_isUsed : MethodName := ⟨RX5, "isUsed", "(I)Z"⟩
abbrev cX5_open : ByteArray := prog_7_method_7_code
def yX5_open : MethodName := ⟨RX5, "open", "()V"⟩
abbrev cX5_addLetter : ByteArray := prog_7_method_8_code
def yX5_addLetter : MethodName := ⟨RX5, "addLetter", "(I)Z"⟩
abbrev cX5_columnOf : ByteArray := prog_7_method_9_code
def yX5_columnOf : MethodName := ⟨RX5, "columnOf", "(II)I"⟩
abbrev cX5_lettersOf : ByteArray := prog_7_method_10_code
def yX5_lettersOf : MethodName := ⟨RX5, "lettersOf", "(I)I"⟩
abbrev cX5_asked : ByteArray := prog_7_method_11_code
def yX5_asked : MethodName := ⟨RX5, "asked", "()I"⟩
abbrev cX5_allRows : ByteArray := prog_7_method_12_code
def yX5_allRows : MethodName := ⟨RX5, "allRows", "()I"⟩
abbrev cX5_allNumbers : ByteArray := prog_7_method_13_code
def yX5_allNumbers : MethodName := ⟨RX5, "allNumbers", "()I"⟩
abbrev cX5_rowAt : ByteArray := prog_7_method_14_code
def yX5_rowAt : MethodName := ⟨RX5, "rowAt", "(II)I"⟩
abbrev cX5_placeOf : ByteArray := prog_7_method_15_code
def yX5_placeOf : MethodName := ⟨RX5, "placeOf", "(II)I"⟩
abbrev cX5_rowWithin : ByteArray := prog_7_method_16_code
def yX5_rowWithin : MethodName := ⟨RX5, "rowWithin", "(II)I"⟩
abbrev cX5_insert : ByteArray := prog_7_method_17_code
def yX5_insert : MethodName := ⟨RX5, "insert", "(II)V"⟩
abbrev cX5_remove : ByteArray := prog_7_method_18_code
def yX5_remove : MethodName := ⟨RX5, "remove", "(II)V"⟩
abbrev cX5_refusal : ByteArray := prog_7_method_19_code
def yX5_refusal : MethodName := ⟨RX5, "refusal", "(IIIII)I"⟩
abbrev cX5_isFitting : ByteArray := prog_7_method_20_code
def yX5_isFitting : MethodName := ⟨RX5, "isFitting", "(III)Z"⟩
abbrev cX5_change : ByteArray := prog_7_method_21_code
def yX5_change : MethodName := ⟨RX5, "change", "(III)V"⟩
abbrev cX5_changeBack : ByteArray := prog_7_method_22_code
def yX5_changeBack : MethodName := ⟨RX5, "changeBack", "(III)V"⟩
def RX6 : String := "LeapJoin$Tape"
def TX6 : u_T := fun k => match k with
  | 0 => ("LeapJoin$Tape", "length", "I", false)
  | 1 => ("LeapJoin$Tape", "bytes", "[B", true)
  | _ => ("LeapJoin$Tape", "at", "I", false)
def tyX6 : Nat → FieldType := fun k => match k with
  | 0 => .int
  | 1 => .array .byte
  | _ => .int
theorem nmX6 : ∀ a, a < 3 → ∀ b, b < 3 → a ≠ b → (TX6 a).2.1 ≠ (TX6 b).2.1 := by decide +kernel
theorem tyX6_ok : ∀ k, k < 3 → parseFieldDescriptor (TX6 k).2.2.1 = some (tyX6 k) := by decide +kernel
abbrev cX6_init : ByteArray := prog_8_method_1_code
def yX6_init : MethodName := ⟨RX6, "<init>", "()V"⟩
abbrev cX6_bytesIn : ByteArray := prog_8_method_2_code
def yX6_bytesIn : MethodName := ⟨RX6, "bytesIn", "(I)I"⟩
abbrev cX6_append : ByteArray := prog_8_method_3_code
def yX6_append : MethodName := ⟨RX6, "append", "(I)V"⟩
abbrev cX6_readTables : ByteArray := prog_8_method_4_code
def yX6_readTables : MethodName := ⟨RX6, "readTables", "(LLeapJoin$Tables;)I"⟩
abbrev cX6_readScript : ByteArray := prog_8_method_5_code
def yX6_readScript : MethodName := ⟨RX6, "readScript", "(LLeapJoin$Script;)I"⟩
abbrev cX6_peek : ByteArray := prog_8_method_6_code
def yX6_peek : MethodName := ⟨RX6, "peek", "()I"⟩
abbrev cX6_isClause : ByteArray := prog_8_method_7_code
def yX6_isClause : MethodName := ⟨RX6, "isClause", "(LLeapJoin$Tables;)Z"⟩
abbrev cX6_isRow : ByteArray := prog_8_method_8_code
def yX6_isRow : MethodName := ⟨RX6, "isRow", "(LLeapJoin$Tables;I)Z"⟩
abbrev cX6_isStep : ByteArray := prog_8_method_9_code
def yX6_isStep : MethodName := ⟨RX6, "isStep", "(LLeapJoin$Script;)Z"⟩
abbrev cX6_isOrder : ByteArray := prog_8_method_10_code
def yX6_isOrder : MethodName := ⟨RX6, "isOrder", "(LLeapJoin$Script;)Z"⟩
abbrev cX6_isRowOfStep : ByteArray := prog_8_method_11_code
def yX6_isRowOfStep : MethodName := ⟨RX6, "isRowOfStep", "(LLeapJoin$Script;)Z"⟩
abbrev cX6_isDigit : ByteArray := prog_8_method_12_code
def yX6_isDigit : MethodName := ⟨RX6, "isDigit", "(I)Z"⟩
abbrev cX6_number : ByteArray := prog_8_method_13_code
def yX6_number : MethodName := ⟨RX6, "number", "()I"⟩
def RX7 : String := "LeapJoin$Weights"
def TX7 : u_T := fun k => match k with
  | 0 => ("LeapJoin$Weights", "known", "Z", false)
  | 1 => ("LeapJoin$Weights", "bestOrder", "I", false)
  | 2 => ("LeapJoin$Weights", "fewest", "I", false)
  | _ => ("LeapJoin$Weights", "most", "I", false)
def tyX7 : Nat → FieldType := fun k => match k with
  | 0 => .boolean
  | 1 => .int
  | 2 => .int
  | _ => .int
theorem nmX7 : ∀ a, a < 4 → ∀ b, b < 4 → a ≠ b → (TX7 a).2.1 ≠ (TX7 b).2.1 := by decide +kernel
theorem tyX7_ok : ∀ k, k < 4 → parseFieldDescriptor (TX7 k).2.2.1 = some (tyX7 k) := by decide +kernel
abbrev cX7_init : ByteArray := prog_9_method_1_code
def yX7_init : MethodName := ⟨RX7, "<init>", "()V"⟩
abbrev cX7_weigh : ByteArray := prog_9_method_2_code
def yX7_weigh : MethodName := ⟨RX7, "weigh", "(LLeapJoin$Tables;LLeapJoin$Join;)V"⟩
def RX8 : String := "LeapJoin"
def TX8 : u_T := fun k => match k with
  | 0 => ("LeapJoin", "tape", "LLeapJoin$Tape;", true)
  | 1 => ("LeapJoin", "tables", "LLeapJoin$Tables;", true)
  | 2 => ("LeapJoin", "apart", "LLeapJoin$Tables;", true)
  | 3 => ("LeapJoin", "kept", "LLeapJoin$Tables;", true)
  | 4 => ("LeapJoin", "join", "LLeapJoin$Join;", true)
  | 5 => ("LeapJoin", "apartJoin", "LLeapJoin$Join;", true)
  | 6 => ("LeapJoin", "figures", "LLeapJoin$Figures;", true)
  | 7 => ("LeapJoin", "weights", "LLeapJoin$Weights;", true)
  | 8 => ("LeapJoin", "acts", "LLeapJoin$Log;", true)
  | 9 => ("LeapJoin", "keptActs", "LLeapJoin$Log;", true)
  | 10 => ("LeapJoin", "past", "LLeapJoin$Past;", true)
  | 11 => ("LeapJoin", "scripts", "[LLeapJoin$Script;", true)
  | 12 => ("LeapJoin", "draft", "LLeapJoin$Script;", true)
  | 13 => ("LeapJoin", "refusals", "[I", true)
  | 14 => ("LeapJoin", "scriptsTold", "I", false)
  | 15 => ("LeapJoin", "imageMade", "Z", false)
  | _ => ("LeapJoin", "drawn", "J", false)
def tyX8 : Nat → FieldType := fun k => match k with
  | 0 => .object "LeapJoin$Tape"
  | 1 => .object "LeapJoin$Tables"
  | 2 => .object "LeapJoin$Tables"
  | 3 => .object "LeapJoin$Tables"
  | 4 => .object "LeapJoin$Join"
  | 5 => .object "LeapJoin$Join"
  | 6 => .object "LeapJoin$Figures"
  | 7 => .object "LeapJoin$Weights"
  | 8 => .object "LeapJoin$Log"
  | 9 => .object "LeapJoin$Log"
  | 10 => .object "LeapJoin$Past"
  | 11 => .array (.object "LeapJoin$Script")
  | 12 => .object "LeapJoin$Script"
  | 13 => .array .int
  | 14 => .int
  | 15 => .boolean
  | _ => .long
theorem nmX8 : ∀ a, a < 17 → ∀ b, b < 17 → a ≠ b → (TX8 a).2.1 ≠ (TX8 b).2.1 := by decide +kernel
theorem tyX8_ok : ∀ k, k < 17 → parseFieldDescriptor (TX8 k).2.2.1 = some (tyX8 k) := by decide +kernel
abbrev cX8_init : ByteArray := prog_1_method_1_code
def yX8_init : MethodName := ⟨RX8, "<init>", "()V"⟩
abbrev cX8_feed : ByteArray := prog_1_method_2_code
def yX8_feed : MethodName := ⟨RX8, "feed", "(IIIII)I"⟩
abbrev cX8_end : ByteArray := prog_1_method_3_code
def yX8_end : MethodName := ⟨RX8, "end", "(I)Z"⟩
abbrev cX8_fault : ByteArray := prog_1_method_4_code
def yX8_fault : MethodName := ⟨RX8, "fault", "(I)I"⟩
abbrev cX8_text : ByteArray := prog_1_method_5_code
def yX8_text : MethodName := ⟨RX8, "text", "(I)I"⟩
abbrev cX8_textOfTables : ByteArray := prog_1_method_6_code
def yX8_textOfTables : MethodName := ⟨RX8, "textOfTables", "()I"⟩
abbrev cX8_textOfScript : ByteArray := prog_1_method_7_code
def yX8_textOfScript : MethodName := ⟨RX8, "textOfScript", "()I"⟩
abbrev cX8_renew : ByteArray := prog_1_method_8_code
def yX8_renew : MethodName := ⟨RX8, "renew", "()V"⟩
abbrev cX8_rule : ByteArray := prog_1_method_9_code
def yX8_rule : MethodName := ⟨RX8, "rule", "(I)I"⟩
abbrev cX8_table : ByteArray := prog_1_method_10_code
def yX8_table : MethodName := ⟨RX8, "table", "(II)I"⟩
abbrev cX8_cell : ByteArray := prog_1_method_11_code
def yX8_cell : MethodName := ⟨RX8, "cell", "(III)I"⟩
abbrev cX8_rows : ByteArray := prog_1_method_12_code
def yX8_rows : MethodName := ⟨RX8, "rows", "()I"⟩
abbrev cX8_row : ByteArray := prog_1_method_13_code
def yX8_row : MethodName := ⟨RX8, "row", "(II)I"⟩
abbrev cX8_leaps : ByteArray := prog_1_method_14_code
def yX8_leaps : MethodName := ⟨RX8, "leaps", "()I"⟩
abbrev cX8_beginnings : ByteArray := prog_1_method_15_code
def yX8_beginnings : MethodName := ⟨RX8, "beginnings", "(I)I"⟩
abbrev cX8_best : ByteArray := prog_1_method_16_code
def yX8_best : MethodName := ⟨RX8, "best", "(I)I"⟩
abbrev cX8_plain : ByteArray := prog_1_method_17_code
def yX8_plain : MethodName := ⟨RX8, "plain", "()I"⟩
abbrev cX8_given : ByteArray := prog_1_method_18_code
def yX8_given : MethodName := ⟨RX8, "given", "(I)I"⟩
abbrev cX8_without : ByteArray := prog_1_method_19_code
def yX8_without : MethodName := ⟨RX8, "without", "(I)I"⟩
abbrev cX8_projected : ByteArray := prog_1_method_20_code
def yX8_projected : MethodName := ⟨RX8, "projected", "(I)I"⟩
abbrev cX8_isAsked : ByteArray := prog_1_method_21_code
def yX8_isAsked : MethodName := ⟨RX8, "isAsked", "(I)Z"⟩
abbrev cX8_times : ByteArray := prog_1_method_22_code
def yX8_times : MethodName := ⟨RX8, "times", "(II)I"⟩
abbrev cX8_distinct : ByteArray := prog_1_method_23_code
def yX8_distinct : MethodName := ⟨RX8, "distinct", "(II)I"⟩
abbrev cX8_tells : ByteArray := prog_1_method_24_code
def yX8_tells : MethodName := ⟨RX8, "tells", "(II)Z"⟩
abbrev cX8_behind : ByteArray := prog_1_method_25_code
def yX8_behind : MethodName := ⟨RX8, "behind", "(IIII)I"⟩
abbrev cX8_has : ByteArray := prog_1_method_26_code
def yX8_has : MethodName := ⟨RX8, "has", "(IIII)Z"⟩
abbrev cX8_mean : ByteArray := prog_1_method_27_code
def yX8_mean : MethodName := ⟨RX8, "mean", "(I)J"⟩
abbrev cX8_meanAs : ByteArray := prog_1_method_28_code
def yX8_meanAs : MethodName := ⟨RX8, "meanAs", "(II)I"⟩
abbrev cX8_spread : ByteArray := prog_1_method_29_code
def yX8_spread : MethodName := ⟨RX8, "spread", "(I)J"⟩
abbrev cX8_skew : ByteArray := prog_1_method_30_code
def yX8_skew : MethodName := ⟨RX8, "skew", "(I)I"⟩
abbrev cX8_put : ByteArray := prog_1_method_31_code
def yX8_put : MethodName := ⟨RX8, "put", "(IIII)I"⟩
abbrev cX8_take : ByteArray := prog_1_method_32_code
def yX8_take : MethodName := ⟨RX8, "take", "(IIII)I"⟩
abbrev cX8_use : ByteArray := prog_1_method_33_code
def yX8_use : MethodName := ⟨RX8, "use", "(I)I"⟩
abbrev cX8_order : ByteArray := prog_1_method_34_code
def yX8_order : MethodName := ⟨RX8, "order", "(I)I"⟩
abbrev cX8_isDone : ByteArray := prog_1_method_35_code
def yX8_isDone : MethodName := ⟨RX8, "isDone", "(IIIII)Z"⟩
abbrev cX8_attempt : ByteArray := prog_1_method_36_code
def yX8_attempt : MethodName := ⟨RX8, "attempt", "(IIIII)I"⟩
abbrev cX8_ways : ByteArray := prog_1_method_37_code
def yX8_ways : MethodName := ⟨RX8, "ways", "(IJ)I"⟩
abbrev cX8_goOneWay : ByteArray := prog_1_method_38_code
def yX8_goOneWay : MethodName := ⟨RX8, "goOneWay", "()V"⟩
abbrev cX8_draw : ByteArray := prog_1_method_39_code
def yX8_draw : MethodName := ⟨RX8, "draw", "(I)I"⟩
abbrev cX8_status : ByteArray := prog_1_method_40_code
def yX8_status : MethodName := ⟨RX8, "status", "(I)I"⟩
abbrev cX8_undo : ByteArray := prog_1_method_41_code
def yX8_undo : MethodName := ⟨RX8, "undo", "()I"⟩
abbrev cX8_log : ByteArray := prog_1_method_42_code
def yX8_log : MethodName := ⟨RX8, "log", "(II)I"⟩
abbrev cX8_would : ByteArray := prog_1_method_43_code
def yX8_would : MethodName := ⟨RX8, "would", "(IIIII)I"⟩
abbrev cX8_step : ByteArray := prog_1_method_44_code
def yX8_step : MethodName := ⟨RX8, "step", "(III)I"⟩
abbrev cX8_isScript : ByteArray := prog_1_method_45_code
def yX8_isScript : MethodName := ⟨RX8, "isScript", "(I)Z"⟩
abbrev cX8_run : ByteArray := prog_1_method_46_code
def yX8_run : MethodName := ⟨RX8, "run", "(II)I"⟩
abbrev cX8_perform : ByteArray := prog_1_method_47_code
def yX8_perform : MethodName := ⟨RX8, "perform", "(I)I"⟩
abbrev cX8_most : ByteArray := prog_1_method_48_code
def yX8_most : MethodName := ⟨RX8, "most", "(I)I"⟩
abbrev cX8_tableWithMostRows : ByteArray := prog_1_method_49_code
def yX8_tableWithMostRows : MethodName := ⟨RX8, "tableWithMostRows", "()I"⟩
abbrev cX8_givenRows : ByteArray := prog_1_method_50_code
def yX8_givenRows : MethodName := ⟨RX8, "givenRows", "(I)I"⟩
abbrev cX8_tableWithMostGiven : ByteArray := prog_1_method_51_code
def yX8_tableWithMostGiven : MethodName := ⟨RX8, "tableWithMostGiven", "()I"⟩
abbrev cX8_dangling : ByteArray := prog_1_method_52_code
def yX8_dangling : MethodName := ⟨RX8, "dangling", "()I"⟩
abbrev cX8_tellingCouples : ByteArray := prog_1_method_53_code
def yX8_tellingCouples : MethodName := ⟨RX8, "tellingCouples", "()I"⟩
abbrev cX8_image : ByteArray := prog_1_method_54_code
def yX8_image : MethodName := ⟨RX8, "image", "()I"⟩
abbrev cX8_back : ByteArray := prog_1_method_55_code
def yX8_back : MethodName := ⟨RX8, "back", "()I"⟩
abbrev cX8_count : ByteArray := prog_1_method_56_code
def yX8_count : MethodName := ⟨RX8, "count", "(I)I"⟩
def RX9 : String := "LeapJoinModel"
def TX9 : u_T := fun k => match k with
  | 0 => ("LeapJoinModel", "thrown", "I", false)
  | 1 => ("LeapJoinModel", "tape", "[I", true)
  | 2 => ("LeapJoinModel", "taped", "I", false)
  | 3 => ("LeapJoinModel", "at", "I", false)
  | 4 => ("LeapJoinModel", "wrong", "I", false)
  | 5 => ("LeapJoinModel", "readWide", "[I", true)
  | 6 => ("LeapJoinModel", "readLetters", "[I", true)
  | 7 => ("LeapJoinModel", "readMany", "[I", true)
  | 8 => ("LeapJoinModel", "readRows", "[I", true)
  | 9 => ("LeapJoinModel", "readTables", "I", false)
  | 10 => ("LeapJoinModel", "script", "[I", true)
  | 11 => ("LeapJoinModel", "scriptLong", "[I", true)
  | 12 => ("LeapJoinModel", "scripts", "I", false)
  | 13 => ("LeapJoinModel", "now", "[I", true)
  | 14 => ("LeapJoinModel", "refused", "[I", true)
  | 15 => ("LeapJoinModel", "wide", "[I", true)
  | 16 => ("LeapJoinModel", "letters", "[I", true)
  | 17 => ("LeapJoinModel", "tables", "I", false)
  | 18 => ("LeapJoinModel", "inOrder", "[I", true)
  | 19 => ("LeapJoinModel", "depthMany", "I", false)
  | 20 => ("LeapJoinModel", "found", "[I", true)
  | 21 => ("LeapJoinModel", "keys", "[I", true)
  | 22 => ("LeapJoinModel", "keyMany", "[I", true)
  | 23 => ("LeapJoinModel", "stand", "[I", true)
  | 24 => ("LeapJoinModel", "begun", "[I", true)
  | 25 => ("LeapJoinModel", "joined", "[I", true)
  | 26 => ("LeapJoinModel", "joinMany", "I", false)
  | 27 => ("LeapJoinModel", "leapMany", "I", false)
  | 28 => ("LeapJoinModel", "kept", "[I", true)
  | 29 => ("LeapJoinModel", "acts", "I", false)
  | 30 => ("LeapJoinModel", "drawn", "J", false)
  | 31 => ("LeapJoinModel", "bestOrder", "I", false)
  | 32 => ("LeapJoinModel", "fewestLeaps", "I", false)
  | 33 => ("LeapJoinModel", "mostLeaps", "I", false)
  | 34 => ("LeapJoinModel", "timesOf", "[I", true)
  | 35 => ("LeapJoinModel", "rankOf", "[I", true)
  | 36 => ("LeapJoinModel", "unlikeOf", "[I", true)
  | 37 => ("LeapJoinModel", "isMet", "[Z", true)
  | 38 => ("LeapJoinModel", "toldBy", "[I", true)
  | 39 => ("LeapJoinModel", "given4", "[I", true)
  | 40 => ("LeapJoinModel", "aside", "[I", true)
  | 41 => ("LeapJoinModel", "image", "[I", true)
  | _ => ("LeapJoinModel", "hasImage", "Z", false)
def tyX9 : Nat → FieldType := fun k => match k with
  | 0 => .int
  | 1 => .array .int
  | 2 => .int
  | 3 => .int
  | 4 => .int
  | 5 => .array .int
  | 6 => .array .int
  | 7 => .array .int
  | 8 => .array .int
  | 9 => .int
  | 10 => .array .int
  | 11 => .array .int
  | 12 => .int
  | 13 => .array .int
  | 14 => .array .int
  | 15 => .array .int
  | 16 => .array .int
  | 17 => .int
  | 18 => .array .int
  | 19 => .int
  | 20 => .array .int
  | 21 => .array .int
  | 22 => .array .int
  | 23 => .array .int
  | 24 => .array .int
  | 25 => .array .int
  | 26 => .int
  | 27 => .int
  | 28 => .array .int
  | 29 => .int
  | 30 => .long
  | 31 => .int
  | 32 => .int
  | 33 => .int
  | 34 => .array .int
  | 35 => .array .int
  | 36 => .array .int
  | 37 => .array .boolean
  | 38 => .array .int
  | 39 => .array .int
  | 40 => .array .int
  | 41 => .array .int
  | _ => .boolean
theorem nmX9 : ∀ a, a < 43 → ∀ b, b < 43 → a ≠ b → (TX9 a).2.1 ≠ (TX9 b).2.1 := by decide +kernel
theorem tyX9_ok : ∀ k, k < 43 → parseFieldDescriptor (TX9 k).2.2.1 = some (tyX9 k) := by decide +kernel
abbrev cX9_in : ByteArray := prog_11_method_1_code
def yX9_in : MethodName := ⟨RX9, "in", "(III)Z"⟩
abbrev cX9_has : ByteArray := prog_11_method_2_code
def yX9_has : MethodName := ⟨RX9, "has", "(II)Z"⟩
abbrev cX9_bits : ByteArray := prog_11_method_3_code
def yX9_bits : MethodName := ⟨RX9, "bits", "(I)I"⟩
abbrev cX9_init : ByteArray := prog_11_method_4_code
def yX9_init : MethodName := ⟨RX9, "<init>", "()V"⟩
abbrev cX9_thrown : ByteArray := prog_11_method_5_code
def yX9_thrown : MethodName := ⟨RX9, "thrown", "()I"⟩
abbrev cX9_byteOf : ByteArray := prog_11_method_6_code
def yX9_byteOf : MethodName := ⟨RX9, "byteOf", "(IIIIII)I"⟩
abbrev cX9_feed : ByteArray := prog_11_method_7_code
def yX9_feed : MethodName := ⟨RX9, "feed", "(IIIII)I"⟩
abbrev cX9_end : ByteArray := prog_11_method_8_code
def yX9_end : MethodName := ⟨RX9, "end", "(I)Z"⟩
abbrev cX9_here : ByteArray := prog_11_method_9_code
def yX9_here : MethodName := ⟨RX9, "here", "()I"⟩
abbrev cX9_ahead : ByteArray := prog_11_method_10_code
def yX9_ahead : MethodName := ⟨RX9, "ahead", "()I"⟩
abbrev cX9_bad : ByteArray := prog_11_method_11_code
def yX9_bad : MethodName := ⟨RX9, "bad", "()V"⟩
abbrev cX9_must : ByteArray := prog_11_method_12_code
def yX9_must : MethodName := ⟨RX9, "must", "(I)V"⟩
abbrev cX9_isDigit : ByteArray := prog_11_method_13_code
def yX9_isDigit : MethodName := ⟨RX9, "isDigit", "(I)Z"⟩
abbrev cX9_number : ByteArray := prog_11_method_14_code
def yX9_number : MethodName := ⟨RX9, "number", "(I)I"⟩
abbrev cX9_digit : ByteArray := prog_11_method_15_code
def yX9_digit : MethodName := ⟨RX9, "digit", "()I"⟩
abbrev cX9_isLetter : ByteArray := prog_11_method_16_code
def yX9_isLetter : MethodName := ⟨RX9, "isLetter", "(I)Z"⟩
abbrev cX9_readHead : ByteArray := prog_11_method_17_code
def yX9_readHead : MethodName := ⟨RX9, "readHead", "(I)V"⟩
abbrev cX9_readRow : ByteArray := prog_11_method_18_code
def yX9_readRow : MethodName := ⟨RX9, "readRow", "(I)V"⟩
abbrev cX9_readTable : ByteArray := prog_11_method_19_code
def yX9_readTable : MethodName := ⟨RX9, "readTable", "(I)V"⟩
abbrev cX9_ends : ByteArray := prog_11_method_20_code
def yX9_ends : MethodName := ⟨RX9, "ends", "()I"⟩
abbrev cX9_begins : ByteArray := prog_11_method_21_code
def yX9_begins : MethodName := ⟨RX9, "begins", "()V"⟩
abbrev cX9_readAll : ByteArray := prog_11_method_22_code
def yX9_readAll : MethodName := ⟨RX9, "readAll", "()I"⟩
abbrev cX9_readStep : ByteArray := prog_11_method_23_code
def yX9_readStep : MethodName := ⟨RX9, "readStep", "(I)V"⟩
abbrev cX9_readScript : ByteArray := prog_11_method_24_code
def yX9_readScript : MethodName := ⟨RX9, "readScript", "(I)I"⟩
abbrev cX9_fault : ByteArray := prog_11_method_25_code
def yX9_fault : MethodName := ⟨RX9, "fault", "(I)I"⟩
abbrev cX9_areTables : ByteArray := prog_11_method_26_code
def yX9_areTables : MethodName := ⟨RX9, "areTables", "()Z"⟩
abbrev cX9_isTable : ByteArray := prog_11_method_27_code
def yX9_isTable : MethodName := ⟨RX9, "isTable", "(I)Z"⟩
abbrev cX9_isUsed : ByteArray := prog_11_method_28_code
def yX9_isUsed : MethodName := ⟨RX9, "isUsed", "(I)Z"⟩
abbrev cX9_rowAt : ByteArray := prog_11_method_29_code
def yX9_rowAt : MethodName := ⟨RX9, "rowAt", "(II)I"⟩
abbrev cX9_many : ByteArray := prog_11_method_30_code
def yX9_many : MethodName := ⟨RX9, "many", "(I)I"⟩
abbrev cX9_lettersOf : ByteArray := prog_11_method_31_code
def yX9_lettersOf : MethodName := ⟨RX9, "lettersOf", "(I)I"⟩
abbrev cX9_asked : ByteArray := prog_11_method_32_code
def yX9_asked : MethodName := ⟨RX9, "asked", "()I"⟩
abbrev cX9_compares : ByteArray := prog_11_method_33_code
def yX9_compares : MethodName := ⟨RX9, "compares", "(IIIII)I"⟩
abbrev cX9_countLess : ByteArray := prog_11_method_34_code
def yX9_countLess : MethodName := ⟨RX9, "countLess", "(IIII)I"⟩
abbrev cX9_hasRow : ByteArray := prog_11_method_35_code
def yX9_hasRow : MethodName := ⟨RX9, "hasRow", "(IIII)Z"⟩
abbrev cX9_putsNow : ByteArray := prog_11_method_36_code
def yX9_putsNow : MethodName := ⟨RX9, "putsNow", "(IIII)I"⟩
abbrev cX9_takesNow : ByteArray := prog_11_method_37_code
def yX9_takesNow : MethodName := ⟨RX9, "takesNow", "(IIII)I"⟩
abbrev cX9_takeTables : ByteArray := prog_11_method_38_code
def yX9_takeTables : MethodName := ⟨RX9, "takeTables", "()I"⟩
abbrev cX9_text : ByteArray := prog_11_method_39_code
def yX9_text : MethodName := ⟨RX9, "text", "(I)I"⟩
abbrev cX9_laysOrder : ByteArray := prog_11_method_40_code
def yX9_laysOrder : MethodName := ⟨RX9, "laysOrder", "(I)V"⟩
abbrev cX9_columnOf : ByteArray := prog_11_method_41_code
def yX9_columnOf : MethodName := ⟨RX9, "columnOf", "(II)I"⟩
abbrev cX9_fits : ByteArray := prog_11_method_42_code
def yX9_fits : MethodName := ⟨RX9, "fits", "(III)Z"⟩
abbrev cX9_takesKey : ByteArray := prog_11_method_43_code
def yX9_takesKey : MethodName := ⟨RX9, "takesKey", "(II)V"⟩
abbrev cX9_isIn : ByteArray := prog_11_method_44_code
def yX9_isIn : MethodName := ⟨RX9, "isIn", "(II)Z"⟩
abbrev cX9_laysKeys : ByteArray := prog_11_method_45_code
def yX9_laysKeys : MethodName := ⟨RX9, "laysKeys", "(I)Z"⟩
abbrev cX9_keyAt : ByteArray := prog_11_method_46_code
def yX9_keyAt : MethodName := ⟨RX9, "keyAt", "(II)I"⟩
abbrev cX9_greatestKey : ByteArray := prog_11_method_47_code
def yX9_greatestKey : MethodName := ⟨RX9, "greatestKey", "(I)I"⟩
abbrev cX9_firstBehind : ByteArray := prog_11_method_48_code
def yX9_firstBehind : MethodName := ⟨RX9, "firstBehind", "(II)I"⟩
abbrev cX9_firstIn : ByteArray := prog_11_method_49_code
def yX9_firstIn : MethodName := ⟨RX9, "firstIn", "(I)I"⟩
abbrev cX9_leaps : ByteArray := prog_11_method_50_code
def yX9_leaps : MethodName := ⟨RX9, "leaps", "(III)Z"⟩
abbrev cX9_takesRow : ByteArray := prog_11_method_51_code
def yX9_takesRow : MethodName := ⟨RX9, "takesRow", "()V"⟩
abbrev cX9_goes : ByteArray := prog_11_method_52_code
def yX9_goes : MethodName := ⟨RX9, "goes", "(I)V"⟩
abbrev cX9_joins : ByteArray := prog_11_method_53_code
def yX9_joins : MethodName := ⟨RX9, "joins", "(I)V"⟩
abbrev cX9_joinsNow : ByteArray := prog_11_method_54_code
def yX9_joinsNow : MethodName := ⟨RX9, "joinsNow", "()V"⟩
abbrev cX9_numberOf : ByteArray := prog_11_method_55_code
def yX9_numberOf : MethodName := ⟨RX9, "numberOf", "(II)I"⟩
abbrev cX9_isAsked : ByteArray := prog_11_method_56_code
def yX9_isAsked : MethodName := ⟨RX9, "isAsked", "(I)Z"⟩
abbrev cX9_isRow : ByteArray := prog_11_method_57_code
def yX9_isRow : MethodName := ⟨RX9, "isRow", "(IIII)Z"⟩
abbrev cX9_whyPut : ByteArray := prog_11_method_58_code
def yX9_whyPut : MethodName := ⟨RX9, "whyPut", "(IIII)I"⟩
abbrev cX9_whyTake : ByteArray := prog_11_method_59_code
def yX9_whyTake : MethodName := ⟨RX9, "whyTake", "(IIII)I"⟩
abbrev cX9_whyNot : ByteArray := prog_11_method_60_code
def yX9_whyNot : MethodName := ⟨RX9, "whyNot", "(IIIII)I"⟩
abbrev cX9_doNow : ByteArray := prog_11_method_61_code
def yX9_doNow : MethodName := ⟨RX9, "doNow", "(IIIII)I"⟩
abbrev cX9_keep : ByteArray := prog_11_method_62_code
def yX9_keep : MethodName := ⟨RX9, "keep", "()V"⟩
abbrev cX9_rowsNow : ByteArray := prog_11_method_63_code
def yX9_rowsNow : MethodName := ⟨RX9, "rowsNow", "()I"⟩
abbrev cX9_note : ByteArray := prog_11_method_64_code
def yX9_note : MethodName := ⟨RX9, "note", "(II)V"⟩
abbrev cX9_act : ByteArray := prog_11_method_65_code
def yX9_act : MethodName := ⟨RX9, "act", "(IIIII)I"⟩
abbrev cX9_hand : ByteArray := prog_11_method_66_code
def yX9_hand : MethodName := ⟨RX9, "hand", "(IIIII)I"⟩
abbrev cX9_put : ByteArray := prog_11_method_67_code
def yX9_put : MethodName := ⟨RX9, "put", "(IIII)I"⟩
abbrev cX9_take : ByteArray := prog_11_method_68_code
def yX9_take : MethodName := ⟨RX9, "take", "(IIII)I"⟩
abbrev cX9_use : ByteArray := prog_11_method_69_code
def yX9_use : MethodName := ⟨RX9, "use", "(I)I"⟩
abbrev cX9_order : ByteArray := prog_11_method_70_code
def yX9_order : MethodName := ⟨RX9, "order", "(I)I"⟩
abbrev cX9_draw : ByteArray := prog_11_method_71_code
def yX9_draw : MethodName := ⟨RX9, "draw", "(I)I"⟩
abbrev cX9_tryOne : ByteArray := prog_11_method_72_code
def yX9_tryOne : MethodName := ⟨RX9, "tryOne", "(IIIII)V"⟩
abbrev cX9_drawWay : ByteArray := prog_11_method_73_code
def yX9_drawWay : MethodName := ⟨RX9, "drawWay", "()V"⟩
abbrev cX9_ways : ByteArray := prog_11_method_74_code
def yX9_ways : MethodName := ⟨RX9, "ways", "(IJ)I"⟩
abbrev cX9_status : ByteArray := prog_11_method_75_code
def yX9_status : MethodName := ⟨RX9, "status", "(I)I"⟩
abbrev cX9_undo : ByteArray := prog_11_method_76_code
def yX9_undo : MethodName := ⟨RX9, "undo", "()I"⟩
abbrev cX9_log : ByteArray := prog_11_method_77_code
def yX9_log : MethodName := ⟨RX9, "log", "(II)I"⟩
abbrev cX9_rowsOfAll : ByteArray := prog_11_method_78_code
def yX9_rowsOfAll : MethodName := ⟨RX9, "rowsOfAll", "()I"⟩
abbrev cX9_rule : ByteArray := prog_11_method_79_code
def yX9_rule : MethodName := ⟨RX9, "rule", "(I)I"⟩
abbrev cX9_table : ByteArray := prog_11_method_80_code
def yX9_table : MethodName := ⟨RX9, "table", "(II)I"⟩
abbrev cX9_cell : ByteArray := prog_11_method_81_code
def yX9_cell : MethodName := ⟨RX9, "cell", "(III)I"⟩
abbrev cX9_rows : ByteArray := prog_11_method_82_code
def yX9_rows : MethodName := ⟨RX9, "rows", "()I"⟩
abbrev cX9_row : ByteArray := prog_11_method_83_code
def yX9_row : MethodName := ⟨RX9, "row", "(II)I"⟩
abbrev cX9_leaps_ : ByteArray := prog_11_method_84_code
def yX9_leaps_ : MethodName := ⟨RX9, "leaps", "()I"⟩
abbrev cX9_beginnings : ByteArray := prog_11_method_85_code
def yX9_beginnings : MethodName := ⟨RX9, "beginnings", "(I)I"⟩
abbrev cX9_triesOrders : ByteArray := prog_11_method_86_code
def yX9_triesOrders : MethodName := ⟨RX9, "triesOrders", "()V"⟩
abbrev cX9_best : ByteArray := prog_11_method_87_code
def yX9_best : MethodName := ⟨RX9, "best", "(I)I"⟩
abbrev cX9_plain : ByteArray := prog_11_method_88_code
def yX9_plain : MethodName := ⟨RX9, "plain", "()I"⟩
abbrev cX9_isOf : ByteArray := prog_11_method_89_code
def yX9_isOf : MethodName := ⟨RX9, "isOf", "(III)Z"⟩
abbrev cX9_givenBy : ByteArray := prog_11_method_90_code
def yX9_givenBy : MethodName := ⟨RX9, "givenBy", "(I)I"⟩
abbrev cX9_given : ByteArray := prog_11_method_91_code
def yX9_given : MethodName := ⟨RX9, "given", "(I)I"⟩
abbrev cX9_without : ByteArray := prog_11_method_92_code
def yX9_without : MethodName := ⟨RX9, "without", "(I)I"⟩
abbrev cX9_counts : ByteArray := prog_11_method_93_code
def yX9_counts : MethodName := ⟨RX9, "counts", "()V"⟩
abbrev cX9_projected : ByteArray := prog_11_method_94_code
def yX9_projected : MethodName := ⟨RX9, "projected", "(I)I"⟩
abbrev cX9_times : ByteArray := prog_11_method_95_code
def yX9_times : MethodName := ⟨RX9, "times", "(II)I"⟩
abbrev cX9_extremeOf : ByteArray := prog_11_method_96_code
def yX9_extremeOf : MethodName := ⟨RX9, "extremeOf", "(II)I"⟩
abbrev cX9_distinct : ByteArray := prog_11_method_97_code
def yX9_distinct : MethodName := ⟨RX9, "distinct", "(II)I"⟩
abbrev cX9_isTold : ByteArray := prog_11_method_98_code
def yX9_isTold : MethodName := ⟨RX9, "isTold", "(II)Z"⟩
abbrev cX9_tells : ByteArray := prog_11_method_99_code
def yX9_tells : MethodName := ⟨RX9, "tells", "(II)Z"⟩
abbrev cX9_takesFour : ByteArray := prog_11_method_100_code
def yX9_takesFour : MethodName := ⟨RX9, "takesFour", "(IIII)V"⟩
abbrev cX9_comparesFour : ByteArray := prog_11_method_101_code
def yX9_comparesFour : MethodName := ⟨RX9, "comparesFour", "(I)I"⟩
abbrev cX9_behind : ByteArray := prog_11_method_102_code
def yX9_behind : MethodName := ⟨RX9, "behind", "(IIII)I"⟩
abbrev cX9_has_ : ByteArray := prog_11_method_103_code
def yX9_has_ : MethodName := ⟨RX9, "has", "(IIII)Z"⟩
abbrev cX9_hasMean : ByteArray := prog_11_method_104_code
def yX9_hasMean : MethodName := ⟨RX9, "hasMean", "(I)Z"⟩
abbrev cX9_meanOf : ByteArray := prog_11_method_105_code
def yX9_meanOf : MethodName := ⟨RX9, "meanOf", "(I)D"⟩
abbrev cX9_mean : ByteArray := prog_11_method_106_code
def yX9_mean : MethodName := ⟨RX9, "mean", "(I)J"⟩
abbrev cX9_meanAs : ByteArray := prog_11_method_107_code
def yX9_meanAs : MethodName := ⟨RX9, "meanAs", "(II)I"⟩
abbrev cX9_spread : ByteArray := prog_11_method_108_code
def yX9_spread : MethodName := ⟨RX9, "spread", "(I)J"⟩
abbrev cX9_skew : ByteArray := prog_11_method_109_code
def yX9_skew : MethodName := ⟨RX9, "skew", "(I)I"⟩
abbrev cX9_putAside : ByteArray := prog_11_method_110_code
def yX9_putAside : MethodName := ⟨RX9, "putAside", "()V"⟩
abbrev cX9_bringBack : ByteArray := prog_11_method_111_code
def yX9_bringBack : MethodName := ⟨RX9, "bringBack", "()V"⟩
abbrev cX9_would : ByteArray := prog_11_method_112_code
def yX9_would : MethodName := ⟨RX9, "would", "(IIIII)I"⟩
abbrev cX9_isScript : ByteArray := prog_11_method_113_code
def yX9_isScript : MethodName := ⟨RX9, "isScript", "(I)Z"⟩
abbrev cX9_step : ByteArray := prog_11_method_114_code
def yX9_step : MethodName := ⟨RX9, "step", "(III)I"⟩
abbrev cX9_goSteps : ByteArray := prog_11_method_115_code
def yX9_goSteps : MethodName := ⟨RX9, "goSteps", "(IZ)I"⟩
abbrev cX9_run : ByteArray := prog_11_method_116_code
def yX9_run : MethodName := ⟨RX9, "run", "(II)I"⟩
abbrev cX9_perform : ByteArray := prog_11_method_117_code
def yX9_perform : MethodName := ⟨RX9, "perform", "(I)I"⟩
abbrev cX9_sumOfRows : ByteArray := prog_11_method_118_code
def yX9_sumOfRows : MethodName := ⟨RX9, "sumOfRows", "()I"⟩
abbrev cX9_greatestTable : ByteArray := prog_11_method_119_code
def yX9_greatestTable : MethodName := ⟨RX9, "greatestTable", "(Z)I"⟩
abbrev cX9_notGiven : ByteArray := prog_11_method_120_code
def yX9_notGiven : MethodName := ⟨RX9, "notGiven", "()I"⟩
abbrev cX9_couples : ByteArray := prog_11_method_121_code
def yX9_couples : MethodName := ⟨RX9, "couples", "()I"⟩
abbrev cX9_most : ByteArray := prog_11_method_122_code
def yX9_most : MethodName := ⟨RX9, "most", "(I)I"⟩
abbrev cX9_image : ByteArray := prog_11_method_123_code
def yX9_image : MethodName := ⟨RX9, "image", "()I"⟩
abbrev cX9_back : ByteArray := prog_11_method_124_code
def yX9_back : MethodName := ⟨RX9, "back", "()I"⟩
abbrev cX9_count : ByteArray := prog_11_method_125_code
def yX9_count : MethodName := ⟨RX9, "count", "(I)I"⟩
def RJx145de : String := "java/io/Serializable"
def RJxb160c : String := "java/lang/Comparable"
def RJxe99ae : String := "java/lang/Double"
abbrev cJxe99ae_isNaN_b9ae7 : ByteArray := prog_14_method_6_code
def yJxe99ae_isNaN_b9ae7 : MethodName := ⟨RJxe99ae, "isNaN", "(D)Z"⟩
abbrev cJxe99ae_doubleToLongBits_ccdee : ByteArray := prog_14_method_23_code
def yJxe99ae_doubleToLongBits_ccdee : MethodName := ⟨RJxe99ae, "doubleToLongBits", "(D)J"⟩
def RJxf58ca : String := "java/lang/Float"
abbrev cJxf58ca_isNaN_12338 : ByteArray := prog_16_method_6_code
def yJxf58ca_isNaN_12338 : MethodName := ⟨RJxf58ca, "isNaN", "(F)Z"⟩
abbrev cJxf58ca_floatToIntBits_5c35a : ByteArray := prog_16_method_24_code
def yJxf58ca_floatToIntBits_5c35a : MethodName := ⟨RJxf58ca, "floatToIntBits", "(F)I"⟩
def RJ6 : String := "java/lang/Integer"
abbrev cJ6_bitCount_0f7a4 : ByteArray := prog_17_method_49_code
def yJ6_bitCount_0f7a4 : MethodName := ⟨RJ6, "bitCount", "(I)I"⟩
def RJ9 : String := "java/lang/Math"
abbrev cJ9_max_7cf53 : ByteArray := prog_18_method_65_code
def yJ9_max_7cf53 : MethodName := ⟨RJ9, "max", "(II)I"⟩
abbrev cJ9_min_7cf53 : ByteArray := prog_18_method_69_code
def yJ9_min_7cf53 : MethodName := ⟨RJ9, "min", "(II)I"⟩
def RJxd2413 : String := "java/lang/Number"
def RJ0 : String := "java/lang/String"
def RJ10 : String := "java/lang/System"
def RJxfd54e : String := "java/lang/constant/Constable"
def RJx3cf43 : String := "java/lang/constant/ConstantDesc"
def RJ7 : String := "java/util/Arrays"
abbrev cJ7_rangeCheck_23922 : ByteArray := prog_26_method_30_code
def yJ7_rangeCheck_23922 : MethodName := ⟨RJ7, "rangeCheck", "(III)V"⟩
abbrev cJ7_fill_53178 : ByteArray := prog_26_method_103_code
def yJ7_fill_53178 : MethodName := ⟨RJ7, "fill", "([II)V"⟩
abbrev cJ7_fill_fda19 : ByteArray := prog_26_method_104_code
def yJ7_fill_fda19 : MethodName := ⟨RJ7, "fill", "([IIII)V"⟩
def RL : String := "LeapJoinLaw"
abbrev cL_table : ByteArray := method_3_code
def yL_table : MethodName := ⟨RL, "table", "(LLeapJoin;II[J)I"⟩
abbrev cL_law : ByteArray := code
def yL_law : MethodName := ⟨RL, "law", "([I)Z"⟩
abbrev vwCl : List vw_C := [(RX0, TX0, 2), (RX1, TX1, 13), (RX2, TX2, 3), (RX3, TX3, 3), (RX4, TX4, 2), (RX5, TX5, 7), (RX6, TX6, 3), (RX7, TX7, 4), (RX8, TX8, 17), (RX9, TX9, 43)]
/-- the words of the tables that a callee may take along -/
def gw : List Cond := lw_tbl.filter goodWord
theorem gw_in {c : Cond} (h : c ∈ tables_1) (hg : goodWord c = true) : c ∈ gw := List.mem_filter.mpr ⟨List.mem_append_right _ h, hg⟩
theorem gw_tbl {c : Cond} (h : c ∈ gw) : c ∈ lw_tbl := (List.mem_filter.mp h).1
theorem gw_sel {q : MethodName × Nat} (h : q ∈ lw_privs) : Cond.selects q.1.cls q.1 q.1 ∈ gw := List.mem_filter.mpr ⟨List.mem_append_left _ (List.mem_map.mpr ⟨q, h, rfl⟩), rfl⟩
theorem gw_good {c0 c : Cond} (hc : c ∈ gw) : GoodIn (c0 :: gw) (c :: gw) := by
  intro w hw
  rcases List.mem_cons.mp hw with rfl | h
  · exact ⟨List.mem_cons_of_mem _ hc, good_of_word (List.mem_filter.mp hc).2⟩
  · exact ⟨List.mem_cons_of_mem _ h, good_of_word (List.mem_filter.mp h).2⟩
theorem gw_good0 {c : Cond} (hc : c ∈ gw) : GoodIn gw (c :: gw) := by
  intro w hw
  rcases List.mem_cons.mp hw with rfl | h
  · exact ⟨hc, good_of_word (List.mem_filter.mp hc).2⟩
  · exact ⟨h, good_of_word (List.mem_filter.mp h).2⟩
theorem gw_t1 {c : Cond} (j : Nat) (h : tables_1_1[j]? = some c) (hg : goodWord c = true) : c ∈ gw := gw_in (have h := List.mem_of_getElem? h; List.mem_append_left _ h) hg
theorem gw_t2 {c : Cond} (j : Nat) (h : tables_1_2[j]? = some c) (hg : goodWord c = true) : c ∈ gw := gw_in (have h := List.mem_of_getElem? h; List.mem_append_right _ (List.mem_append_left _ h)) hg
theorem gw_t3 {c : Cond} (j : Nat) (h : tables_1_3[j]? = some c) (hg : goodWord c = true) : c ∈ gw := gw_in (have h := List.mem_of_getElem? h; List.mem_append_right _ (List.mem_append_right _ (List.mem_append_left _ h))) hg
theorem gw_t4 {c : Cond} (j : Nat) (h : tables_1_4[j]? = some c) (hg : goodWord c = true) : c ∈ gw := gw_in (have h := List.mem_of_getElem? h; List.mem_append_right _ (List.mem_append_right _ (List.mem_append_right _ (List.mem_append_left _ h)))) hg
theorem gw_t5 {c : Cond} (j : Nat) (h : tables_1_5[j]? = some c) (hg : goodWord c = true) : c ∈ gw := gw_in (have h := List.mem_of_getElem? h; List.mem_append_right _ (List.mem_append_right _ (List.mem_append_right _ (List.mem_append_right _ (List.mem_append_left _ h))))) hg
theorem gw_t6 {c : Cond} (j : Nat) (h : tables_1_6[j]? = some c) (hg : goodWord c = true) : c ∈ gw := gw_in (have h := List.mem_of_getElem? h; List.mem_append_right _ (List.mem_append_right _ (List.mem_append_right _ (List.mem_append_right _ (List.mem_append_right _ (List.mem_append_left _ h)))))) hg
theorem gw_t7 {c : Cond} (j : Nat) (h : tables_1_7[j]? = some c) (hg : goodWord c = true) : c ∈ gw := gw_in (have h := List.mem_of_getElem? h; List.mem_append_right _ (List.mem_append_right _ (List.mem_append_right _ (List.mem_append_right _ (List.mem_append_right _ (List.mem_append_right _ (h))))))) hg
theorem gw_s1 {q : MethodName × Nat} (j : Nat) (h : lw_privs_1[j]? = some q) : Cond.selects q.1.cls q.1 q.1 ∈ gw := gw_sel (have h := List.mem_of_getElem? h; List.mem_append_left _ h)
theorem gw_s2 {q : MethodName × Nat} (j : Nat) (h : lw_privs_2[j]? = some q) : Cond.selects q.1.cls q.1 q.1 ∈ gw := gw_sel (have h := List.mem_of_getElem? h; List.mem_append_right _ (List.mem_append_left _ h))
theorem gw_s3 {q : MethodName × Nat} (j : Nat) (h : lw_privs_3[j]? = some q) : Cond.selects q.1.cls q.1 q.1 ∈ gw := gw_sel (have h := List.mem_of_getElem? h; List.mem_append_right _ (List.mem_append_right _ (List.mem_append_left _ h)))
theorem gw_s4 {q : MethodName × Nat} (j : Nat) (h : lw_privs_4[j]? = some q) : Cond.selects q.1.cls q.1 q.1 ∈ gw := gw_sel (have h := List.mem_of_getElem? h; List.mem_append_right _ (List.mem_append_right _ (List.mem_append_right _ (List.mem_append_left _ h))))
theorem gw_s5 {q : MethodName × Nat} (j : Nat) (h : lw_privs_5[j]? = some q) : Cond.selects q.1.cls q.1 q.1 ∈ gw := gw_sel (have h := List.mem_of_getElem? h; List.mem_append_right _ (List.mem_append_right _ (List.mem_append_right _ (List.mem_append_right _ (List.mem_append_left _ h)))))
theorem gw_s6 {q : MethodName × Nat} (j : Nat) (h : lw_privs_6[j]? = some q) : Cond.selects q.1.cls q.1 q.1 ∈ gw := gw_sel (have h := List.mem_of_getElem? h; List.mem_append_right _ (List.mem_append_right _ (List.mem_append_right _ (List.mem_append_right _ (List.mem_append_right _ (List.mem_append_left _ h))))))
theorem gw_s7 {q : MethodName × Nat} (j : Nat) (h : lw_privs_7[j]? = some q) : Cond.selects q.1.cls q.1 q.1 ∈ gw := gw_sel (have h := List.mem_of_getElem? h; List.mem_append_right _ (List.mem_append_right _ (List.mem_append_right _ (List.mem_append_right _ (List.mem_append_right _ (List.mem_append_right _ (h)))))))
theorem q0 : Cond.initialized "LeapJoinLaw" ∈ gw := gw_t1 0 rfl rfl
theorem q1 : Cond.initialized "LeapJoin" ∈ gw := gw_t1 1 rfl rfl
theorem q2 : Cond.initialized "LeapJoin$Tape" ∈ gw := gw_t1 2 rfl rfl
theorem q3 : Cond.initialized "LeapJoin$Tables" ∈ gw := gw_t1 3 rfl rfl
theorem q4 : Cond.initialized "LeapJoin$Join" ∈ gw := gw_t1 4 rfl rfl
theorem q5 : Cond.initialized "LeapJoin$Figures" ∈ gw := gw_t1 5 rfl rfl
theorem q6 : Cond.initialized "LeapJoin$Weights" ∈ gw := gw_t1 6 rfl rfl
theorem q7 : Cond.initialized "LeapJoin$Log" ∈ gw := gw_t1 7 rfl rfl
theorem q8 : Cond.initialized "LeapJoin$Past" ∈ gw := gw_t1 8 rfl rfl
theorem q9 : Cond.initialized "LeapJoin$Script" ∈ gw := gw_t1 9 rfl rfl
theorem q10 : Cond.initialized "LeapJoinModel" ∈ gw := gw_t1 10 rfl rfl
theorem q11 : Cond.initialized "java/util/Arrays" ∈ gw := gw_t1 11 rfl rfl
theorem q12 : Cond.initialized "java/lang/System" ∈ gw := gw_t1 12 rfl rfl
theorem q13 : Cond.initialized "java/lang/Math" ∈ gw := gw_t1 13 rfl rfl
theorem q14 : Cond.initialized "java/lang/Throwable" ∈ gw := gw_t1 14 rfl rfl
theorem q15 : Cond.initialized "java/lang/Exception" ∈ gw := gw_t1 15 rfl rfl
theorem q16 : Cond.initialized "java/lang/RuntimeException" ∈ gw := gw_t1 16 rfl rfl
theorem q17 : Cond.initialized "java/util/NoSuchElementException" ∈ gw := gw_t1 17 rfl rfl
theorem q18 : Cond.initialized "java/lang/Number" ∈ gw := gw_t1 18 rfl rfl
theorem q19 : Cond.initialized "java/lang/Double" ∈ gw := gw_t1 19 rfl rfl
theorem q20 : Cond.initialized "java/lang/Float" ∈ gw := gw_t1 20 rfl rfl
theorem q21 : Cond.initialized "java/lang/Integer" ∈ gw := gw_t1 21 rfl rfl
theorem q22 : Cond.classLink "LeapJoinLaw" 8 "LeapJoin" ∈ gw := gw_t1 22 rfl rfl
theorem q23 : Cond.instantiable "LeapJoin" 17 ∈ gw := gw_t1 23 rfl rfl
theorem q24 : Cond.methodLink "LeapJoinLaw" 15 yX8_init ∈ gw := gw_t1 24 rfl rfl
theorem q25 : Cond.instanceMethod yX8_init ∈ gw := gw_t1 25 rfl rfl
theorem q26 : Cond.code yX8_init prog_1_method_1_code 2 (Option.none : Option Jvm.ClassFile.FieldType) ∈ gw := gw_t1 26 rfl rfl
theorem q27 : Cond.methodLink "LeapJoin" 3 objectInit ∈ gw := gw_t1 27 rfl rfl
theorem q28 : Cond.instanceMethod objectInit ∈ gw := gw_t1 28 rfl rfl
theorem q29 : Cond.code objectInit object_method_1_code 1 (Option.none : Option Jvm.ClassFile.FieldType) ∈ gw := gw_t1 29 rfl rfl
theorem q30 : Cond.classLink "LeapJoin" 9 "LeapJoin$Tape" ∈ gw := gw_t1 30 rfl rfl
theorem q31 : Cond.instantiable "LeapJoin$Tape" 3 ∈ gw := gw_t1 31 rfl rfl
theorem q32 : Cond.instanceMethod yX6_init ∈ gw := gw_t1 33 rfl rfl
theorem q33 : Cond.code yX6_init prog_8_method_1_code 1 (Option.none : Option Jvm.ClassFile.FieldType) ∈ gw := gw_t1 34 rfl rfl
theorem q34 : Cond.methodLink "LeapJoin$Tape" 3 objectInit ∈ gw := gw_t1 35 rfl rfl
theorem q35 : Cond.fieldLink "LeapJoin$Tape" 9 "LeapJoin$Tape" "length" "I" ∈ gw := gw_t1 36 rfl rfl
theorem q36 : Cond.fieldLink "LeapJoin" 101 "LeapJoin$Tape" "length" "I" ∈ gw := gw_t1 37 rfl rfl
theorem q37 : Cond.fieldLink "LeapJoin$Tape" 15 "LeapJoin$Tape" "bytes" "[B" ∈ gw := gw_t1 38 rfl rfl
theorem q38 : Cond.fieldLink "LeapJoin$Tape" 19 "LeapJoin$Tape" "at" "I" ∈ gw := gw_t1 39 rfl rfl
theorem q39 : Cond.lays "LeapJoin$Tape" "LeapJoin$Tape" "length" "I" ∈ gw := gw_t1 40 rfl rfl
theorem q40 : Cond.laysFinal "LeapJoin$Tape" "LeapJoin$Tape" "bytes" "[B" ∈ gw := gw_t1 42 rfl rfl
theorem q41 : Cond.lays "LeapJoin$Tape" "LeapJoin$Tape" "at" "I" ∈ gw := gw_t1 44 rfl rfl
theorem q42 : Cond.arrayClass Jvm.ClassFile.FieldType.byte ∈ gw := gw_t1 47 rfl rfl
theorem q43 : Cond.classLink "LeapJoin" 16 "LeapJoin$Tables" ∈ gw := gw_t1 48 rfl rfl
theorem q44 : Cond.instantiable "LeapJoin$Tables" 7 ∈ gw := gw_t1 49 rfl rfl
theorem q45 : Cond.instanceMethod yX5_init ∈ gw := gw_t1 51 rfl rfl
theorem q46 : Cond.code yX5_init prog_7_method_1_code 1 (Option.none : Option Jvm.ClassFile.FieldType) ∈ gw := gw_t1 52 rfl rfl
theorem q47 : Cond.methodLink "LeapJoin$Tables" 3 objectInit ∈ gw := gw_t1 53 rfl rfl
theorem q48 : Cond.fieldLink "LeapJoin$Tables" 9 "LeapJoin$Tables" "many" "I" ∈ gw := gw_t1 54 rfl rfl
theorem q49 : Cond.fieldLink "LeapJoin" 134 "LeapJoin$Tables" "many" "I" ∈ gw := gw_t1 55 rfl rfl
theorem q50 : Cond.fieldLink "LeapJoin$Tape" 45 "LeapJoin$Tables" "many" "I" ∈ gw := gw_t1 56 rfl rfl
theorem q51 : Cond.fieldLink "LeapJoin$Tables" 15 "LeapJoin$Tables" "used" "I" ∈ gw := gw_t1 57 rfl rfl
theorem q52 : Cond.fieldLink "LeapJoin" 150 "LeapJoin$Tables" "used" "I" ∈ gw := gw_t1 58 rfl rfl
theorem q53 : Cond.fieldLink "LeapJoin$Tables" 18 "LeapJoin$Tables" "order" "I" ∈ gw := gw_t1 59 rfl rfl
theorem q54 : Cond.fieldLink "LeapJoin" 140 "LeapJoin$Tables" "order" "I" ∈ gw := gw_t1 60 rfl rfl
theorem q55 : Cond.fieldLink "LeapJoin$Tables" 21 "LeapJoin$Tables" "width" "[I" ∈ gw := gw_t1 61 rfl rfl
theorem q56 : Cond.fieldLink "LeapJoin$Tape" 52 "LeapJoin$Tables" "width" "[I" ∈ gw := gw_t1 62 rfl rfl
theorem q57 : Cond.fieldLink "LeapJoin" 170 "LeapJoin$Tables" "width" "[I" ∈ gw := gw_t1 63 rfl rfl
theorem q58 : Cond.fieldLink "LeapJoin$Tables" 25 "LeapJoin$Tables" "size" "[I" ∈ gw := gw_t1 64 rfl rfl
theorem q59 : Cond.fieldLink "LeapJoin$Figures" 40 "LeapJoin$Tables" "size" "[I" ∈ gw := gw_t1 65 rfl rfl
theorem q60 : Cond.fieldLink "LeapJoin$Join" 93 "LeapJoin$Tables" "size" "[I" ∈ gw := gw_t1 66 rfl rfl
theorem q61 : Cond.fieldLink "LeapJoin" 176 "LeapJoin$Tables" "size" "[I" ∈ gw := gw_t1 67 rfl rfl
theorem q62 : Cond.fieldLink "LeapJoin$Tables" 28 "LeapJoin$Tables" "letters" "[I" ∈ gw := gw_t1 68 rfl rfl
theorem q63 : Cond.fieldLink "LeapJoin$Tables" 31 "LeapJoin$Tables" "rows" "[I" ∈ gw := gw_t1 69 rfl rfl
theorem q64 : Cond.lays "LeapJoin$Tables" "LeapJoin$Tables" "many" "I" ∈ gw := gw_t1 70 rfl rfl
theorem q65 : Cond.lays "LeapJoin$Tables" "LeapJoin$Tables" "used" "I" ∈ gw := gw_t1 72 rfl rfl
theorem q66 : Cond.lays "LeapJoin$Tables" "LeapJoin$Tables" "order" "I" ∈ gw := gw_t1 74 rfl rfl
theorem q67 : Cond.laysFinal "LeapJoin$Tables" "LeapJoin$Tables" "width" "[I" ∈ gw := gw_t1 76 rfl rfl
theorem q68 : Cond.laysFinal "LeapJoin$Tables" "LeapJoin$Tables" "size" "[I" ∈ gw := gw_t1 78 rfl rfl
theorem q69 : Cond.laysFinal "LeapJoin$Tables" "LeapJoin$Tables" "letters" "[I" ∈ gw := gw_t1 80 rfl rfl
theorem q70 : Cond.laysFinal "LeapJoin$Tables" "LeapJoin$Tables" "rows" "[I" ∈ gw := gw_t1 82 rfl rfl
theorem q71 : Cond.arrayClass Jvm.ClassFile.FieldType.int ∈ gw := gw_t1 85 rfl rfl
theorem q72 : Cond.classLink "LeapJoin" 29 "LeapJoin$Join" ∈ gw := gw_t1 86 rfl rfl
theorem q73 : Cond.instantiable "LeapJoin$Join" 13 ∈ gw := gw_t1 87 rfl rfl
theorem q74 : Cond.instanceMethod yX1_init ∈ gw := gw_t1 89 rfl rfl
theorem q75 : Cond.code yX1_init prog_3_method_1_code 1 (Option.none : Option Jvm.ClassFile.FieldType) ∈ gw := gw_t1 90 rfl rfl
theorem q76 : Cond.methodLink "LeapJoin$Join" 3 objectInit ∈ gw := gw_t1 91 rfl rfl
theorem q77 : Cond.fieldLink "LeapJoin$Join" 9 "LeapJoin$Join" "many" "I" ∈ gw := gw_t1 92 rfl rfl
theorem q78 : Cond.fieldLink "LeapJoin$Figures" 24 "LeapJoin$Join" "many" "I" ∈ gw := gw_t1 93 rfl rfl
theorem q79 : Cond.fieldLink "LeapJoin" 186 "LeapJoin$Join" "many" "I" ∈ gw := gw_t1 94 rfl rfl
theorem q80 : Cond.fieldLink "LeapJoin$Join" 15 "LeapJoin$Join" "leaps" "I" ∈ gw := gw_t1 95 rfl rfl
theorem q81 : Cond.fieldLink "LeapJoin$Weights" 31 "LeapJoin$Join" "leaps" "I" ∈ gw := gw_t1 96 rfl rfl
theorem q82 : Cond.fieldLink "LeapJoin" 193 "LeapJoin$Join" "leaps" "I" ∈ gw := gw_t1 97 rfl rfl
theorem q83 : Cond.fieldLink "LeapJoin$Join" 18 "LeapJoin$Join" "depths" "I" ∈ gw := gw_t1 98 rfl rfl
theorem q84 : Cond.fieldLink "LeapJoin" 196 "LeapJoin$Join" "depths" "I" ∈ gw := gw_t1 99 rfl rfl
theorem q85 : Cond.fieldLink "LeapJoin$Join" 21 "LeapJoin$Join" "met" "[I" ∈ gw := gw_t1 100 rfl rfl
theorem q86 : Cond.fieldLink "LeapJoin" 199 "LeapJoin$Join" "met" "[I" ∈ gw := gw_t1 101 rfl rfl
theorem q87 : Cond.fieldLink "LeapJoin$Join" 25 "LeapJoin$Join" "sequence" "[I" ∈ gw := gw_t1 102 rfl rfl
theorem q88 : Cond.fieldLink "LeapJoin$Join" 28 "LeapJoin$Join" "found" "[I" ∈ gw := gw_t1 103 rfl rfl
theorem q89 : Cond.fieldLink "LeapJoin$Join" 31 "LeapJoin$Join" "prefix" "[I" ∈ gw := gw_t1 104 rfl rfl
theorem q90 : Cond.fieldLink "LeapJoin$Join" 34 "LeapJoin$Join" "sorted" "[I" ∈ gw := gw_t1 105 rfl rfl
theorem q91 : Cond.fieldLink "LeapJoin$Join" 37 "LeapJoin$Join" "columns" "[I" ∈ gw := gw_t1 106 rfl rfl
theorem q92 : Cond.fieldLink "LeapJoin$Join" 40 "LeapJoin$Join" "shift" "[I" ∈ gw := gw_t1 107 rfl rfl
theorem q93 : Cond.fieldLink "LeapJoin$Join" 43 "LeapJoin$Join" "start" "[I" ∈ gw := gw_t1 108 rfl rfl
theorem q94 : Cond.fieldLink "LeapJoin$Join" 46 "LeapJoin$Join" "stop" "[I" ∈ gw := gw_t1 109 rfl rfl
theorem q95 : Cond.fieldLink "LeapJoin$Join" 49 "LeapJoin$Join" "at" "[I" ∈ gw := gw_t1 110 rfl rfl
theorem q96 : Cond.lays "LeapJoin$Join" "LeapJoin$Join" "many" "I" ∈ gw := gw_t1 111 rfl rfl
theorem q97 : Cond.lays "LeapJoin$Join" "LeapJoin$Join" "leaps" "I" ∈ gw := gw_t1 113 rfl rfl
theorem q98 : Cond.lays "LeapJoin$Join" "LeapJoin$Join" "depths" "I" ∈ gw := gw_t1 115 rfl rfl
theorem q99 : Cond.laysFinal "LeapJoin$Join" "LeapJoin$Join" "met" "[I" ∈ gw := gw_t1 117 rfl rfl
theorem q100 : Cond.laysFinal "LeapJoin$Join" "LeapJoin$Join" "sequence" "[I" ∈ gw := gw_t1 119 rfl rfl
theorem q101 : Cond.laysFinal "LeapJoin$Join" "LeapJoin$Join" "found" "[I" ∈ gw := gw_t1 121 rfl rfl
theorem q102 : Cond.laysFinal "LeapJoin$Join" "LeapJoin$Join" "prefix" "[I" ∈ gw := gw_t1 123 rfl rfl
theorem q103 : Cond.laysFinal "LeapJoin$Join" "LeapJoin$Join" "sorted" "[I" ∈ gw := gw_t1 125 rfl rfl
theorem q104 : Cond.laysFinal "LeapJoin$Join" "LeapJoin$Join" "columns" "[I" ∈ gw := gw_t1 127 rfl rfl
theorem q105 : Cond.laysFinal "LeapJoin$Join" "LeapJoin$Join" "shift" "[I" ∈ gw := gw_t1 129 rfl rfl
theorem q106 : Cond.laysFinal "LeapJoin$Join" "LeapJoin$Join" "start" "[I" ∈ gw := gw_t1 131 rfl rfl
theorem q107 : Cond.laysFinal "LeapJoin$Join" "LeapJoin$Join" "stop" "[I" ∈ gw := gw_t1 133 rfl rfl
theorem q108 : Cond.laysFinal "LeapJoin$Join" "LeapJoin$Join" "at" "[I" ∈ gw := gw_t1 135 rfl rfl
theorem q109 : Cond.classLink "LeapJoin" 39 "LeapJoin$Figures" ∈ gw := gw_t1 138 rfl rfl
theorem q110 : Cond.instantiable "LeapJoin$Figures" 2 ∈ gw := gw_t1 139 rfl rfl
theorem q111 : Cond.instanceMethod yX0_init ∈ gw := gw_t1 141 rfl rfl
theorem q112 : Cond.code yX0_init prog_2_method_1_code 1 (Option.none : Option Jvm.ClassFile.FieldType) ∈ gw := gw_t1 142 rfl rfl
theorem q113 : Cond.methodLink "LeapJoin$Figures" 3 objectInit ∈ gw := gw_t1 143 rfl rfl
theorem q114 : Cond.fieldLink "LeapJoin$Figures" 9 "LeapJoin$Figures" "tally" "[I" ∈ gw := gw_t1 144 rfl rfl
theorem q115 : Cond.fieldLink "LeapJoin" 227 "LeapJoin$Figures" "tally" "[I" ∈ gw := gw_t1 145 rfl rfl
theorem q116 : Cond.fieldLink "LeapJoin$Figures" 15 "LeapJoin$Figures" "told" "[I" ∈ gw := gw_t1 146 rfl rfl
theorem q117 : Cond.laysFinal "LeapJoin$Figures" "LeapJoin$Figures" "tally" "[I" ∈ gw := gw_t1 147 rfl rfl
theorem q118 : Cond.laysFinal "LeapJoin$Figures" "LeapJoin$Figures" "told" "[I" ∈ gw := gw_t1 149 rfl rfl
theorem q119 : Cond.classLink "LeapJoin" 46 "LeapJoin$Weights" ∈ gw := gw_t1 152 rfl rfl
theorem q120 : Cond.instantiable "LeapJoin$Weights" 4 ∈ gw := gw_t1 153 rfl rfl
theorem q121 : Cond.instanceMethod yX7_init ∈ gw := gw_t1 155 rfl rfl
theorem q122 : Cond.code yX7_init prog_9_method_1_code 1 (Option.none : Option Jvm.ClassFile.FieldType) ∈ gw := gw_t1 156 rfl rfl
theorem q123 : Cond.methodLink "LeapJoin$Weights" 3 objectInit ∈ gw := gw_t1 157 rfl rfl
theorem q124 : Cond.fieldLink "LeapJoin$Weights" 9 "LeapJoin$Weights" "known" "Z" ∈ gw := gw_t1 158 rfl rfl
theorem q125 : Cond.fieldLink "LeapJoin" 147 "LeapJoin$Weights" "known" "Z" ∈ gw := gw_t1 159 rfl rfl
theorem q126 : Cond.fieldLink "LeapJoin$Weights" 15 "LeapJoin$Weights" "bestOrder" "I" ∈ gw := gw_t1 160 rfl rfl
theorem q127 : Cond.fieldLink "LeapJoin" 206 "LeapJoin$Weights" "bestOrder" "I" ∈ gw := gw_t1 161 rfl rfl
theorem q128 : Cond.fieldLink "LeapJoin$Weights" 19 "LeapJoin$Weights" "fewest" "I" ∈ gw := gw_t1 162 rfl rfl
theorem q129 : Cond.fieldLink "LeapJoin" 209 "LeapJoin$Weights" "fewest" "I" ∈ gw := gw_t1 163 rfl rfl
theorem q130 : Cond.fieldLink "LeapJoin$Weights" 22 "LeapJoin$Weights" "most" "I" ∈ gw := gw_t1 164 rfl rfl
theorem q131 : Cond.fieldLink "LeapJoin" 349 "LeapJoin$Weights" "most" "I" ∈ gw := gw_t1 165 rfl rfl
theorem q132 : Cond.lays "LeapJoin$Weights" "LeapJoin$Weights" "known" "Z" ∈ gw := gw_t1 166 rfl rfl
theorem q133 : Cond.lays "LeapJoin$Weights" "LeapJoin$Weights" "bestOrder" "I" ∈ gw := gw_t1 168 rfl rfl
theorem q134 : Cond.lays "LeapJoin$Weights" "LeapJoin$Weights" "fewest" "I" ∈ gw := gw_t1 170 rfl rfl
theorem q135 : Cond.lays "LeapJoin$Weights" "LeapJoin$Weights" "most" "I" ∈ gw := gw_t1 172 rfl rfl
theorem q136 : Cond.classLink "LeapJoin" 53 "LeapJoin$Log" ∈ gw := gw_t1 175 rfl rfl
theorem q137 : Cond.instantiable "LeapJoin$Log" 3 ∈ gw := gw_t1 176 rfl rfl
theorem q138 : Cond.instanceMethod yX2_init ∈ gw := gw_t1 178 rfl rfl
theorem q139 : Cond.code yX2_init prog_4_method_1_code 1 (Option.none : Option Jvm.ClassFile.FieldType) ∈ gw := gw_t1 179 rfl rfl
theorem q140 : Cond.methodLink "LeapJoin$Log" 3 objectInit ∈ gw := gw_t1 180 rfl rfl
theorem q141 : Cond.fieldLink "LeapJoin$Log" 11 "LeapJoin$Log" "parts" "[I" ∈ gw := gw_t1 181 rfl rfl
theorem q142 : Cond.fieldLink "LeapJoin$Log" 15 "LeapJoin$Log" "next" "I" ∈ gw := gw_t1 182 rfl rfl
theorem q143 : Cond.fieldLink "LeapJoin$Log" 19 "LeapJoin$Log" "held" "I" ∈ gw := gw_t1 183 rfl rfl
theorem q144 : Cond.laysFinal "LeapJoin$Log" "LeapJoin$Log" "parts" "[I" ∈ gw := gw_t1 184 rfl rfl
theorem q145 : Cond.lays "LeapJoin$Log" "LeapJoin$Log" "next" "I" ∈ gw := gw_t1 186 rfl rfl
theorem q146 : Cond.lays "LeapJoin$Log" "LeapJoin$Log" "held" "I" ∈ gw := gw_t1 188 rfl rfl
theorem q147 : Cond.classLink "LeapJoin" 63 "LeapJoin$Past" ∈ gw := gw_t1 191 rfl rfl
theorem q148 : Cond.instantiable "LeapJoin$Past" 3 ∈ gw := gw_t1 192 rfl rfl
theorem q149 : Cond.instanceMethod yX3_init ∈ gw := gw_t1 194 rfl rfl
theorem q150 : Cond.code yX3_init prog_5_method_1_code 1 (Option.none : Option Jvm.ClassFile.FieldType) ∈ gw := gw_t1 195 rfl rfl
theorem q151 : Cond.methodLink "LeapJoin$Past" 3 objectInit ∈ gw := gw_t1 196 rfl rfl
theorem q152 : Cond.fieldLink "LeapJoin$Past" 9 "LeapJoin$Past" "many" "I" ∈ gw := gw_t1 197 rfl rfl
theorem q153 : Cond.fieldLink "LeapJoin" 303 "LeapJoin$Past" "many" "I" ∈ gw := gw_t1 198 rfl rfl
theorem q154 : Cond.fieldLink "LeapJoin$Past" 15 "LeapJoin$Past" "parts" "[I" ∈ gw := gw_t1 199 rfl rfl
theorem q155 : Cond.fieldLink "LeapJoin$Past" 19 "LeapJoin$Past" "next" "I" ∈ gw := gw_t1 200 rfl rfl
theorem q156 : Cond.lays "LeapJoin$Past" "LeapJoin$Past" "many" "I" ∈ gw := gw_t1 201 rfl rfl
theorem q157 : Cond.laysFinal "LeapJoin$Past" "LeapJoin$Past" "parts" "[I" ∈ gw := gw_t1 203 rfl rfl
theorem q158 : Cond.lays "LeapJoin$Past" "LeapJoin$Past" "next" "I" ∈ gw := gw_t1 205 rfl rfl
theorem q159 : Cond.classLink "LeapJoin" 70 "LeapJoin$Script" ∈ gw := gw_t1 208 rfl rfl
theorem q160 : Cond.instantiable "LeapJoin$Script" 2 ∈ gw := gw_t1 210 rfl rfl
theorem q161 : Cond.instanceMethod yX4_init ∈ gw := gw_t1 212 rfl rfl
theorem q162 : Cond.code yX4_init prog_6_method_1_code 1 (Option.none : Option Jvm.ClassFile.FieldType) ∈ gw := gw_t1 213 rfl rfl
theorem q163 : Cond.methodLink "LeapJoin$Script" 3 objectInit ∈ gw := gw_t1 214 rfl rfl
theorem q164 : Cond.fieldLink "LeapJoin$Script" 9 "LeapJoin$Script" "many" "I" ∈ gw := gw_t1 215 rfl rfl
theorem q165 : Cond.fieldLink "LeapJoin" 329 "LeapJoin$Script" "many" "I" ∈ gw := gw_t1 216 rfl rfl
theorem q166 : Cond.fieldLink "LeapJoin$Script" 15 "LeapJoin$Script" "parts" "[I" ∈ gw := gw_t1 217 rfl rfl
theorem q167 : Cond.lays "LeapJoin$Script" "LeapJoin$Script" "many" "I" ∈ gw := gw_t1 218 rfl rfl
theorem q168 : Cond.laysFinal "LeapJoin$Script" "LeapJoin$Script" "parts" "[I" ∈ gw := gw_t1 220 rfl rfl
theorem q169 : Cond.fieldLink "LeapJoin" 12 "LeapJoin" "tape" "LLeapJoin$Tape;" ∈ gw := gw_t1 223 rfl rfl
theorem q170 : Cond.fieldLink "LeapJoin" 19 "LeapJoin" "tables" "LLeapJoin$Tables;" ∈ gw := gw_t1 224 rfl rfl
theorem q171 : Cond.fieldLink "LeapJoin" 23 "LeapJoin" "apart" "LLeapJoin$Tables;" ∈ gw := gw_t1 225 rfl rfl
theorem q172 : Cond.fieldLink "LeapJoin" 26 "LeapJoin" "kept" "LLeapJoin$Tables;" ∈ gw := gw_t1 226 rfl rfl
theorem q173 : Cond.fieldLink "LeapJoin" 32 "LeapJoin" "join" "LLeapJoin$Join;" ∈ gw := gw_t1 227 rfl rfl
theorem q174 : Cond.fieldLink "LeapJoin" 36 "LeapJoin" "apartJoin" "LLeapJoin$Join;" ∈ gw := gw_t1 228 rfl rfl
theorem q175 : Cond.fieldLink "LeapJoin" 42 "LeapJoin" "figures" "LLeapJoin$Figures;" ∈ gw := gw_t1 229 rfl rfl
theorem q176 : Cond.fieldLink "LeapJoin" 49 "LeapJoin" "weights" "LLeapJoin$Weights;" ∈ gw := gw_t1 230 rfl rfl
theorem q177 : Cond.fieldLink "LeapJoin" 56 "LeapJoin" "acts" "LLeapJoin$Log;" ∈ gw := gw_t1 231 rfl rfl
theorem q178 : Cond.fieldLink "LeapJoin" 60 "LeapJoin" "keptActs" "LLeapJoin$Log;" ∈ gw := gw_t1 232 rfl rfl
theorem q179 : Cond.fieldLink "LeapJoin" 66 "LeapJoin" "past" "LLeapJoin$Past;" ∈ gw := gw_t1 233 rfl rfl
theorem q180 : Cond.fieldLink "LeapJoin" 72 "LeapJoin" "scripts" "[LLeapJoin$Script;" ∈ gw := gw_t1 234 rfl rfl
theorem q181 : Cond.fieldLink "LeapJoin" 77 "LeapJoin" "draft" "LLeapJoin$Script;" ∈ gw := gw_t1 235 rfl rfl
theorem q182 : Cond.fieldLink "LeapJoin" 81 "LeapJoin" "refusals" "[I" ∈ gw := gw_t1 236 rfl rfl
theorem q183 : Cond.fieldLink "LeapJoin" 85 "LeapJoin" "scriptsTold" "I" ∈ gw := gw_t1 237 rfl rfl
theorem q184 : Cond.fieldLink "LeapJoin" 89 "LeapJoin" "imageMade" "Z" ∈ gw := gw_t1 238 rfl rfl
theorem q185 : Cond.fieldLink "LeapJoin" 93 "LeapJoin" "drawn" "J" ∈ gw := gw_t1 239 rfl rfl
theorem q186 : Cond.laysFinal "LeapJoin" "LeapJoin" "tape" "LLeapJoin$Tape;" ∈ gw := gw_t2 0 rfl rfl
theorem q187 : Cond.laysFinal "LeapJoin" "LeapJoin" "tables" "LLeapJoin$Tables;" ∈ gw := gw_t2 2 rfl rfl
theorem q188 : Cond.laysFinal "LeapJoin" "LeapJoin" "apart" "LLeapJoin$Tables;" ∈ gw := gw_t2 4 rfl rfl
theorem q189 : Cond.laysFinal "LeapJoin" "LeapJoin" "kept" "LLeapJoin$Tables;" ∈ gw := gw_t2 6 rfl rfl
theorem q190 : Cond.laysFinal "LeapJoin" "LeapJoin" "join" "LLeapJoin$Join;" ∈ gw := gw_t2 8 rfl rfl
theorem q191 : Cond.laysFinal "LeapJoin" "LeapJoin" "apartJoin" "LLeapJoin$Join;" ∈ gw := gw_t2 10 rfl rfl
theorem q192 : Cond.laysFinal "LeapJoin" "LeapJoin" "figures" "LLeapJoin$Figures;" ∈ gw := gw_t2 12 rfl rfl
theorem q193 : Cond.laysFinal "LeapJoin" "LeapJoin" "weights" "LLeapJoin$Weights;" ∈ gw := gw_t2 14 rfl rfl
theorem q194 : Cond.laysFinal "LeapJoin" "LeapJoin" "acts" "LLeapJoin$Log;" ∈ gw := gw_t2 16 rfl rfl
theorem q195 : Cond.laysFinal "LeapJoin" "LeapJoin" "keptActs" "LLeapJoin$Log;" ∈ gw := gw_t2 18 rfl rfl
theorem q196 : Cond.laysFinal "LeapJoin" "LeapJoin" "past" "LLeapJoin$Past;" ∈ gw := gw_t2 20 rfl rfl
theorem q197 : Cond.laysFinal "LeapJoin" "LeapJoin" "scripts" "[LLeapJoin$Script;" ∈ gw := gw_t2 22 rfl rfl
theorem q198 : Cond.laysFinal "LeapJoin" "LeapJoin" "draft" "LLeapJoin$Script;" ∈ gw := gw_t2 24 rfl rfl
theorem q199 : Cond.laysFinal "LeapJoin" "LeapJoin" "refusals" "[I" ∈ gw := gw_t2 26 rfl rfl
theorem q200 : Cond.lays "LeapJoin" "LeapJoin" "scriptsTold" "I" ∈ gw := gw_t2 28 rfl rfl
theorem q201 : Cond.lays "LeapJoin" "LeapJoin" "imageMade" "Z" ∈ gw := gw_t2 30 rfl rfl
theorem q202 : Cond.lays "LeapJoin" "LeapJoin" "drawn" "J" ∈ gw := gw_t2 32 rfl rfl
theorem q203 : Cond.methodLink "LeapJoinLaw" 19 yX8_feed ∈ gw := gw_t2 35 rfl rfl
theorem q204 : Cond.instanceMethod yX8_feed ∈ gw := gw_t2 36 rfl rfl
theorem q205 : Cond.selects "LeapJoin" yX8_feed yX8_feed ∈ gw := gw_t2 37 rfl rfl
theorem q206 : Cond.code yX8_feed prog_1_method_2_code 7 (Option.some Jvm.ClassFile.FieldType.int) ∈ gw := gw_t2 38 rfl rfl
theorem q207 : Cond.methodLink "LeapJoin" 97 yX6_bytesIn ∈ gw := gw_t2 39 rfl rfl
theorem q208 : Cond.static yX6_bytesIn ∈ gw := gw_t2 40 rfl rfl
theorem q209 : Cond.code yX6_bytesIn prog_8_method_2_code 3 (Option.some Jvm.ClassFile.FieldType.int) ∈ gw := gw_t2 41 rfl rfl
theorem q210 : Cond.methodLink "LeapJoin" 104 yX6_append ∈ gw := gw_t2 42 rfl rfl
theorem q211 : Cond.instanceMethod yX6_append ∈ gw := gw_t2 43 rfl rfl
theorem q212 : Cond.selects "LeapJoin$Tape" yX6_append yX6_append ∈ gw := gw_t2 44 rfl rfl
theorem q213 : Cond.code yX6_append prog_8_method_3_code 4 (Option.none : Option Jvm.ClassFile.FieldType) ∈ gw := gw_t2 45 rfl rfl
theorem q214 : Cond.methodLink "LeapJoinLaw" 24 yX8_end ∈ gw := gw_t2 46 rfl rfl
theorem q215 : Cond.instanceMethod yX8_end ∈ gw := gw_t2 47 rfl rfl
theorem q216 : Cond.selects "LeapJoin" yX8_end yX8_end ∈ gw := gw_t2 48 rfl rfl
theorem q217 : Cond.code yX8_end prog_1_method_3_code 2 (Option.some Jvm.ClassFile.FieldType.boolean) ∈ gw := gw_t2 49 rfl rfl
theorem q218 : Cond.methodLink "LeapJoinLaw" 29 yX8_fault ∈ gw := gw_t2 50 rfl rfl
theorem q219 : Cond.instanceMethod yX8_fault ∈ gw := gw_t2 51 rfl rfl
theorem q220 : Cond.selects "LeapJoin" yX8_fault yX8_fault ∈ gw := gw_t2 52 rfl rfl
theorem q221 : Cond.code yX8_fault prog_1_method_4_code 2 (Option.some Jvm.ClassFile.FieldType.int) ∈ gw := gw_t2 53 rfl rfl
theorem q222 : Cond.methodLink "LeapJoin" 108 yX6_readTables ∈ gw := gw_t2 54 rfl rfl
theorem q223 : Cond.instanceMethod yX6_readTables ∈ gw := gw_t2 55 rfl rfl
theorem q224 : Cond.selects "LeapJoin$Tape" yX6_readTables yX6_readTables ∈ gw := gw_t2 56 rfl rfl
theorem q225 : Cond.code yX6_readTables prog_8_method_4_code 4 (Option.some Jvm.ClassFile.FieldType.int) ∈ gw := gw_t2 57 rfl rfl
theorem q226 : Cond.methodLink "LeapJoin$Tape" 22 yX5_clear ∈ gw := gw_t2 58 rfl rfl
theorem q227 : Cond.instanceMethod yX5_clear ∈ gw := gw_t2 59 rfl rfl
theorem q228 : Cond.selects "LeapJoin$Tables" yX5_clear yX5_clear ∈ gw := gw_t2 60 rfl rfl
theorem q229 : Cond.code yX5_clear prog_7_method_3_code 1 (Option.none : Option Jvm.ClassFile.FieldType) ∈ gw := gw_t2 61 rfl rfl
theorem q230 : Cond.methodLink "LeapJoin$Tables" 40 yJ7_fill_53178 ∈ gw := gw_t2 62 rfl rfl
theorem q231 : Cond.static yJ7_fill_53178 ∈ gw := gw_t2 63 rfl rfl
theorem q232 : Cond.code yJ7_fill_53178 prog_26_method_103_code 4 (Option.none : Option Jvm.ClassFile.FieldType) ∈ gw := gw_t2 64 rfl rfl
theorem q233 : Cond.methodLink "LeapJoin$Tape" 27 yX6_isClause ∈ gw := gw_t2 65 rfl rfl
theorem q234 : Cond.instanceMethod yX6_isClause ∈ gw := gw_t2 67 rfl rfl
theorem q235 : Cond.code yX6_isClause prog_8_method_7_code 5 (Option.some Jvm.ClassFile.FieldType.boolean) ∈ gw := gw_t2 68 rfl rfl
theorem q236 : Cond.methodLink "LeapJoin$Tape" 42 yX5_open ∈ gw := gw_t2 69 rfl rfl
theorem q237 : Cond.instanceMethod yX5_open ∈ gw := gw_t2 70 rfl rfl
theorem q238 : Cond.selects "LeapJoin$Tables" yX5_open yX5_open ∈ gw := gw_t2 71 rfl rfl
theorem q239 : Cond.code yX5_open prog_7_method_7_code 1 (Option.none : Option Jvm.ClassFile.FieldType) ∈ gw := gw_t2 72 rfl rfl
theorem q240 : Cond.methodLink "LeapJoin$Tape" 31 yX6_peek ∈ gw := gw_t2 73 rfl rfl
theorem q241 : Cond.instanceMethod yX6_peek ∈ gw := gw_t2 75 rfl rfl
theorem q242 : Cond.code yX6_peek prog_8_method_6_code 1 (Option.some Jvm.ClassFile.FieldType.int) ∈ gw := gw_t2 76 rfl rfl
theorem q243 : Cond.methodLink "LeapJoin$Tape" 48 yX5_addLetter ∈ gw := gw_t2 77 rfl rfl
theorem q244 : Cond.instanceMethod yX5_addLetter ∈ gw := gw_t2 78 rfl rfl
theorem q245 : Cond.selects "LeapJoin$Tables" yX5_addLetter yX5_addLetter ∈ gw := gw_t2 79 rfl rfl
theorem q246 : Cond.code yX5_addLetter prog_7_method_8_code 3 (Option.some Jvm.ClassFile.FieldType.boolean) ∈ gw := gw_t2 80 rfl rfl
theorem q247 : Cond.methodLink "LeapJoin$Tables" 52 yX5_isTable ∈ gw := gw_t2 81 rfl rfl
theorem q248 : Cond.instanceMethod yX5_isTable ∈ gw := gw_t2 82 rfl rfl
theorem q249 : Cond.selects "LeapJoin$Tables" yX5_isTable yX5_isTable ∈ gw := gw_t2 83 rfl rfl
theorem q250 : Cond.code yX5_isTable prog_7_method_5_code 2 (Option.some Jvm.ClassFile.FieldType.boolean) ∈ gw := gw_t2 84 rfl rfl
theorem q251 : Cond.methodLink "LeapJoin$Tables" 56 yX5_columnOf ∈ gw := gw_t2 85 rfl rfl
theorem q252 : Cond.instanceMethod yX5_columnOf ∈ gw := gw_t2 86 rfl rfl
theorem q253 : Cond.selects "LeapJoin$Tables" yX5_columnOf yX5_columnOf ∈ gw := gw_t2 87 rfl rfl
theorem q254 : Cond.code yX5_columnOf prog_7_method_9_code 4 (Option.some Jvm.ClassFile.FieldType.int) ∈ gw := gw_t2 88 rfl rfl
theorem q255 : Cond.methodLink "LeapJoin$Tape" 56 yX6_isDigit ∈ gw := gw_t2 89 rfl rfl
theorem q256 : Cond.static yX6_isDigit ∈ gw := gw_t2 90 rfl rfl
theorem q257 : Cond.code yX6_isDigit prog_8_method_12_code 1 (Option.some Jvm.ClassFile.FieldType.boolean) ∈ gw := gw_t2 91 rfl rfl
theorem q258 : Cond.methodLink "LeapJoin$Tape" 59 yX6_isRow ∈ gw := gw_t2 92 rfl rfl
theorem q259 : Cond.instanceMethod yX6_isRow ∈ gw := gw_t2 94 rfl rfl
theorem q260 : Cond.code yX6_isRow prog_8_method_8_code 6 (Option.some Jvm.ClassFile.FieldType.boolean) ∈ gw := gw_t2 95 rfl rfl
theorem q261 : Cond.methodLink "LeapJoin$Tape" 63 yX6_number ∈ gw := gw_t2 96 rfl rfl
theorem q262 : Cond.instanceMethod yX6_number ∈ gw := gw_t2 98 rfl rfl
theorem q263 : Cond.code yX6_number prog_8_method_13_code 3 (Option.some Jvm.ClassFile.FieldType.int) ∈ gw := gw_t2 99 rfl rfl
theorem q264 : Cond.methodLink "LeapJoin$Tape" 66 yX5_insert ∈ gw := gw_t2 100 rfl rfl
theorem q265 : Cond.instanceMethod yX5_insert ∈ gw := gw_t2 101 rfl rfl
theorem q266 : Cond.selects "LeapJoin$Tables" yX5_insert yX5_insert ∈ gw := gw_t2 102 rfl rfl
theorem q267 : Cond.code yX5_insert prog_7_method_17_code 5 (Option.none : Option Jvm.ClassFile.FieldType) ∈ gw := gw_t2 103 rfl rfl
theorem q268 : Cond.methodLink "LeapJoin$Tables" 69 yX5_placeOf ∈ gw := gw_t2 104 rfl rfl
theorem q269 : Cond.instanceMethod yX5_placeOf ∈ gw := gw_t2 105 rfl rfl
theorem q270 : Cond.selects "LeapJoin$Tables" yX5_placeOf yX5_placeOf ∈ gw := gw_t2 106 rfl rfl
theorem q271 : Cond.code yX5_placeOf prog_7_method_15_code 4 (Option.some Jvm.ClassFile.FieldType.int) ∈ gw := gw_t2 107 rfl rfl
theorem q272 : Cond.methodLink "LeapJoin$Tables" 66 yX5_rowAt ∈ gw := gw_t2 108 rfl rfl
theorem q273 : Cond.instanceMethod yX5_rowAt ∈ gw := gw_t2 109 rfl rfl
theorem q274 : Cond.selects "LeapJoin$Tables" yX5_rowAt yX5_rowAt ∈ gw := gw_t2 110 rfl rfl
theorem q275 : Cond.code yX5_rowAt prog_7_method_14_code 3 (Option.some Jvm.ClassFile.FieldType.int) ∈ gw := gw_t2 111 rfl rfl
theorem q276 : Cond.methodLink "LeapJoin" 112 yX6_readScript ∈ gw := gw_t2 112 rfl rfl
theorem q277 : Cond.instanceMethod yX6_readScript ∈ gw := gw_t2 113 rfl rfl
theorem q278 : Cond.selects "LeapJoin$Tape" yX6_readScript yX6_readScript ∈ gw := gw_t2 114 rfl rfl
theorem q279 : Cond.code yX6_readScript prog_8_method_5_code 4 (Option.some Jvm.ClassFile.FieldType.int) ∈ gw := gw_t2 115 rfl rfl
theorem q280 : Cond.methodLink "LeapJoin$Tape" 35 yX4_clear ∈ gw := gw_t2 116 rfl rfl
theorem q281 : Cond.instanceMethod yX4_clear ∈ gw := gw_t2 117 rfl rfl
theorem q282 : Cond.selects "LeapJoin$Script" yX4_clear yX4_clear ∈ gw := gw_t2 118 rfl rfl
theorem q283 : Cond.code yX4_clear prog_6_method_2_code 1 (Option.none : Option Jvm.ClassFile.FieldType) ∈ gw := gw_t2 119 rfl rfl
theorem q284 : Cond.methodLink "LeapJoin$Tape" 38 yX6_isStep ∈ gw := gw_t2 120 rfl rfl
theorem q285 : Cond.instanceMethod yX6_isStep ∈ gw := gw_t2 122 rfl rfl
theorem q286 : Cond.code yX6_isStep prog_8_method_9_code 4 (Option.some Jvm.ClassFile.FieldType.boolean) ∈ gw := gw_t2 123 rfl rfl
theorem q287 : Cond.methodLink "LeapJoin$Tape" 70 yX6_isOrder ∈ gw := gw_t2 124 rfl rfl
theorem q288 : Cond.instanceMethod yX6_isOrder ∈ gw := gw_t2 126 rfl rfl
theorem q289 : Cond.code yX6_isOrder prog_8_method_10_code 3 (Option.some Jvm.ClassFile.FieldType.boolean) ∈ gw := gw_t2 127 rfl rfl
theorem q290 : Cond.methodLink "LeapJoin$Tape" 73 yX4_add ∈ gw := gw_t2 128 rfl rfl
theorem q291 : Cond.instanceMethod yX4_add ∈ gw := gw_t2 129 rfl rfl
theorem q292 : Cond.selects "LeapJoin$Script" yX4_add yX4_add ∈ gw := gw_t2 130 rfl rfl
theorem q293 : Cond.code yX4_add prog_6_method_4_code 4 (Option.none : Option Jvm.ClassFile.FieldType) ∈ gw := gw_t2 131 rfl rfl
theorem q294 : Cond.methodLink "LeapJoin$Script" 25 yJ7_fill_fda19 ∈ gw := gw_t2 132 rfl rfl
theorem q295 : Cond.static yJ7_fill_fda19 ∈ gw := gw_t2 133 rfl rfl
theorem q296 : Cond.code yJ7_fill_fda19 prog_26_method_104_code 5 (Option.none : Option Jvm.ClassFile.FieldType) ∈ gw := gw_t2 134 rfl rfl
theorem q297 : Cond.methodLink "java/util/Arrays" 13 yJ7_rangeCheck_23922 ∈ gw := gw_t2 135 rfl rfl
theorem q298 : Cond.static yJ7_rangeCheck_23922 ∈ gw := gw_t2 136 rfl rfl
theorem q299 : Cond.code yJ7_rangeCheck_23922 prog_26_method_30_code 3 (Option.none : Option Jvm.ClassFile.FieldType) ∈ gw := gw_t2 137 rfl rfl
theorem q300 : Cond.methodLink "LeapJoin$Tape" 76 yX6_isRowOfStep ∈ gw := gw_t2 138 rfl rfl
theorem q301 : Cond.instanceMethod yX6_isRowOfStep ∈ gw := gw_t2 140 rfl rfl
theorem q302 : Cond.code yX6_isRowOfStep prog_8_method_11_code 4 (Option.some Jvm.ClassFile.FieldType.boolean) ∈ gw := gw_t2 141 rfl rfl
theorem q303 : Cond.methodLink "LeapJoin$Tape" 79 yX4_setNumber ∈ gw := gw_t2 142 rfl rfl
theorem q304 : Cond.instanceMethod yX4_setNumber ∈ gw := gw_t2 143 rfl rfl
theorem q305 : Cond.selects "LeapJoin$Script" yX4_setNumber yX4_setNumber ∈ gw := gw_t2 144 rfl rfl
theorem q306 : Cond.code yX4_setNumber prog_6_method_5_code 3 (Option.none : Option Jvm.ClassFile.FieldType) ∈ gw := gw_t2 145 rfl rfl
theorem q307 : Cond.methodLink "LeapJoinLaw" 34 yX8_text ∈ gw := gw_t2 146 rfl rfl
theorem q308 : Cond.instanceMethod yX8_text ∈ gw := gw_t2 147 rfl rfl
theorem q309 : Cond.selects "LeapJoin" yX8_text yX8_text ∈ gw := gw_t2 148 rfl rfl
theorem q310 : Cond.code yX8_text prog_1_method_5_code 2 (Option.some Jvm.ClassFile.FieldType.int) ∈ gw := gw_t2 149 rfl rfl
theorem q311 : Cond.methodLink "LeapJoin" 116 yX8_textOfTables ∈ gw := gw_t2 150 rfl rfl
theorem q312 : Cond.instanceMethod yX8_textOfTables ∈ gw := gw_t2 152 rfl rfl
theorem q313 : Cond.code yX8_textOfTables prog_1_method_6_code 1 (Option.some Jvm.ClassFile.FieldType.int) ∈ gw := gw_t2 153 rfl rfl
theorem q314 : Cond.methodLink "LeapJoin" 123 yX5_copyFrom ∈ gw := gw_t2 154 rfl rfl
theorem q315 : Cond.instanceMethod yX5_copyFrom ∈ gw := gw_t2 155 rfl rfl
theorem q316 : Cond.selects "LeapJoin$Tables" yX5_copyFrom yX5_copyFrom ∈ gw := gw_t2 156 rfl rfl
theorem q317 : Cond.code yX5_copyFrom prog_7_method_4_code 2 (Option.none : Option Jvm.ClassFile.FieldType) ∈ gw := gw_t2 157 rfl rfl
theorem q318 : Cond.methodLink "LeapJoin$Tables" 46 (⟨"java/lang/System", "arraycopy", "(Ljava/lang/Object;ILjava/lang/Object;II)V"⟩ : MethodName) ∈ gw := gw_t2 158 rfl rfl
theorem q319 : Cond.static (⟨"java/lang/System", "arraycopy", "(Ljava/lang/Object;ILjava/lang/Object;II)V"⟩ : MethodName) ∈ gw := gw_t2 159 rfl rfl
theorem q320 : Cond.methodLink "LeapJoin" 127 yX2_clear ∈ gw := gw_t2 161 rfl rfl
theorem q321 : Cond.instanceMethod yX2_clear ∈ gw := gw_t2 162 rfl rfl
theorem q322 : Cond.selects "LeapJoin$Log" yX2_clear yX2_clear ∈ gw := gw_t2 163 rfl rfl
theorem q323 : Cond.code yX2_clear prog_4_method_2_code 1 (Option.none : Option Jvm.ClassFile.FieldType) ∈ gw := gw_t2 164 rfl rfl
theorem q324 : Cond.methodLink "LeapJoin" 130 yX3_clear ∈ gw := gw_t2 165 rfl rfl
theorem q325 : Cond.instanceMethod yX3_clear ∈ gw := gw_t2 166 rfl rfl
theorem q326 : Cond.selects "LeapJoin$Past" yX3_clear yX3_clear ∈ gw := gw_t2 167 rfl rfl
theorem q327 : Cond.code yX3_clear prog_5_method_2_code 1 (Option.none : Option Jvm.ClassFile.FieldType) ∈ gw := gw_t2 168 rfl rfl
theorem q328 : Cond.methodLink "LeapJoin" 131 yX8_renew ∈ gw := gw_t2 169 rfl rfl
theorem q329 : Cond.instanceMethod yX8_renew ∈ gw := gw_t2 171 rfl rfl
theorem q330 : Cond.code yX8_renew prog_1_method_8_code 1 (Option.none : Option Jvm.ClassFile.FieldType) ∈ gw := gw_t2 172 rfl rfl
theorem q331 : Cond.methodLink "LeapJoin" 143 yX1_findBy ∈ gw := gw_t2 173 rfl rfl
theorem q332 : Cond.instanceMethod yX1_findBy ∈ gw := gw_t2 174 rfl rfl
theorem q333 : Cond.selects "LeapJoin$Join" yX1_findBy yX1_findBy ∈ gw := gw_t2 175 rfl rfl
theorem q334 : Cond.code yX1_findBy prog_3_method_2_code 8 (Option.none : Option Jvm.ClassFile.FieldType) ∈ gw := gw_t2 176 rfl rfl
theorem q335 : Cond.methodLink "LeapJoin$Join" 52 yX5_asked ∈ gw := gw_t2 177 rfl rfl
theorem q336 : Cond.instanceMethod yX5_asked ∈ gw := gw_t2 178 rfl rfl
theorem q337 : Cond.selects "LeapJoin$Tables" yX5_asked yX5_asked ∈ gw := gw_t2 179 rfl rfl
theorem q338 : Cond.code yX5_asked prog_7_method_11_code 3 (Option.some Jvm.ClassFile.FieldType.int) ∈ gw := gw_t2 180 rfl rfl
theorem q339 : Cond.methodLink "LeapJoin$Tables" 59 yX5_isUsed ∈ gw := gw_t2 181 rfl rfl
theorem q340 : Cond.instanceMethod yX5_isUsed ∈ gw := gw_t2 182 rfl rfl
theorem q341 : Cond.selects "LeapJoin$Tables" yX5_isUsed yX5_isUsed ∈ gw := gw_t2 183 rfl rfl
theorem q342 : Cond.code yX5_isUsed prog_7_method_6_code 2 (Option.some Jvm.ClassFile.FieldType.boolean) ∈ gw := gw_t2 184 rfl rfl
theorem q343 : Cond.methodLink "LeapJoin$Tables" 62 yX5_lettersOf ∈ gw := gw_t2 185 rfl rfl
theorem q344 : Cond.instanceMethod yX5_lettersOf ∈ gw := gw_t2 186 rfl rfl
theorem q345 : Cond.selects "LeapJoin$Tables" yX5_lettersOf yX5_lettersOf ∈ gw := gw_t2 187 rfl rfl
theorem q346 : Cond.code yX5_lettersOf prog_7_method_10_code 4 (Option.some Jvm.ClassFile.FieldType.int) ∈ gw := gw_t2 188 rfl rfl
theorem q347 : Cond.fieldLink "LeapJoin$Join" 58 "LeapJoin$Join" "BLOCKS" "[I" ∈ gw := gw_t2 189 rfl rfl
theorem q348 : Cond.methodLink "LeapJoin$Join" 61 yX1_letterOf ∈ gw := gw_t2 191 rfl rfl
theorem q349 : Cond.static yX1_letterOf ∈ gw := gw_t2 192 rfl rfl
theorem q350 : Cond.code yX1_letterOf prog_3_method_4_code 4 (Option.some Jvm.ClassFile.FieldType.int) ∈ gw := gw_t2 193 rfl rfl
theorem q351 : Cond.methodLink "LeapJoin$Join" 65 yX1_addLetters ∈ gw := gw_t2 194 rfl rfl
theorem q352 : Cond.instanceMethod yX1_addLetters ∈ gw := gw_t2 196 rfl rfl
theorem q353 : Cond.code yX1_addLetters prog_3_method_5_code 3 (Option.none : Option Jvm.ClassFile.FieldType) ∈ gw := gw_t2 197 rfl rfl
theorem q354 : Cond.methodLink "LeapJoin$Join" 69 yX1_open ∈ gw := gw_t2 198 rfl rfl
theorem q355 : Cond.instanceMethod yX1_open ∈ gw := gw_t2 200 rfl rfl
theorem q356 : Cond.code yX1_open prog_3_method_6_code 3 (Option.none : Option Jvm.ClassFile.FieldType) ∈ gw := gw_t2 201 rfl rfl
theorem q357 : Cond.methodLink "LeapJoin$Join" 76 yJ7_fill_53178 ∈ gw := gw_t2 202 rfl rfl
theorem q358 : Cond.methodLink "LeapJoin$Join" 82 yX5_isUsed ∈ gw := gw_t2 203 rfl rfl
theorem q359 : Cond.methodLink "LeapJoin$Join" 86 yX1_load ∈ gw := gw_t2 204 rfl rfl
theorem q360 : Cond.instanceMethod yX1_load ∈ gw := gw_t2 206 rfl rfl
theorem q361 : Cond.code yX1_load prog_3_method_7_code 8 (Option.none : Option Jvm.ClassFile.FieldType) ∈ gw := gw_t2 207 rfl rfl
theorem q362 : Cond.methodLink "LeapJoin$Join" 90 yX5_columnOf ∈ gw := gw_t2 208 rfl rfl
theorem q363 : Cond.methodLink "LeapJoin$Join" 96 yX5_rowAt ∈ gw := gw_t2 209 rfl rfl
theorem q364 : Cond.methodLink "LeapJoin$Join" 99 yX1_addSorted ∈ gw := gw_t2 210 rfl rfl
theorem q365 : Cond.instanceMethod yX1_addSorted ∈ gw := gw_t2 212 rfl rfl
theorem q366 : Cond.code yX1_addSorted prog_3_method_8_code 4 (Option.none : Option Jvm.ClassFile.FieldType) ∈ gw := gw_t2 213 rfl rfl
theorem q367 : Cond.methodLink "LeapJoin$Join" 73 yX1_search ∈ gw := gw_t2 214 rfl rfl
theorem q368 : Cond.instanceMethod yX1_search ∈ gw := gw_t2 216 rfl rfl
theorem q369 : Cond.code yX1_search prog_3_method_9_code 5 (Option.none : Option Jvm.ClassFile.FieldType) ∈ gw := gw_t2 217 rfl rfl
theorem q370 : Cond.methodLink "LeapJoin$Join" 103 yX1_isOpened ∈ gw := gw_t2 218 rfl rfl
theorem q371 : Cond.instanceMethod yX1_isOpened ∈ gw := gw_t2 220 rfl rfl
theorem q372 : Cond.code yX1_isOpened prog_3_method_11_code 3 (Option.some Jvm.ClassFile.FieldType.boolean) ∈ gw := gw_t2 221 rfl rfl
theorem q373 : Cond.methodLink "LeapJoin$Join" 106 yX1_greatestKey ∈ gw := gw_t2 222 rfl rfl
theorem q374 : Cond.instanceMethod yX1_greatestKey ∈ gw := gw_t2 224 rfl rfl
theorem q375 : Cond.code yX1_greatestKey prog_3_method_12_code 4 (Option.some Jvm.ClassFile.FieldType.int) ∈ gw := gw_t2 225 rfl rfl
theorem q376 : Cond.methodLink "LeapJoin$Join" 123 yJ9_max_7cf53 ∈ gw := gw_t2 226 rfl rfl
theorem q377 : Cond.static yJ9_max_7cf53 ∈ gw := gw_t2 227 rfl rfl
theorem q378 : Cond.code yJ9_max_7cf53 prog_18_method_65_code 2 (Option.some Jvm.ClassFile.FieldType.int) ∈ gw := gw_t2 228 rfl rfl
theorem q379 : Cond.methodLink "LeapJoin$Join" 110 yX1_lowestBelow ∈ gw := gw_t2 229 rfl rfl
theorem q380 : Cond.instanceMethod yX1_lowestBelow ∈ gw := gw_t2 231 rfl rfl
theorem q381 : Cond.code yX1_lowestBelow prog_3_method_13_code 5 (Option.some Jvm.ClassFile.FieldType.int) ∈ gw := gw_t2 232 rfl rfl
theorem q382 : Cond.methodLink "LeapJoin$Join" 113 yX1_deepen ∈ gw := gw_t2 233 rfl rfl
theorem q383 : Cond.instanceMethod yX1_deepen ∈ gw := gw_t2 235 rfl rfl
theorem q384 : Cond.code yX1_deepen prog_3_method_10_code 4 (Option.none : Option Jvm.ClassFile.FieldType) ∈ gw := gw_t2 236 rfl rfl
theorem q385 : Cond.methodLink "LeapJoin$Join" 120 yX1_narrow ∈ gw := gw_t2 237 rfl rfl
theorem q386 : Cond.instanceMethod yX1_narrow ∈ gw := gw_t2 239 rfl rfl
theorem q387 : Cond.code yX1_narrow prog_3_method_15_code 6 (Option.none : Option Jvm.ClassFile.FieldType) ∈ gw := gw_t3 0 rfl rfl
theorem q388 : Cond.methodLink "LeapJoin$Join" 116 yX1_isLeapt ∈ gw := gw_t3 1 rfl rfl
theorem q389 : Cond.instanceMethod yX1_isLeapt ∈ gw := gw_t3 3 rfl rfl
theorem q390 : Cond.code yX1_isLeapt prog_3_method_14_code 4 (Option.some Jvm.ClassFile.FieldType.boolean) ∈ gw := gw_t3 4 rfl rfl
theorem q391 : Cond.methodLink "LeapJoin" 120 yX8_textOfScript ∈ gw := gw_t3 5 rfl rfl
theorem q392 : Cond.instanceMethod yX8_textOfScript ∈ gw := gw_t3 7 rfl rfl
theorem q393 : Cond.code yX8_textOfScript prog_1_method_7_code 1 (Option.some Jvm.ClassFile.FieldType.int) ∈ gw := gw_t3 8 rfl rfl
theorem q394 : Cond.methodLink "LeapJoin" 137 yX4_copyFrom ∈ gw := gw_t3 9 rfl rfl
theorem q395 : Cond.instanceMethod yX4_copyFrom ∈ gw := gw_t3 10 rfl rfl
theorem q396 : Cond.selects "LeapJoin$Script" yX4_copyFrom yX4_copyFrom ∈ gw := gw_t3 11 rfl rfl
theorem q397 : Cond.code yX4_copyFrom prog_6_method_3_code 2 (Option.none : Option Jvm.ClassFile.FieldType) ∈ gw := gw_t3 12 rfl rfl
theorem q398 : Cond.methodLink "LeapJoin$Script" 19 (⟨"java/lang/System", "arraycopy", "(Ljava/lang/Object;ILjava/lang/Object;II)V"⟩ : MethodName) ∈ gw := gw_t3 13 rfl rfl
theorem q399 : Cond.methodLink "LeapJoinLaw" 38 yX8_rule ∈ gw := gw_t3 14 rfl rfl
theorem q400 : Cond.instanceMethod yX8_rule ∈ gw := gw_t3 15 rfl rfl
theorem q401 : Cond.selects "LeapJoin" yX8_rule yX8_rule ∈ gw := gw_t3 16 rfl rfl
theorem q402 : Cond.code yX8_rule prog_1_method_9_code 2 (Option.some Jvm.ClassFile.FieldType.int) ∈ gw := gw_t3 17 rfl rfl
theorem q403 : Cond.methodLink "LeapJoin" 153 yX5_asked ∈ gw := gw_t3 18 rfl rfl
theorem q404 : Cond.methodLink "LeapJoin" 156 yX5_allRows ∈ gw := gw_t3 19 rfl rfl
theorem q405 : Cond.instanceMethod yX5_allRows ∈ gw := gw_t3 20 rfl rfl
theorem q406 : Cond.selects "LeapJoin$Tables" yX5_allRows yX5_allRows ∈ gw := gw_t3 21 rfl rfl
theorem q407 : Cond.code yX5_allRows prog_7_method_12_code 3 (Option.some Jvm.ClassFile.FieldType.int) ∈ gw := gw_t3 22 rfl rfl
theorem q408 : Cond.methodLink "LeapJoinLaw" 52 yX8_cell ∈ gw := gw_t3 23 rfl rfl
theorem q409 : Cond.instanceMethod yX8_cell ∈ gw := gw_t3 24 rfl rfl
theorem q410 : Cond.selects "LeapJoin" yX8_cell yX8_cell ∈ gw := gw_t3 25 rfl rfl
theorem q411 : Cond.code yX8_cell prog_1_method_11_code 4 (Option.some Jvm.ClassFile.FieldType.int) ∈ gw := gw_t3 26 rfl rfl
theorem q412 : Cond.methodLink "LeapJoin" 159 yX5_isTable ∈ gw := gw_t3 27 rfl rfl
theorem q413 : Cond.methodLink "LeapJoin" 182 yX5_rowAt ∈ gw := gw_t3 28 rfl rfl
theorem q414 : Cond.methodLink "LeapJoinLaw" 57 yX8_rows ∈ gw := gw_t3 29 rfl rfl
theorem q415 : Cond.instanceMethod yX8_rows ∈ gw := gw_t3 30 rfl rfl
theorem q416 : Cond.selects "LeapJoin" yX8_rows yX8_rows ∈ gw := gw_t3 31 rfl rfl
theorem q417 : Cond.code yX8_rows prog_1_method_12_code 1 (Option.some Jvm.ClassFile.FieldType.int) ∈ gw := gw_t3 32 rfl rfl
theorem q418 : Cond.methodLink "LeapJoinLaw" 61 yX8_row ∈ gw := gw_t3 33 rfl rfl
theorem q419 : Cond.instanceMethod yX8_row ∈ gw := gw_t3 34 rfl rfl
theorem q420 : Cond.selects "LeapJoin" yX8_row yX8_row ∈ gw := gw_t3 35 rfl rfl
theorem q421 : Cond.code yX8_row prog_1_method_13_code 3 (Option.some Jvm.ClassFile.FieldType.int) ∈ gw := gw_t3 36 rfl rfl
theorem q422 : Cond.methodLink "LeapJoin" 187 yX8_isAsked ∈ gw := gw_t3 37 rfl rfl
theorem q423 : Cond.instanceMethod yX8_isAsked ∈ gw := gw_t3 39 rfl rfl
theorem q424 : Cond.code yX8_isAsked prog_1_method_21_code 2 (Option.some Jvm.ClassFile.FieldType.boolean) ∈ gw := gw_t3 40 rfl rfl
theorem q425 : Cond.methodLink "LeapJoin" 190 yX1_numberAt ∈ gw := gw_t3 41 rfl rfl
theorem q426 : Cond.instanceMethod yX1_numberAt ∈ gw := gw_t3 42 rfl rfl
theorem q427 : Cond.selects "LeapJoin$Join" yX1_numberAt yX1_numberAt ∈ gw := gw_t3 43 rfl rfl
theorem q428 : Cond.code yX1_numberAt prog_3_method_17_code 3 (Option.some Jvm.ClassFile.FieldType.int) ∈ gw := gw_t3 44 rfl rfl
theorem q429 : Cond.methodLink "LeapJoin$Join" 128 yX1_rowAt ∈ gw := gw_t3 45 rfl rfl
theorem q430 : Cond.instanceMethod yX1_rowAt ∈ gw := gw_t3 46 rfl rfl
theorem q431 : Cond.selects "LeapJoin$Join" yX1_rowAt yX1_rowAt ∈ gw := gw_t3 47 rfl rfl
theorem q432 : Cond.code yX1_rowAt prog_3_method_16_code 2 (Option.some Jvm.ClassFile.FieldType.int) ∈ gw := gw_t3 48 rfl rfl
theorem q433 : Cond.methodLink "LeapJoinLaw" 65 yX8_leaps ∈ gw := gw_t3 49 rfl rfl
theorem q434 : Cond.instanceMethod yX8_leaps ∈ gw := gw_t3 50 rfl rfl
theorem q435 : Cond.selects "LeapJoin" yX8_leaps yX8_leaps ∈ gw := gw_t3 51 rfl rfl
theorem q436 : Cond.code yX8_leaps prog_1_method_14_code 1 (Option.some Jvm.ClassFile.FieldType.int) ∈ gw := gw_t3 52 rfl rfl
theorem q437 : Cond.methodLink "LeapJoinLaw" 69 yX8_beginnings ∈ gw := gw_t3 53 rfl rfl
theorem q438 : Cond.instanceMethod yX8_beginnings ∈ gw := gw_t3 54 rfl rfl
theorem q439 : Cond.selects "LeapJoin" yX8_beginnings yX8_beginnings ∈ gw := gw_t3 55 rfl rfl
theorem q440 : Cond.code yX8_beginnings prog_1_method_15_code 2 (Option.some Jvm.ClassFile.FieldType.int) ∈ gw := gw_t3 56 rfl rfl
theorem q441 : Cond.methodLink "LeapJoinLaw" 73 yX8_best ∈ gw := gw_t3 57 rfl rfl
theorem q442 : Cond.instanceMethod yX8_best ∈ gw := gw_t3 58 rfl rfl
theorem q443 : Cond.selects "LeapJoin" yX8_best yX8_best ∈ gw := gw_t3 59 rfl rfl
theorem q444 : Cond.code yX8_best prog_1_method_16_code 2 (Option.some Jvm.ClassFile.FieldType.int) ∈ gw := gw_t3 60 rfl rfl
theorem q445 : Cond.methodLink "LeapJoin" 202 yX7_weigh ∈ gw := gw_t3 61 rfl rfl
theorem q446 : Cond.instanceMethod yX7_weigh ∈ gw := gw_t3 62 rfl rfl
theorem q447 : Cond.selects "LeapJoin$Weights" yX7_weigh yX7_weigh ∈ gw := gw_t3 63 rfl rfl
theorem q448 : Cond.code yX7_weigh prog_9_method_2_code 4 (Option.none : Option Jvm.ClassFile.FieldType) ∈ gw := gw_t3 64 rfl rfl
theorem q449 : Cond.methodLink "LeapJoin$Weights" 25 yX1_findBy ∈ gw := gw_t3 65 rfl rfl
theorem q450 : Cond.methodLink "LeapJoinLaw" 77 yX8_plain ∈ gw := gw_t3 66 rfl rfl
theorem q451 : Cond.instanceMethod yX8_plain ∈ gw := gw_t3 67 rfl rfl
theorem q452 : Cond.selects "LeapJoin" yX8_plain yX8_plain ∈ gw := gw_t3 68 rfl rfl
theorem q453 : Cond.code yX8_plain prog_1_method_17_code 3 (Option.some Jvm.ClassFile.FieldType.int) ∈ gw := gw_t3 69 rfl rfl
theorem q454 : Cond.methodLink "LeapJoin" 179 yX5_isUsed ∈ gw := gw_t3 70 rfl rfl
theorem q455 : Cond.methodLink "LeapJoinLaw" 81 yX8_given ∈ gw := gw_t3 71 rfl rfl
theorem q456 : Cond.instanceMethod yX8_given ∈ gw := gw_t3 72 rfl rfl
theorem q457 : Cond.selects "LeapJoin" yX8_given yX8_given ∈ gw := gw_t3 73 rfl rfl
theorem q458 : Cond.code yX8_given prog_1_method_18_code 2 (Option.some Jvm.ClassFile.FieldType.int) ∈ gw := gw_t3 74 rfl rfl
theorem q459 : Cond.methodLink "LeapJoin" 212 yX0_givenBits ∈ gw := gw_t3 75 rfl rfl
theorem q460 : Cond.instanceMethod yX0_givenBits ∈ gw := gw_t3 76 rfl rfl
theorem q461 : Cond.selects "LeapJoin$Figures" yX0_givenBits yX0_givenBits ∈ gw := gw_t3 77 rfl rfl
theorem q462 : Cond.code yX0_givenBits prog_2_method_7_code 8 (Option.some Jvm.ClassFile.FieldType.int) ∈ gw := gw_t3 78 rfl rfl
theorem q463 : Cond.methodLink "LeapJoin$Figures" 34 yX5_isUsed ∈ gw := gw_t3 79 rfl rfl
theorem q464 : Cond.methodLink "LeapJoin$Figures" 43 yX1_rowAt ∈ gw := gw_t3 80 rfl rfl
theorem q465 : Cond.methodLink "LeapJoin$Figures" 47 yX5_rowWithin ∈ gw := gw_t3 81 rfl rfl
theorem q466 : Cond.instanceMethod yX5_rowWithin ∈ gw := gw_t3 82 rfl rfl
theorem q467 : Cond.selects "LeapJoin$Tables" yX5_rowWithin yX5_rowWithin ∈ gw := gw_t3 83 rfl rfl
theorem q468 : Cond.code yX5_rowWithin prog_7_method_16_code 6 (Option.some Jvm.ClassFile.FieldType.int) ∈ gw := gw_t3 84 rfl rfl
theorem q469 : Cond.methodLink "LeapJoin$Figures" 50 yX5_placeOf ∈ gw := gw_t3 85 rfl rfl
theorem q470 : Cond.methodLink "LeapJoinLaw" 85 yX8_without ∈ gw := gw_t3 86 rfl rfl
theorem q471 : Cond.instanceMethod yX8_without ∈ gw := gw_t3 87 rfl rfl
theorem q472 : Cond.selects "LeapJoin" yX8_without yX8_without ∈ gw := gw_t3 88 rfl rfl
theorem q473 : Cond.code yX8_without prog_1_method_19_code 3 (Option.some Jvm.ClassFile.FieldType.int) ∈ gw := gw_t3 89 rfl rfl
theorem q474 : Cond.methodLink "LeapJoinLaw" 89 yX8_projected ∈ gw := gw_t3 90 rfl rfl
theorem q475 : Cond.instanceMethod yX8_projected ∈ gw := gw_t3 91 rfl rfl
theorem q476 : Cond.selects "LeapJoin" yX8_projected yX8_projected ∈ gw := gw_t3 92 rfl rfl
theorem q477 : Cond.code yX8_projected prog_1_method_20_code 2 (Option.some Jvm.ClassFile.FieldType.int) ∈ gw := gw_t3 93 rfl rfl
theorem q478 : Cond.methodLink "LeapJoin" 216 yX1_findLeading ∈ gw := gw_t3 94 rfl rfl
theorem q479 : Cond.instanceMethod yX1_findLeading ∈ gw := gw_t3 95 rfl rfl
theorem q480 : Cond.selects "LeapJoin$Join" yX1_findLeading yX1_findLeading ∈ gw := gw_t3 96 rfl rfl
theorem q481 : Cond.code yX1_findLeading prog_3_method_3_code 4 (Option.none : Option Jvm.ClassFile.FieldType) ∈ gw := gw_t3 97 rfl rfl
theorem q482 : Cond.methodLink "LeapJoin" 219 yX0_unlike ∈ gw := gw_t3 98 rfl rfl
theorem q483 : Cond.instanceMethod yX0_unlike ∈ gw := gw_t3 99 rfl rfl
theorem q484 : Cond.selects "LeapJoin$Figures" yX0_unlike yX0_unlike ∈ gw := gw_t3 100 rfl rfl
theorem q485 : Cond.code yX0_unlike prog_2_method_8_code 6 (Option.some Jvm.ClassFile.FieldType.int) ∈ gw := gw_t3 101 rfl rfl
theorem q486 : Cond.methodLink "LeapJoinLaw" 93 yX8_times ∈ gw := gw_t3 102 rfl rfl
theorem q487 : Cond.instanceMethod yX8_times ∈ gw := gw_t3 103 rfl rfl
theorem q488 : Cond.selects "LeapJoin" yX8_times yX8_times ∈ gw := gw_t3 104 rfl rfl
theorem q489 : Cond.code yX8_times prog_1_method_22_code 3 (Option.some Jvm.ClassFile.FieldType.int) ∈ gw := gw_t3 105 rfl rfl
theorem q490 : Cond.methodLink "LeapJoin" 223 yX0_tallyUp ∈ gw := gw_t3 106 rfl rfl
theorem q491 : Cond.instanceMethod yX0_tallyUp ∈ gw := gw_t3 107 rfl rfl
theorem q492 : Cond.selects "LeapJoin$Figures" yX0_tallyUp yX0_tallyUp ∈ gw := gw_t3 108 rfl rfl
theorem q493 : Cond.code yX0_tallyUp prog_2_method_2_code 5 (Option.none : Option Jvm.ClassFile.FieldType) ∈ gw := gw_t3 109 rfl rfl
theorem q494 : Cond.methodLink "LeapJoin$Figures" 18 yJ7_fill_53178 ∈ gw := gw_t3 110 rfl rfl
theorem q495 : Cond.methodLink "LeapJoin$Figures" 30 yX1_numberAt ∈ gw := gw_t3 111 rfl rfl
theorem q496 : Cond.methodLink "LeapJoinLaw" 97 yX8_distinct ∈ gw := gw_t3 112 rfl rfl
theorem q497 : Cond.instanceMethod yX8_distinct ∈ gw := gw_t3 113 rfl rfl
theorem q498 : Cond.selects "LeapJoin" yX8_distinct yX8_distinct ∈ gw := gw_t3 114 rfl rfl
theorem q499 : Cond.code yX8_distinct prog_1_method_23_code 3 (Option.some Jvm.ClassFile.FieldType.int) ∈ gw := gw_t3 115 rfl rfl
theorem q500 : Cond.methodLink "LeapJoin" 230 yX0_numbers ∈ gw := gw_t3 116 rfl rfl
theorem q501 : Cond.instanceMethod yX0_numbers ∈ gw := gw_t3 117 rfl rfl
theorem q502 : Cond.selects "LeapJoin$Figures" yX0_numbers yX0_numbers ∈ gw := gw_t3 118 rfl rfl
theorem q503 : Cond.code yX0_numbers prog_2_method_3_code 3 (Option.some Jvm.ClassFile.FieldType.int) ∈ gw := gw_t3 119 rfl rfl
theorem q504 : Cond.methodLink "LeapJoin" 233 yX0_least ∈ gw := gw_t3 120 rfl rfl
theorem q505 : Cond.instanceMethod yX0_least ∈ gw := gw_t3 121 rfl rfl
theorem q506 : Cond.selects "LeapJoin$Figures" yX0_least yX0_least ∈ gw := gw_t3 122 rfl rfl
theorem q507 : Cond.code yX0_least prog_2_method_4_code 2 (Option.some Jvm.ClassFile.FieldType.int) ∈ gw := gw_t3 123 rfl rfl
theorem q508 : Cond.methodLink "LeapJoin" 236 yX0_greatest ∈ gw := gw_t3 124 rfl rfl
theorem q509 : Cond.instanceMethod yX0_greatest ∈ gw := gw_t3 125 rfl rfl
theorem q510 : Cond.selects "LeapJoin$Figures" yX0_greatest yX0_greatest ∈ gw := gw_t3 126 rfl rfl
theorem q511 : Cond.code yX0_greatest prog_2_method_5_code 2 (Option.some Jvm.ClassFile.FieldType.int) ∈ gw := gw_t3 127 rfl rfl
theorem q512 : Cond.methodLink "LeapJoin" 239 yX0_oftenest ∈ gw := gw_t3 128 rfl rfl
theorem q513 : Cond.instanceMethod yX0_oftenest ∈ gw := gw_t3 129 rfl rfl
theorem q514 : Cond.selects "LeapJoin$Figures" yX0_oftenest yX0_oftenest ∈ gw := gw_t3 130 rfl rfl
theorem q515 : Cond.code yX0_oftenest prog_2_method_6_code 4 (Option.some Jvm.ClassFile.FieldType.int) ∈ gw := gw_t3 131 rfl rfl
theorem q516 : Cond.methodLink "LeapJoinLaw" 101 yX8_tells ∈ gw := gw_t3 132 rfl rfl
theorem q517 : Cond.instanceMethod yX8_tells ∈ gw := gw_t3 133 rfl rfl
theorem q518 : Cond.selects "LeapJoin" yX8_tells yX8_tells ∈ gw := gw_t3 134 rfl rfl
theorem q519 : Cond.code yX8_tells prog_1_method_24_code 3 (Option.some Jvm.ClassFile.FieldType.boolean) ∈ gw := gw_t3 135 rfl rfl
theorem q520 : Cond.methodLink "LeapJoin" 242 yX0_isTold ∈ gw := gw_t3 136 rfl rfl
theorem q521 : Cond.instanceMethod yX0_isTold ∈ gw := gw_t3 137 rfl rfl
theorem q522 : Cond.selects "LeapJoin$Figures" yX0_isTold yX0_isTold ∈ gw := gw_t3 138 rfl rfl
theorem q523 : Cond.code yX0_isTold prog_2_method_9_code 7 (Option.some Jvm.ClassFile.FieldType.boolean) ∈ gw := gw_t3 139 rfl rfl
theorem q524 : Cond.methodLink "LeapJoinLaw" 106 yX8_behind ∈ gw := gw_t3 140 rfl rfl
theorem q525 : Cond.instanceMethod yX8_behind ∈ gw := gw_t3 141 rfl rfl
theorem q526 : Cond.selects "LeapJoin" yX8_behind yX8_behind ∈ gw := gw_t3 142 rfl rfl
theorem q527 : Cond.code yX8_behind prog_1_method_25_code 6 (Option.some Jvm.ClassFile.FieldType.int) ∈ gw := gw_t3 143 rfl rfl
theorem q528 : Cond.methodLink "LeapJoin" 246 yX1_compareAt ∈ gw := gw_t3 144 rfl rfl
theorem q529 : Cond.instanceMethod yX1_compareAt ∈ gw := gw_t3 145 rfl rfl
theorem q530 : Cond.selects "LeapJoin$Join" yX1_compareAt yX1_compareAt ∈ gw := gw_t3 146 rfl rfl
theorem q531 : Cond.code yX1_compareAt prog_3_method_18_code 10 (Option.some Jvm.ClassFile.FieldType.int) ∈ gw := gw_t3 147 rfl rfl
theorem q532 : Cond.methodLink "LeapJoin$Join" 130 yX1_numberAt ∈ gw := gw_t3 148 rfl rfl
theorem q533 : Cond.methodLink "LeapJoinLaw" 111 yX8_has ∈ gw := gw_t3 149 rfl rfl
theorem q534 : Cond.instanceMethod yX8_has ∈ gw := gw_t3 150 rfl rfl
theorem q535 : Cond.selects "LeapJoin" yX8_has yX8_has ∈ gw := gw_t3 151 rfl rfl
theorem q536 : Cond.code yX8_has prog_1_method_26_code 6 (Option.some Jvm.ClassFile.FieldType.boolean) ∈ gw := gw_t3 152 rfl rfl
theorem q537 : Cond.methodLink "LeapJoinLaw" 116 yX8_mean ∈ gw := gw_t3 153 rfl rfl
theorem q538 : Cond.instanceMethod yX8_mean ∈ gw := gw_t3 154 rfl rfl
theorem q539 : Cond.selects "LeapJoin" yX8_mean yX8_mean ∈ gw := gw_t3 155 rfl rfl
theorem q540 : Cond.code yX8_mean prog_1_method_27_code 2 (Option.some Jvm.ClassFile.FieldType.long) ∈ gw := gw_t3 156 rfl rfl
theorem q541 : Cond.constantLong "LeapJoin" 250 (-1000000 : Int64) ∈ gw := gw_t3 157 rfl rfl
theorem q542 : Cond.methodLink "LeapJoin" 252 yX0_meanOf ∈ gw := gw_t3 158 rfl rfl
theorem q543 : Cond.instanceMethod yX0_meanOf ∈ gw := gw_t3 159 rfl rfl
theorem q544 : Cond.selects "LeapJoin$Figures" yX0_meanOf yX0_meanOf ∈ gw := gw_t3 160 rfl rfl
theorem q545 : Cond.code yX0_meanOf prog_2_method_10_code 6 (Option.some Jvm.ClassFile.FieldType.double) ∈ gw := gw_t3 161 rfl rfl
theorem q546 : Cond.methodLink "LeapJoin" 256 yX0_bitsOfDouble ∈ gw := gw_t3 162 rfl rfl
theorem q547 : Cond.static yX0_bitsOfDouble ∈ gw := gw_t3 163 rfl rfl
theorem q548 : Cond.code yX0_bitsOfDouble prog_2_method_12_code 6 (Option.some Jvm.ClassFile.FieldType.long) ∈ gw := gw_t3 164 rfl rfl
theorem q549 : Cond.constantDouble "LeapJoin$Figures" 57 (4611686018427387904 : UInt64) ∈ gw := gw_t3 165 rfl rfl
theorem q550 : Cond.constantDouble "LeapJoin$Figures" 59 (4841369599423283200 : UInt64) ∈ gw := gw_t3 166 rfl rfl
theorem q551 : Cond.methodLink "LeapJoinLaw" 121 yX8_meanAs ∈ gw := gw_t3 167 rfl rfl
theorem q552 : Cond.instanceMethod yX8_meanAs ∈ gw := gw_t3 168 rfl rfl
theorem q553 : Cond.selects "LeapJoin" yX8_meanAs yX8_meanAs ∈ gw := gw_t3 169 rfl rfl
theorem q554 : Cond.code yX8_meanAs prog_1_method_28_code 5 (Option.some Jvm.ClassFile.FieldType.int) ∈ gw := gw_t3 170 rfl rfl
theorem q555 : Cond.constant "LeapJoin" 260 (-1000000 : Int32) ∈ gw := gw_t3 171 rfl rfl
theorem q556 : Cond.methodLink "LeapJoin" 261 yX0_bitsOfFloat ∈ gw := gw_t3 172 rfl rfl
theorem q557 : Cond.static yX0_bitsOfFloat ∈ gw := gw_t3 173 rfl rfl
theorem q558 : Cond.code yX0_bitsOfFloat prog_2_method_13_code 4 (Option.some Jvm.ClassFile.FieldType.int) ∈ gw := gw_t3 174 rfl rfl
theorem q559 : Cond.methodLink "LeapJoin$Figures" 61 yX0_bitsOfDouble ∈ gw := gw_t3 175 rfl rfl
theorem q560 : Cond.constantLong "LeapJoin$Figures" 65 (8388607 : Int64) ∈ gw := gw_t3 176 rfl rfl
theorem q561 : Cond.methodLink "LeapJoinLaw" 125 yX8_spread ∈ gw := gw_t3 177 rfl rfl
theorem q562 : Cond.instanceMethod yX8_spread ∈ gw := gw_t3 178 rfl rfl
theorem q563 : Cond.selects "LeapJoin" yX8_spread yX8_spread ∈ gw := gw_t3 179 rfl rfl
theorem q564 : Cond.code yX8_spread prog_1_method_29_code 2 (Option.some Jvm.ClassFile.FieldType.long) ∈ gw := gw_t3 180 rfl rfl
theorem q565 : Cond.methodLink "LeapJoin" 265 yX0_spreadOf ∈ gw := gw_t3 181 rfl rfl
theorem q566 : Cond.instanceMethod yX0_spreadOf ∈ gw := gw_t3 182 rfl rfl
theorem q567 : Cond.selects "LeapJoin$Figures" yX0_spreadOf yX0_spreadOf ∈ gw := gw_t3 183 rfl rfl
theorem q568 : Cond.code yX0_spreadOf prog_2_method_11_code 10 (Option.some Jvm.ClassFile.FieldType.double) ∈ gw := gw_t3 184 rfl rfl
theorem q569 : Cond.methodLink "LeapJoin$Figures" 53 yX0_meanOf ∈ gw := gw_t3 185 rfl rfl
theorem q570 : Cond.methodLink "LeapJoinLaw" 129 yX8_skew ∈ gw := gw_t3 186 rfl rfl
theorem q571 : Cond.instanceMethod yX8_skew ∈ gw := gw_t3 187 rfl rfl
theorem q572 : Cond.selects "LeapJoin" yX8_skew yX8_skew ∈ gw := gw_t3 188 rfl rfl
theorem q573 : Cond.code yX8_skew prog_1_method_30_code 3 (Option.some Jvm.ClassFile.FieldType.int) ∈ gw := gw_t3 189 rfl rfl
theorem q574 : Cond.methodLink "LeapJoinLaw" 133 yX8_put ∈ gw := gw_t3 190 rfl rfl
theorem q575 : Cond.instanceMethod yX8_put ∈ gw := gw_t3 191 rfl rfl
theorem q576 : Cond.selects "LeapJoin" yX8_put yX8_put ∈ gw := gw_t3 192 rfl rfl
theorem q577 : Cond.code yX8_put prog_1_method_31_code 5 (Option.some Jvm.ClassFile.FieldType.int) ∈ gw := gw_t3 193 rfl rfl
theorem q578 : Cond.methodLink "LeapJoin" 268 yX8_isDone ∈ gw := gw_t3 194 rfl rfl
theorem q579 : Cond.instanceMethod yX8_isDone ∈ gw := gw_t3 196 rfl rfl
theorem q580 : Cond.code yX8_isDone prog_1_method_35_code 7 (Option.some Jvm.ClassFile.FieldType.boolean) ∈ gw := gw_t3 197 rfl rfl
theorem q581 : Cond.methodLink "LeapJoin" 272 yX8_attempt ∈ gw := gw_t3 198 rfl rfl
theorem q582 : Cond.instanceMethod yX8_attempt ∈ gw := gw_t3 200 rfl rfl
theorem q583 : Cond.code yX8_attempt prog_1_method_36_code 8 (Option.some Jvm.ClassFile.FieldType.int) ∈ gw := gw_t3 201 rfl rfl
theorem q584 : Cond.methodLink "LeapJoin" 275 yX5_refusal ∈ gw := gw_t3 202 rfl rfl
theorem q585 : Cond.instanceMethod yX5_refusal ∈ gw := gw_t3 203 rfl rfl
theorem q586 : Cond.selects "LeapJoin$Tables" yX5_refusal yX5_refusal ∈ gw := gw_t3 204 rfl rfl
theorem q587 : Cond.code yX5_refusal prog_7_method_19_code 7 (Option.some Jvm.ClassFile.FieldType.int) ∈ gw := gw_t3 205 rfl rfl
theorem q588 : Cond.methodLink "LeapJoin$Tables" 72 yX5_isFitting ∈ gw := gw_t3 206 rfl rfl
theorem q589 : Cond.instanceMethod yX5_isFitting ∈ gw := gw_t3 208 rfl rfl
theorem q590 : Cond.code yX5_isFitting prog_7_method_20_code 4 (Option.some Jvm.ClassFile.FieldType.boolean) ∈ gw := gw_t3 209 rfl rfl
theorem q591 : Cond.methodLink "LeapJoin$Tables" 76 yX5_packed ∈ gw := gw_t3 210 rfl rfl
theorem q592 : Cond.static yX5_packed ∈ gw := gw_t3 211 rfl rfl
theorem q593 : Cond.code yX5_packed prog_7_method_2_code 3 (Option.some Jvm.ClassFile.FieldType.int) ∈ gw := gw_t3 212 rfl rfl
theorem q594 : Cond.methodLink "LeapJoin$Tables" 34 yJ9_max_7cf53 ∈ gw := gw_t3 213 rfl rfl
theorem q595 : Cond.methodLink "LeapJoin" 278 yX5_packed ∈ gw := gw_t3 214 rfl rfl
theorem q596 : Cond.methodLink "LeapJoin" 282 yX3_add ∈ gw := gw_t3 215 rfl rfl
theorem q597 : Cond.instanceMethod yX3_add ∈ gw := gw_t3 216 rfl rfl
theorem q598 : Cond.selects "LeapJoin$Past" yX3_add yX3_add ∈ gw := gw_t3 217 rfl rfl
theorem q599 : Cond.code yX3_add prog_5_method_3_code 4 (Option.none : Option Jvm.ClassFile.FieldType) ∈ gw := gw_t3 218 rfl rfl
theorem q600 : Cond.methodLink "LeapJoin$Past" 22 yJ9_min_7cf53 ∈ gw := gw_t3 219 rfl rfl
theorem q601 : Cond.static yJ9_min_7cf53 ∈ gw := gw_t3 220 rfl rfl
theorem q602 : Cond.code yJ9_min_7cf53 prog_18_method_69_code 2 (Option.some Jvm.ClassFile.FieldType.int) ∈ gw := gw_t3 221 rfl rfl
theorem q603 : Cond.methodLink "LeapJoin" 286 yX5_change ∈ gw := gw_t3 222 rfl rfl
theorem q604 : Cond.instanceMethod yX5_change ∈ gw := gw_t3 223 rfl rfl
theorem q605 : Cond.selects "LeapJoin$Tables" yX5_change yX5_change ∈ gw := gw_t3 224 rfl rfl
theorem q606 : Cond.code yX5_change prog_7_method_21_code 4 (Option.none : Option Jvm.ClassFile.FieldType) ∈ gw := gw_t3 225 rfl rfl
theorem q607 : Cond.methodLink "LeapJoin$Tables" 80 yX5_insert ∈ gw := gw_t3 226 rfl rfl
theorem q608 : Cond.methodLink "LeapJoin$Tables" 84 yX5_remove ∈ gw := gw_t3 227 rfl rfl
theorem q609 : Cond.instanceMethod yX5_remove ∈ gw := gw_t3 229 rfl rfl
theorem q610 : Cond.code yX5_remove prog_7_method_18_code 6 (Option.none : Option Jvm.ClassFile.FieldType) ∈ gw := gw_t3 230 rfl rfl
theorem q611 : Cond.methodLink "LeapJoin" 289 yX2_add ∈ gw := gw_t3 231 rfl rfl
theorem q612 : Cond.instanceMethod yX2_add ∈ gw := gw_t3 232 rfl rfl
theorem q613 : Cond.selects "LeapJoin$Log" yX2_add yX2_add ∈ gw := gw_t3 233 rfl rfl
theorem q614 : Cond.code yX2_add prog_4_method_4_code 4 (Option.none : Option Jvm.ClassFile.FieldType) ∈ gw := gw_t3 234 rfl rfl
theorem q615 : Cond.methodLink "LeapJoin$Log" 28 yJ9_min_7cf53 ∈ gw := gw_t3 235 rfl rfl
theorem q616 : Cond.methodLink "LeapJoinLaw" 137 yX8_take ∈ gw := gw_t3 236 rfl rfl
theorem q617 : Cond.instanceMethod yX8_take ∈ gw := gw_t3 237 rfl rfl
theorem q618 : Cond.selects "LeapJoin" yX8_take yX8_take ∈ gw := gw_t3 238 rfl rfl
theorem q619 : Cond.code yX8_take prog_1_method_32_code 5 (Option.some Jvm.ClassFile.FieldType.int) ∈ gw := gw_t3 239 rfl rfl
theorem q620 : Cond.methodLink "LeapJoinLaw" 141 yX8_use ∈ gw := gw_t4 0 rfl rfl
theorem q621 : Cond.instanceMethod yX8_use ∈ gw := gw_t4 1 rfl rfl
theorem q622 : Cond.selects "LeapJoin" yX8_use yX8_use ∈ gw := gw_t4 2 rfl rfl
theorem q623 : Cond.code yX8_use prog_1_method_33_code 2 (Option.some Jvm.ClassFile.FieldType.int) ∈ gw := gw_t4 3 rfl rfl
theorem q624 : Cond.methodLink "LeapJoinLaw" 145 yX8_order ∈ gw := gw_t4 4 rfl rfl
theorem q625 : Cond.instanceMethod yX8_order ∈ gw := gw_t4 5 rfl rfl
theorem q626 : Cond.selects "LeapJoin" yX8_order yX8_order ∈ gw := gw_t4 6 rfl rfl
theorem q627 : Cond.code yX8_order prog_1_method_34_code 3 (Option.some Jvm.ClassFile.FieldType.int) ∈ gw := gw_t4 7 rfl rfl
theorem q628 : Cond.methodLink "LeapJoinLaw" 151 yX8_ways ∈ gw := gw_t4 8 rfl rfl
theorem q629 : Cond.instanceMethod yX8_ways ∈ gw := gw_t4 9 rfl rfl
theorem q630 : Cond.selects "LeapJoin" yX8_ways yX8_ways ∈ gw := gw_t4 10 rfl rfl
theorem q631 : Cond.code yX8_ways prog_1_method_37_code 5 (Option.some Jvm.ClassFile.FieldType.int) ∈ gw := gw_t4 11 rfl rfl
theorem q632 : Cond.methodLink "LeapJoin" 290 yX8_goOneWay ∈ gw := gw_t4 12 rfl rfl
theorem q633 : Cond.instanceMethod yX8_goOneWay ∈ gw := gw_t4 14 rfl rfl
theorem q634 : Cond.code yX8_goOneWay prog_1_method_38_code 7 (Option.none : Option Jvm.ClassFile.FieldType) ∈ gw := gw_t4 15 rfl rfl
theorem q635 : Cond.methodLink "LeapJoin" 293 yX8_draw ∈ gw := gw_t4 16 rfl rfl
theorem q636 : Cond.instanceMethod yX8_draw ∈ gw := gw_t4 18 rfl rfl
theorem q637 : Cond.code yX8_draw prog_1_method_39_code 2 (Option.some Jvm.ClassFile.FieldType.int) ∈ gw := gw_t4 19 rfl rfl
theorem q638 : Cond.constantLong "LeapJoin" 299 (6364136223846793005 : Int64) ∈ gw := gw_t4 20 rfl rfl
theorem q639 : Cond.constantLong "LeapJoin" 301 (1442695040888963407 : Int64) ∈ gw := gw_t4 21 rfl rfl
theorem q640 : Cond.methodLink "LeapJoin" 296 yX8_cell ∈ gw := gw_t4 22 rfl rfl
theorem q641 : Cond.methodLink "LeapJoinLaw" 156 yX8_status ∈ gw := gw_t4 23 rfl rfl
theorem q642 : Cond.instanceMethod yX8_status ∈ gw := gw_t4 24 rfl rfl
theorem q643 : Cond.selects "LeapJoin" yX8_status yX8_status ∈ gw := gw_t4 25 rfl rfl
theorem q644 : Cond.code yX8_status prog_1_method_40_code 2 (Option.some Jvm.ClassFile.FieldType.int) ∈ gw := gw_t4 26 rfl rfl
theorem q645 : Cond.methodLink "LeapJoinLaw" 160 yX8_undo ∈ gw := gw_t4 27 rfl rfl
theorem q646 : Cond.instanceMethod yX8_undo ∈ gw := gw_t4 28 rfl rfl
theorem q647 : Cond.selects "LeapJoin" yX8_undo yX8_undo ∈ gw := gw_t4 29 rfl rfl
theorem q648 : Cond.code yX8_undo prog_1_method_41_code 1 (Option.some Jvm.ClassFile.FieldType.int) ∈ gw := gw_t4 30 rfl rfl
theorem q649 : Cond.methodLink "LeapJoin" 304 yX3_dropLatest ∈ gw := gw_t4 31 rfl rfl
theorem q650 : Cond.instanceMethod yX3_dropLatest ∈ gw := gw_t4 32 rfl rfl
theorem q651 : Cond.selects "LeapJoin$Past" yX3_dropLatest yX3_dropLatest ∈ gw := gw_t4 33 rfl rfl
theorem q652 : Cond.code yX3_dropLatest prog_5_method_4_code 1 (Option.none : Option Jvm.ClassFile.FieldType) ∈ gw := gw_t4 34 rfl rfl
theorem q653 : Cond.methodLink "LeapJoin" 307 yX3_sortDropped ∈ gw := gw_t4 35 rfl rfl
theorem q654 : Cond.instanceMethod yX3_sortDropped ∈ gw := gw_t4 36 rfl rfl
theorem q655 : Cond.selects "LeapJoin$Past" yX3_sortDropped yX3_sortDropped ∈ gw := gw_t4 37 rfl rfl
theorem q656 : Cond.code yX3_sortDropped prog_5_method_5_code 1 (Option.some Jvm.ClassFile.FieldType.int) ∈ gw := gw_t4 38 rfl rfl
theorem q657 : Cond.methodLink "LeapJoin" 310 yX3_numberDropped ∈ gw := gw_t4 39 rfl rfl
theorem q658 : Cond.instanceMethod yX3_numberDropped ∈ gw := gw_t4 40 rfl rfl
theorem q659 : Cond.selects "LeapJoin$Past" yX3_numberDropped yX3_numberDropped ∈ gw := gw_t4 41 rfl rfl
theorem q660 : Cond.code yX3_numberDropped prog_5_method_6_code 1 (Option.some Jvm.ClassFile.FieldType.int) ∈ gw := gw_t4 42 rfl rfl
theorem q661 : Cond.methodLink "LeapJoin" 313 yX3_rowDropped ∈ gw := gw_t4 43 rfl rfl
theorem q662 : Cond.instanceMethod yX3_rowDropped ∈ gw := gw_t4 44 rfl rfl
theorem q663 : Cond.selects "LeapJoin$Past" yX3_rowDropped yX3_rowDropped ∈ gw := gw_t4 45 rfl rfl
theorem q664 : Cond.code yX3_rowDropped prog_5_method_7_code 1 (Option.some Jvm.ClassFile.FieldType.int) ∈ gw := gw_t4 46 rfl rfl
theorem q665 : Cond.methodLink "LeapJoin" 316 yX5_changeBack ∈ gw := gw_t4 47 rfl rfl
theorem q666 : Cond.instanceMethod yX5_changeBack ∈ gw := gw_t4 48 rfl rfl
theorem q667 : Cond.selects "LeapJoin$Tables" yX5_changeBack yX5_changeBack ∈ gw := gw_t4 49 rfl rfl
theorem q668 : Cond.code yX5_changeBack prog_7_method_22_code 4 (Option.none : Option Jvm.ClassFile.FieldType) ∈ gw := gw_t4 50 rfl rfl
theorem q669 : Cond.methodLink "LeapJoin$Tables" 87 yX5_change ∈ gw := gw_t4 51 rfl rfl
theorem q670 : Cond.methodLink "LeapJoin" 319 yX2_dropLatest ∈ gw := gw_t4 52 rfl rfl
theorem q671 : Cond.instanceMethod yX2_dropLatest ∈ gw := gw_t4 53 rfl rfl
theorem q672 : Cond.selects "LeapJoin$Log" yX2_dropLatest yX2_dropLatest ∈ gw := gw_t4 54 rfl rfl
theorem q673 : Cond.code yX2_dropLatest prog_4_method_5_code 1 (Option.none : Option Jvm.ClassFile.FieldType) ∈ gw := gw_t4 55 rfl rfl
theorem q674 : Cond.methodLink "LeapJoinLaw" 164 yX8_log ∈ gw := gw_t4 56 rfl rfl
theorem q675 : Cond.instanceMethod yX8_log ∈ gw := gw_t4 57 rfl rfl
theorem q676 : Cond.selects "LeapJoin" yX8_log yX8_log ∈ gw := gw_t4 58 rfl rfl
theorem q677 : Cond.code yX8_log prog_1_method_42_code 3 (Option.some Jvm.ClassFile.FieldType.int) ∈ gw := gw_t4 59 rfl rfl
theorem q678 : Cond.methodLink "LeapJoin" 320 yX2_shown ∈ gw := gw_t4 60 rfl rfl
theorem q679 : Cond.instanceMethod yX2_shown ∈ gw := gw_t4 61 rfl rfl
theorem q680 : Cond.selects "LeapJoin$Log" yX2_shown yX2_shown ∈ gw := gw_t4 62 rfl rfl
theorem q681 : Cond.code yX2_shown prog_4_method_6_code 1 (Option.some Jvm.ClassFile.FieldType.int) ∈ gw := gw_t4 63 rfl rfl
theorem q682 : Cond.methodLink "LeapJoin" 323 yX2_partOf ∈ gw := gw_t4 64 rfl rfl
theorem q683 : Cond.instanceMethod yX2_partOf ∈ gw := gw_t4 65 rfl rfl
theorem q684 : Cond.selects "LeapJoin$Log" yX2_partOf yX2_partOf ∈ gw := gw_t4 66 rfl rfl
theorem q685 : Cond.code yX2_partOf prog_4_method_7_code 3 (Option.some Jvm.ClassFile.FieldType.int) ∈ gw := gw_t4 67 rfl rfl
theorem q686 : Cond.methodLink "LeapJoinLaw" 168 yX8_would ∈ gw := gw_t4 68 rfl rfl
theorem q687 : Cond.instanceMethod yX8_would ∈ gw := gw_t4 69 rfl rfl
theorem q688 : Cond.selects "LeapJoin" yX8_would yX8_would ∈ gw := gw_t4 70 rfl rfl
theorem q689 : Cond.code yX8_would prog_1_method_43_code 6 (Option.some Jvm.ClassFile.FieldType.int) ∈ gw := gw_t4 71 rfl rfl
theorem q690 : Cond.methodLink "LeapJoinLaw" 172 yX8_step ∈ gw := gw_t4 72 rfl rfl
theorem q691 : Cond.instanceMethod yX8_step ∈ gw := gw_t4 73 rfl rfl
theorem q692 : Cond.selects "LeapJoin" yX8_step yX8_step ∈ gw := gw_t4 74 rfl rfl
theorem q693 : Cond.code yX8_step prog_1_method_44_code 4 (Option.some Jvm.ClassFile.FieldType.int) ∈ gw := gw_t4 75 rfl rfl
theorem q694 : Cond.methodLink "LeapJoin" 326 yX8_isScript ∈ gw := gw_t4 76 rfl rfl
theorem q695 : Cond.instanceMethod yX8_isScript ∈ gw := gw_t4 78 rfl rfl
theorem q696 : Cond.code yX8_isScript prog_1_method_45_code 2 (Option.some Jvm.ClassFile.FieldType.boolean) ∈ gw := gw_t4 79 rfl rfl
theorem q697 : Cond.methodLink "LeapJoin" 330 yX4_partOf ∈ gw := gw_t4 80 rfl rfl
theorem q698 : Cond.instanceMethod yX4_partOf ∈ gw := gw_t4 81 rfl rfl
theorem q699 : Cond.selects "LeapJoin$Script" yX4_partOf yX4_partOf ∈ gw := gw_t4 82 rfl rfl
theorem q700 : Cond.code yX4_partOf prog_6_method_6_code 3 (Option.some Jvm.ClassFile.FieldType.int) ∈ gw := gw_t4 83 rfl rfl
theorem q701 : Cond.methodLink "LeapJoinLaw" 176 yX8_run ∈ gw := gw_t4 84 rfl rfl
theorem q702 : Cond.instanceMethod yX8_run ∈ gw := gw_t4 85 rfl rfl
theorem q703 : Cond.selects "LeapJoin" yX8_run yX8_run ∈ gw := gw_t4 86 rfl rfl
theorem q704 : Cond.code yX8_run prog_1_method_46_code 4 (Option.some Jvm.ClassFile.FieldType.int) ∈ gw := gw_t4 87 rfl rfl
theorem q705 : Cond.methodLink "LeapJoin" 331 yX4_rehearse ∈ gw := gw_t4 88 rfl rfl
theorem q706 : Cond.instanceMethod yX4_rehearse ∈ gw := gw_t4 89 rfl rfl
theorem q707 : Cond.selects "LeapJoin$Script" yX4_rehearse yX4_rehearse ∈ gw := gw_t4 90 rfl rfl
theorem q708 : Cond.code yX4_rehearse prog_6_method_7_code 8 (Option.some Jvm.ClassFile.FieldType.int) ∈ gw := gw_t4 91 rfl rfl
theorem q709 : Cond.methodLink "LeapJoin$Script" 31 yX4_partOf ∈ gw := gw_t4 92 rfl rfl
theorem q710 : Cond.methodLink "LeapJoin$Script" 35 yX5_refusal ∈ gw := gw_t4 93 rfl rfl
theorem q711 : Cond.methodLink "LeapJoin$Script" 41 yX5_packed ∈ gw := gw_t4 94 rfl rfl
theorem q712 : Cond.methodLink "LeapJoin$Script" 45 yX5_change ∈ gw := gw_t4 95 rfl rfl
theorem q713 : Cond.methodLink "LeapJoinLaw" 180 yX8_perform ∈ gw := gw_t4 96 rfl rfl
theorem q714 : Cond.instanceMethod yX8_perform ∈ gw := gw_t4 97 rfl rfl
theorem q715 : Cond.selects "LeapJoin" yX8_perform yX8_perform ∈ gw := gw_t4 98 rfl rfl
theorem q716 : Cond.code yX8_perform prog_1_method_47_code 5 (Option.some Jvm.ClassFile.FieldType.int) ∈ gw := gw_t4 99 rfl rfl
theorem q717 : Cond.methodLink "LeapJoinLaw" 184 yX8_most ∈ gw := gw_t4 100 rfl rfl
theorem q718 : Cond.instanceMethod yX8_most ∈ gw := gw_t4 101 rfl rfl
theorem q719 : Cond.selects "LeapJoin" yX8_most yX8_most ∈ gw := gw_t4 102 rfl rfl
theorem q720 : Cond.code yX8_most prog_1_method_48_code 2 (Option.some Jvm.ClassFile.FieldType.int) ∈ gw := gw_t4 103 rfl rfl
theorem q721 : Cond.methodLink "LeapJoin" 334 yX5_allNumbers ∈ gw := gw_t4 104 rfl rfl
theorem q722 : Cond.instanceMethod yX5_allNumbers ∈ gw := gw_t4 105 rfl rfl
theorem q723 : Cond.selects "LeapJoin$Tables" yX5_allNumbers yX5_allNumbers ∈ gw := gw_t4 106 rfl rfl
theorem q724 : Cond.code yX5_allNumbers prog_7_method_13_code 5 (Option.some Jvm.ClassFile.FieldType.int) ∈ gw := gw_t4 107 rfl rfl
theorem q725 : Cond.methodLink "LeapJoin" 337 yX8_tableWithMostRows ∈ gw := gw_t4 108 rfl rfl
theorem q726 : Cond.instanceMethod yX8_tableWithMostRows ∈ gw := gw_t4 110 rfl rfl
theorem q727 : Cond.code yX8_tableWithMostRows prog_1_method_49_code 3 (Option.some Jvm.ClassFile.FieldType.int) ∈ gw := gw_t4 111 rfl rfl
theorem q728 : Cond.methodLink "LeapJoin" 340 yX8_tableWithMostGiven ∈ gw := gw_t4 112 rfl rfl
theorem q729 : Cond.instanceMethod yX8_tableWithMostGiven ∈ gw := gw_t4 114 rfl rfl
theorem q730 : Cond.code yX8_tableWithMostGiven prog_1_method_51_code 5 (Option.some Jvm.ClassFile.FieldType.int) ∈ gw := gw_t4 115 rfl rfl
theorem q731 : Cond.methodLink "LeapJoin" 357 yX8_givenRows ∈ gw := gw_t4 116 rfl rfl
theorem q732 : Cond.instanceMethod yX8_givenRows ∈ gw := gw_t4 118 rfl rfl
theorem q733 : Cond.code yX8_givenRows prog_1_method_50_code 2 (Option.some Jvm.ClassFile.FieldType.int) ∈ gw := gw_t4 119 rfl rfl
theorem q734 : Cond.methodLink "LeapJoin" 352 yJ6_bitCount_0f7a4 ∈ gw := gw_t4 120 rfl rfl
theorem q735 : Cond.static yJ6_bitCount_0f7a4 ∈ gw := gw_t4 121 rfl rfl
theorem q736 : Cond.code yJ6_bitCount_0f7a4 prog_17_method_49_code 1 (Option.some Jvm.ClassFile.FieldType.int) ∈ gw := gw_t4 122 rfl rfl
theorem q737 : Cond.constant "java/lang/Integer" 265 (1431655765 : Int32) ∈ gw := gw_t4 123 rfl rfl
theorem q738 : Cond.constant "java/lang/Integer" 266 (858993459 : Int32) ∈ gw := gw_t4 124 rfl rfl
theorem q739 : Cond.constant "java/lang/Integer" 267 (252645135 : Int32) ∈ gw := gw_t4 125 rfl rfl
theorem q740 : Cond.methodLink "LeapJoin" 343 yX8_dangling ∈ gw := gw_t4 126 rfl rfl
theorem q741 : Cond.instanceMethod yX8_dangling ∈ gw := gw_t4 128 rfl rfl
theorem q742 : Cond.code yX8_dangling prog_1_method_52_code 3 (Option.some Jvm.ClassFile.FieldType.int) ∈ gw := gw_t4 129 rfl rfl
theorem q743 : Cond.methodLink "LeapJoin" 346 yX8_tellingCouples ∈ gw := gw_t4 130 rfl rfl
theorem q744 : Cond.instanceMethod yX8_tellingCouples ∈ gw := gw_t4 132 rfl rfl
theorem q745 : Cond.code yX8_tellingCouples prog_1_method_53_code 4 (Option.some Jvm.ClassFile.FieldType.int) ∈ gw := gw_t4 133 rfl rfl
theorem q746 : Cond.methodLink "LeapJoin" 360 yX8_tells ∈ gw := gw_t4 134 rfl rfl
theorem q747 : Cond.methodLink "LeapJoinLaw" 188 yX8_image ∈ gw := gw_t4 135 rfl rfl
theorem q748 : Cond.instanceMethod yX8_image ∈ gw := gw_t4 136 rfl rfl
theorem q749 : Cond.selects "LeapJoin" yX8_image yX8_image ∈ gw := gw_t4 137 rfl rfl
theorem q750 : Cond.code yX8_image prog_1_method_54_code 1 (Option.some Jvm.ClassFile.FieldType.int) ∈ gw := gw_t4 138 rfl rfl
theorem q751 : Cond.methodLink "LeapJoin" 364 yX2_copyFrom ∈ gw := gw_t4 139 rfl rfl
theorem q752 : Cond.instanceMethod yX2_copyFrom ∈ gw := gw_t4 140 rfl rfl
theorem q753 : Cond.selects "LeapJoin$Log" yX2_copyFrom yX2_copyFrom ∈ gw := gw_t4 141 rfl rfl
theorem q754 : Cond.code yX2_copyFrom prog_4_method_3_code 2 (Option.none : Option Jvm.ClassFile.FieldType) ∈ gw := gw_t4 142 rfl rfl
theorem q755 : Cond.methodLink "LeapJoin$Log" 22 (⟨"java/lang/System", "arraycopy", "(Ljava/lang/Object;ILjava/lang/Object;II)V"⟩ : MethodName) ∈ gw := gw_t4 143 rfl rfl
theorem q756 : Cond.methodLink "LeapJoinLaw" 192 yX8_back ∈ gw := gw_t4 144 rfl rfl
theorem q757 : Cond.instanceMethod yX8_back ∈ gw := gw_t4 145 rfl rfl
theorem q758 : Cond.selects "LeapJoin" yX8_back yX8_back ∈ gw := gw_t4 146 rfl rfl
theorem q759 : Cond.code yX8_back prog_1_method_55_code 1 (Option.some Jvm.ClassFile.FieldType.int) ∈ gw := gw_t4 147 rfl rfl
theorem q760 : Cond.methodLink "LeapJoinLaw" 196 yX8_count ∈ gw := gw_t4 148 rfl rfl
theorem q761 : Cond.instanceMethod yX8_count ∈ gw := gw_t4 149 rfl rfl
theorem q762 : Cond.selects "LeapJoin" yX8_count yX8_count ∈ gw := gw_t4 150 rfl rfl
theorem q763 : Cond.code yX8_count prog_1_method_56_code 2 (Option.some Jvm.ClassFile.FieldType.int) ∈ gw := gw_t4 151 rfl rfl
theorem q764 : Cond.methodLink "LeapJoinLaw" 42 yL_table ∈ gw := gw_t4 152 rfl rfl
theorem q765 : Cond.static yL_table ∈ gw := gw_t4 153 rfl rfl
theorem q766 : Cond.classLink "LeapJoinLaw" 13 "java/util/NoSuchElementException" ∈ gw := gw_t4 155 rfl rfl
theorem q767 : Cond.methodLink "LeapJoinLaw" 7 yX8_table ∈ gw := gw_t4 156 rfl rfl
theorem q768 : Cond.instanceMethod yX8_table ∈ gw := gw_t4 157 rfl rfl
theorem q769 : Cond.selects "LeapJoin" yX8_table yX8_table ∈ gw := gw_t4 158 rfl rfl
theorem q770 : Cond.code yX8_table prog_1_method_10_code 3 (Option.some Jvm.ClassFile.FieldType.int) ∈ gw := gw_t4 159 rfl rfl
theorem q771 : Cond.classLink "LeapJoin" 163 "java/util/NoSuchElementException" ∈ gw := gw_t4 160 rfl rfl
theorem q772 : Cond.instantiable "java/util/NoSuchElementException" 6 ∈ gw := gw_t4 161 rfl rfl
theorem q773 : Cond.selects "java/util/NoSuchElementException" (⟨"java/lang/Throwable", "fillInStackTrace", "(I)Ljava/lang/Throwable;"⟩ : MethodName) (⟨"java/lang/Throwable", "fillInStackTrace", "(I)Ljava/lang/Throwable;"⟩ : MethodName) ∈ gw := gw_t4 169 rfl rfl
theorem q774 : Cond.selects "java/util/NoSuchElementException" (⟨"java/lang/Throwable", "fillInStackTrace", "()Ljava/lang/Throwable;"⟩ : MethodName) (⟨"java/lang/Throwable", "fillInStackTrace", "()Ljava/lang/Throwable;"⟩ : MethodName) ∈ gw := gw_t4 170 rfl rfl
theorem q775 : Cond.lays "java/util/NoSuchElementException" "java/lang/Throwable" "cause" "Ljava/lang/Throwable;" ∈ gw := gw_t4 171 rfl rfl
theorem q776 : Cond.lays "java/lang/Throwable" "java/lang/Throwable" "cause" "Ljava/lang/Throwable;" ∈ gw := gw_t4 172 rfl rfl
theorem q777 : Cond.lays "java/util/NoSuchElementException" "java/lang/Throwable" "stackTrace" "[Ljava/lang/StackTraceElement;" ∈ gw := gw_t4 173 rfl rfl
theorem q778 : Cond.lays "java/lang/Throwable" "java/lang/Throwable" "stackTrace" "[Ljava/lang/StackTraceElement;" ∈ gw := gw_t4 174 rfl rfl
theorem q779 : Cond.lays "java/util/NoSuchElementException" "java/lang/Throwable" "suppressedExceptions" "Ljava/util/List;" ∈ gw := gw_t4 175 rfl rfl
theorem q780 : Cond.lays "java/lang/Throwable" "java/lang/Throwable" "suppressedExceptions" "Ljava/util/List;" ∈ gw := gw_t4 176 rfl rfl
theorem q781 : Cond.lays "java/util/NoSuchElementException" "java/lang/Throwable" "detailMessage" "Ljava/lang/String;" ∈ gw := gw_t4 177 rfl rfl
theorem q782 : Cond.lays "java/lang/Throwable" "java/lang/Throwable" "detailMessage" "Ljava/lang/String;" ∈ gw := gw_t4 178 rfl rfl
theorem q783 : Cond.lays "java/util/NoSuchElementException" "java/lang/Throwable" "backtrace" "Ljava/lang/Object;" ∈ gw := gw_t4 179 rfl rfl
theorem q784 : Cond.lays "java/lang/Throwable" "java/lang/Throwable" "backtrace" "Ljava/lang/Object;" ∈ gw := gw_t4 180 rfl rfl
theorem q785 : Cond.fieldLink "java/lang/Throwable" 198 "java/lang/Throwable" "backtrace" "Ljava/lang/Object;" ∈ gw := gw_t4 181 rfl rfl
theorem q786 : Cond.instanceMethod (⟨"java/lang/Throwable", "<init>", "()V"⟩ : MethodName) ∈ gw := gw_t4 183 rfl rfl
theorem q787 : Cond.code (⟨"java/lang/Throwable", "<init>", "()V"⟩ : MethodName) prog_23_method_1_code 1 (Option.none : Option Jvm.ClassFile.FieldType) ∈ gw := gw_t4 184 rfl rfl
theorem q788 : Cond.methodLink "java/lang/Throwable" 1 objectInit ∈ gw := gw_t4 185 rfl rfl
theorem q789 : Cond.fieldLink "java/lang/Throwable" 13 "java/lang/Throwable" "UNASSIGNED_STACK" "[Ljava/lang/StackTraceElement;" ∈ gw := gw_t4 186 rfl rfl
theorem q790 : Cond.fieldLink "java/lang/Throwable" 20 "java/lang/Throwable" "SUPPRESSED_SENTINEL" "Ljava/util/List;" ∈ gw := gw_t4 188 rfl rfl
theorem q791 : Cond.methodLink "java/lang/Throwable" 27 (⟨"java/lang/Throwable", "fillInStackTrace", "()Ljava/lang/Throwable;"⟩ : MethodName) ∈ gw := gw_t4 190 rfl rfl
theorem q792 : Cond.instanceMethod (⟨"java/lang/Throwable", "fillInStackTrace", "()Ljava/lang/Throwable;"⟩ : MethodName) ∈ gw := gw_t4 191 rfl rfl
theorem q793 : Cond.methodLink "java/lang/Throwable" 202 (⟨"java/lang/Throwable", "fillInStackTrace", "(I)Ljava/lang/Throwable;"⟩ : MethodName) ∈ gw := gw_t4 194 rfl rfl
theorem q794 : Cond.instanceMethod (⟨"java/lang/Throwable", "fillInStackTrace", "(I)Ljava/lang/Throwable;"⟩ : MethodName) ∈ gw := gw_t4 196 rfl rfl
theorem q795 : Cond.instantiable "java/lang/Throwable" 6 ∈ gw := gw_t4 197 rfl rfl
theorem q796 : Cond.methodLink "LeapJoin" 167 (⟨"java/util/NoSuchElementException", "<init>", "(Ljava/lang/String;)V"⟩ : MethodName) ∈ gw := gw_t4 200 rfl rfl
theorem q797 : Cond.instanceMethod (⟨"java/util/NoSuchElementException", "<init>", "(Ljava/lang/String;)V"⟩ : MethodName) ∈ gw := gw_t4 201 rfl rfl
theorem q798 : Cond.code (⟨"java/util/NoSuchElementException", "<init>", "(Ljava/lang/String;)V"⟩ : MethodName) prog_27_method_4_code 2 (Option.none : Option Jvm.ClassFile.FieldType) ∈ gw := gw_t4 202 rfl rfl
theorem q799 : Cond.methodLink "java/util/NoSuchElementException" 13 (⟨"java/lang/RuntimeException", "<init>", "(Ljava/lang/String;)V"⟩ : MethodName) ∈ gw := gw_t4 203 rfl rfl
theorem q800 : Cond.instanceMethod (⟨"java/lang/RuntimeException", "<init>", "(Ljava/lang/String;)V"⟩ : MethodName) ∈ gw := gw_t4 204 rfl rfl
theorem q801 : Cond.code (⟨"java/lang/RuntimeException", "<init>", "(Ljava/lang/String;)V"⟩ : MethodName) prog_20_method_2_code 2 (Option.none : Option Jvm.ClassFile.FieldType) ∈ gw := gw_t4 205 rfl rfl
theorem q802 : Cond.methodLink "java/lang/RuntimeException" 7 (⟨"java/lang/Exception", "<init>", "(Ljava/lang/String;)V"⟩ : MethodName) ∈ gw := gw_t4 206 rfl rfl
theorem q803 : Cond.instanceMethod (⟨"java/lang/Exception", "<init>", "(Ljava/lang/String;)V"⟩ : MethodName) ∈ gw := gw_t4 207 rfl rfl
theorem q804 : Cond.code (⟨"java/lang/Exception", "<init>", "(Ljava/lang/String;)V"⟩ : MethodName) prog_15_method_2_code 2 (Option.none : Option Jvm.ClassFile.FieldType) ∈ gw := gw_t4 208 rfl rfl
theorem q805 : Cond.methodLink "java/lang/Exception" 7 (⟨"java/lang/Throwable", "<init>", "(Ljava/lang/String;)V"⟩ : MethodName) ∈ gw := gw_t4 209 rfl rfl
theorem q806 : Cond.instanceMethod (⟨"java/lang/Throwable", "<init>", "(Ljava/lang/String;)V"⟩ : MethodName) ∈ gw := gw_t4 210 rfl rfl
theorem q807 : Cond.code (⟨"java/lang/Throwable", "<init>", "(Ljava/lang/String;)V"⟩ : MethodName) prog_23_method_2_code 2 (Option.none : Option Jvm.ClassFile.FieldType) ∈ gw := gw_t4 211 rfl rfl
theorem q808 : Cond.fieldLink "java/lang/Throwable" 31 "java/lang/Throwable" "detailMessage" "Ljava/lang/String;" ∈ gw := gw_t4 213 rfl rfl
theorem q809 : Cond.fieldLink "java/lang/Throwable" 7 "java/lang/Throwable" "cause" "Ljava/lang/Throwable;" ∈ gw := gw_t4 214 rfl rfl
theorem q810 : Cond.fieldLink "java/lang/Throwable" 17 "java/lang/Throwable" "stackTrace" "[Ljava/lang/StackTraceElement;" ∈ gw := gw_t4 215 rfl rfl
theorem q811 : Cond.fieldLink "java/lang/Throwable" 24 "java/lang/Throwable" "suppressedExceptions" "Ljava/util/List;" ∈ gw := gw_t4 216 rfl rfl
theorem q812 : Cond.lays "java/util/NoSuchElementException" "java/lang/Throwable" "depth" "I" ∈ gw := gw_t4 221 rfl rfl
theorem q813 : Cond.methodLink "LeapJoin" 173 yX5_lettersOf ∈ gw := gw_t4 225 rfl rfl
theorem q814 : Cond.classLink "LeapJoinLaw" 16 "LeapJoinModel" ∈ gw := gw_t4 226 rfl rfl
theorem q815 : Cond.instantiable "LeapJoinModel" 43 ∈ gw := gw_t4 227 rfl rfl
theorem q816 : Cond.methodLink "LeapJoinLaw" 18 yX9_init ∈ gw := gw_t4 228 rfl rfl
theorem q817 : Cond.instanceMethod yX9_init ∈ gw := gw_t4 229 rfl rfl
theorem q818 : Cond.code yX9_init prog_11_method_4_code 1 (Option.none : Option Jvm.ClassFile.FieldType) ∈ gw := gw_t4 230 rfl rfl
theorem q819 : Cond.methodLink "LeapJoinModel" 3 objectInit ∈ gw := gw_t4 231 rfl rfl
theorem q820 : Cond.constant "LeapJoinModel" 61 (82944 : Int32) ∈ gw := gw_t4 232 rfl rfl
theorem q821 : Cond.fieldLink "LeapJoinModel" 93 "LeapJoinModel" "thrown" "I" ∈ gw := gw_t4 233 rfl rfl
theorem q822 : Cond.fieldLink "LeapJoinModel" 9 "LeapJoinModel" "tape" "[I" ∈ gw := gw_t4 234 rfl rfl
theorem q823 : Cond.fieldLink "LeapJoinModel" 101 "LeapJoinModel" "taped" "I" ∈ gw := gw_t4 235 rfl rfl
theorem q824 : Cond.fieldLink "LeapJoinModel" 108 "LeapJoinModel" "at" "I" ∈ gw := gw_t4 236 rfl rfl
theorem q825 : Cond.fieldLink "LeapJoinModel" 115 "LeapJoinModel" "wrong" "I" ∈ gw := gw_t4 237 rfl rfl
theorem q826 : Cond.fieldLink "LeapJoinModel" 13 "LeapJoinModel" "readWide" "[I" ∈ gw := gw_t4 238 rfl rfl
theorem q827 : Cond.fieldLink "LeapJoinModel" 16 "LeapJoinModel" "readLetters" "[I" ∈ gw := gw_t4 239 rfl rfl
theorem q828 : Cond.fieldLink "LeapJoinModel" 19 "LeapJoinModel" "readMany" "[I" ∈ gw := gw_t5 0 rfl rfl
theorem q829 : Cond.fieldLink "LeapJoinModel" 22 "LeapJoinModel" "readRows" "[I" ∈ gw := gw_t5 1 rfl rfl
theorem q830 : Cond.fieldLink "LeapJoinModel" 152 "LeapJoinModel" "readTables" "I" ∈ gw := gw_t5 2 rfl rfl
theorem q831 : Cond.fieldLink "LeapJoinModel" 25 "LeapJoinModel" "script" "[I" ∈ gw := gw_t5 3 rfl rfl
theorem q832 : Cond.fieldLink "LeapJoinModel" 28 "LeapJoinModel" "scriptLong" "[I" ∈ gw := gw_t5 4 rfl rfl
theorem q833 : Cond.fieldLink "LeapJoinModel" 214 "LeapJoinModel" "scripts" "I" ∈ gw := gw_t5 5 rfl rfl
theorem q834 : Cond.fieldLink "LeapJoinModel" 31 "LeapJoinModel" "now" "[I" ∈ gw := gw_t5 6 rfl rfl
theorem q835 : Cond.fieldLink "LeapJoinModel" 34 "LeapJoinModel" "refused" "[I" ∈ gw := gw_t5 7 rfl rfl
theorem q836 : Cond.fieldLink "LeapJoinModel" 37 "LeapJoinModel" "wide" "[I" ∈ gw := gw_t5 8 rfl rfl
theorem q837 : Cond.fieldLink "LeapJoinModel" 40 "LeapJoinModel" "letters" "[I" ∈ gw := gw_t5 9 rfl rfl
theorem q838 : Cond.fieldLink "LeapJoinModel" 173 "LeapJoinModel" "tables" "I" ∈ gw := gw_t5 10 rfl rfl
theorem q839 : Cond.fieldLink "LeapJoinModel" 43 "LeapJoinModel" "inOrder" "[I" ∈ gw := gw_t5 11 rfl rfl
theorem q840 : Cond.fieldLink "LeapJoinModel" 217 "LeapJoinModel" "depthMany" "I" ∈ gw := gw_t5 12 rfl rfl
theorem q841 : Cond.fieldLink "LeapJoinModel" 46 "LeapJoinModel" "found" "[I" ∈ gw := gw_t5 13 rfl rfl
theorem q842 : Cond.fieldLink "LeapJoinModel" 49 "LeapJoinModel" "keys" "[I" ∈ gw := gw_t5 14 rfl rfl
theorem q843 : Cond.fieldLink "LeapJoinModel" 52 "LeapJoinModel" "keyMany" "[I" ∈ gw := gw_t5 15 rfl rfl
theorem q844 : Cond.fieldLink "LeapJoinModel" 55 "LeapJoinModel" "stand" "[I" ∈ gw := gw_t5 16 rfl rfl
theorem q845 : Cond.fieldLink "LeapJoinModel" 58 "LeapJoinModel" "begun" "[I" ∈ gw := gw_t5 17 rfl rfl
theorem q846 : Cond.fieldLink "LeapJoinModel" 62 "LeapJoinModel" "joined" "[I" ∈ gw := gw_t5 18 rfl rfl
theorem q847 : Cond.fieldLink "LeapJoinModel" 247 "LeapJoinModel" "joinMany" "I" ∈ gw := gw_t5 19 rfl rfl
theorem q848 : Cond.fieldLink "LeapJoinModel" 244 "LeapJoinModel" "leapMany" "I" ∈ gw := gw_t5 20 rfl rfl
theorem q849 : Cond.fieldLink "LeapJoinModel" 65 "LeapJoinModel" "kept" "[I" ∈ gw := gw_t5 21 rfl rfl
theorem q850 : Cond.fieldLink "LeapJoinModel" 204 "LeapJoinModel" "acts" "I" ∈ gw := gw_t5 22 rfl rfl
theorem q851 : Cond.fieldLink "LeapJoinModel" 320 "LeapJoinModel" "drawn" "J" ∈ gw := gw_t5 23 rfl rfl
theorem q852 : Cond.fieldLink "LeapJoinModel" 348 "LeapJoinModel" "bestOrder" "I" ∈ gw := gw_t5 24 rfl rfl
theorem q853 : Cond.fieldLink "LeapJoinModel" 354 "LeapJoinModel" "fewestLeaps" "I" ∈ gw := gw_t5 25 rfl rfl
theorem q854 : Cond.fieldLink "LeapJoinModel" 351 "LeapJoinModel" "mostLeaps" "I" ∈ gw := gw_t5 26 rfl rfl
theorem q855 : Cond.fieldLink "LeapJoinModel" 68 "LeapJoinModel" "timesOf" "[I" ∈ gw := gw_t5 27 rfl rfl
theorem q856 : Cond.fieldLink "LeapJoinModel" 71 "LeapJoinModel" "rankOf" "[I" ∈ gw := gw_t5 28 rfl rfl
theorem q857 : Cond.fieldLink "LeapJoinModel" 74 "LeapJoinModel" "unlikeOf" "[I" ∈ gw := gw_t5 29 rfl rfl
theorem q858 : Cond.fieldLink "LeapJoinModel" 77 "LeapJoinModel" "isMet" "[Z" ∈ gw := gw_t5 30 rfl rfl
theorem q859 : Cond.fieldLink "LeapJoinModel" 81 "LeapJoinModel" "toldBy" "[I" ∈ gw := gw_t5 31 rfl rfl
theorem q860 : Cond.fieldLink "LeapJoinModel" 84 "LeapJoinModel" "given4" "[I" ∈ gw := gw_t5 32 rfl rfl
theorem q861 : Cond.fieldLink "LeapJoinModel" 87 "LeapJoinModel" "aside" "[I" ∈ gw := gw_t5 33 rfl rfl
theorem q862 : Cond.fieldLink "LeapJoinModel" 90 "LeapJoinModel" "image" "[I" ∈ gw := gw_t5 34 rfl rfl
theorem q863 : Cond.fieldLink "LeapJoinModel" 207 "LeapJoinModel" "hasImage" "Z" ∈ gw := gw_t5 35 rfl rfl
theorem q864 : Cond.lays "LeapJoinModel" "LeapJoinModel" "thrown" "I" ∈ gw := gw_t5 36 rfl rfl
theorem q865 : Cond.laysFinal "LeapJoinModel" "LeapJoinModel" "tape" "[I" ∈ gw := gw_t5 38 rfl rfl
theorem q866 : Cond.lays "LeapJoinModel" "LeapJoinModel" "taped" "I" ∈ gw := gw_t5 40 rfl rfl
theorem q867 : Cond.lays "LeapJoinModel" "LeapJoinModel" "at" "I" ∈ gw := gw_t5 42 rfl rfl
theorem q868 : Cond.lays "LeapJoinModel" "LeapJoinModel" "wrong" "I" ∈ gw := gw_t5 44 rfl rfl
theorem q869 : Cond.laysFinal "LeapJoinModel" "LeapJoinModel" "readWide" "[I" ∈ gw := gw_t5 46 rfl rfl
theorem q870 : Cond.laysFinal "LeapJoinModel" "LeapJoinModel" "readLetters" "[I" ∈ gw := gw_t5 48 rfl rfl
theorem q871 : Cond.laysFinal "LeapJoinModel" "LeapJoinModel" "readMany" "[I" ∈ gw := gw_t5 50 rfl rfl
theorem q872 : Cond.laysFinal "LeapJoinModel" "LeapJoinModel" "readRows" "[I" ∈ gw := gw_t5 52 rfl rfl
theorem q873 : Cond.lays "LeapJoinModel" "LeapJoinModel" "readTables" "I" ∈ gw := gw_t5 54 rfl rfl
theorem q874 : Cond.laysFinal "LeapJoinModel" "LeapJoinModel" "script" "[I" ∈ gw := gw_t5 56 rfl rfl
theorem q875 : Cond.laysFinal "LeapJoinModel" "LeapJoinModel" "scriptLong" "[I" ∈ gw := gw_t5 58 rfl rfl
theorem q876 : Cond.lays "LeapJoinModel" "LeapJoinModel" "scripts" "I" ∈ gw := gw_t5 60 rfl rfl
theorem q877 : Cond.laysFinal "LeapJoinModel" "LeapJoinModel" "now" "[I" ∈ gw := gw_t5 62 rfl rfl
theorem q878 : Cond.laysFinal "LeapJoinModel" "LeapJoinModel" "refused" "[I" ∈ gw := gw_t5 64 rfl rfl
theorem q879 : Cond.laysFinal "LeapJoinModel" "LeapJoinModel" "wide" "[I" ∈ gw := gw_t5 66 rfl rfl
theorem q880 : Cond.laysFinal "LeapJoinModel" "LeapJoinModel" "letters" "[I" ∈ gw := gw_t5 68 rfl rfl
theorem q881 : Cond.lays "LeapJoinModel" "LeapJoinModel" "tables" "I" ∈ gw := gw_t5 70 rfl rfl
theorem q882 : Cond.laysFinal "LeapJoinModel" "LeapJoinModel" "inOrder" "[I" ∈ gw := gw_t5 72 rfl rfl
theorem q883 : Cond.lays "LeapJoinModel" "LeapJoinModel" "depthMany" "I" ∈ gw := gw_t5 74 rfl rfl
theorem q884 : Cond.laysFinal "LeapJoinModel" "LeapJoinModel" "found" "[I" ∈ gw := gw_t5 76 rfl rfl
theorem q885 : Cond.laysFinal "LeapJoinModel" "LeapJoinModel" "keys" "[I" ∈ gw := gw_t5 78 rfl rfl
theorem q886 : Cond.laysFinal "LeapJoinModel" "LeapJoinModel" "keyMany" "[I" ∈ gw := gw_t5 80 rfl rfl
theorem q887 : Cond.laysFinal "LeapJoinModel" "LeapJoinModel" "stand" "[I" ∈ gw := gw_t5 82 rfl rfl
theorem q888 : Cond.laysFinal "LeapJoinModel" "LeapJoinModel" "begun" "[I" ∈ gw := gw_t5 84 rfl rfl
theorem q889 : Cond.laysFinal "LeapJoinModel" "LeapJoinModel" "joined" "[I" ∈ gw := gw_t5 86 rfl rfl
theorem q890 : Cond.lays "LeapJoinModel" "LeapJoinModel" "joinMany" "I" ∈ gw := gw_t5 88 rfl rfl
theorem q891 : Cond.lays "LeapJoinModel" "LeapJoinModel" "leapMany" "I" ∈ gw := gw_t5 90 rfl rfl
theorem q892 : Cond.laysFinal "LeapJoinModel" "LeapJoinModel" "kept" "[I" ∈ gw := gw_t5 92 rfl rfl
theorem q893 : Cond.lays "LeapJoinModel" "LeapJoinModel" "acts" "I" ∈ gw := gw_t5 94 rfl rfl
theorem q894 : Cond.lays "LeapJoinModel" "LeapJoinModel" "drawn" "J" ∈ gw := gw_t5 96 rfl rfl
theorem q895 : Cond.lays "LeapJoinModel" "LeapJoinModel" "bestOrder" "I" ∈ gw := gw_t5 98 rfl rfl
theorem q896 : Cond.lays "LeapJoinModel" "LeapJoinModel" "fewestLeaps" "I" ∈ gw := gw_t5 100 rfl rfl
theorem q897 : Cond.lays "LeapJoinModel" "LeapJoinModel" "mostLeaps" "I" ∈ gw := gw_t5 102 rfl rfl
theorem q898 : Cond.laysFinal "LeapJoinModel" "LeapJoinModel" "timesOf" "[I" ∈ gw := gw_t5 104 rfl rfl
theorem q899 : Cond.laysFinal "LeapJoinModel" "LeapJoinModel" "rankOf" "[I" ∈ gw := gw_t5 106 rfl rfl
theorem q900 : Cond.laysFinal "LeapJoinModel" "LeapJoinModel" "unlikeOf" "[I" ∈ gw := gw_t5 108 rfl rfl
theorem q901 : Cond.laysFinal "LeapJoinModel" "LeapJoinModel" "isMet" "[Z" ∈ gw := gw_t5 110 rfl rfl
theorem q902 : Cond.laysFinal "LeapJoinModel" "LeapJoinModel" "toldBy" "[I" ∈ gw := gw_t5 112 rfl rfl
theorem q903 : Cond.laysFinal "LeapJoinModel" "LeapJoinModel" "given4" "[I" ∈ gw := gw_t5 114 rfl rfl
theorem q904 : Cond.laysFinal "LeapJoinModel" "LeapJoinModel" "aside" "[I" ∈ gw := gw_t5 116 rfl rfl
theorem q905 : Cond.laysFinal "LeapJoinModel" "LeapJoinModel" "image" "[I" ∈ gw := gw_t5 118 rfl rfl
theorem q906 : Cond.lays "LeapJoinModel" "LeapJoinModel" "hasImage" "Z" ∈ gw := gw_t5 120 rfl rfl
theorem q907 : Cond.arrayClass Jvm.ClassFile.FieldType.boolean ∈ gw := gw_t5 123 rfl rfl
theorem q908 : Cond.methodLink "LeapJoinLaw" 48 yX9_thrown ∈ gw := gw_t5 124 rfl rfl
theorem q909 : Cond.instanceMethod yX9_thrown ∈ gw := gw_t5 125 rfl rfl
theorem q910 : Cond.selects "LeapJoinModel" yX9_thrown yX9_thrown ∈ gw := gw_t5 126 rfl rfl
theorem q911 : Cond.code yX9_thrown prog_11_method_5_code 1 (Option.some Jvm.ClassFile.FieldType.int) ∈ gw := gw_t5 127 rfl rfl
theorem q912 : Cond.methodLink "LeapJoinLaw" 23 yX9_feed ∈ gw := gw_t5 128 rfl rfl
theorem q913 : Cond.instanceMethod yX9_feed ∈ gw := gw_t5 129 rfl rfl
theorem q914 : Cond.selects "LeapJoinModel" yX9_feed yX9_feed ∈ gw := gw_t5 130 rfl rfl
theorem q915 : Cond.code yX9_feed prog_11_method_7_code 9 (Option.some Jvm.ClassFile.FieldType.int) ∈ gw := gw_t5 131 rfl rfl
theorem q916 : Cond.methodLink "LeapJoinModel" 97 yX9_byteOf ∈ gw := gw_t5 132 rfl rfl
theorem q917 : Cond.static yX9_byteOf ∈ gw := gw_t5 133 rfl rfl
theorem q918 : Cond.code yX9_byteOf prog_11_method_6_code 7 (Option.some Jvm.ClassFile.FieldType.int) ∈ gw := gw_t5 134 rfl rfl
theorem q919 : Cond.methodLink "LeapJoinLaw" 28 yX9_end ∈ gw := gw_t5 135 rfl rfl
theorem q920 : Cond.instanceMethod yX9_end ∈ gw := gw_t5 136 rfl rfl
theorem q921 : Cond.selects "LeapJoinModel" yX9_end yX9_end ∈ gw := gw_t5 137 rfl rfl
theorem q922 : Cond.code yX9_end prog_11_method_8_code 2 (Option.some Jvm.ClassFile.FieldType.boolean) ∈ gw := gw_t5 138 rfl rfl
theorem q923 : Cond.methodLink "LeapJoinModel" 104 yX9_in ∈ gw := gw_t5 139 rfl rfl
theorem q924 : Cond.static yX9_in ∈ gw := gw_t5 140 rfl rfl
theorem q925 : Cond.code yX9_in prog_11_method_1_code 3 (Option.some Jvm.ClassFile.FieldType.boolean) ∈ gw := gw_t5 141 rfl rfl
theorem q926 : Cond.methodLink "LeapJoinLaw" 33 yX9_fault ∈ gw := gw_t5 142 rfl rfl
theorem q927 : Cond.instanceMethod yX9_fault ∈ gw := gw_t5 143 rfl rfl
theorem q928 : Cond.selects "LeapJoinModel" yX9_fault yX9_fault ∈ gw := gw_t5 144 rfl rfl
theorem q929 : Cond.code yX9_fault prog_11_method_25_code 2 (Option.some Jvm.ClassFile.FieldType.int) ∈ gw := gw_t5 145 rfl rfl
theorem q930 : Cond.methodLink "LeapJoinModel" 167 yX9_readAll ∈ gw := gw_t5 146 rfl rfl
theorem q931 : Cond.instanceMethod yX9_readAll ∈ gw := gw_t5 148 rfl rfl
theorem q932 : Cond.code yX9_readAll prog_11_method_22_code 2 (Option.some Jvm.ClassFile.FieldType.int) ∈ gw := gw_t5 149 rfl rfl
theorem q933 : Cond.methodLink "LeapJoinModel" 149 yX9_begins ∈ gw := gw_t5 150 rfl rfl
theorem q934 : Cond.instanceMethod yX9_begins ∈ gw := gw_t5 152 rfl rfl
theorem q935 : Cond.code yX9_begins prog_11_method_21_code 1 (Option.none : Option Jvm.ClassFile.FieldType) ∈ gw := gw_t5 153 rfl rfl
theorem q936 : Cond.methodLink "LeapJoinModel" 155 yX9_readTable ∈ gw := gw_t5 154 rfl rfl
theorem q937 : Cond.instanceMethod yX9_readTable ∈ gw := gw_t5 156 rfl rfl
theorem q938 : Cond.code yX9_readTable prog_11_method_19_code 3 (Option.none : Option Jvm.ClassFile.FieldType) ∈ gw := gw_t5 157 rfl rfl
theorem q939 : Cond.methodLink "LeapJoinModel" 143 yX9_readHead ∈ gw := gw_t5 158 rfl rfl
theorem q940 : Cond.instanceMethod yX9_readHead ∈ gw := gw_t5 160 rfl rfl
theorem q941 : Cond.code yX9_readHead prog_11_method_17_code 4 (Option.none : Option Jvm.ClassFile.FieldType) ∈ gw := gw_t5 161 rfl rfl
theorem q942 : Cond.methodLink "LeapJoinModel" 118 yX9_ahead ∈ gw := gw_t5 162 rfl rfl
theorem q943 : Cond.instanceMethod yX9_ahead ∈ gw := gw_t5 164 rfl rfl
theorem q944 : Cond.code yX9_ahead prog_11_method_10_code 1 (Option.some Jvm.ClassFile.FieldType.int) ∈ gw := gw_t5 165 rfl rfl
theorem q945 : Cond.methodLink "LeapJoinModel" 111 yX9_here ∈ gw := gw_t5 166 rfl rfl
theorem q946 : Cond.instanceMethod yX9_here ∈ gw := gw_t5 168 rfl rfl
theorem q947 : Cond.code yX9_here prog_11_method_9_code 1 (Option.some Jvm.ClassFile.FieldType.int) ∈ gw := gw_t5 169 rfl rfl
theorem q948 : Cond.methodLink "LeapJoinModel" 128 yX9_isLetter ∈ gw := gw_t5 170 rfl rfl
theorem q949 : Cond.instanceMethod yX9_isLetter ∈ gw := gw_t5 172 rfl rfl
theorem q950 : Cond.code yX9_isLetter prog_11_method_16_code 2 (Option.some Jvm.ClassFile.FieldType.boolean) ∈ gw := gw_t5 173 rfl rfl
theorem q951 : Cond.methodLink "LeapJoinModel" 121 yX9_bad ∈ gw := gw_t5 174 rfl rfl
theorem q952 : Cond.instanceMethod yX9_bad ∈ gw := gw_t5 176 rfl rfl
theorem q953 : Cond.code yX9_bad prog_11_method_11_code 1 (Option.none : Option Jvm.ClassFile.FieldType) ∈ gw := gw_t5 177 rfl rfl
theorem q954 : Cond.methodLink "LeapJoinModel" 131 yX9_has ∈ gw := gw_t5 178 rfl rfl
theorem q955 : Cond.static yX9_has ∈ gw := gw_t5 179 rfl rfl
theorem q956 : Cond.code yX9_has prog_11_method_2_code 2 (Option.some Jvm.ClassFile.FieldType.boolean) ∈ gw := gw_t5 180 rfl rfl
theorem q957 : Cond.methodLink "LeapJoinModel" 135 yX9_must ∈ gw := gw_t5 181 rfl rfl
theorem q958 : Cond.instanceMethod yX9_must ∈ gw := gw_t5 183 rfl rfl
theorem q959 : Cond.code yX9_must prog_11_method_12_code 2 (Option.none : Option Jvm.ClassFile.FieldType) ∈ gw := gw_t5 184 rfl rfl
theorem q960 : Cond.methodLink "LeapJoinModel" 124 yX9_isDigit ∈ gw := gw_t5 185 rfl rfl
theorem q961 : Cond.static yX9_isDigit ∈ gw := gw_t5 186 rfl rfl
theorem q962 : Cond.code yX9_isDigit prog_11_method_13_code 1 (Option.some Jvm.ClassFile.FieldType.boolean) ∈ gw := gw_t5 187 rfl rfl
theorem q963 : Cond.methodLink "LeapJoinModel" 146 yX9_readRow ∈ gw := gw_t5 188 rfl rfl
theorem q964 : Cond.instanceMethod yX9_readRow ∈ gw := gw_t5 190 rfl rfl
theorem q965 : Cond.code yX9_readRow prog_11_method_18_code 4 (Option.none : Option Jvm.ClassFile.FieldType) ∈ gw := gw_t5 191 rfl rfl
theorem q966 : Cond.methodLink "LeapJoinModel" 139 yX9_number ∈ gw := gw_t5 192 rfl rfl
theorem q967 : Cond.instanceMethod yX9_number ∈ gw := gw_t5 194 rfl rfl
theorem q968 : Cond.code yX9_number prog_11_method_14_code 4 (Option.some Jvm.ClassFile.FieldType.int) ∈ gw := gw_t5 195 rfl rfl
theorem q969 : Cond.methodLink "LeapJoinModel" 158 yX9_ends ∈ gw := gw_t5 196 rfl rfl
theorem q970 : Cond.instanceMethod yX9_ends ∈ gw := gw_t5 198 rfl rfl
theorem q971 : Cond.code yX9_ends prog_11_method_20_code 1 (Option.some Jvm.ClassFile.FieldType.int) ∈ gw := gw_t5 199 rfl rfl
theorem q972 : Cond.methodLink "LeapJoinModel" 170 yX9_readScript ∈ gw := gw_t5 200 rfl rfl
theorem q973 : Cond.instanceMethod yX9_readScript ∈ gw := gw_t5 202 rfl rfl
theorem q974 : Cond.code yX9_readScript prog_11_method_24_code 3 (Option.some Jvm.ClassFile.FieldType.int) ∈ gw := gw_t5 203 rfl rfl
theorem q975 : Cond.methodLink "LeapJoinModel" 164 yX9_readStep ∈ gw := gw_t5 204 rfl rfl
theorem q976 : Cond.instanceMethod yX9_readStep ∈ gw := gw_t5 206 rfl rfl
theorem q977 : Cond.code yX9_readStep prog_11_method_23_code 6 (Option.none : Option Jvm.ClassFile.FieldType) ∈ gw := gw_t5 207 rfl rfl
theorem q978 : Cond.methodLink "LeapJoinModel" 161 yX9_digit ∈ gw := gw_t5 208 rfl rfl
theorem q979 : Cond.instanceMethod yX9_digit ∈ gw := gw_t5 210 rfl rfl
theorem q980 : Cond.code yX9_digit prog_11_method_15_code 1 (Option.some Jvm.ClassFile.FieldType.int) ∈ gw := gw_t5 211 rfl rfl
theorem q981 : Cond.methodLink "LeapJoinLaw" 37 yX9_text ∈ gw := gw_t5 212 rfl rfl
theorem q982 : Cond.instanceMethod yX9_text ∈ gw := gw_t5 213 rfl rfl
theorem q983 : Cond.selects "LeapJoinModel" yX9_text yX9_text ∈ gw := gw_t5 214 rfl rfl
theorem q984 : Cond.code yX9_text prog_11_method_39_code 2 (Option.some Jvm.ClassFile.FieldType.int) ∈ gw := gw_t5 215 rfl rfl
theorem q985 : Cond.methodLink "LeapJoinModel" 211 yX9_takeTables ∈ gw := gw_t5 216 rfl rfl
theorem q986 : Cond.instanceMethod yX9_takeTables ∈ gw := gw_t5 218 rfl rfl
theorem q987 : Cond.code yX9_takeTables prog_11_method_38_code 4 (Option.some Jvm.ClassFile.FieldType.int) ∈ gw := gw_t5 219 rfl rfl
theorem q988 : Cond.methodLink "LeapJoinModel" 197 yX9_hasRow ∈ gw := gw_t5 220 rfl rfl
theorem q989 : Cond.instanceMethod yX9_hasRow ∈ gw := gw_t5 222 rfl rfl
theorem q990 : Cond.code yX9_hasRow prog_11_method_35_code 6 (Option.some Jvm.ClassFile.FieldType.boolean) ∈ gw := gw_t5 223 rfl rfl
theorem q991 : Cond.methodLink "LeapJoinModel" 193 yX9_countLess ∈ gw := gw_t5 224 rfl rfl
theorem q992 : Cond.instanceMethod yX9_countLess ∈ gw := gw_t5 226 rfl rfl
theorem q993 : Cond.code yX9_countLess prog_11_method_34_code 6 (Option.some Jvm.ClassFile.FieldType.int) ∈ gw := gw_t5 227 rfl rfl
theorem q994 : Cond.methodLink "LeapJoinModel" 186 yX9_many ∈ gw := gw_t5 228 rfl rfl
theorem q995 : Cond.instanceMethod yX9_many ∈ gw := gw_t5 230 rfl rfl
theorem q996 : Cond.code yX9_many prog_11_method_30_code 2 (Option.some Jvm.ClassFile.FieldType.int) ∈ gw := gw_t5 231 rfl rfl
theorem q997 : Cond.methodLink "LeapJoinModel" 189 yX9_compares ∈ gw := gw_t5 232 rfl rfl
theorem q998 : Cond.instanceMethod yX9_compares ∈ gw := gw_t5 234 rfl rfl
theorem q999 : Cond.code yX9_compares prog_11_method_33_code 7 (Option.some Jvm.ClassFile.FieldType.int) ∈ gw := gw_t5 235 rfl rfl
theorem q1000 : Cond.methodLink "LeapJoinModel" 182 yX9_rowAt ∈ gw := gw_t5 236 rfl rfl
theorem q1001 : Cond.static yX9_rowAt ∈ gw := gw_t5 237 rfl rfl
theorem q1002 : Cond.code yX9_rowAt prog_11_method_29_code 2 (Option.some Jvm.ClassFile.FieldType.int) ∈ gw := gw_t5 238 rfl rfl
theorem q1003 : Cond.methodLink "LeapJoinModel" 201 yX9_putsNow ∈ gw := gw_t5 239 rfl rfl
theorem q1004 : Cond.instanceMethod yX9_putsNow ∈ gw := gw_t6 1 rfl rfl
theorem q1005 : Cond.code yX9_putsNow prog_11_method_36_code 7 (Option.some Jvm.ClassFile.FieldType.int) ∈ gw := gw_t6 2 rfl rfl
theorem q1006 : Cond.methodLink "LeapJoinLaw" 136 yX9_put ∈ gw := gw_t6 3 rfl rfl
theorem q1007 : Cond.instanceMethod yX9_put ∈ gw := gw_t6 4 rfl rfl
theorem q1008 : Cond.selects "LeapJoinModel" yX9_put yX9_put ∈ gw := gw_t6 5 rfl rfl
theorem q1009 : Cond.code yX9_put prog_11_method_67_code 5 (Option.some Jvm.ClassFile.FieldType.int) ∈ gw := gw_t6 6 rfl rfl
theorem q1010 : Cond.methodLink "LeapJoinModel" 317 yX9_hand ∈ gw := gw_t6 7 rfl rfl
theorem q1011 : Cond.instanceMethod yX9_hand ∈ gw := gw_t6 9 rfl rfl
theorem q1012 : Cond.code yX9_hand prog_11_method_66_code 7 (Option.some Jvm.ClassFile.FieldType.int) ∈ gw := gw_t6 10 rfl rfl
theorem q1013 : Cond.methodLink "LeapJoinModel" 311 yX9_whyNot ∈ gw := gw_t6 11 rfl rfl
theorem q1014 : Cond.instanceMethod yX9_whyNot ∈ gw := gw_t6 13 rfl rfl
theorem q1015 : Cond.code yX9_whyNot prog_11_method_60_code 6 (Option.some Jvm.ClassFile.FieldType.int) ∈ gw := gw_t6 14 rfl rfl
theorem q1016 : Cond.methodLink "LeapJoinModel" 287 yX9_whyPut ∈ gw := gw_t6 15 rfl rfl
theorem q1017 : Cond.instanceMethod yX9_whyPut ∈ gw := gw_t6 17 rfl rfl
theorem q1018 : Cond.code yX9_whyPut prog_11_method_58_code 5 (Option.some Jvm.ClassFile.FieldType.int) ∈ gw := gw_t6 18 rfl rfl
theorem q1019 : Cond.methodLink "LeapJoinModel" 281 yX9_isTable ∈ gw := gw_t6 19 rfl rfl
theorem q1020 : Cond.instanceMethod yX9_isTable ∈ gw := gw_t6 21 rfl rfl
theorem q1021 : Cond.code yX9_isTable prog_11_method_27_code 2 (Option.some Jvm.ClassFile.FieldType.boolean) ∈ gw := gw_t6 22 rfl rfl
theorem q1022 : Cond.methodLink "LeapJoinModel" 284 yX9_isRow ∈ gw := gw_t6 23 rfl rfl
theorem q1023 : Cond.instanceMethod yX9_isRow ∈ gw := gw_t6 25 rfl rfl
theorem q1024 : Cond.code yX9_isRow prog_11_method_57_code 6 (Option.some Jvm.ClassFile.FieldType.boolean) ∈ gw := gw_t6 26 rfl rfl
theorem q1025 : Cond.methodLink "LeapJoinModel" 290 yX9_whyTake ∈ gw := gw_t6 27 rfl rfl
theorem q1026 : Cond.instanceMethod yX9_whyTake ∈ gw := gw_t6 29 rfl rfl
theorem q1027 : Cond.code yX9_whyTake prog_11_method_59_code 5 (Option.some Jvm.ClassFile.FieldType.int) ∈ gw := gw_t6 30 rfl rfl
theorem q1028 : Cond.methodLink "LeapJoinModel" 277 yX9_areTables ∈ gw := gw_t6 31 rfl rfl
theorem q1029 : Cond.instanceMethod yX9_areTables ∈ gw := gw_t6 33 rfl rfl
theorem q1030 : Cond.code yX9_areTables prog_11_method_26_code 1 (Option.some Jvm.ClassFile.FieldType.boolean) ∈ gw := gw_t6 34 rfl rfl
theorem q1031 : Cond.methodLink "LeapJoinModel" 314 yX9_act ∈ gw := gw_t6 35 rfl rfl
theorem q1032 : Cond.instanceMethod yX9_act ∈ gw := gw_t6 37 rfl rfl
theorem q1033 : Cond.code yX9_act prog_11_method_65_code 7 (Option.some Jvm.ClassFile.FieldType.int) ∈ gw := gw_t6 38 rfl rfl
theorem q1034 : Cond.methodLink "LeapJoinModel" 302 yX9_keep ∈ gw := gw_t6 39 rfl rfl
theorem q1035 : Cond.instanceMethod yX9_keep ∈ gw := gw_t6 41 rfl rfl
theorem q1036 : Cond.code yX9_keep prog_11_method_62_code 2 (Option.none : Option Jvm.ClassFile.FieldType) ∈ gw := gw_t6 42 rfl rfl
theorem q1037 : Cond.methodLink "LeapJoinModel" 305 yX9_doNow ∈ gw := gw_t6 43 rfl rfl
theorem q1038 : Cond.instanceMethod yX9_doNow ∈ gw := gw_t6 45 rfl rfl
theorem q1039 : Cond.code yX9_doNow prog_11_method_61_code 7 (Option.some Jvm.ClassFile.FieldType.int) ∈ gw := gw_t6 46 rfl rfl
theorem q1040 : Cond.methodLink "LeapJoinModel" 293 yX9_takesNow ∈ gw := gw_t6 47 rfl rfl
theorem q1041 : Cond.instanceMethod yX9_takesNow ∈ gw := gw_t6 49 rfl rfl
theorem q1042 : Cond.code yX9_takesNow prog_11_method_37_code 7 (Option.some Jvm.ClassFile.FieldType.int) ∈ gw := gw_t6 50 rfl rfl
theorem q1043 : Cond.methodLink "LeapJoinModel" 176 yX9_isUsed ∈ gw := gw_t6 51 rfl rfl
theorem q1044 : Cond.instanceMethod yX9_isUsed ∈ gw := gw_t6 53 rfl rfl
theorem q1045 : Cond.code yX9_isUsed prog_11_method_28_code 2 (Option.some Jvm.ClassFile.FieldType.boolean) ∈ gw := gw_t6 54 rfl rfl
theorem q1046 : Cond.methodLink "LeapJoinModel" 308 yX9_note ∈ gw := gw_t6 55 rfl rfl
theorem q1047 : Cond.instanceMethod yX9_note ∈ gw := gw_t6 57 rfl rfl
theorem q1048 : Cond.code yX9_note prog_11_method_64_code 4 (Option.none : Option Jvm.ClassFile.FieldType) ∈ gw := gw_t6 58 rfl rfl
theorem q1049 : Cond.methodLink "LeapJoinModel" 299 yX9_rowsNow ∈ gw := gw_t6 59 rfl rfl
theorem q1050 : Cond.instanceMethod yX9_rowsNow ∈ gw := gw_t6 61 rfl rfl
theorem q1051 : Cond.code yX9_rowsNow prog_11_method_63_code 1 (Option.some Jvm.ClassFile.FieldType.int) ∈ gw := gw_t6 62 rfl rfl
theorem q1052 : Cond.methodLink "LeapJoinModel" 296 yX9_joinsNow ∈ gw := gw_t6 63 rfl rfl
theorem q1053 : Cond.instanceMethod yX9_joinsNow ∈ gw := gw_t6 65 rfl rfl
theorem q1054 : Cond.code yX9_joinsNow prog_11_method_54_code 1 (Option.none : Option Jvm.ClassFile.FieldType) ∈ gw := gw_t6 66 rfl rfl
theorem q1055 : Cond.methodLink "LeapJoinModel" 274 yX9_joins ∈ gw := gw_t6 67 rfl rfl
theorem q1056 : Cond.instanceMethod yX9_joins ∈ gw := gw_t6 69 rfl rfl
theorem q1057 : Cond.code yX9_joins prog_11_method_53_code 3 (Option.none : Option Jvm.ClassFile.FieldType) ∈ gw := gw_t6 70 rfl rfl
theorem q1058 : Cond.methodLink "LeapJoinModel" 271 yX9_laysOrder ∈ gw := gw_t6 71 rfl rfl
theorem q1059 : Cond.instanceMethod yX9_laysOrder ∈ gw := gw_t6 73 rfl rfl
theorem q1060 : Cond.code yX9_laysOrder prog_11_method_40_code 8 (Option.none : Option Jvm.ClassFile.FieldType) ∈ gw := gw_t6 74 rfl rfl
theorem q1061 : Cond.methodLink "LeapJoinModel" 220 yX9_asked ∈ gw := gw_t6 75 rfl rfl
theorem q1062 : Cond.instanceMethod yX9_asked ∈ gw := gw_t6 77 rfl rfl
theorem q1063 : Cond.code yX9_asked prog_11_method_32_code 3 (Option.some Jvm.ClassFile.FieldType.int) ∈ gw := gw_t6 78 rfl rfl
theorem q1064 : Cond.methodLink "LeapJoinModel" 179 yX9_lettersOf ∈ gw := gw_t6 79 rfl rfl
theorem q1065 : Cond.instanceMethod yX9_lettersOf ∈ gw := gw_t6 81 rfl rfl
theorem q1066 : Cond.code yX9_lettersOf prog_11_method_31_code 4 (Option.some Jvm.ClassFile.FieldType.int) ∈ gw := gw_t6 82 rfl rfl
theorem q1067 : Cond.methodLink "LeapJoinModel" 262 yX9_goes ∈ gw := gw_t6 83 rfl rfl
theorem q1068 : Cond.instanceMethod yX9_goes ∈ gw := gw_t6 85 rfl rfl
theorem q1069 : Cond.code yX9_goes prog_11_method_52_code 5 (Option.none : Option Jvm.ClassFile.FieldType) ∈ gw := gw_t6 86 rfl rfl
theorem q1070 : Cond.methodLink "LeapJoinModel" 250 yX9_takesRow ∈ gw := gw_t6 87 rfl rfl
theorem q1071 : Cond.instanceMethod yX9_takesRow ∈ gw := gw_t6 89 rfl rfl
theorem q1072 : Cond.code yX9_takesRow prog_11_method_51_code 2 (Option.none : Option Jvm.ClassFile.FieldType) ∈ gw := gw_t6 90 rfl rfl
theorem q1073 : Cond.methodLink "LeapJoinModel" 253 yX9_laysKeys ∈ gw := gw_t6 91 rfl rfl
theorem q1074 : Cond.instanceMethod yX9_laysKeys ∈ gw := gw_t6 93 rfl rfl
theorem q1075 : Cond.code yX9_laysKeys prog_11_method_45_code 7 (Option.some Jvm.ClassFile.FieldType.boolean) ∈ gw := gw_t6 94 rfl rfl
theorem q1076 : Cond.methodLink "LeapJoinModel" 226 yX9_isIn ∈ gw := gw_t6 95 rfl rfl
theorem q1077 : Cond.instanceMethod yX9_isIn ∈ gw := gw_t6 97 rfl rfl
theorem q1078 : Cond.code yX9_isIn prog_11_method_44_code 3 (Option.some Jvm.ClassFile.FieldType.boolean) ∈ gw := gw_t6 98 rfl rfl
theorem q1079 : Cond.methodLink "LeapJoinModel" 223 yX9_columnOf ∈ gw := gw_t6 99 rfl rfl
theorem q1080 : Cond.instanceMethod yX9_columnOf ∈ gw := gw_t6 101 rfl rfl
theorem q1081 : Cond.code yX9_columnOf prog_11_method_41_code 4 (Option.some Jvm.ClassFile.FieldType.int) ∈ gw := gw_t6 102 rfl rfl
theorem q1082 : Cond.methodLink "LeapJoinModel" 229 yX9_fits ∈ gw := gw_t6 103 rfl rfl
theorem q1083 : Cond.instanceMethod yX9_fits ∈ gw := gw_t6 105 rfl rfl
theorem q1084 : Cond.code yX9_fits prog_11_method_42_code 7 (Option.some Jvm.ClassFile.FieldType.boolean) ∈ gw := gw_t6 106 rfl rfl
theorem q1085 : Cond.methodLink "LeapJoinModel" 232 yX9_takesKey ∈ gw := gw_t6 107 rfl rfl
theorem q1086 : Cond.instanceMethod yX9_takesKey ∈ gw := gw_t6 109 rfl rfl
theorem q1087 : Cond.code yX9_takesKey prog_11_method_43_code 6 (Option.none : Option Jvm.ClassFile.FieldType) ∈ gw := gw_t6 110 rfl rfl
theorem q1088 : Cond.methodLink "LeapJoinModel" 256 yX9_greatestKey ∈ gw := gw_t6 111 rfl rfl
theorem q1089 : Cond.instanceMethod yX9_greatestKey ∈ gw := gw_t6 113 rfl rfl
theorem q1090 : Cond.code yX9_greatestKey prog_11_method_47_code 4 (Option.some Jvm.ClassFile.FieldType.int) ∈ gw := gw_t6 114 rfl rfl
theorem q1091 : Cond.methodLink "LeapJoinModel" 236 yX9_keyAt ∈ gw := gw_t6 115 rfl rfl
theorem q1092 : Cond.instanceMethod yX9_keyAt ∈ gw := gw_t6 117 rfl rfl
theorem q1093 : Cond.code yX9_keyAt prog_11_method_46_code 4 (Option.some Jvm.ClassFile.FieldType.int) ∈ gw := gw_t6 118 rfl rfl
theorem q1094 : Cond.methodLink "LeapJoinModel" 239 yJ9_max_7cf53 ∈ gw := gw_t6 119 rfl rfl
theorem q1095 : Cond.methodLink "LeapJoinModel" 259 yX9_firstBehind ∈ gw := gw_t6 120 rfl rfl
theorem q1096 : Cond.instanceMethod yX9_firstBehind ∈ gw := gw_t6 122 rfl rfl
theorem q1097 : Cond.code yX9_firstBehind prog_11_method_48_code 4 (Option.some Jvm.ClassFile.FieldType.int) ∈ gw := gw_t6 123 rfl rfl
theorem q1098 : Cond.methodLink "LeapJoinModel" 265 yX9_firstIn ∈ gw := gw_t6 124 rfl rfl
theorem q1099 : Cond.instanceMethod yX9_firstIn ∈ gw := gw_t6 126 rfl rfl
theorem q1100 : Cond.code yX9_firstIn prog_11_method_49_code 3 (Option.some Jvm.ClassFile.FieldType.int) ∈ gw := gw_t6 127 rfl rfl
theorem q1101 : Cond.methodLink "LeapJoinModel" 268 yX9_leaps ∈ gw := gw_t6 128 rfl rfl
theorem q1102 : Cond.instanceMethod yX9_leaps ∈ gw := gw_t6 130 rfl rfl
theorem q1103 : Cond.code yX9_leaps prog_11_method_50_code 5 (Option.some Jvm.ClassFile.FieldType.boolean) ∈ gw := gw_t6 131 rfl rfl
theorem q1104 : Cond.methodLink "LeapJoinLaw" 140 yX9_take ∈ gw := gw_t6 132 rfl rfl
theorem q1105 : Cond.instanceMethod yX9_take ∈ gw := gw_t6 133 rfl rfl
theorem q1106 : Cond.selects "LeapJoinModel" yX9_take yX9_take ∈ gw := gw_t6 134 rfl rfl
theorem q1107 : Cond.code yX9_take prog_11_method_68_code 5 (Option.some Jvm.ClassFile.FieldType.int) ∈ gw := gw_t6 135 rfl rfl
theorem q1108 : Cond.methodLink "LeapJoinLaw" 144 yX9_use ∈ gw := gw_t6 136 rfl rfl
theorem q1109 : Cond.instanceMethod yX9_use ∈ gw := gw_t6 137 rfl rfl
theorem q1110 : Cond.selects "LeapJoinModel" yX9_use yX9_use ∈ gw := gw_t6 138 rfl rfl
theorem q1111 : Cond.code yX9_use prog_11_method_69_code 2 (Option.some Jvm.ClassFile.FieldType.int) ∈ gw := gw_t6 139 rfl rfl
theorem q1112 : Cond.methodLink "LeapJoinLaw" 148 yX9_order ∈ gw := gw_t6 140 rfl rfl
theorem q1113 : Cond.instanceMethod yX9_order ∈ gw := gw_t6 141 rfl rfl
theorem q1114 : Cond.selects "LeapJoinModel" yX9_order yX9_order ∈ gw := gw_t6 142 rfl rfl
theorem q1115 : Cond.code yX9_order prog_11_method_70_code 2 (Option.some Jvm.ClassFile.FieldType.int) ∈ gw := gw_t6 143 rfl rfl
theorem q1116 : Cond.methodLink "LeapJoinLaw" 155 yX9_ways ∈ gw := gw_t6 144 rfl rfl
theorem q1117 : Cond.instanceMethod yX9_ways ∈ gw := gw_t6 145 rfl rfl
theorem q1118 : Cond.selects "LeapJoinModel" yX9_ways yX9_ways ∈ gw := gw_t6 146 rfl rfl
theorem q1119 : Cond.code yX9_ways prog_11_method_74_code 5 (Option.some Jvm.ClassFile.FieldType.int) ∈ gw := gw_t6 147 rfl rfl
theorem q1120 : Cond.methodLink "LeapJoinModel" 335 yX9_drawWay ∈ gw := gw_t6 148 rfl rfl
theorem q1121 : Cond.instanceMethod yX9_drawWay ∈ gw := gw_t6 150 rfl rfl
theorem q1122 : Cond.code yX9_drawWay prog_11_method_73_code 5 (Option.none : Option Jvm.ClassFile.FieldType) ∈ gw := gw_t6 151 rfl rfl
theorem q1123 : Cond.methodLink "LeapJoinModel" 328 yX9_draw ∈ gw := gw_t6 152 rfl rfl
theorem q1124 : Cond.instanceMethod yX9_draw ∈ gw := gw_t6 154 rfl rfl
theorem q1125 : Cond.code yX9_draw prog_11_method_71_code 2 (Option.some Jvm.ClassFile.FieldType.int) ∈ gw := gw_t6 155 rfl rfl
theorem q1126 : Cond.constantLong "LeapJoinModel" 324 (6364136223846793005 : Int64) ∈ gw := gw_t6 156 rfl rfl
theorem q1127 : Cond.constantLong "LeapJoinModel" 326 (1442695040888963407 : Int64) ∈ gw := gw_t6 157 rfl rfl
theorem q1128 : Cond.methodLink "LeapJoinModel" 331 yX9_tryOne ∈ gw := gw_t6 158 rfl rfl
theorem q1129 : Cond.instanceMethod yX9_tryOne ∈ gw := gw_t6 160 rfl rfl
theorem q1130 : Cond.code yX9_tryOne prog_11_method_72_code 6 (Option.none : Option Jvm.ClassFile.FieldType) ∈ gw := gw_t6 161 rfl rfl
theorem q1131 : Cond.methodLink "LeapJoinLaw" 159 yX9_status ∈ gw := gw_t6 162 rfl rfl
theorem q1132 : Cond.instanceMethod yX9_status ∈ gw := gw_t6 163 rfl rfl
theorem q1133 : Cond.selects "LeapJoinModel" yX9_status yX9_status ∈ gw := gw_t6 164 rfl rfl
theorem q1134 : Cond.code yX9_status prog_11_method_75_code 2 (Option.some Jvm.ClassFile.FieldType.int) ∈ gw := gw_t6 165 rfl rfl
theorem q1135 : Cond.methodLink "LeapJoinLaw" 163 yX9_undo ∈ gw := gw_t6 166 rfl rfl
theorem q1136 : Cond.instanceMethod yX9_undo ∈ gw := gw_t6 167 rfl rfl
theorem q1137 : Cond.selects "LeapJoinModel" yX9_undo yX9_undo ∈ gw := gw_t6 168 rfl rfl
theorem q1138 : Cond.code yX9_undo prog_11_method_76_code 2 (Option.some Jvm.ClassFile.FieldType.int) ∈ gw := gw_t6 169 rfl rfl
theorem q1139 : Cond.methodLink "LeapJoinLaw" 167 yX9_log ∈ gw := gw_t6 170 rfl rfl
theorem q1140 : Cond.instanceMethod yX9_log ∈ gw := gw_t6 171 rfl rfl
theorem q1141 : Cond.selects "LeapJoinModel" yX9_log yX9_log ∈ gw := gw_t6 172 rfl rfl
theorem q1142 : Cond.code yX9_log prog_11_method_77_code 3 (Option.some Jvm.ClassFile.FieldType.int) ∈ gw := gw_t6 173 rfl rfl
theorem q1143 : Cond.constant "LeapJoinModel" 338 (-1000000 : Int32) ∈ gw := gw_t6 174 rfl rfl
theorem q1144 : Cond.methodLink "LeapJoinLaw" 41 yX9_rule ∈ gw := gw_t6 175 rfl rfl
theorem q1145 : Cond.instanceMethod yX9_rule ∈ gw := gw_t6 176 rfl rfl
theorem q1146 : Cond.selects "LeapJoinModel" yX9_rule yX9_rule ∈ gw := gw_t6 177 rfl rfl
theorem q1147 : Cond.code yX9_rule prog_11_method_79_code 2 (Option.some Jvm.ClassFile.FieldType.int) ∈ gw := gw_t6 178 rfl rfl
theorem q1148 : Cond.methodLink "LeapJoinModel" 339 yX9_rowsOfAll ∈ gw := gw_t6 179 rfl rfl
theorem q1149 : Cond.instanceMethod yX9_rowsOfAll ∈ gw := gw_t6 181 rfl rfl
theorem q1150 : Cond.code yX9_rowsOfAll prog_11_method_78_code 3 (Option.some Jvm.ClassFile.FieldType.int) ∈ gw := gw_t6 182 rfl rfl
theorem q1151 : Cond.methodLink "LeapJoinLaw" 47 yX9_table ∈ gw := gw_t6 183 rfl rfl
theorem q1152 : Cond.instanceMethod yX9_table ∈ gw := gw_t6 184 rfl rfl
theorem q1153 : Cond.selects "LeapJoinModel" yX9_table yX9_table ∈ gw := gw_t6 185 rfl rfl
theorem q1154 : Cond.code yX9_table prog_11_method_80_code 3 (Option.some Jvm.ClassFile.FieldType.int) ∈ gw := gw_t6 186 rfl rfl
theorem q1155 : Cond.methodLink "LeapJoinLaw" 56 yX9_cell ∈ gw := gw_t6 187 rfl rfl
theorem q1156 : Cond.instanceMethod yX9_cell ∈ gw := gw_t6 188 rfl rfl
theorem q1157 : Cond.selects "LeapJoinModel" yX9_cell yX9_cell ∈ gw := gw_t6 189 rfl rfl
theorem q1158 : Cond.code yX9_cell prog_11_method_81_code 4 (Option.some Jvm.ClassFile.FieldType.int) ∈ gw := gw_t6 190 rfl rfl
theorem q1159 : Cond.methodLink "LeapJoinLaw" 60 yX9_rows ∈ gw := gw_t6 191 rfl rfl
theorem q1160 : Cond.instanceMethod yX9_rows ∈ gw := gw_t6 192 rfl rfl
theorem q1161 : Cond.selects "LeapJoinModel" yX9_rows yX9_rows ∈ gw := gw_t6 193 rfl rfl
theorem q1162 : Cond.code yX9_rows prog_11_method_82_code 1 (Option.some Jvm.ClassFile.FieldType.int) ∈ gw := gw_t6 194 rfl rfl
theorem q1163 : Cond.methodLink "LeapJoinLaw" 64 yX9_row ∈ gw := gw_t6 195 rfl rfl
theorem q1164 : Cond.instanceMethod yX9_row ∈ gw := gw_t6 196 rfl rfl
theorem q1165 : Cond.selects "LeapJoinModel" yX9_row yX9_row ∈ gw := gw_t6 197 rfl rfl
theorem q1166 : Cond.code yX9_row prog_11_method_83_code 3 (Option.some Jvm.ClassFile.FieldType.int) ∈ gw := gw_t6 198 rfl rfl
theorem q1167 : Cond.methodLink "LeapJoinModel" 342 yX9_isAsked ∈ gw := gw_t6 199 rfl rfl
theorem q1168 : Cond.instanceMethod yX9_isAsked ∈ gw := gw_t6 201 rfl rfl
theorem q1169 : Cond.code yX9_isAsked prog_11_method_56_code 2 (Option.some Jvm.ClassFile.FieldType.boolean) ∈ gw := gw_t6 202 rfl rfl
theorem q1170 : Cond.methodLink "LeapJoinModel" 345 yX9_numberOf ∈ gw := gw_t6 203 rfl rfl
theorem q1171 : Cond.instanceMethod yX9_numberOf ∈ gw := gw_t6 205 rfl rfl
theorem q1172 : Cond.code yX9_numberOf prog_11_method_55_code 3 (Option.some Jvm.ClassFile.FieldType.int) ∈ gw := gw_t6 206 rfl rfl
theorem q1173 : Cond.methodLink "LeapJoinLaw" 68 yX9_leaps_ ∈ gw := gw_t6 207 rfl rfl
theorem q1174 : Cond.instanceMethod yX9_leaps_ ∈ gw := gw_t6 208 rfl rfl
theorem q1175 : Cond.selects "LeapJoinModel" yX9_leaps_ yX9_leaps_ ∈ gw := gw_t6 209 rfl rfl
theorem q1176 : Cond.code yX9_leaps_ prog_11_method_84_code 1 (Option.some Jvm.ClassFile.FieldType.int) ∈ gw := gw_t6 210 rfl rfl
theorem q1177 : Cond.methodLink "LeapJoinLaw" 72 yX9_beginnings ∈ gw := gw_t6 211 rfl rfl
theorem q1178 : Cond.instanceMethod yX9_beginnings ∈ gw := gw_t6 212 rfl rfl
theorem q1179 : Cond.selects "LeapJoinModel" yX9_beginnings yX9_beginnings ∈ gw := gw_t6 213 rfl rfl
theorem q1180 : Cond.code yX9_beginnings prog_11_method_85_code 2 (Option.some Jvm.ClassFile.FieldType.int) ∈ gw := gw_t6 214 rfl rfl
theorem q1181 : Cond.methodLink "LeapJoinLaw" 76 yX9_best ∈ gw := gw_t6 215 rfl rfl
theorem q1182 : Cond.instanceMethod yX9_best ∈ gw := gw_t6 216 rfl rfl
theorem q1183 : Cond.selects "LeapJoinModel" yX9_best yX9_best ∈ gw := gw_t6 217 rfl rfl
theorem q1184 : Cond.code yX9_best prog_11_method_87_code 2 (Option.some Jvm.ClassFile.FieldType.int) ∈ gw := gw_t6 218 rfl rfl
theorem q1185 : Cond.methodLink "LeapJoinModel" 357 yX9_triesOrders ∈ gw := gw_t6 219 rfl rfl
theorem q1186 : Cond.instanceMethod yX9_triesOrders ∈ gw := gw_t6 221 rfl rfl
theorem q1187 : Cond.code yX9_triesOrders prog_11_method_86_code 2 (Option.none : Option Jvm.ClassFile.FieldType) ∈ gw := gw_t6 222 rfl rfl
theorem q1188 : Cond.methodLink "LeapJoinLaw" 80 yX9_plain ∈ gw := gw_t6 223 rfl rfl
theorem q1189 : Cond.instanceMethod yX9_plain ∈ gw := gw_t6 224 rfl rfl
theorem q1190 : Cond.selects "LeapJoinModel" yX9_plain yX9_plain ∈ gw := gw_t6 225 rfl rfl
theorem q1191 : Cond.code yX9_plain prog_11_method_88_code 3 (Option.some Jvm.ClassFile.FieldType.int) ∈ gw := gw_t6 226 rfl rfl
theorem q1192 : Cond.methodLink "LeapJoinLaw" 84 yX9_given ∈ gw := gw_t6 227 rfl rfl
theorem q1193 : Cond.instanceMethod yX9_given ∈ gw := gw_t6 228 rfl rfl
theorem q1194 : Cond.selects "LeapJoinModel" yX9_given yX9_given ∈ gw := gw_t6 229 rfl rfl
theorem q1195 : Cond.code yX9_given prog_11_method_91_code 2 (Option.some Jvm.ClassFile.FieldType.int) ∈ gw := gw_t6 230 rfl rfl
theorem q1196 : Cond.methodLink "LeapJoinModel" 363 yX9_givenBy ∈ gw := gw_t6 231 rfl rfl
theorem q1197 : Cond.instanceMethod yX9_givenBy ∈ gw := gw_t6 233 rfl rfl
theorem q1198 : Cond.code yX9_givenBy prog_11_method_90_code 5 (Option.some Jvm.ClassFile.FieldType.int) ∈ gw := gw_t6 234 rfl rfl
theorem q1199 : Cond.methodLink "LeapJoinModel" 360 yX9_isOf ∈ gw := gw_t6 235 rfl rfl
theorem q1200 : Cond.instanceMethod yX9_isOf ∈ gw := gw_t6 237 rfl rfl
theorem q1201 : Cond.code yX9_isOf prog_11_method_89_code 6 (Option.some Jvm.ClassFile.FieldType.boolean) ∈ gw := gw_t6 238 rfl rfl
theorem q1202 : Cond.methodLink "LeapJoinLaw" 88 yX9_without ∈ gw := gw_t6 239 rfl rfl
theorem q1203 : Cond.instanceMethod yX9_without ∈ gw := gw_t7 0 rfl rfl
theorem q1204 : Cond.selects "LeapJoinModel" yX9_without yX9_without ∈ gw := gw_t7 1 rfl rfl
theorem q1205 : Cond.code yX9_without prog_11_method_92_code 4 (Option.some Jvm.ClassFile.FieldType.int) ∈ gw := gw_t7 2 rfl rfl
theorem q1206 : Cond.methodLink "LeapJoinLaw" 92 yX9_projected ∈ gw := gw_t7 3 rfl rfl
theorem q1207 : Cond.instanceMethod yX9_projected ∈ gw := gw_t7 4 rfl rfl
theorem q1208 : Cond.selects "LeapJoinModel" yX9_projected yX9_projected ∈ gw := gw_t7 5 rfl rfl
theorem q1209 : Cond.code yX9_projected prog_11_method_94_code 6 (Option.some Jvm.ClassFile.FieldType.int) ∈ gw := gw_t7 6 rfl rfl
theorem q1210 : Cond.methodLink "LeapJoinModel" 366 yX9_counts ∈ gw := gw_t7 7 rfl rfl
theorem q1211 : Cond.instanceMethod yX9_counts ∈ gw := gw_t7 9 rfl rfl
theorem q1212 : Cond.code yX9_counts prog_11_method_93_code 3 (Option.none : Option Jvm.ClassFile.FieldType) ∈ gw := gw_t7 10 rfl rfl
theorem q1213 : Cond.methodLink "LeapJoinLaw" 96 yX9_times ∈ gw := gw_t7 11 rfl rfl
theorem q1214 : Cond.instanceMethod yX9_times ∈ gw := gw_t7 12 rfl rfl
theorem q1215 : Cond.selects "LeapJoinModel" yX9_times yX9_times ∈ gw := gw_t7 13 rfl rfl
theorem q1216 : Cond.code yX9_times prog_11_method_95_code 3 (Option.some Jvm.ClassFile.FieldType.int) ∈ gw := gw_t7 14 rfl rfl
theorem q1217 : Cond.methodLink "LeapJoinLaw" 100 yX9_distinct ∈ gw := gw_t7 15 rfl rfl
theorem q1218 : Cond.instanceMethod yX9_distinct ∈ gw := gw_t7 16 rfl rfl
theorem q1219 : Cond.selects "LeapJoinModel" yX9_distinct yX9_distinct ∈ gw := gw_t7 17 rfl rfl
theorem q1220 : Cond.code yX9_distinct prog_11_method_97_code 3 (Option.some Jvm.ClassFile.FieldType.int) ∈ gw := gw_t7 18 rfl rfl
theorem q1221 : Cond.methodLink "LeapJoinModel" 369 yX9_extremeOf ∈ gw := gw_t7 19 rfl rfl
theorem q1222 : Cond.instanceMethod yX9_extremeOf ∈ gw := gw_t7 21 rfl rfl
theorem q1223 : Cond.code yX9_extremeOf prog_11_method_96_code 7 (Option.some Jvm.ClassFile.FieldType.int) ∈ gw := gw_t7 22 rfl rfl
theorem q1224 : Cond.methodLink "LeapJoinLaw" 105 yX9_tells ∈ gw := gw_t7 23 rfl rfl
theorem q1225 : Cond.instanceMethod yX9_tells ∈ gw := gw_t7 24 rfl rfl
theorem q1226 : Cond.selects "LeapJoinModel" yX9_tells yX9_tells ∈ gw := gw_t7 25 rfl rfl
theorem q1227 : Cond.code yX9_tells prog_11_method_99_code 3 (Option.some Jvm.ClassFile.FieldType.boolean) ∈ gw := gw_t7 26 rfl rfl
theorem q1228 : Cond.methodLink "LeapJoinModel" 372 yX9_isTold ∈ gw := gw_t7 27 rfl rfl
theorem q1229 : Cond.instanceMethod yX9_isTold ∈ gw := gw_t7 29 rfl rfl
theorem q1230 : Cond.code yX9_isTold prog_11_method_98_code 6 (Option.some Jvm.ClassFile.FieldType.boolean) ∈ gw := gw_t7 30 rfl rfl
theorem q1231 : Cond.methodLink "LeapJoinLaw" 110 yX9_behind ∈ gw := gw_t7 31 rfl rfl
theorem q1232 : Cond.instanceMethod yX9_behind ∈ gw := gw_t7 32 rfl rfl
theorem q1233 : Cond.selects "LeapJoinModel" yX9_behind yX9_behind ∈ gw := gw_t7 33 rfl rfl
theorem q1234 : Cond.code yX9_behind prog_11_method_102_code 6 (Option.some Jvm.ClassFile.FieldType.int) ∈ gw := gw_t7 34 rfl rfl
theorem q1235 : Cond.methodLink "LeapJoinModel" 375 yX9_takesFour ∈ gw := gw_t7 35 rfl rfl
theorem q1236 : Cond.instanceMethod yX9_takesFour ∈ gw := gw_t7 37 rfl rfl
theorem q1237 : Cond.code yX9_takesFour prog_11_method_100_code 5 (Option.none : Option Jvm.ClassFile.FieldType) ∈ gw := gw_t7 38 rfl rfl
theorem q1238 : Cond.methodLink "LeapJoinModel" 379 yX9_comparesFour ∈ gw := gw_t7 39 rfl rfl
theorem q1239 : Cond.instanceMethod yX9_comparesFour ∈ gw := gw_t7 41 rfl rfl
theorem q1240 : Cond.code yX9_comparesFour prog_11_method_101_code 4 (Option.some Jvm.ClassFile.FieldType.int) ∈ gw := gw_t7 42 rfl rfl
theorem q1241 : Cond.methodLink "LeapJoinLaw" 115 yX9_has_ ∈ gw := gw_t7 43 rfl rfl
theorem q1242 : Cond.instanceMethod yX9_has_ ∈ gw := gw_t7 44 rfl rfl
theorem q1243 : Cond.selects "LeapJoinModel" yX9_has_ yX9_has_ ∈ gw := gw_t7 45 rfl rfl
theorem q1244 : Cond.code yX9_has_ prog_11_method_103_code 6 (Option.some Jvm.ClassFile.FieldType.boolean) ∈ gw := gw_t7 46 rfl rfl
theorem q1245 : Cond.methodLink "LeapJoinLaw" 120 yX9_mean ∈ gw := gw_t7 47 rfl rfl
theorem q1246 : Cond.instanceMethod yX9_mean ∈ gw := gw_t7 48 rfl rfl
theorem q1247 : Cond.selects "LeapJoinModel" yX9_mean yX9_mean ∈ gw := gw_t7 49 rfl rfl
theorem q1248 : Cond.code yX9_mean prog_11_method_106_code 2 (Option.some Jvm.ClassFile.FieldType.long) ∈ gw := gw_t7 50 rfl rfl
theorem q1249 : Cond.methodLink "LeapJoinModel" 382 yX9_hasMean ∈ gw := gw_t7 51 rfl rfl
theorem q1250 : Cond.instanceMethod yX9_hasMean ∈ gw := gw_t7 53 rfl rfl
theorem q1251 : Cond.code yX9_hasMean prog_11_method_104_code 2 (Option.some Jvm.ClassFile.FieldType.boolean) ∈ gw := gw_t7 54 rfl rfl
theorem q1252 : Cond.methodLink "LeapJoinModel" 385 yX9_meanOf ∈ gw := gw_t7 55 rfl rfl
theorem q1253 : Cond.instanceMethod yX9_meanOf ∈ gw := gw_t7 57 rfl rfl
theorem q1254 : Cond.code yX9_meanOf prog_11_method_105_code 5 (Option.some Jvm.ClassFile.FieldType.double) ∈ gw := gw_t7 58 rfl rfl
theorem q1255 : Cond.methodLink "LeapJoinModel" 389 yJxe99ae_doubleToLongBits_ccdee ∈ gw := gw_t7 59 rfl rfl
theorem q1256 : Cond.static yJxe99ae_doubleToLongBits_ccdee ∈ gw := gw_t7 60 rfl rfl
theorem q1257 : Cond.code yJxe99ae_doubleToLongBits_ccdee prog_14_method_23_code 2 (Option.some Jvm.ClassFile.FieldType.long) ∈ gw := gw_t7 61 rfl rfl
theorem q1258 : Cond.methodLink "java/lang/Double" 122 yJxe99ae_isNaN_b9ae7 ∈ gw := gw_t7 62 rfl rfl
theorem q1259 : Cond.static yJxe99ae_isNaN_b9ae7 ∈ gw := gw_t7 63 rfl rfl
theorem q1260 : Cond.code yJxe99ae_isNaN_b9ae7 prog_14_method_6_code 2 (Option.some Jvm.ClassFile.FieldType.boolean) ∈ gw := gw_t7 64 rfl rfl
theorem q1261 : Cond.methodLink "java/lang/Double" 134 (⟨"java/lang/Double", "doubleToRawLongBits", "(D)J"⟩ : MethodName) ∈ gw := gw_t7 65 rfl rfl
theorem q1262 : Cond.static (⟨"java/lang/Double", "doubleToRawLongBits", "(D)J"⟩ : MethodName) ∈ gw := gw_t7 66 rfl rfl
theorem q1263 : Cond.constantLong "java/lang/Double" 137 (9221120237041090560 : Int64) ∈ gw := gw_t7 68 rfl rfl
theorem q1264 : Cond.constantLong "LeapJoinModel" 395 (-1000000 : Int64) ∈ gw := gw_t7 69 rfl rfl
theorem q1265 : Cond.methodLink "LeapJoinLaw" 124 yX9_meanAs ∈ gw := gw_t7 70 rfl rfl
theorem q1266 : Cond.instanceMethod yX9_meanAs ∈ gw := gw_t7 71 rfl rfl
theorem q1267 : Cond.selects "LeapJoinModel" yX9_meanAs yX9_meanAs ∈ gw := gw_t7 72 rfl rfl
theorem q1268 : Cond.code yX9_meanAs prog_11_method_107_code 3 (Option.some Jvm.ClassFile.FieldType.int) ∈ gw := gw_t7 73 rfl rfl
theorem q1269 : Cond.methodLink "LeapJoinModel" 397 yJxf58ca_floatToIntBits_5c35a ∈ gw := gw_t7 74 rfl rfl
theorem q1270 : Cond.static yJxf58ca_floatToIntBits_5c35a ∈ gw := gw_t7 75 rfl rfl
theorem q1271 : Cond.code yJxf58ca_floatToIntBits_5c35a prog_16_method_24_code 1 (Option.some Jvm.ClassFile.FieldType.int) ∈ gw := gw_t7 76 rfl rfl
theorem q1272 : Cond.methodLink "java/lang/Float" 59 yJxf58ca_isNaN_12338 ∈ gw := gw_t7 77 rfl rfl
theorem q1273 : Cond.static yJxf58ca_isNaN_12338 ∈ gw := gw_t7 78 rfl rfl
theorem q1274 : Cond.code yJxf58ca_isNaN_12338 prog_16_method_6_code 1 (Option.some Jvm.ClassFile.FieldType.boolean) ∈ gw := gw_t7 79 rfl rfl
theorem q1275 : Cond.methodLink "java/lang/Float" 74 (⟨"java/lang/Float", "floatToRawIntBits", "(F)I"⟩ : MethodName) ∈ gw := gw_t7 80 rfl rfl
theorem q1276 : Cond.static (⟨"java/lang/Float", "floatToRawIntBits", "(F)I"⟩ : MethodName) ∈ gw := gw_t7 81 rfl rfl
theorem q1277 : Cond.constant "java/lang/Float" 77 (2143289344 : Int32) ∈ gw := gw_t7 83 rfl rfl
theorem q1278 : Cond.methodLink "LeapJoinLaw" 128 yX9_spread ∈ gw := gw_t7 84 rfl rfl
theorem q1279 : Cond.instanceMethod yX9_spread ∈ gw := gw_t7 85 rfl rfl
theorem q1280 : Cond.selects "LeapJoinModel" yX9_spread yX9_spread ∈ gw := gw_t7 86 rfl rfl
theorem q1281 : Cond.code yX9_spread prog_11_method_108_code 9 (Option.some Jvm.ClassFile.FieldType.long) ∈ gw := gw_t7 87 rfl rfl
theorem q1282 : Cond.methodLink "LeapJoinLaw" 132 yX9_skew ∈ gw := gw_t7 88 rfl rfl
theorem q1283 : Cond.instanceMethod yX9_skew ∈ gw := gw_t7 89 rfl rfl
theorem q1284 : Cond.selects "LeapJoinModel" yX9_skew yX9_skew ∈ gw := gw_t7 90 rfl rfl
theorem q1285 : Cond.code yX9_skew prog_11_method_109_code 3 (Option.some Jvm.ClassFile.FieldType.int) ∈ gw := gw_t7 91 rfl rfl
theorem q1286 : Cond.methodLink "LeapJoinLaw" 171 yX9_would ∈ gw := gw_t7 92 rfl rfl
theorem q1287 : Cond.instanceMethod yX9_would ∈ gw := gw_t7 93 rfl rfl
theorem q1288 : Cond.selects "LeapJoinModel" yX9_would yX9_would ∈ gw := gw_t7 94 rfl rfl
theorem q1289 : Cond.code yX9_would prog_11_method_112_code 6 (Option.some Jvm.ClassFile.FieldType.int) ∈ gw := gw_t7 95 rfl rfl
theorem q1290 : Cond.methodLink "LeapJoinModel" 403 yX9_putAside ∈ gw := gw_t7 96 rfl rfl
theorem q1291 : Cond.instanceMethod yX9_putAside ∈ gw := gw_t7 98 rfl rfl
theorem q1292 : Cond.code yX9_putAside prog_11_method_110_code 2 (Option.none : Option Jvm.ClassFile.FieldType) ∈ gw := gw_t7 99 rfl rfl
theorem q1293 : Cond.methodLink "LeapJoinModel" 406 yX9_bringBack ∈ gw := gw_t7 100 rfl rfl
theorem q1294 : Cond.instanceMethod yX9_bringBack ∈ gw := gw_t7 102 rfl rfl
theorem q1295 : Cond.code yX9_bringBack prog_11_method_111_code 2 (Option.none : Option Jvm.ClassFile.FieldType) ∈ gw := gw_t7 103 rfl rfl
theorem q1296 : Cond.methodLink "LeapJoinLaw" 175 yX9_step ∈ gw := gw_t7 104 rfl rfl
theorem q1297 : Cond.instanceMethod yX9_step ∈ gw := gw_t7 105 rfl rfl
theorem q1298 : Cond.selects "LeapJoinModel" yX9_step yX9_step ∈ gw := gw_t7 106 rfl rfl
theorem q1299 : Cond.code yX9_step prog_11_method_114_code 4 (Option.some Jvm.ClassFile.FieldType.int) ∈ gw := gw_t7 107 rfl rfl
theorem q1300 : Cond.methodLink "LeapJoinModel" 409 yX9_isScript ∈ gw := gw_t7 108 rfl rfl
theorem q1301 : Cond.instanceMethod yX9_isScript ∈ gw := gw_t7 110 rfl rfl
theorem q1302 : Cond.code yX9_isScript prog_11_method_113_code 2 (Option.some Jvm.ClassFile.FieldType.boolean) ∈ gw := gw_t7 111 rfl rfl
theorem q1303 : Cond.methodLink "LeapJoinLaw" 179 yX9_run ∈ gw := gw_t7 112 rfl rfl
theorem q1304 : Cond.instanceMethod yX9_run ∈ gw := gw_t7 113 rfl rfl
theorem q1305 : Cond.selects "LeapJoinModel" yX9_run yX9_run ∈ gw := gw_t7 114 rfl rfl
theorem q1306 : Cond.code yX9_run prog_11_method_116_code 5 (Option.some Jvm.ClassFile.FieldType.int) ∈ gw := gw_t7 115 rfl rfl
theorem q1307 : Cond.methodLink "LeapJoinModel" 412 yX9_goSteps ∈ gw := gw_t7 116 rfl rfl
theorem q1308 : Cond.instanceMethod yX9_goSteps ∈ gw := gw_t7 118 rfl rfl
theorem q1309 : Cond.code yX9_goSteps prog_11_method_115_code 5 (Option.some Jvm.ClassFile.FieldType.int) ∈ gw := gw_t7 119 rfl rfl
theorem q1310 : Cond.methodLink "LeapJoinLaw" 183 yX9_perform ∈ gw := gw_t7 120 rfl rfl
theorem q1311 : Cond.instanceMethod yX9_perform ∈ gw := gw_t7 121 rfl rfl
theorem q1312 : Cond.selects "LeapJoinModel" yX9_perform yX9_perform ∈ gw := gw_t7 122 rfl rfl
theorem q1313 : Cond.code yX9_perform prog_11_method_117_code 2 (Option.some Jvm.ClassFile.FieldType.int) ∈ gw := gw_t7 123 rfl rfl
theorem q1314 : Cond.methodLink "LeapJoinLaw" 187 yX9_most ∈ gw := gw_t7 124 rfl rfl
theorem q1315 : Cond.instanceMethod yX9_most ∈ gw := gw_t7 125 rfl rfl
theorem q1316 : Cond.selects "LeapJoinModel" yX9_most yX9_most ∈ gw := gw_t7 126 rfl rfl
theorem q1317 : Cond.code yX9_most prog_11_method_122_code 2 (Option.some Jvm.ClassFile.FieldType.int) ∈ gw := gw_t7 127 rfl rfl
theorem q1318 : Cond.methodLink "LeapJoinModel" 419 yX9_sumOfRows ∈ gw := gw_t7 128 rfl rfl
theorem q1319 : Cond.instanceMethod yX9_sumOfRows ∈ gw := gw_t7 130 rfl rfl
theorem q1320 : Cond.code yX9_sumOfRows prog_11_method_118_code 5 (Option.some Jvm.ClassFile.FieldType.int) ∈ gw := gw_t7 131 rfl rfl
theorem q1321 : Cond.methodLink "LeapJoinModel" 422 yX9_greatestTable ∈ gw := gw_t7 132 rfl rfl
theorem q1322 : Cond.instanceMethod yX9_greatestTable ∈ gw := gw_t7 134 rfl rfl
theorem q1323 : Cond.code yX9_greatestTable prog_11_method_119_code 5 (Option.some Jvm.ClassFile.FieldType.int) ∈ gw := gw_t7 135 rfl rfl
theorem q1324 : Cond.methodLink "LeapJoinModel" 416 yX9_bits ∈ gw := gw_t7 136 rfl rfl
theorem q1325 : Cond.static yX9_bits ∈ gw := gw_t7 137 rfl rfl
theorem q1326 : Cond.code yX9_bits prog_11_method_3_code 3 (Option.some Jvm.ClassFile.FieldType.int) ∈ gw := gw_t7 138 rfl rfl
theorem q1327 : Cond.methodLink "LeapJoinModel" 426 yX9_notGiven ∈ gw := gw_t7 139 rfl rfl
theorem q1328 : Cond.instanceMethod yX9_notGiven ∈ gw := gw_t7 141 rfl rfl
theorem q1329 : Cond.code yX9_notGiven prog_11_method_120_code 3 (Option.some Jvm.ClassFile.FieldType.int) ∈ gw := gw_t7 142 rfl rfl
theorem q1330 : Cond.methodLink "LeapJoinModel" 429 yX9_couples ∈ gw := gw_t7 143 rfl rfl
theorem q1331 : Cond.instanceMethod yX9_couples ∈ gw := gw_t7 145 rfl rfl
theorem q1332 : Cond.code yX9_couples prog_11_method_121_code 4 (Option.some Jvm.ClassFile.FieldType.int) ∈ gw := gw_t7 146 rfl rfl
theorem q1333 : Cond.methodLink "LeapJoinLaw" 191 yX9_image ∈ gw := gw_t7 147 rfl rfl
theorem q1334 : Cond.instanceMethod yX9_image ∈ gw := gw_t7 148 rfl rfl
theorem q1335 : Cond.selects "LeapJoinModel" yX9_image yX9_image ∈ gw := gw_t7 149 rfl rfl
theorem q1336 : Cond.code yX9_image prog_11_method_123_code 2 (Option.some Jvm.ClassFile.FieldType.int) ∈ gw := gw_t7 150 rfl rfl
theorem q1337 : Cond.methodLink "LeapJoinLaw" 195 yX9_back ∈ gw := gw_t7 151 rfl rfl
theorem q1338 : Cond.instanceMethod yX9_back ∈ gw := gw_t7 152 rfl rfl
theorem q1339 : Cond.selects "LeapJoinModel" yX9_back yX9_back ∈ gw := gw_t7 153 rfl rfl
theorem q1340 : Cond.code yX9_back prog_11_method_124_code 2 (Option.some Jvm.ClassFile.FieldType.int) ∈ gw := gw_t7 154 rfl rfl
theorem q1341 : Cond.methodLink "LeapJoinLaw" 199 yX9_count ∈ gw := gw_t7 155 rfl rfl
theorem q1342 : Cond.instanceMethod yX9_count ∈ gw := gw_t7 156 rfl rfl
theorem q1343 : Cond.selects "LeapJoinModel" yX9_count yX9_count ∈ gw := gw_t7 157 rfl rfl
theorem q1344 : Cond.code yX9_count prog_11_method_125_code 2 (Option.some Jvm.ClassFile.FieldType.int) ∈ gw := gw_t7 158 rfl rfl
theorem q1345 : Cond.constantLong "LeapJoinLaw" 149 (4294967295 : Int64) ∈ gw := gw_t7 159 rfl rfl
theorem q1346 : Cond.arrayClass Jvm.ClassFile.FieldType.long ∈ gw := gw_t7 160 rfl rfl
theorem q1347 : Cond.selects RX6 yX6_isClause yX6_isClause ∈ gw := gw_s1 (q := (yX6_isClause, 3)) 0 rfl
theorem q1348 : Cond.selects RX6 yX6_peek yX6_peek ∈ gw := gw_s1 (q := (yX6_peek, 3)) 1 rfl
theorem q1349 : Cond.selects RX6 yX6_isRow yX6_isRow ∈ gw := gw_s1 (q := (yX6_isRow, 3)) 2 rfl
theorem q1350 : Cond.selects RX6 yX6_number yX6_number ∈ gw := gw_s1 (q := (yX6_number, 3)) 3 rfl
theorem q1351 : Cond.selects RX6 yX6_isStep yX6_isStep ∈ gw := gw_s1 (q := (yX6_isStep, 3)) 4 rfl
theorem q1352 : Cond.selects RX6 yX6_isOrder yX6_isOrder ∈ gw := gw_s1 (q := (yX6_isOrder, 3)) 5 rfl
theorem q1353 : Cond.selects RX6 yX6_isRowOfStep yX6_isRowOfStep ∈ gw := gw_s1 (q := (yX6_isRowOfStep, 3)) 6 rfl
theorem q1354 : Cond.selects RX8 yX8_textOfTables yX8_textOfTables ∈ gw := gw_s1 (q := (yX8_textOfTables, 17)) 7 rfl
theorem q1355 : Cond.selects RX8 yX8_renew yX8_renew ∈ gw := gw_s1 (q := (yX8_renew, 17)) 8 rfl
theorem q1356 : Cond.selects RX1 yX1_addLetters yX1_addLetters ∈ gw := gw_s1 (q := (yX1_addLetters, 13)) 9 rfl
theorem q1357 : Cond.selects RX1 yX1_open yX1_open ∈ gw := gw_s1 (q := (yX1_open, 13)) 10 rfl
theorem q1358 : Cond.selects RX1 yX1_load yX1_load ∈ gw := gw_s1 (q := (yX1_load, 13)) 11 rfl
theorem q1359 : Cond.selects RX1 yX1_addSorted yX1_addSorted ∈ gw := gw_s1 (q := (yX1_addSorted, 13)) 12 rfl
theorem q1360 : Cond.selects RX1 yX1_search yX1_search ∈ gw := gw_s1 (q := (yX1_search, 13)) 13 rfl
theorem q1361 : Cond.selects RX1 yX1_isOpened yX1_isOpened ∈ gw := gw_s1 (q := (yX1_isOpened, 13)) 14 rfl
theorem q1362 : Cond.selects RX1 yX1_greatestKey yX1_greatestKey ∈ gw := gw_s1 (q := (yX1_greatestKey, 13)) 15 rfl
theorem q1363 : Cond.selects RX1 yX1_lowestBelow yX1_lowestBelow ∈ gw := gw_s2 (q := (yX1_lowestBelow, 13)) 0 rfl
theorem q1364 : Cond.selects RX1 yX1_deepen yX1_deepen ∈ gw := gw_s2 (q := (yX1_deepen, 13)) 1 rfl
theorem q1365 : Cond.selects RX1 yX1_narrow yX1_narrow ∈ gw := gw_s2 (q := (yX1_narrow, 13)) 2 rfl
theorem q1366 : Cond.selects RX1 yX1_isLeapt yX1_isLeapt ∈ gw := gw_s2 (q := (yX1_isLeapt, 13)) 3 rfl
theorem q1367 : Cond.selects RX8 yX8_textOfScript yX8_textOfScript ∈ gw := gw_s2 (q := (yX8_textOfScript, 17)) 4 rfl
theorem q1368 : Cond.selects RX8 yX8_isAsked yX8_isAsked ∈ gw := gw_s2 (q := (yX8_isAsked, 17)) 5 rfl
theorem q1369 : Cond.selects RX8 yX8_isDone yX8_isDone ∈ gw := gw_s2 (q := (yX8_isDone, 17)) 6 rfl
theorem q1370 : Cond.selects RX8 yX8_attempt yX8_attempt ∈ gw := gw_s2 (q := (yX8_attempt, 17)) 7 rfl
theorem q1371 : Cond.selects RX5 yX5_isFitting yX5_isFitting ∈ gw := gw_s2 (q := (yX5_isFitting, 7)) 8 rfl
theorem q1372 : Cond.selects RX5 yX5_remove yX5_remove ∈ gw := gw_s2 (q := (yX5_remove, 7)) 9 rfl
theorem q1373 : Cond.selects RX8 yX8_goOneWay yX8_goOneWay ∈ gw := gw_s2 (q := (yX8_goOneWay, 17)) 10 rfl
theorem q1374 : Cond.selects RX8 yX8_draw yX8_draw ∈ gw := gw_s2 (q := (yX8_draw, 17)) 11 rfl
theorem q1375 : Cond.selects RX8 yX8_isScript yX8_isScript ∈ gw := gw_s2 (q := (yX8_isScript, 17)) 12 rfl
theorem q1376 : Cond.selects RX8 yX8_tableWithMostRows yX8_tableWithMostRows ∈ gw := gw_s2 (q := (yX8_tableWithMostRows, 17)) 13 rfl
theorem q1377 : Cond.selects RX8 yX8_tableWithMostGiven yX8_tableWithMostGiven ∈ gw := gw_s2 (q := (yX8_tableWithMostGiven, 17)) 14 rfl
theorem q1378 : Cond.selects RX8 yX8_givenRows yX8_givenRows ∈ gw := gw_s2 (q := (yX8_givenRows, 17)) 15 rfl
theorem q1379 : Cond.selects RX8 yX8_dangling yX8_dangling ∈ gw := gw_s3 (q := (yX8_dangling, 17)) 0 rfl
theorem q1380 : Cond.selects RX8 yX8_tellingCouples yX8_tellingCouples ∈ gw := gw_s3 (q := (yX8_tellingCouples, 17)) 1 rfl
theorem q1381 : Cond.selects RX9 yX9_readAll yX9_readAll ∈ gw := gw_s3 (q := (yX9_readAll, 43)) 3 rfl
theorem q1382 : Cond.selects RX9 yX9_begins yX9_begins ∈ gw := gw_s3 (q := (yX9_begins, 43)) 4 rfl
theorem q1383 : Cond.selects RX9 yX9_readTable yX9_readTable ∈ gw := gw_s3 (q := (yX9_readTable, 43)) 5 rfl
theorem q1384 : Cond.selects RX9 yX9_readHead yX9_readHead ∈ gw := gw_s3 (q := (yX9_readHead, 43)) 6 rfl
theorem q1385 : Cond.selects RX9 yX9_ahead yX9_ahead ∈ gw := gw_s3 (q := (yX9_ahead, 43)) 7 rfl
theorem q1386 : Cond.selects RX9 yX9_here yX9_here ∈ gw := gw_s3 (q := (yX9_here, 43)) 8 rfl
theorem q1387 : Cond.selects RX9 yX9_isLetter yX9_isLetter ∈ gw := gw_s3 (q := (yX9_isLetter, 43)) 9 rfl
theorem q1388 : Cond.selects RX9 yX9_bad yX9_bad ∈ gw := gw_s3 (q := (yX9_bad, 43)) 10 rfl
theorem q1389 : Cond.selects RX9 yX9_must yX9_must ∈ gw := gw_s3 (q := (yX9_must, 43)) 11 rfl
theorem q1390 : Cond.selects RX9 yX9_readRow yX9_readRow ∈ gw := gw_s3 (q := (yX9_readRow, 43)) 12 rfl
theorem q1391 : Cond.selects RX9 yX9_number yX9_number ∈ gw := gw_s3 (q := (yX9_number, 43)) 13 rfl
theorem q1392 : Cond.selects RX9 yX9_ends yX9_ends ∈ gw := gw_s3 (q := (yX9_ends, 43)) 14 rfl
theorem q1393 : Cond.selects RX9 yX9_readScript yX9_readScript ∈ gw := gw_s3 (q := (yX9_readScript, 43)) 15 rfl
theorem q1394 : Cond.selects RX9 yX9_readStep yX9_readStep ∈ gw := gw_s4 (q := (yX9_readStep, 43)) 0 rfl
theorem q1395 : Cond.selects RX9 yX9_digit yX9_digit ∈ gw := gw_s4 (q := (yX9_digit, 43)) 1 rfl
theorem q1396 : Cond.selects RX9 yX9_takeTables yX9_takeTables ∈ gw := gw_s4 (q := (yX9_takeTables, 43)) 2 rfl
theorem q1397 : Cond.selects RX9 yX9_hasRow yX9_hasRow ∈ gw := gw_s4 (q := (yX9_hasRow, 43)) 3 rfl
theorem q1398 : Cond.selects RX9 yX9_countLess yX9_countLess ∈ gw := gw_s4 (q := (yX9_countLess, 43)) 4 rfl
theorem q1399 : Cond.selects RX9 yX9_many yX9_many ∈ gw := gw_s4 (q := (yX9_many, 43)) 5 rfl
theorem q1400 : Cond.selects RX9 yX9_compares yX9_compares ∈ gw := gw_s4 (q := (yX9_compares, 43)) 6 rfl
theorem q1401 : Cond.selects RX9 yX9_putsNow yX9_putsNow ∈ gw := gw_s4 (q := (yX9_putsNow, 43)) 7 rfl
theorem q1402 : Cond.selects RX9 yX9_hand yX9_hand ∈ gw := gw_s4 (q := (yX9_hand, 43)) 8 rfl
theorem q1403 : Cond.selects RX9 yX9_whyNot yX9_whyNot ∈ gw := gw_s4 (q := (yX9_whyNot, 43)) 9 rfl
theorem q1404 : Cond.selects RX9 yX9_whyPut yX9_whyPut ∈ gw := gw_s4 (q := (yX9_whyPut, 43)) 10 rfl
theorem q1405 : Cond.selects RX9 yX9_isTable yX9_isTable ∈ gw := gw_s4 (q := (yX9_isTable, 43)) 11 rfl
theorem q1406 : Cond.selects RX9 yX9_isRow yX9_isRow ∈ gw := gw_s4 (q := (yX9_isRow, 43)) 12 rfl
theorem q1407 : Cond.selects RX9 yX9_whyTake yX9_whyTake ∈ gw := gw_s4 (q := (yX9_whyTake, 43)) 13 rfl
theorem q1408 : Cond.selects RX9 yX9_areTables yX9_areTables ∈ gw := gw_s4 (q := (yX9_areTables, 43)) 14 rfl
theorem q1409 : Cond.selects RX9 yX9_act yX9_act ∈ gw := gw_s4 (q := (yX9_act, 43)) 15 rfl
theorem q1410 : Cond.selects RX9 yX9_keep yX9_keep ∈ gw := gw_s5 (q := (yX9_keep, 43)) 0 rfl
theorem q1411 : Cond.selects RX9 yX9_doNow yX9_doNow ∈ gw := gw_s5 (q := (yX9_doNow, 43)) 1 rfl
theorem q1412 : Cond.selects RX9 yX9_takesNow yX9_takesNow ∈ gw := gw_s5 (q := (yX9_takesNow, 43)) 2 rfl
theorem q1413 : Cond.selects RX9 yX9_isUsed yX9_isUsed ∈ gw := gw_s5 (q := (yX9_isUsed, 43)) 3 rfl
theorem q1414 : Cond.selects RX9 yX9_note yX9_note ∈ gw := gw_s5 (q := (yX9_note, 43)) 4 rfl
theorem q1415 : Cond.selects RX9 yX9_rowsNow yX9_rowsNow ∈ gw := gw_s5 (q := (yX9_rowsNow, 43)) 5 rfl
theorem q1416 : Cond.selects RX9 yX9_joinsNow yX9_joinsNow ∈ gw := gw_s5 (q := (yX9_joinsNow, 43)) 6 rfl
theorem q1417 : Cond.selects RX9 yX9_joins yX9_joins ∈ gw := gw_s5 (q := (yX9_joins, 43)) 7 rfl
theorem q1418 : Cond.selects RX9 yX9_laysOrder yX9_laysOrder ∈ gw := gw_s5 (q := (yX9_laysOrder, 43)) 8 rfl
theorem q1419 : Cond.selects RX9 yX9_asked yX9_asked ∈ gw := gw_s5 (q := (yX9_asked, 43)) 9 rfl
theorem q1420 : Cond.selects RX9 yX9_lettersOf yX9_lettersOf ∈ gw := gw_s5 (q := (yX9_lettersOf, 43)) 10 rfl
theorem q1421 : Cond.selects RX9 yX9_goes yX9_goes ∈ gw := gw_s5 (q := (yX9_goes, 43)) 11 rfl
theorem q1422 : Cond.selects RX9 yX9_takesRow yX9_takesRow ∈ gw := gw_s5 (q := (yX9_takesRow, 43)) 12 rfl
theorem q1423 : Cond.selects RX9 yX9_laysKeys yX9_laysKeys ∈ gw := gw_s5 (q := (yX9_laysKeys, 43)) 13 rfl
theorem q1424 : Cond.selects RX9 yX9_isIn yX9_isIn ∈ gw := gw_s5 (q := (yX9_isIn, 43)) 14 rfl
theorem q1425 : Cond.selects RX9 yX9_columnOf yX9_columnOf ∈ gw := gw_s5 (q := (yX9_columnOf, 43)) 15 rfl
theorem q1426 : Cond.selects RX9 yX9_fits yX9_fits ∈ gw := gw_s6 (q := (yX9_fits, 43)) 0 rfl
theorem q1427 : Cond.selects RX9 yX9_takesKey yX9_takesKey ∈ gw := gw_s6 (q := (yX9_takesKey, 43)) 1 rfl
theorem q1428 : Cond.selects RX9 yX9_greatestKey yX9_greatestKey ∈ gw := gw_s6 (q := (yX9_greatestKey, 43)) 2 rfl
theorem q1429 : Cond.selects RX9 yX9_keyAt yX9_keyAt ∈ gw := gw_s6 (q := (yX9_keyAt, 43)) 3 rfl
theorem q1430 : Cond.selects RX9 yX9_firstBehind yX9_firstBehind ∈ gw := gw_s6 (q := (yX9_firstBehind, 43)) 4 rfl
theorem q1431 : Cond.selects RX9 yX9_firstIn yX9_firstIn ∈ gw := gw_s6 (q := (yX9_firstIn, 43)) 5 rfl
theorem q1432 : Cond.selects RX9 yX9_leaps yX9_leaps ∈ gw := gw_s6 (q := (yX9_leaps, 43)) 6 rfl
theorem q1433 : Cond.selects RX9 yX9_drawWay yX9_drawWay ∈ gw := gw_s6 (q := (yX9_drawWay, 43)) 7 rfl
theorem q1434 : Cond.selects RX9 yX9_draw yX9_draw ∈ gw := gw_s6 (q := (yX9_draw, 43)) 8 rfl
theorem q1435 : Cond.selects RX9 yX9_tryOne yX9_tryOne ∈ gw := gw_s6 (q := (yX9_tryOne, 43)) 9 rfl
theorem q1436 : Cond.selects RX9 yX9_rowsOfAll yX9_rowsOfAll ∈ gw := gw_s6 (q := (yX9_rowsOfAll, 43)) 10 rfl
theorem q1437 : Cond.selects RX9 yX9_isAsked yX9_isAsked ∈ gw := gw_s6 (q := (yX9_isAsked, 43)) 11 rfl
theorem q1438 : Cond.selects RX9 yX9_numberOf yX9_numberOf ∈ gw := gw_s6 (q := (yX9_numberOf, 43)) 12 rfl
theorem q1439 : Cond.selects RX9 yX9_triesOrders yX9_triesOrders ∈ gw := gw_s6 (q := (yX9_triesOrders, 43)) 13 rfl
theorem q1440 : Cond.selects RX9 yX9_givenBy yX9_givenBy ∈ gw := gw_s6 (q := (yX9_givenBy, 43)) 14 rfl
theorem q1441 : Cond.selects RX9 yX9_isOf yX9_isOf ∈ gw := gw_s6 (q := (yX9_isOf, 43)) 15 rfl
theorem q1442 : Cond.selects RX9 yX9_counts yX9_counts ∈ gw := gw_s7 (q := (yX9_counts, 43)) 0 rfl
theorem q1443 : Cond.selects RX9 yX9_extremeOf yX9_extremeOf ∈ gw := gw_s7 (q := (yX9_extremeOf, 43)) 1 rfl
theorem q1444 : Cond.selects RX9 yX9_isTold yX9_isTold ∈ gw := gw_s7 (q := (yX9_isTold, 43)) 2 rfl
theorem q1445 : Cond.selects RX9 yX9_takesFour yX9_takesFour ∈ gw := gw_s7 (q := (yX9_takesFour, 43)) 3 rfl
theorem q1446 : Cond.selects RX9 yX9_comparesFour yX9_comparesFour ∈ gw := gw_s7 (q := (yX9_comparesFour, 43)) 4 rfl
theorem q1447 : Cond.selects RX9 yX9_hasMean yX9_hasMean ∈ gw := gw_s7 (q := (yX9_hasMean, 43)) 5 rfl
theorem q1448 : Cond.selects RX9 yX9_meanOf yX9_meanOf ∈ gw := gw_s7 (q := (yX9_meanOf, 43)) 6 rfl
theorem q1449 : Cond.selects RX9 yX9_putAside yX9_putAside ∈ gw := gw_s7 (q := (yX9_putAside, 43)) 7 rfl
theorem q1450 : Cond.selects RX9 yX9_bringBack yX9_bringBack ∈ gw := gw_s7 (q := (yX9_bringBack, 43)) 8 rfl
theorem q1451 : Cond.selects RX9 yX9_isScript yX9_isScript ∈ gw := gw_s7 (q := (yX9_isScript, 43)) 9 rfl
theorem q1452 : Cond.selects RX9 yX9_goSteps yX9_goSteps ∈ gw := gw_s7 (q := (yX9_goSteps, 43)) 10 rfl
theorem q1453 : Cond.selects RX9 yX9_sumOfRows yX9_sumOfRows ∈ gw := gw_s7 (q := (yX9_sumOfRows, 43)) 11 rfl
theorem q1454 : Cond.selects RX9 yX9_greatestTable yX9_greatestTable ∈ gw := gw_s7 (q := (yX9_greatestTable, 43)) 12 rfl
theorem q1455 : Cond.selects RX9 yX9_notGiven yX9_notGiven ∈ gw := gw_s7 (q := (yX9_notGiven, 43)) 13 rfl
theorem q1456 : Cond.selects RX9 yX9_couples yX9_couples ∈ gw := gw_s7 (q := (yX9_couples, 43)) 14 rfl
theorem uX0 : ∀ w ∈ u_ws RX0 TX0 2, w ∈ gw := List.forall_mem_cons.mpr ⟨q117, List.forall_mem_cons.mpr ⟨q118, fun _ h => absurd h List.not_mem_nil⟩⟩
theorem uX1 : ∀ w ∈ u_ws RX1 TX1 13, w ∈ gw := List.forall_mem_cons.mpr ⟨q96, List.forall_mem_cons.mpr ⟨q97, List.forall_mem_cons.mpr ⟨q98, List.forall_mem_cons.mpr ⟨q99, List.forall_mem_cons.mpr ⟨q100, List.forall_mem_cons.mpr ⟨q101, List.forall_mem_cons.mpr ⟨q102, List.forall_mem_cons.mpr ⟨q103, List.forall_mem_cons.mpr ⟨q104, List.forall_mem_cons.mpr ⟨q105, List.forall_mem_cons.mpr ⟨q106, List.forall_mem_cons.mpr ⟨q107, List.forall_mem_cons.mpr ⟨q108, fun _ h => absurd h List.not_mem_nil⟩⟩⟩⟩⟩⟩⟩⟩⟩⟩⟩⟩⟩
theorem uX2 : ∀ w ∈ u_ws RX2 TX2 3, w ∈ gw := List.forall_mem_cons.mpr ⟨q144, List.forall_mem_cons.mpr ⟨q145, List.forall_mem_cons.mpr ⟨q146, fun _ h => absurd h List.not_mem_nil⟩⟩⟩
theorem uX3 : ∀ w ∈ u_ws RX3 TX3 3, w ∈ gw := List.forall_mem_cons.mpr ⟨q156, List.forall_mem_cons.mpr ⟨q157, List.forall_mem_cons.mpr ⟨q158, fun _ h => absurd h List.not_mem_nil⟩⟩⟩
theorem uX4 : ∀ w ∈ u_ws RX4 TX4 2, w ∈ gw := List.forall_mem_cons.mpr ⟨q167, List.forall_mem_cons.mpr ⟨q168, fun _ h => absurd h List.not_mem_nil⟩⟩
theorem uX5 : ∀ w ∈ u_ws RX5 TX5 7, w ∈ gw := List.forall_mem_cons.mpr ⟨q64, List.forall_mem_cons.mpr ⟨q65, List.forall_mem_cons.mpr ⟨q66, List.forall_mem_cons.mpr ⟨q67, List.forall_mem_cons.mpr ⟨q68, List.forall_mem_cons.mpr ⟨q69, List.forall_mem_cons.mpr ⟨q70, fun _ h => absurd h List.not_mem_nil⟩⟩⟩⟩⟩⟩⟩
theorem uX6 : ∀ w ∈ u_ws RX6 TX6 3, w ∈ gw := List.forall_mem_cons.mpr ⟨q39, List.forall_mem_cons.mpr ⟨q40, List.forall_mem_cons.mpr ⟨q41, fun _ h => absurd h List.not_mem_nil⟩⟩⟩
theorem uX7 : ∀ w ∈ u_ws RX7 TX7 4, w ∈ gw := List.forall_mem_cons.mpr ⟨q132, List.forall_mem_cons.mpr ⟨q133, List.forall_mem_cons.mpr ⟨q134, List.forall_mem_cons.mpr ⟨q135, fun _ h => absurd h List.not_mem_nil⟩⟩⟩⟩
theorem uX8 : ∀ w ∈ u_ws RX8 TX8 17, w ∈ gw := List.forall_mem_cons.mpr ⟨q186, List.forall_mem_cons.mpr ⟨q187, List.forall_mem_cons.mpr ⟨q188, List.forall_mem_cons.mpr ⟨q189, List.forall_mem_cons.mpr ⟨q190, List.forall_mem_cons.mpr ⟨q191, List.forall_mem_cons.mpr ⟨q192, List.forall_mem_cons.mpr ⟨q193, List.forall_mem_cons.mpr ⟨q194, List.forall_mem_cons.mpr ⟨q195, List.forall_mem_cons.mpr ⟨q196, List.forall_mem_cons.mpr ⟨q197, List.forall_mem_cons.mpr ⟨q198, List.forall_mem_cons.mpr ⟨q199, List.forall_mem_cons.mpr ⟨q200, List.forall_mem_cons.mpr ⟨q201, List.forall_mem_cons.mpr ⟨q202, fun _ h => absurd h List.not_mem_nil⟩⟩⟩⟩⟩⟩⟩⟩⟩⟩⟩⟩⟩⟩⟩⟩⟩
theorem uX9 : ∀ w ∈ u_ws RX9 TX9 43, w ∈ gw := List.forall_mem_cons.mpr ⟨q864, List.forall_mem_cons.mpr ⟨q865, List.forall_mem_cons.mpr ⟨q866, List.forall_mem_cons.mpr ⟨q867, List.forall_mem_cons.mpr ⟨q868, List.forall_mem_cons.mpr ⟨q869, List.forall_mem_cons.mpr ⟨q870, List.forall_mem_cons.mpr ⟨q871, List.forall_mem_cons.mpr ⟨q872, List.forall_mem_cons.mpr ⟨q873, List.forall_mem_cons.mpr ⟨q874, List.forall_mem_cons.mpr ⟨q875, List.forall_mem_cons.mpr ⟨q876, List.forall_mem_cons.mpr ⟨q877, List.forall_mem_cons.mpr ⟨q878, List.forall_mem_cons.mpr ⟨q879, List.forall_mem_cons.mpr ⟨q880, List.forall_mem_cons.mpr ⟨q881, List.forall_mem_cons.mpr ⟨q882, List.forall_mem_cons.mpr ⟨q883, List.forall_mem_cons.mpr ⟨q884, List.forall_mem_cons.mpr ⟨q885, List.forall_mem_cons.mpr ⟨q886, List.forall_mem_cons.mpr ⟨q887, List.forall_mem_cons.mpr ⟨q888, List.forall_mem_cons.mpr ⟨q889, List.forall_mem_cons.mpr ⟨q890, List.forall_mem_cons.mpr ⟨q891, List.forall_mem_cons.mpr ⟨q892, List.forall_mem_cons.mpr ⟨q893, List.forall_mem_cons.mpr ⟨q894, List.forall_mem_cons.mpr ⟨q895, List.forall_mem_cons.mpr ⟨q896, List.forall_mem_cons.mpr ⟨q897, List.forall_mem_cons.mpr ⟨q898, List.forall_mem_cons.mpr ⟨q899, List.forall_mem_cons.mpr ⟨q900, List.forall_mem_cons.mpr ⟨q901, List.forall_mem_cons.mpr ⟨q902, List.forall_mem_cons.mpr ⟨q903, List.forall_mem_cons.mpr ⟨q904, List.forall_mem_cons.mpr ⟨q905, List.forall_mem_cons.mpr ⟨q906, fun _ h => absurd h List.not_mem_nil⟩⟩⟩⟩⟩⟩⟩⟩⟩⟩⟩⟩⟩⟩⟩⟩⟩⟩⟩⟩⟩⟩⟩⟩⟩⟩⟩⟩⟩⟩⟩⟩⟩⟩⟩⟩⟩⟩⟩⟩⟩⟩⟩
end
section
/-! the memory of the two objects as two functions: g of a cell and a place, whole numbers (fields, elements), and h, longs -/
abbrev gM : Type := Nat → Nat → Int32
abbrev gN : Type := Nat → Nat → Int64
/-- a cell's kind: an object (its class's place, of each field what it is: 0 an int, 1 a long, 2 null, n + 3 the cell n) or an array (its type's place, its length, what it holds: 0 ints, 1 longs, 2 nulls, 8 n + c + 3 the c cells n, n + 2, n + 4 .., behind them nulls) -/
abbrev gS : Type := (Nat × List Nat) ⊕ (Nat × Nat × Nat)
abbrev gE : Type := va_G × (Nat → Nat) × (Nat → ClassId)
def g_up {α : Type} (I : Nat → Nat → α) (k j : Nat) (v : α) : Nat → Nat → α := fun k' j' => if k' = k ∧ j' = j then v else I k' j'
def g_fv (ad : Nat → Nat) (a : Nat → Int32) (b : Nat → Int64) (j f : Nat) : Value := match f with
  | 0 => .int (a j)
  | 1 => .long (b j)
  | 2 => .null
  | n + 3 => .ref (ad n)
def g_av (ad : Nat → Nat) (a : Nat → Int32) (b : Nat → Int64) (so : Nat) : (Nat → Int32) ⊕ (Nat → Int64) ⊕ (Nat → UInt32) ⊕ (Nat → UInt64) ⊕ (Nat → Option Nat) := match so with
  | 0 => .inl a
  | 1 => .inr (.inl b)
  | 2 => .inr (.inr (.inr (.inr (fun _ => none))))
  | n + 3 => .inr (.inr (.inr (.inr (fun j => if j < n % 8 then some (ad (n / 8 + 2 * j)) else none))))
def g_el (E : gE) (a : Nat → Int32) (b : Nat → Int64) (x : gS) : va_E := match x with
  | .inl (ci, fds) => .inr (ci, fds.mapIdx (fun j f => g_fv E.2.1 a b j f))
  | .inr (t, len, so) => .inl (E.2.2 t, len, g_av E.2.1 a b so)
def g_w (S : List gS) (E : gE) (I : gM) (J : gN) : va_W := S.mapIdx (fun k x => (E.2.1 k, g_el E (I k) (J k) x))
abbrev g_ty (E : gE) : List (ClassId × FieldType) := [(E.2.2 0, .int), (E.2.2 1, .byte), (E.2.2 2, .boolean), (E.2.2 3, .long), (E.2.2 4, .object "LeapJoin$Script")]
theorem g_get {S : List gS} {E : gE} {I : gM} {J : gN} {k : Nat} {x : gS} (h : S[k]? = some x) : (g_w S E I J)[k]? = some (E.2.1 k, g_el E (I k) (J k) x) := by
  simp [g_w, List.getElem?_mapIdx, h]
theorem g_get' {S : List gS} {E : gE} {I : gM} {J : gN} {k : Nat} {q : Nat × va_E} (h : (g_w S E I J)[k]? = some q) : ∃ x, S[k]? = some x ∧ q = (E.2.1 k, g_el E (I k) (J k) x) := by
  simp only [g_w, List.getElem?_mapIdx] at h
  cases hx : S[k]? with
  | none => rw [hx] at h; cases h
  | some x => rw [hx] at h; cases h; exact ⟨x, rfl, rfl⟩
theorem g_set {S : List gS} {E : gE} {I I' : gM} {J J' : gN} {k : Nat} {x : gS} (h : S[k]? = some x) (hI : ∀ i, i ≠ k → I' i = I i) (hJ : ∀ i, i ≠ k → J' i = J i) : (g_w S E I J).set k (E.2.1 k, g_el E (I' k) (J' k) x) = g_w S E I' J' := by
  apply List.ext_getElem?
  intro i
  by_cases hi : i = k
  · subst hi
    rw [List.getElem?_set_self (by rw [g_w, List.length_mapIdx]; exact (List.getElem?_eq_some_iff.mp h).1), g_get h]
  · rw [List.getElem?_set_ne (Ne.symm hi)]
    simp only [g_w, List.getElem?_mapIdx, hI i hi, hJ i hi]
theorem g_up_row {α : Type} {I : Nat → Nat → α} {k j : Nat} {v : α} {i : Nat} (h : i ≠ k) : g_up I k j v i = I i := by
  funext x; simp [g_up, h]
theorem g_up_upd {I : gM} {k j : Nat} {v : Int32} : g_up I k j v k = upd (I k) j v := by
  funext x; simp [g_up, upd]
theorem g_up_updL {J : gN} {k j : Nat} {v : Int64} : g_up J k j v k = vp_updL (J k) j v := by
  funext x; simp [g_up, vp_updL]
theorem g_up_self {α : Type} {I : Nat → Nat → α} {k j : Nat} {v : α} : g_up I k j v k j = v := by simp [g_up]
theorem g_up_ne {α : Type} {I : Nat → Nat → α} {k j k' j' : Nat} {v : α} (h : k' ≠ k ∨ j' ≠ j) : g_up I k j v k' j' = I k' j' := by
  have : ¬ (k' = k ∧ j' = j) := fun q => h.elim (fun z => z q.1) (fun z => z q.2)
  simp [g_up, this]
theorem g_up_same {α : Type} {I : Nat → Nat → α} {k j : Nat} {v : α} (h : I k j = v) : g_up I k j v = I := by
  funext a b; unfold g_up; split
  · rename_i q; rw [q.1, q.2, h]
  · rfl
theorem g_fset {ad : Nat → Nat} {a : Nat → Int32} {b : Nat → Int64} {fds : List Nat} {j : Nat} {v : Int32} (hf : fds[j]? = some 0) : (fds.mapIdx (fun j f => g_fv ad a b j f)).set j (.int v) = fds.mapIdx (fun i f => g_fv ad (upd a j v) b i f) := by
  apply List.ext_getElem?
  intro i
  by_cases hi : i = j
  · subst hi
    rw [List.getElem?_set_self (by rw [List.length_mapIdx]; exact (List.getElem?_eq_some_iff.mp hf).1)]
    simp [List.getElem?_mapIdx, hf, g_fv, upd]
  · rw [List.getElem?_set_ne (Ne.symm hi)]
    simp only [List.getElem?_mapIdx]
    cases hx : fds[i]? with
    | none => rfl
    | some f =>
      match f with
      | 0 => simp [g_fv, upd, hi]
      | 1 => rfl
      | 2 => rfl
      | n + 3 => rfl
theorem g_fsetL {ad : Nat → Nat} {a : Nat → Int32} {b : Nat → Int64} {fds : List Nat} {j : Nat} {v : Int64} (hf : fds[j]? = some 1) : (fds.mapIdx (fun j f => g_fv ad a b j f)).set j (.long v) = fds.mapIdx (fun i f => g_fv ad a (vp_updL b j v) i f) := by
  apply List.ext_getElem?
  intro i
  by_cases hi : i = j
  · subst hi
    rw [List.getElem?_set_self (by rw [List.length_mapIdx]; exact (List.getElem?_eq_some_iff.mp hf).1)]
    simp [List.getElem?_mapIdx, hf, g_fv, vp_updL]
  · rw [List.getElem?_set_ne (Ne.symm hi)]
    simp only [List.getElem?_mapIdx]
    cases hx : fds[i]? with
    | none => rfl
    | some f =>
      match f with
      | 0 => rfl
      | 1 => simp [g_fv, vp_updL, hi]
      | 2 => rfl
      | n + 3 => rfl
theorem g_fget {ad : Nat → Nat} {a : Nat → Int32} {b : Nat → Int64} {fds : List Nat} {j f : Nat} (hf : fds[j]? = some f) : (fds.mapIdx (fun j f => g_fv ad a b j f))[j]? = some (g_fv ad a b j f) := by
  simp [List.getElem?_mapIdx, hf]
/-- where a method's walk stands: the machine, its room, the start; the end that it is to come to; the names of the cells -/
abbrev gZ : Type := (Program × Launch × Env × Room × State × MethodId × Array Value × List Frame × Method × Code) × (Nat × Nat × (State → Prop)) × (List gS × gE) × (Nat → Prop) × Nat
abbrev zp (z : gZ) : Program := z.1.1
abbrev zl (z : gZ) : Launch := z.1.2.1
abbrev ze (z : gZ) : Env := z.1.2.2.1
abbrev zR (z : gZ) : Room := z.1.2.2.2.1
abbrev zs (z : gZ) : State := z.1.2.2.2.2.1
abbrev zm (z : gZ) : MethodId := z.1.2.2.2.2.2.1
abbrev za (z : gZ) : Array Value := z.1.2.2.2.2.2.2.1
abbrev zb (z : gZ) : List Frame := z.1.2.2.2.2.2.2.2.1
abbrev zh (z : gZ) : Method := z.1.2.2.2.2.2.2.2.2.1
abbrev zc (z : gZ) : Code := z.1.2.2.2.2.2.2.2.2.2
abbrev zk (z : gZ) : Nat := z.2.1.1
abbrev zn (z : gZ) : Nat := z.2.1.2.1
abbrev zQ (z : gZ) : State → Prop := z.2.1.2.2
abbrev zS (z : gZ) : List gS := z.2.2.1.1
abbrev zE (z : gZ) : gE := z.2.2.1.2
abbrev zA (z : gZ) : Nat → Prop := z.2.2.2.1
abbrev zL (z : gZ) : Nat := z.2.2.2.2
abbrev gW (z : gZ) (H : Heap) (locs : List Loc) (g : JFrame) : Prop := W (zp z) (zl z) (ze z) (zR z) (zs z) (zm z) (za z) (zb z) (zh z) (zc z) H locs (zk z) (zn z) (zQ z) g
/-- from here (the place in the code, the locals, the stack, the memory) the walk comes to its end -/
def G (z : gZ) (pc : Nat) (L : List (Nat × Value)) (st : List Value) (I : gM) (J : gN) : Prop :=
  ∀ (H : Heap) (locs : List Loc) (ls : Array Slot), va_P (zE z).1 vwCl (g_w (zS z) (zE z) I J) H → va_S (zA z) (zs z).heap H locs → lv_has ls (zL z) L → gW z H locs (F0 (zm z) pc ls st)
/-- what a method's walk stands on: the class that it is of, its code, its words, its room -/
abbrev Fx (z : gZ) (S : List gS) (E : gE) (own : String) (cc : ByteArray) (rm : Room) (nL : Nat) : Prop :=
  (zp z).tables.exec = Jvm.exec ∧ (zc z).code = cc ∧ (zc z).maxLocals = nL ∧ (zs z).vm.findClass own = some (zm z).cls ∧ (∀ w ∈ gw, w.before (za z) (zs z) = true) ∧
  va_K E.1 vwCl (g_ty E) (zs z) ∧ (∀ I J, va_D (zA z) (g_w S E I J)) ∧ (zk z ≤ rm.cells ∧ zn z ≤ rm.slots) ∧ zL z = nL ∧ zR z = rm ∧ zS z = S ∧ zE z = E
/-- a contract's start and end over the memory -/
abbrev gP (S : List gS) (E : gE) (I : gM) (J : gN) (av : List Value) : Array Value → State → Prop := va_Pc av (fun U => va_P E.1 vwCl (g_w S E I J) U.heap ∧ va_K E.1 vwCl (g_ty E) U)
def gQ (S : List gS) (E : gE) (A : Nat → Prop) (post : Option Value → gM → gN → Prop) : Array Value → State → Outcome → State → Prop := fun _ st oc t => (∃ (r : Option Value) (I' : gM) (J' : gN), oc = .returned r ∧ post r I' J' ∧ va_P E.1 vwCl (g_w S E I' J') t.heap) ∧ va_F A st t
end
section
/-! whole numbers behind the ints -/
def iI (a : Int) : Int32 := Int32.ofInt a
theorem iI_t {a : Int} (h1 : -2147483648 ≤ a) (h2 : a < 2147483648) : (iI a).toInt = a := Int32.toInt_ofInt_of_le (by simpa using h1) (by simpa using h2)
theorem iI_self (x : Int32) : x = iI x.toInt := (Int32.ofInt_toInt x).symm
theorem iI_add {x y : Int32} {a b : Int} (hx : x = iI a) (hy : y = iI b) : x + y = iI (a + b) := by subst hx; subst hy; exact (Int32.ofInt_add a b).symm
theorem iI_sub {x y : Int32} {a b : Int} (hx : x = iI a) (hy : y = iI b) : x - y = iI (a - b) := by subst hx; subst hy; exact (Int32.ofInt_sub a b).symm
theorem iI_mul {x y : Int32} {a b : Int} (hx : x = iI a) (hy : y = iI b) : x * y = iI (a * b) := by subst hx; subst hy; exact (Int32.ofInt_mul a b).symm
theorem iI_n (n : Nat) : iI (n : Int) = nI n := Int32.ofInt_eq_ofNat

section GROWS
variable {z : gZ} {S : List gS} {E : gE} {own : String} {cc : ByteArray} {rm : Room} {nL : Nat} {pc : Nat} {L : List (Nat × Value)} {st : List Value} {I : gM} {J : gN}
theorem g_iconst (F : Fx z S E own cc rm nL) {n : Int} {v : Int32} (hd : decode cc pc = .ok (.iconst n, 1)) (hv : Int32.ofInt n = v) (K : G z (pc + 1) L (.int v :: st) I J) : G z pc L (st) I J := by
  obtain ⟨hx, hb, hml, hown, hts, hK, hD, hk0, rfl, rfl, rfl, rfl⟩ := F
  intro H locs ls hP hS hl
  exact lv_iconst hx hb hd hv (K H locs ls hP hS hl)
theorem g_bipush (F : Fx z S E own cc rm nL) {n : Int} {v : Int32} (hd : decode cc pc = .ok (.bipush n, 2)) (hv : (Int8.ofInt n).toInt32 = v) (K : G z (pc + 2) L (.int v :: st) I J) : G z pc L (st) I J := by
  obtain ⟨hx, hb, hml, hown, hts, hK, hD, hk0, rfl, rfl, rfl, rfl⟩ := F
  intro H locs ls hP hS hl
  exact lv_bipush hx hb hd hv (K H locs ls hP hS hl)
theorem g_sipush (F : Fx z S E own cc rm nL) {n : Int} {v : Int32} (hd : decode cc pc = .ok (.sipush n, 3)) (hv : (Int16.ofInt n).toInt32 = v) (K : G z (pc + 3) L (.int v :: st) I J) : G z pc L (st) I J := by
  obtain ⟨hx, hb, hml, hown, hts, hK, hD, hk0, rfl, rfl, rfl, rfl⟩ := F
  intro H locs ls hP hS hl
  exact lv_sipush hx hb hd hv (K H locs ls hP hS hl)
theorem g_lconst (F : Fx z S E own cc rm nL) {n : Fin 2} {v : Int64} (hd : decode cc pc = .ok (.lconst n, 1)) (hv : Int64.ofNat (n : Nat) = v) (K : G z (pc + 1) L (.long v :: st) I J) : G z pc L (st) I J := by
  obtain ⟨hx, hb, hml, hown, hts, hK, hD, hk0, rfl, rfl, rfl, rfl⟩ := F
  intro H locs ls hP hS hl
  exact lv_lconst hx hb hd hv (K H locs ls hP hS hl)
theorem g_ldc (F : Fx z S E own cc rm nL) {idx : Nat} {v : Int32} (hd : decode cc pc = .ok (.ldc idx, 2)) (hq : Cond.constant own idx v ∈ gw) (K : G z (pc + 2) L (.int v :: st) I J) : G z pc L (st) I J := by
  obtain ⟨hx, hb, hml, hown, hts, hK, hD, hk0, rfl, rfl, rfl, rfl⟩ := F
  intro H locs ls hP hS hl
  exact lv_ldc hx hb hown (hts _ hq) hd (K H locs ls hP hS hl)
theorem g_ldc_w (F : Fx z S E own cc rm nL) {idx : Nat} {v : Int32} (hd : decode cc pc = .ok (.ldc_w idx, 3)) (hq : Cond.constant own idx v ∈ gw) (K : G z (pc + 3) L (.int v :: st) I J) : G z pc L (st) I J := by
  obtain ⟨hx, hb, hml, hown, hts, hK, hD, hk0, rfl, rfl, rfl, rfl⟩ := F
  intro H locs ls hP hS hl
  exact lv_ldcw hx hb hown (hts _ hq) hd (K H locs ls hP hS hl)
theorem g_ldc2_w (F : Fx z S E own cc rm nL) {idx : Nat} {v : Int64} (hd : decode cc pc = .ok (.ldc2_w idx, 3)) (hq : Cond.constantLong own idx v ∈ gw) (K : G z (pc + 3) L (.long v :: st) I J) : G z pc L (st) I J := by
  obtain ⟨hx, hb, hml, hown, hts, hK, hD, hk0, rfl, rfl, rfl, rfl⟩ := F
  intro H locs ls hP hS hl
  exact lv_ldc2 hx hb hown (hts _ hq) hd (K H locs ls hP hS hl)
theorem g_iload_n (F : Fx z S E own cc rm nL) {k : Fin 4} {i : Nat} {x : Int32} (q : Nat) (hd : decode cc pc = .ok (.iload_n k, 1)) (hi : (k : Nat) = i) (hq : L[q]? = some (i, .int x)) (K : G z (pc + 1) L (.int x :: st) I J) : G z pc L (st) I J := by
  obtain ⟨hx, hb, hml, hown, hts, hK, hD, hk0, rfl, rfl, rfl, rfl⟩ := F
  intro H locs ls hP hS hl
  exact lv_iload_n hx hb hd hi (lv_at hl q hq) (K H locs ls hP hS hl)
theorem g_iload (F : Fx z S E own cc rm nL) {i : Nat} {x : Int32} (q : Nat) (hd : decode cc pc = .ok (.iload i, 2)) (hq : L[q]? = some (i, .int x)) (K : G z (pc + 2) L (.int x :: st) I J) : G z pc L (st) I J := by
  obtain ⟨hx, hb, hml, hown, hts, hK, hD, hk0, rfl, rfl, rfl, rfl⟩ := F
  intro H locs ls hP hS hl
  exact lv_iload hx hb hd (lv_at hl q hq) (K H locs ls hP hS hl)
theorem g_lload_n (F : Fx z S E own cc rm nL) {k : Fin 4} {i : Nat} {x : Int64} (q : Nat) (hd : decode cc pc = .ok (.lload_n k, 1)) (hi : (k : Nat) = i) (hq : L[q]? = some (i, .long x)) (K : G z (pc + 1) L (.long x :: st) I J) : G z pc L (st) I J := by
  obtain ⟨hx, hb, hml, hown, hts, hK, hD, hk0, rfl, rfl, rfl, rfl⟩ := F
  intro H locs ls hP hS hl
  exact lv_lload_n hx hb hd hi (lv_at hl q hq) (K H locs ls hP hS hl)
theorem g_lload (F : Fx z S E own cc rm nL) {i : Nat} {x : Int64} (q : Nat) (hd : decode cc pc = .ok (.lload i, 2)) (hq : L[q]? = some (i, .long x)) (K : G z (pc + 2) L (.long x :: st) I J) : G z pc L (st) I J := by
  obtain ⟨hx, hb, hml, hown, hts, hK, hD, hk0, rfl, rfl, rfl, rfl⟩ := F
  intro H locs ls hP hS hl
  exact lv_lload hx hb hd (lv_at hl q hq) (K H locs ls hP hS hl)
theorem g_aload_n (F : Fx z S E own cc rm nL) {k : Fin 4} {i : Nat} {x : Nat} (q : Nat) (hd : decode cc pc = .ok (.aload_n k, 1)) (hi : (k : Nat) = i) (hq : L[q]? = some (i, .ref x)) (K : G z (pc + 1) L (.ref x :: st) I J) : G z pc L (st) I J := by
  obtain ⟨hx, hb, hml, hown, hts, hK, hD, hk0, rfl, rfl, rfl, rfl⟩ := F
  intro H locs ls hP hS hl
  exact lv_aload_n hx hb hd hi (lv_at hl q hq) (K H locs ls hP hS hl)
theorem g_aload (F : Fx z S E own cc rm nL) {i : Nat} {x : Nat} (q : Nat) (hd : decode cc pc = .ok (.aload i, 2)) (hq : L[q]? = some (i, .ref x)) (K : G z (pc + 2) L (.ref x :: st) I J) : G z pc L (st) I J := by
  obtain ⟨hx, hb, hml, hown, hts, hK, hD, hk0, rfl, rfl, rfl, rfl⟩ := F
  intro H locs ls hP hS hl
  exact lv_aload hx hb hd (lv_at hl q hq) (K H locs ls hP hS hl)
theorem g_istore_n (F : Fx z S E own cc rm nL) {k : Fin 4} {i : Nat} {x : Int32} {Ln : List (Nat × Value)} (hd : decode cc pc = .ok (.istore_n k, 1)) (hi : (k : Nat) = i) (hn : i < nL) (hL : (i, Value.int x) :: L.filter (fun q => !(q.1 == i) && !(q.1 + 1 == i && q.2.category == 2)) = Ln) (K : G z (pc + 1) Ln st I J) : G z pc L (.int x :: st) I J := by
  obtain ⟨hx, hb, hml, hown, hts, hK, hD, hk0, rfl, rfl, rfl, rfl⟩ := F
  intro H locs ls hP hS hl
  exact lv_istore_n (lv := L) hx hb hd hi hl hn hL (fun ls hl => K H locs ls hP hS hl)
theorem g_istore (F : Fx z S E own cc rm nL) {i : Nat} {x : Int32} {Ln : List (Nat × Value)} (hd : decode cc pc = .ok (.istore i, 2)) (hn : i < nL) (hL : (i, Value.int x) :: L.filter (fun q => !(q.1 == i) && !(q.1 + 1 == i && q.2.category == 2)) = Ln) (K : G z (pc + 2) Ln st I J) : G z pc L (.int x :: st) I J := by
  obtain ⟨hx, hb, hml, hown, hts, hK, hD, hk0, rfl, rfl, rfl, rfl⟩ := F
  intro H locs ls hP hS hl
  exact lv_istore (lv := L) hx hb hd hl hn hL (fun ls hl => K H locs ls hP hS hl)
theorem g_lstore_n (F : Fx z S E own cc rm nL) {k : Fin 4} {i : Nat} {x : Int64} {Ln : List (Nat × Value)} (hd : decode cc pc = .ok (.lstore_n k, 1)) (hi : (k : Nat) = i) (hn : i + 1 < nL) (hL : (i, Value.long x) :: L.filter (fun q => !(q.1 == i) && (!(q.1 == i + 1) && !(q.1 + 1 == i && q.2.category == 2))) = Ln) (K : G z (pc + 1) Ln st I J) : G z pc L (.long x :: st) I J := by
  obtain ⟨hx, hb, hml, hown, hts, hK, hD, hk0, rfl, rfl, rfl, rfl⟩ := F
  intro H locs ls hP hS hl
  exact lv_lstore_n (lv := L) hx hb hd hi hl hn hL (fun ls hl => K H locs ls hP hS hl)
theorem g_lstore (F : Fx z S E own cc rm nL) {i : Nat} {x : Int64} {Ln : List (Nat × Value)} (hd : decode cc pc = .ok (.lstore i, 2)) (hn : i + 1 < nL) (hL : (i, Value.long x) :: L.filter (fun q => !(q.1 == i) && (!(q.1 == i + 1) && !(q.1 + 1 == i && q.2.category == 2))) = Ln) (K : G z (pc + 2) Ln st I J) : G z pc L (.long x :: st) I J := by
  obtain ⟨hx, hb, hml, hown, hts, hK, hD, hk0, rfl, rfl, rfl, rfl⟩ := F
  intro H locs ls hP hS hl
  exact lv_lstore (lv := L) hx hb hd hl hn hL (fun ls hl => K H locs ls hP hS hl)
theorem g_astore_n (F : Fx z S E own cc rm nL) {k : Fin 4} {i : Nat} {x : Nat} {Ln : List (Nat × Value)} (hd : decode cc pc = .ok (.astore_n k, 1)) (hi : (k : Nat) = i) (hn : i < nL) (hL : (i, Value.ref x) :: L.filter (fun q => !(q.1 == i) && !(q.1 + 1 == i && q.2.category == 2)) = Ln) (K : G z (pc + 1) Ln st I J) : G z pc L (.ref x :: st) I J := by
  obtain ⟨hx, hb, hml, hown, hts, hK, hD, hk0, rfl, rfl, rfl, rfl⟩ := F
  intro H locs ls hP hS hl
  exact lv_astore_n (lv := L) hx hb hd hi hl hn hL (fun ls hl => K H locs ls hP hS hl)
theorem g_astore (F : Fx z S E own cc rm nL) {i : Nat} {x : Nat} {Ln : List (Nat × Value)} (hd : decode cc pc = .ok (.astore i, 2)) (hn : i < nL) (hL : (i, Value.ref x) :: L.filter (fun q => !(q.1 == i) && !(q.1 + 1 == i && q.2.category == 2)) = Ln) (K : G z (pc + 2) Ln st I J) : G z pc L (.ref x :: st) I J := by
  obtain ⟨hx, hb, hml, hown, hts, hK, hD, hk0, rfl, rfl, rfl, rfl⟩ := F
  intro H locs ls hP hS hl
  exact lv_astore (lv := L) hx hb hd hl hn hL (fun ls hl => K H locs ls hP hS hl)
theorem g_iinc (F : Fx z S E own cc rm nL) {i : Nat} {n : Int} {x v : Int32} {Ln : List (Nat × Value)} (q : Nat) (hd : decode cc pc = .ok (.iinc i n, 3)) (hq : L[q]? = some (i, .int x)) (hv : x + Int32.ofInt n = v) (hn : i < nL) (hL : (i, Value.int v) :: L.filter (fun q => !(q.1 == i) && !(q.1 + 1 == i && q.2.category == 2)) = Ln) (K : G z (pc + 3) Ln st I J) : G z pc L (st) I J := by
  obtain ⟨hx, hb, hml, hown, hts, hK, hD, hk0, rfl, rfl, rfl, rfl⟩ := F
  intro H locs ls hP hS hl
  exact lv_iinc (lv := L) hx hb hd hl hq hv hn hL (fun ls hl => K H locs ls hP hS hl)
theorem g_iadd (F : Fx z S E own cc rm nL) {x y v : Int32} (hd : decode cc pc = .ok (.iadd, 1)) (hv : x + y = v) (K : G z (pc + 1) L (.int v :: st) I J) : G z pc L (.int y :: .int x :: st) I J := by
  obtain ⟨hx, hb, hml, hown, hts, hK, hD, hk0, rfl, rfl, rfl, rfl⟩ := F
  intro H locs ls hP hS hl
  exact lv_iadd hx hb hd (by rw [hv]; exact K H locs ls hP hS hl)
theorem g_isub (F : Fx z S E own cc rm nL) {x y v : Int32} (hd : decode cc pc = .ok (.isub, 1)) (hv : x - y = v) (K : G z (pc + 1) L (.int v :: st) I J) : G z pc L (.int y :: .int x :: st) I J := by
  obtain ⟨hx, hb, hml, hown, hts, hK, hD, hk0, rfl, rfl, rfl, rfl⟩ := F
  intro H locs ls hP hS hl
  exact lv_isub hx hb hd (by rw [hv]; exact K H locs ls hP hS hl)
theorem g_imul (F : Fx z S E own cc rm nL) {x y v : Int32} (hd : decode cc pc = .ok (.imul, 1)) (hv : x * y = v) (K : G z (pc + 1) L (.int v :: st) I J) : G z pc L (.int y :: .int x :: st) I J := by
  obtain ⟨hx, hb, hml, hown, hts, hK, hD, hk0, rfl, rfl, rfl, rfl⟩ := F
  intro H locs ls hP hS hl
  exact lv_imul hx hb hd (by rw [hv]; exact K H locs ls hP hS hl)
theorem g_iand (F : Fx z S E own cc rm nL) {x y v : Int32} (hd : decode cc pc = .ok (.iand, 1)) (hv : x &&& y = v) (K : G z (pc + 1) L (.int v :: st) I J) : G z pc L (.int y :: .int x :: st) I J := by
  obtain ⟨hx, hb, hml, hown, hts, hK, hD, hk0, rfl, rfl, rfl, rfl⟩ := F
  intro H locs ls hP hS hl
  exact lv_iand hx hb hd (by rw [hv]; exact K H locs ls hP hS hl)
theorem g_ior (F : Fx z S E own cc rm nL) {x y v : Int32} (hd : decode cc pc = .ok (.ior, 1)) (hv : x ||| y = v) (K : G z (pc + 1) L (.int v :: st) I J) : G z pc L (.int y :: .int x :: st) I J := by
  obtain ⟨hx, hb, hml, hown, hts, hK, hD, hk0, rfl, rfl, rfl, rfl⟩ := F
  intro H locs ls hP hS hl
  exact lv_ior hx hb hd (by rw [hv]; exact K H locs ls hP hS hl)
theorem g_ixor (F : Fx z S E own cc rm nL) {x y v : Int32} (hd : decode cc pc = .ok (.ixor, 1)) (hv : x ^^^ y = v) (K : G z (pc + 1) L (.int v :: st) I J) : G z pc L (.int y :: .int x :: st) I J := by
  obtain ⟨hx, hb, hml, hown, hts, hK, hD, hk0, rfl, rfl, rfl, rfl⟩ := F
  intro H locs ls hP hS hl
  exact lv_ixor hx hb hd (by rw [hv]; exact K H locs ls hP hS hl)
theorem g_ishl (F : Fx z S E own cc rm nL) {x y v : Int32} (hd : decode cc pc = .ok (.ishl, 1)) (hv : x <<< (y &&& 31) = v) (K : G z (pc + 1) L (.int v :: st) I J) : G z pc L (.int y :: .int x :: st) I J := by
  obtain ⟨hx, hb, hml, hown, hts, hK, hD, hk0, rfl, rfl, rfl, rfl⟩ := F
  intro H locs ls hP hS hl
  exact lv_ishl hx hb hd (by rw [hv]; exact K H locs ls hP hS hl)
theorem g_ishr (F : Fx z S E own cc rm nL) {x y v : Int32} (hd : decode cc pc = .ok (.ishr, 1)) (hv : x >>> (y &&& 31) = v) (K : G z (pc + 1) L (.int v :: st) I J) : G z pc L (.int y :: .int x :: st) I J := by
  obtain ⟨hx, hb, hml, hown, hts, hK, hD, hk0, rfl, rfl, rfl, rfl⟩ := F
  intro H locs ls hP hS hl
  exact lv_ishr hx hb hd (by rw [hv]; exact K H locs ls hP hS hl)
theorem g_iushr (F : Fx z S E own cc rm nL) {x y v : Int32} (hd : decode cc pc = .ok (.iushr, 1)) (hv : (x.toUInt32 >>> (y.toUInt32 &&& Int32.toUInt32 31)).toInt32 = v) (K : G z (pc + 1) L (.int v :: st) I J) : G z pc L (.int y :: .int x :: st) I J := by
  obtain ⟨hx, hb, hml, hown, hts, hK, hD, hk0, rfl, rfl, rfl, rfl⟩ := F
  intro H locs ls hP hS hl
  exact lv_iushr hx hb hd hv (K H locs ls hP hS hl)
theorem g_irem (F : Fx z S E own cc rm nL) {x y v : Int32} (hd : decode cc pc = .ok (.irem, 1)) (hne : ¬ y = 0) (hv : x - x / y * y = v) (K : G z (pc + 1) L (.int v :: st) I J) : G z pc L (.int y :: .int x :: st) I J := by
  obtain ⟨hx, hb, hml, hown, hts, hK, hD, hk0, rfl, rfl, rfl, rfl⟩ := F
  intro H locs ls hP hS hl
  exact lv_irem hx hb hd hne (by rw [hv]; exact K H locs ls hP hS hl)
theorem g_idiv (F : Fx z S E own cc rm nL) {x y v : Int32} (hd : decode cc pc = .ok (.idiv, 1)) (hne : ¬ y = 0) (hv : x / y = v) (K : G z (pc + 1) L (.int v :: st) I J) : G z pc L (.int y :: .int x :: st) I J := by
  obtain ⟨hx, hb, hml, hown, hts, hK, hD, hk0, rfl, rfl, rfl, rfl⟩ := F
  intro H locs ls hP hS hl
  exact lv_idiv hx hb hd hne (by rw [hv]; exact K H locs ls hP hS hl)
theorem g_ladd (F : Fx z S E own cc rm nL) {x y v : Int64} (hd : decode cc pc = .ok (.ladd, 1)) (hv : x + y = v) (K : G z (pc + 1) L (.long v :: st) I J) : G z pc L (.long y :: .long x :: st) I J := by
  obtain ⟨hx, hb, hml, hown, hts, hK, hD, hk0, rfl, rfl, rfl, rfl⟩ := F
  intro H locs ls hP hS hl
  exact lv_ladd hx hb hd (by rw [hv]; exact K H locs ls hP hS hl)
theorem g_lmul (F : Fx z S E own cc rm nL) {x y v : Int64} (hd : decode cc pc = .ok (.lmul, 1)) (hv : x * y = v) (K : G z (pc + 1) L (.long v :: st) I J) : G z pc L (.long y :: .long x :: st) I J := by
  obtain ⟨hx, hb, hml, hown, hts, hK, hD, hk0, rfl, rfl, rfl, rfl⟩ := F
  intro H locs ls hP hS hl
  exact lv_lmul hx hb hd (by rw [hv]; exact K H locs ls hP hS hl)
theorem g_land (F : Fx z S E own cc rm nL) {x y v : Int64} (hd : decode cc pc = .ok (.land, 1)) (hv : x &&& y = v) (K : G z (pc + 1) L (.long v :: st) I J) : G z pc L (.long y :: .long x :: st) I J := by
  obtain ⟨hx, hb, hml, hown, hts, hK, hD, hk0, rfl, rfl, rfl, rfl⟩ := F
  intro H locs ls hP hS hl
  exact lv_land hx hb hd (by rw [hv]; exact K H locs ls hP hS hl)
theorem g_lor (F : Fx z S E own cc rm nL) {x y v : Int64} (hd : decode cc pc = .ok (.lor, 1)) (hv : x ||| y = v) (K : G z (pc + 1) L (.long v :: st) I J) : G z pc L (.long y :: .long x :: st) I J := by
  obtain ⟨hx, hb, hml, hown, hts, hK, hD, hk0, rfl, rfl, rfl, rfl⟩ := F
  intro H locs ls hP hS hl
  exact lv_lor hx hb hd (by rw [hv]; exact K H locs ls hP hS hl)
theorem g_lrem (F : Fx z S E own cc rm nL) {x y v : Int64} (hd : decode cc pc = .ok (.lrem, 1)) (hne : ¬ y = 0) (hv : x - x / y * y = v) (K : G z (pc + 1) L (.long v :: st) I J) : G z pc L (.long y :: .long x :: st) I J := by
  obtain ⟨hx, hb, hml, hown, hts, hK, hD, hk0, rfl, rfl, rfl, rfl⟩ := F
  intro H locs ls hP hS hl
  exact lv_lrem hx hb hd hne (by rw [hv]; exact K H locs ls hP hS hl)
theorem g_lshl (F : Fx z S E own cc rm nL) {x v : Int64} {y : Int32} (hd : decode cc pc = .ok (.lshl, 1)) (hv : x <<< (y.toInt64 &&& 63) = v) (K : G z (pc + 1) L (.long v :: st) I J) : G z pc L (.int y :: .long x :: st) I J := by
  obtain ⟨hx, hb, hml, hown, hts, hK, hD, hk0, rfl, rfl, rfl, rfl⟩ := F
  intro H locs ls hP hS hl
  exact lv_lshl hx hb hd hv (K H locs ls hP hS hl)
theorem g_lushr (F : Fx z S E own cc rm nL) {x v : Int64} {y : Int32} (hd : decode cc pc = .ok (.lushr, 1)) (hv : (x.toUInt64 >>> (y.toInt64.toUInt64 &&& Int64.toUInt64 63)).toInt64 = v) (K : G z (pc + 1) L (.long v :: st) I J) : G z pc L (.int y :: .long x :: st) I J := by
  obtain ⟨hx, hb, hml, hown, hts, hK, hD, hk0, rfl, rfl, rfl, rfl⟩ := F
  intro H locs ls hP hS hl
  exact lv_lushr hx hb hd hv (K H locs ls hP hS hl)
theorem g_i2l (F : Fx z S E own cc rm nL) {x : Int32} {v : Int64} (hd : decode cc pc = .ok (.i2l, 1)) (hv : x.toInt64 = v) (K : G z (pc + 1) L (.long v :: st) I J) : G z pc L (.int x :: st) I J := by
  obtain ⟨hx, hb, hml, hown, hts, hK, hD, hk0, rfl, rfl, rfl, rfl⟩ := F
  intro H locs ls hP hS hl
  exact lv_i2l hx hb hd hv (K H locs ls hP hS hl)
theorem g_l2i (F : Fx z S E own cc rm nL) {x : Int64} {v : Int32} (hd : decode cc pc = .ok (.l2i, 1)) (hv : x.toInt32 = v) (K : G z (pc + 1) L (.int v :: st) I J) : G z pc L (.long x :: st) I J := by
  obtain ⟨hx, hb, hml, hown, hts, hK, hD, hk0, rfl, rfl, rfl, rfl⟩ := F
  intro H locs ls hP hS hl
  exact lv_l2i hx hb hd hv (K H locs ls hP hS hl)
theorem g_i2b (F : Fx z S E own cc rm nL) {x v : Int32} (hd : decode cc pc = .ok (.i2b, 1)) (hv : x.toInt8.toInt32 = v) (K : G z (pc + 1) L (.int v :: st) I J) : G z pc L (.int x :: st) I J := by
  obtain ⟨hx, hb, hml, hown, hts, hK, hD, hk0, rfl, rfl, rfl, rfl⟩ := F
  intro H locs ls hP hS hl
  exact lv_i2b hx hb hd hv (K H locs ls hP hS hl)
theorem g_dup (F : Fx z S E own cc rm nL) {a : Value} (hd : decode cc pc = .ok (.dup, 1)) (ha : a.category = 1) (K : G z (pc + 1) L (a :: a :: st) I J) : G z pc L (a :: st) I J := by
  obtain ⟨hx, hb, hml, hown, hts, hK, hD, hk0, rfl, rfl, rfl, rfl⟩ := F
  intro H locs ls hP hS hl
  exact lv_dup hx hb hd ha (K H locs ls hP hS hl)
theorem g_pop (F : Fx z S E own cc rm nL) {a : Value} (hd : decode cc pc = .ok (.pop, 1)) (ha : a.category = 1) (K : G z (pc + 1) L (st) I J) : G z pc L (a :: st) I J := by
  obtain ⟨hx, hb, hml, hown, hts, hK, hD, hk0, rfl, rfl, rfl, rfl⟩ := F
  intro H locs ls hP hS hl
  exact lv_pop hx hb hd ha (K H locs ls hP hS hl)
theorem g_dup_x1 (F : Fx z S E own cc rm nL) {a b : Value} (hd : decode cc pc = .ok (.dup_x1, 1)) (ha : a.category = 1) (hb2 : b.category = 1) (K : G z (pc + 1) L (a :: b :: a :: st) I J) : G z pc L (a :: b :: st) I J := by
  obtain ⟨hx, hb, hml, hown, hts, hK, hD, hk0, rfl, rfl, rfl, rfl⟩ := F
  intro H locs ls hP hS hl
  exact lv_dup_x1 hx hb hd ha hb2 (K H locs ls hP hS hl)
theorem g_dup2 (F : Fx z S E own cc rm nL) {a b : Value} (hd : decode cc pc = .ok (.dup2, 1)) (ha : a.category = 1) (hb2 : b.category = 1) (K : G z (pc + 1) L (a :: b :: a :: b :: st) I J) : G z pc L (a :: b :: st) I J := by
  obtain ⟨hx, hb, hml, hown, hts, hK, hD, hk0, rfl, rfl, rfl, rfl⟩ := F
  intro H locs ls hP hS hl
  exact lv_dup2_11 hx hb hd ha hb2 (K H locs ls hP hS hl)
theorem g_goto (F : Fx z S E own cc rm nL) {off : Int} {tgt : Nat} (hd : decode cc pc = .ok (.goto off, 3)) (ht : (pc : Int) + off = (tgt : Int)) (K : G z tgt L st I J) : G z pc L (st) I J := by
  obtain ⟨hx, hb, hml, hown, hts, hK, hD, hk0, rfl, rfl, rfl, rfl⟩ := F
  intro H locs ls hP hS hl
  exact lv_goto hx hb hd ht (K H locs ls hP hS hl)
theorem g_if_eq (F : Fx z S E own cc rm nL) {x : Int32} {off : Int} {tgt : Nat} (hd : decode cc pc = .ok (.ifCond .eq off, 3)) (ht : (pc : Int) + off = (tgt : Int)) (kt : x = 0 → G z tgt L st I J) (kf : ¬ x = 0 → G z (pc + 3) L st I J) : G z pc L (.int x :: st) I J := by
  obtain ⟨hx, hb, hml, hown, hts, hK, hD, hk0, rfl, rfl, rfl, rfl⟩ := F
  intro H locs ls hP hS hl
  exact lv_if_eq hx hb hd ht (fun h => kt h H locs ls hP hS hl) (fun h => kf h H locs ls hP hS hl)
theorem g_icmp_eq (F : Fx z S E own cc rm nL) {x y : Int32} {off : Int} {tgt : Nat} (hd : decode cc pc = .ok (.if_icmp .eq off, 3)) (ht : (pc : Int) + off = (tgt : Int)) (kt : x = y → G z tgt L st I J) (kf : ¬ x = y → G z (pc + 3) L st I J) : G z pc L (.int y :: .int x :: st) I J := by
  obtain ⟨hx, hb, hml, hown, hts, hK, hD, hk0, rfl, rfl, rfl, rfl⟩ := F
  intro H locs ls hP hS hl
  exact lv_icmp_eq hx hb hd ht (fun h => kt h H locs ls hP hS hl) (fun h => kf h H locs ls hP hS hl)
theorem g_if_ne (F : Fx z S E own cc rm nL) {x : Int32} {off : Int} {tgt : Nat} (hd : decode cc pc = .ok (.ifCond .ne off, 3)) (ht : (pc : Int) + off = (tgt : Int)) (kt : ¬ x = 0 → G z tgt L st I J) (kf : x = 0 → G z (pc + 3) L st I J) : G z pc L (.int x :: st) I J := by
  obtain ⟨hx, hb, hml, hown, hts, hK, hD, hk0, rfl, rfl, rfl, rfl⟩ := F
  intro H locs ls hP hS hl
  exact lv_if_ne hx hb hd ht (fun h => kt h H locs ls hP hS hl) (fun h => kf h H locs ls hP hS hl)
theorem g_icmp_ne (F : Fx z S E own cc rm nL) {x y : Int32} {off : Int} {tgt : Nat} (hd : decode cc pc = .ok (.if_icmp .ne off, 3)) (ht : (pc : Int) + off = (tgt : Int)) (kt : ¬ x = y → G z tgt L st I J) (kf : x = y → G z (pc + 3) L st I J) : G z pc L (.int y :: .int x :: st) I J := by
  obtain ⟨hx, hb, hml, hown, hts, hK, hD, hk0, rfl, rfl, rfl, rfl⟩ := F
  intro H locs ls hP hS hl
  exact lv_icmp_ne hx hb hd ht (fun h => kt h H locs ls hP hS hl) (fun h => kf h H locs ls hP hS hl)
theorem g_if_lt (F : Fx z S E own cc rm nL) {x : Int32} {off : Int} {tgt : Nat} (hd : decode cc pc = .ok (.ifCond .lt off, 3)) (ht : (pc : Int) + off = (tgt : Int)) (kt : x < 0 → G z tgt L st I J) (kf : ¬ x < 0 → G z (pc + 3) L st I J) : G z pc L (.int x :: st) I J := by
  obtain ⟨hx, hb, hml, hown, hts, hK, hD, hk0, rfl, rfl, rfl, rfl⟩ := F
  intro H locs ls hP hS hl
  exact lv_if_lt hx hb hd ht (fun h => kt h H locs ls hP hS hl) (fun h => kf h H locs ls hP hS hl)
theorem g_icmp_lt (F : Fx z S E own cc rm nL) {x y : Int32} {off : Int} {tgt : Nat} (hd : decode cc pc = .ok (.if_icmp .lt off, 3)) (ht : (pc : Int) + off = (tgt : Int)) (kt : x < y → G z tgt L st I J) (kf : ¬ x < y → G z (pc + 3) L st I J) : G z pc L (.int y :: .int x :: st) I J := by
  obtain ⟨hx, hb, hml, hown, hts, hK, hD, hk0, rfl, rfl, rfl, rfl⟩ := F
  intro H locs ls hP hS hl
  exact lv_icmp_lt hx hb hd ht (fun h => kt h H locs ls hP hS hl) (fun h => kf h H locs ls hP hS hl)
theorem g_if_ge (F : Fx z S E own cc rm nL) {x : Int32} {off : Int} {tgt : Nat} (hd : decode cc pc = .ok (.ifCond .ge off, 3)) (ht : (pc : Int) + off = (tgt : Int)) (kt : 0 ≤ x → G z tgt L st I J) (kf : ¬ 0 ≤ x → G z (pc + 3) L st I J) : G z pc L (.int x :: st) I J := by
  obtain ⟨hx, hb, hml, hown, hts, hK, hD, hk0, rfl, rfl, rfl, rfl⟩ := F
  intro H locs ls hP hS hl
  exact lv_if_ge hx hb hd ht (fun h => kt h H locs ls hP hS hl) (fun h => kf h H locs ls hP hS hl)
theorem g_icmp_ge (F : Fx z S E own cc rm nL) {x y : Int32} {off : Int} {tgt : Nat} (hd : decode cc pc = .ok (.if_icmp .ge off, 3)) (ht : (pc : Int) + off = (tgt : Int)) (kt : y ≤ x → G z tgt L st I J) (kf : ¬ y ≤ x → G z (pc + 3) L st I J) : G z pc L (.int y :: .int x :: st) I J := by
  obtain ⟨hx, hb, hml, hown, hts, hK, hD, hk0, rfl, rfl, rfl, rfl⟩ := F
  intro H locs ls hP hS hl
  exact lv_icmp_ge hx hb hd ht (fun h => kt h H locs ls hP hS hl) (fun h => kf h H locs ls hP hS hl)
theorem g_if_gt (F : Fx z S E own cc rm nL) {x : Int32} {off : Int} {tgt : Nat} (hd : decode cc pc = .ok (.ifCond .gt off, 3)) (ht : (pc : Int) + off = (tgt : Int)) (kt : 0 < x → G z tgt L st I J) (kf : ¬ 0 < x → G z (pc + 3) L st I J) : G z pc L (.int x :: st) I J := by
  obtain ⟨hx, hb, hml, hown, hts, hK, hD, hk0, rfl, rfl, rfl, rfl⟩ := F
  intro H locs ls hP hS hl
  exact lv_if_gt hx hb hd ht (fun h => kt h H locs ls hP hS hl) (fun h => kf h H locs ls hP hS hl)
theorem g_icmp_gt (F : Fx z S E own cc rm nL) {x y : Int32} {off : Int} {tgt : Nat} (hd : decode cc pc = .ok (.if_icmp .gt off, 3)) (ht : (pc : Int) + off = (tgt : Int)) (kt : y < x → G z tgt L st I J) (kf : ¬ y < x → G z (pc + 3) L st I J) : G z pc L (.int y :: .int x :: st) I J := by
  obtain ⟨hx, hb, hml, hown, hts, hK, hD, hk0, rfl, rfl, rfl, rfl⟩ := F
  intro H locs ls hP hS hl
  exact lv_icmp_gt hx hb hd ht (fun h => kt h H locs ls hP hS hl) (fun h => kf h H locs ls hP hS hl)
theorem g_if_le (F : Fx z S E own cc rm nL) {x : Int32} {off : Int} {tgt : Nat} (hd : decode cc pc = .ok (.ifCond .le off, 3)) (ht : (pc : Int) + off = (tgt : Int)) (kt : x ≤ 0 → G z tgt L st I J) (kf : ¬ x ≤ 0 → G z (pc + 3) L st I J) : G z pc L (.int x :: st) I J := by
  obtain ⟨hx, hb, hml, hown, hts, hK, hD, hk0, rfl, rfl, rfl, rfl⟩ := F
  intro H locs ls hP hS hl
  exact lv_if_le hx hb hd ht (fun h => kt h H locs ls hP hS hl) (fun h => kf h H locs ls hP hS hl)
theorem g_icmp_le (F : Fx z S E own cc rm nL) {x y : Int32} {off : Int} {tgt : Nat} (hd : decode cc pc = .ok (.if_icmp .le off, 3)) (ht : (pc : Int) + off = (tgt : Int)) (kt : x ≤ y → G z tgt L st I J) (kf : ¬ x ≤ y → G z (pc + 3) L st I J) : G z pc L (.int y :: .int x :: st) I J := by
  obtain ⟨hx, hb, hml, hown, hts, hK, hD, hk0, rfl, rfl, rfl, rfl⟩ := F
  intro H locs ls hP hS hl
  exact lv_icmp_le hx hb hd ht (fun h => kt h H locs ls hP hS hl) (fun h => kf h H locs ls hP hS hl)
theorem g_ifI_eq (F : Fx z S E own cc rm nL) {x : Int32} {a : Int} {off : Int} {tgt : Nat} (hx : x.toInt = a) (hd : decode cc pc = .ok (.ifCond .eq off, 3)) (ht : (pc : Int) + off = (tgt : Int)) (kt : a = 0 → G z tgt L st I J) (kf : a ≠ 0 → G z (pc + 3) L st I J) : G z pc L (.int x :: st) I J :=
  g_if_eq F hd ht (fun h => kt (by subst hx; simp only [Int32.lt_iff_toInt_lt, Int32.le_iff_toInt_le, ← Int32.toInt_inj, Int32.toInt_zero] at h; omega)) (fun h => kf (by subst hx; simp only [Int32.lt_iff_toInt_lt, Int32.le_iff_toInt_le, ← Int32.toInt_inj, Int32.toInt_zero] at h; omega))
theorem g_icmpI_eq (F : Fx z S E own cc rm nL) {x y : Int32} {a b : Int} {off : Int} {tgt : Nat} (hx : x.toInt = a) (hy : y.toInt = b) (hd : decode cc pc = .ok (.if_icmp .eq off, 3)) (ht : (pc : Int) + off = (tgt : Int)) (kt : a = b → G z tgt L st I J) (kf : a ≠ b → G z (pc + 3) L st I J) : G z pc L (.int y :: .int x :: st) I J :=
  g_icmp_eq F hd ht (fun h => kt (by subst hx; subst hy; simp only [Int32.lt_iff_toInt_lt, Int32.le_iff_toInt_le, ← Int32.toInt_inj] at h; omega)) (fun h => kf (by subst hx; subst hy; simp only [Int32.lt_iff_toInt_lt, Int32.le_iff_toInt_le, ← Int32.toInt_inj] at h; omega))
theorem g_ifI_ne (F : Fx z S E own cc rm nL) {x : Int32} {a : Int} {off : Int} {tgt : Nat} (hx : x.toInt = a) (hd : decode cc pc = .ok (.ifCond .ne off, 3)) (ht : (pc : Int) + off = (tgt : Int)) (kt : a ≠ 0 → G z tgt L st I J) (kf : a = 0 → G z (pc + 3) L st I J) : G z pc L (.int x :: st) I J :=
  g_if_ne F hd ht (fun h => kt (by subst hx; simp only [Int32.lt_iff_toInt_lt, Int32.le_iff_toInt_le, ← Int32.toInt_inj, Int32.toInt_zero] at h; omega)) (fun h => kf (by subst hx; simp only [Int32.lt_iff_toInt_lt, Int32.le_iff_toInt_le, ← Int32.toInt_inj, Int32.toInt_zero] at h; omega))
theorem g_icmpI_ne (F : Fx z S E own cc rm nL) {x y : Int32} {a b : Int} {off : Int} {tgt : Nat} (hx : x.toInt = a) (hy : y.toInt = b) (hd : decode cc pc = .ok (.if_icmp .ne off, 3)) (ht : (pc : Int) + off = (tgt : Int)) (kt : a ≠ b → G z tgt L st I J) (kf : a = b → G z (pc + 3) L st I J) : G z pc L (.int y :: .int x :: st) I J :=
  g_icmp_ne F hd ht (fun h => kt (by subst hx; subst hy; simp only [Int32.lt_iff_toInt_lt, Int32.le_iff_toInt_le, ← Int32.toInt_inj] at h; omega)) (fun h => kf (by subst hx; subst hy; simp only [Int32.lt_iff_toInt_lt, Int32.le_iff_toInt_le, ← Int32.toInt_inj] at h; omega))
theorem g_ifI_lt (F : Fx z S E own cc rm nL) {x : Int32} {a : Int} {off : Int} {tgt : Nat} (hx : x.toInt = a) (hd : decode cc pc = .ok (.ifCond .lt off, 3)) (ht : (pc : Int) + off = (tgt : Int)) (kt : a < 0 → G z tgt L st I J) (kf : 0 ≤ a → G z (pc + 3) L st I J) : G z pc L (.int x :: st) I J :=
  g_if_lt F hd ht (fun h => kt (by subst hx; simp only [Int32.lt_iff_toInt_lt, Int32.le_iff_toInt_le, ← Int32.toInt_inj, Int32.toInt_zero] at h; omega)) (fun h => kf (by subst hx; simp only [Int32.lt_iff_toInt_lt, Int32.le_iff_toInt_le, ← Int32.toInt_inj, Int32.toInt_zero] at h; omega))
theorem g_icmpI_lt (F : Fx z S E own cc rm nL) {x y : Int32} {a b : Int} {off : Int} {tgt : Nat} (hx : x.toInt = a) (hy : y.toInt = b) (hd : decode cc pc = .ok (.if_icmp .lt off, 3)) (ht : (pc : Int) + off = (tgt : Int)) (kt : a < b → G z tgt L st I J) (kf : b ≤ a → G z (pc + 3) L st I J) : G z pc L (.int y :: .int x :: st) I J :=
  g_icmp_lt F hd ht (fun h => kt (by subst hx; subst hy; simp only [Int32.lt_iff_toInt_lt, Int32.le_iff_toInt_le, ← Int32.toInt_inj] at h; omega)) (fun h => kf (by subst hx; subst hy; simp only [Int32.lt_iff_toInt_lt, Int32.le_iff_toInt_le, ← Int32.toInt_inj] at h; omega))
theorem g_ifI_ge (F : Fx z S E own cc rm nL) {x : Int32} {a : Int} {off : Int} {tgt : Nat} (hx : x.toInt = a) (hd : decode cc pc = .ok (.ifCond .ge off, 3)) (ht : (pc : Int) + off = (tgt : Int)) (kt : 0 ≤ a → G z tgt L st I J) (kf : a < 0 → G z (pc + 3) L st I J) : G z pc L (.int x :: st) I J :=
  g_if_ge F hd ht (fun h => kt (by subst hx; simp only [Int32.lt_iff_toInt_lt, Int32.le_iff_toInt_le, ← Int32.toInt_inj, Int32.toInt_zero] at h; omega)) (fun h => kf (by subst hx; simp only [Int32.lt_iff_toInt_lt, Int32.le_iff_toInt_le, ← Int32.toInt_inj, Int32.toInt_zero] at h; omega))
theorem g_icmpI_ge (F : Fx z S E own cc rm nL) {x y : Int32} {a b : Int} {off : Int} {tgt : Nat} (hx : x.toInt = a) (hy : y.toInt = b) (hd : decode cc pc = .ok (.if_icmp .ge off, 3)) (ht : (pc : Int) + off = (tgt : Int)) (kt : b ≤ a → G z tgt L st I J) (kf : a < b → G z (pc + 3) L st I J) : G z pc L (.int y :: .int x :: st) I J :=
  g_icmp_ge F hd ht (fun h => kt (by subst hx; subst hy; simp only [Int32.lt_iff_toInt_lt, Int32.le_iff_toInt_le, ← Int32.toInt_inj] at h; omega)) (fun h => kf (by subst hx; subst hy; simp only [Int32.lt_iff_toInt_lt, Int32.le_iff_toInt_le, ← Int32.toInt_inj] at h; omega))
theorem g_ifI_gt (F : Fx z S E own cc rm nL) {x : Int32} {a : Int} {off : Int} {tgt : Nat} (hx : x.toInt = a) (hd : decode cc pc = .ok (.ifCond .gt off, 3)) (ht : (pc : Int) + off = (tgt : Int)) (kt : 0 < a → G z tgt L st I J) (kf : a ≤ 0 → G z (pc + 3) L st I J) : G z pc L (.int x :: st) I J :=
  g_if_gt F hd ht (fun h => kt (by subst hx; simp only [Int32.lt_iff_toInt_lt, Int32.le_iff_toInt_le, ← Int32.toInt_inj, Int32.toInt_zero] at h; omega)) (fun h => kf (by subst hx; simp only [Int32.lt_iff_toInt_lt, Int32.le_iff_toInt_le, ← Int32.toInt_inj, Int32.toInt_zero] at h; omega))
theorem g_icmpI_gt (F : Fx z S E own cc rm nL) {x y : Int32} {a b : Int} {off : Int} {tgt : Nat} (hx : x.toInt = a) (hy : y.toInt = b) (hd : decode cc pc = .ok (.if_icmp .gt off, 3)) (ht : (pc : Int) + off = (tgt : Int)) (kt : b < a → G z tgt L st I J) (kf : a ≤ b → G z (pc + 3) L st I J) : G z pc L (.int y :: .int x :: st) I J :=
  g_icmp_gt F hd ht (fun h => kt (by subst hx; subst hy; simp only [Int32.lt_iff_toInt_lt, Int32.le_iff_toInt_le, ← Int32.toInt_inj] at h; omega)) (fun h => kf (by subst hx; subst hy; simp only [Int32.lt_iff_toInt_lt, Int32.le_iff_toInt_le, ← Int32.toInt_inj] at h; omega))
theorem g_ifI_le (F : Fx z S E own cc rm nL) {x : Int32} {a : Int} {off : Int} {tgt : Nat} (hx : x.toInt = a) (hd : decode cc pc = .ok (.ifCond .le off, 3)) (ht : (pc : Int) + off = (tgt : Int)) (kt : a ≤ 0 → G z tgt L st I J) (kf : 0 < a → G z (pc + 3) L st I J) : G z pc L (.int x :: st) I J :=
  g_if_le F hd ht (fun h => kt (by subst hx; simp only [Int32.lt_iff_toInt_lt, Int32.le_iff_toInt_le, ← Int32.toInt_inj, Int32.toInt_zero] at h; omega)) (fun h => kf (by subst hx; simp only [Int32.lt_iff_toInt_lt, Int32.le_iff_toInt_le, ← Int32.toInt_inj, Int32.toInt_zero] at h; omega))
theorem g_icmpI_le (F : Fx z S E own cc rm nL) {x y : Int32} {a b : Int} {off : Int} {tgt : Nat} (hx : x.toInt = a) (hy : y.toInt = b) (hd : decode cc pc = .ok (.if_icmp .le off, 3)) (ht : (pc : Int) + off = (tgt : Int)) (kt : a ≤ b → G z tgt L st I J) (kf : b < a → G z (pc + 3) L st I J) : G z pc L (.int y :: .int x :: st) I J :=
  g_icmp_le F hd ht (fun h => kt (by subst hx; subst hy; simp only [Int32.lt_iff_toInt_lt, Int32.le_iff_toInt_le, ← Int32.toInt_inj] at h; omega)) (fun h => kf (by subst hx; subst hy; simp only [Int32.lt_iff_toInt_lt, Int32.le_iff_toInt_le, ← Int32.toInt_inj] at h; omega))
theorem g_tableIn (F : Fx z S E own cc rm nL) {dflt lo hi : Int} {offs : Array Int} {len : Nat} {x : Int32} {off : Int} {tgt : Nat} (hd : decode cc pc = .ok (.tableswitch dflt lo hi offs, len)) (h1 : ¬ x.toInt < lo) (h2 : ¬ hi < x.toInt) (ho : offs[(x.toInt - lo).toNat]? = some off) (ht : (pc : Int) + off = (tgt : Int)) (K : G z tgt L st I J) : G z pc L (.int x :: st) I J := by
  obtain ⟨hx, hb, hml, hown, hts, hK, hD, hk0, rfl, rfl, rfl, rfl⟩ := F
  intro H locs ls hP hS hl
  exact lv_tableIn hx hb hd h1 h2 ho ht (K H locs ls hP hS hl)
theorem g_tableOut (F : Fx z S E own cc rm nL) {dflt lo hi : Int} {offs : Array Int} {len : Nat} {x : Int32} {tgt : Nat} (hd : decode cc pc = .ok (.tableswitch dflt lo hi offs, len)) (h : x.toInt < lo ∨ hi < x.toInt) (ht : (pc : Int) + dflt = (tgt : Int)) (K : G z tgt L st I J) : G z pc L (.int x :: st) I J := by
  obtain ⟨hx, hb, hml, hown, hts, hK, hD, hk0, rfl, rfl, rfl, rfl⟩ := F
  intro H locs ls hP hS hl
  exact lv_tableOut hx hb hd h ht (K H locs ls hP hS hl)
theorem g_sub {Ln : List (Nat × Value)} (ks : List Nat) (h : lv_pick L ks = Ln) (K : G z pc Ln st I J) : G z pc L st I J := fun H locs ls hP hS hl => K H locs ls hP hS (lv_sub hl ks h)
theorem g_mem {I' : gM} {J' : gN} (hI : I = I') (hJ : J = J') (K : G z pc L st I' J') : G z pc L st I J := by subst hI; subst hJ; exact K
theorem g_mi {I' : gM} (hI : I = I') (K : G z pc L st I' J) : G z pc L st I J := by subst hI; exact K
theorem g_st {sn : List Value} (h : st = sn) (K : G z pc L sn I J) : G z pc L st I J := by subst h; exact K
theorem g_lo {Ln : List (Nat × Value)} (h : L = Ln) (K : G z pc Ln st I J) : G z pc L st I J := by subst h; exact K
theorem g_geti (F : Fx z S E own cc rm nL) {k j ci idx N : Nat} {fds : List Nat} {C : String} {T : u_T} (hs : S[k]? = some (.inl (ci, fds))) (hf : fds[j]? = some 0) (hc : vwCl[ci]? = some (C, T, N)) (hin : ∀ w ∈ u_ws C T N, w ∈ gw) (hj : j < N) (hq : Cond.fieldLink own idx (T j).1 (T j).2.1 (T j).2.2.1 ∈ gw) {v : Int32} (hv : I k j = v) (hd : decode cc pc = .ok (.getfield idx, 3)) (K : G z (pc + 3) L (.int v :: st) I J) : G z pc L (.ref (E.2.1 k) :: st) I J := by
  obtain ⟨hx, hb, hml, hown, hts, hK, hD, hk0, rfl, rfl, rfl, rfl⟩ := F
  intro H locs ls hP hS hl
  exact va_get (D := (zE z).1) (T := T) hx hb hts hin hown hK hP k (g_get hs) hc j hj (hts _ hq) (fun _ h => h) (g_fget hf) hd (by rw [show g_fv (zE z).2.1 (I k) (J k) j 0 = Value.int v from by rw [← hv]; rfl]; exact K H locs ls hP hS hl)
theorem g_getl (F : Fx z S E own cc rm nL) {k j ci idx N : Nat} {fds : List Nat} {C : String} {T : u_T} (hs : S[k]? = some (.inl (ci, fds))) (hf : fds[j]? = some 1) (hc : vwCl[ci]? = some (C, T, N)) (hin : ∀ w ∈ u_ws C T N, w ∈ gw) (hj : j < N) (hq : Cond.fieldLink own idx (T j).1 (T j).2.1 (T j).2.2.1 ∈ gw) {v : Int64} (hv : J k j = v) (hd : decode cc pc = .ok (.getfield idx, 3)) (K : G z (pc + 3) L (.long v :: st) I J) : G z pc L (.ref (E.2.1 k) :: st) I J := by
  obtain ⟨hx, hb, hml, hown, hts, hK, hD, hk0, rfl, rfl, rfl, rfl⟩ := F
  intro H locs ls hP hS hl
  exact va_get (D := (zE z).1) (T := T) hx hb hts hin hown hK hP k (g_get hs) hc j hj (hts _ hq) (fun _ h => h) (g_fget hf) hd (by rw [show g_fv (zE z).2.1 (I k) (J k) j 1 = Value.long v from by rw [← hv]; rfl]; exact K H locs ls hP hS hl)
theorem g_getr (F : Fx z S E own cc rm nL) {k j ci idx N nn : Nat} {fds : List Nat} {C : String} {T : u_T} (hs : S[k]? = some (.inl (ci, fds))) (hf : fds[j]? = some (nn + 3)) (hc : vwCl[ci]? = some (C, T, N)) (hin : ∀ w ∈ u_ws C T N, w ∈ gw) (hj : j < N) (hq : Cond.fieldLink own idx (T j).1 (T j).2.1 (T j).2.2.1 ∈ gw) (hd : decode cc pc = .ok (.getfield idx, 3)) (K : G z (pc + 3) L (.ref (E.2.1 nn) :: st) I J) : G z pc L (.ref (E.2.1 k) :: st) I J := by
  obtain ⟨hx, hb, hml, hown, hts, hK, hD, hk0, rfl, rfl, rfl, rfl⟩ := F
  intro H locs ls hP hS hl
  exact va_get (D := (zE z).1) (T := T) hx hb hts hin hown hK hP k (g_get hs) hc j hj (hts _ hq) (fun _ h => h) (g_fget hf) hd (K H locs ls hP hS hl)
theorem g_puti (F : Fx z S E own cc rm nL) {k j ci idx N : Nat} {fds : List Nat} {C : String} {T : u_T} (hs : S[k]? = some (.inl (ci, fds))) (hf : fds[j]? = some 0) (hc : vwCl[ci]? = some (C, T, N)) (hin : ∀ w ∈ u_ws C T N, w ∈ gw) (hj : j < N) (hq : Cond.fieldLink own idx (T j).1 (T j).2.1 (T j).2.2.1 ∈ gw) {ty : Nat → FieldType} (hty : ∀ k, k < N → parseFieldDescriptor (T k).2.2.1 = some (ty k)) (hnm : ∀ a, a < N → ∀ b, b < N → a ≠ b → (T a).2.1 ≠ (T b).2.1) (hfin : (T j).2.2.2 = false) {v : Int32} (hn : narrow (ty j) (.int v) = .int v) (hfit : fits (ty j) (.int v) = true) (hd : decode cc pc = .ok (.putfield idx, 3)) (K : G z (pc + 3) L st (g_up I k j v) J) : G z pc L (.int v :: .ref (E.2.1 k) :: st) I J := by
  obtain ⟨hx, hb, hml, hown, hts, hK, hD, hk0, rfl, rfl, rfl, rfl⟩ := F
  intro H locs ls hP hS hl
  exact va_put (D := (zE z).1) (T := T) hx hb hts hin ty hty hnm hown hK hP (hD I J) hS k (g_get hs) hc j hj (hts _ hq) (fun _ h => h) hfin (hty j hj) hn hfit (by rw [List.length_mapIdx]; exact (List.getElem?_eq_some_iff.mp hf).1) hd (fun H1 locs1 hP1 hD1 hS1 => K H1 locs1 ls (by
    rw [g_fset hf, ← g_up_upd] at hP1
    rw [← g_set (J' := J) hs (fun i h => g_up_row h) (fun _ _ => rfl)]
    exact hP1) hS1 hl)
theorem g_putl (F : Fx z S E own cc rm nL) {k j ci idx N : Nat} {fds : List Nat} {C : String} {T : u_T} (hs : S[k]? = some (.inl (ci, fds))) (hf : fds[j]? = some 1) (hc : vwCl[ci]? = some (C, T, N)) (hin : ∀ w ∈ u_ws C T N, w ∈ gw) (hj : j < N) (hq : Cond.fieldLink own idx (T j).1 (T j).2.1 (T j).2.2.1 ∈ gw) {ty : Nat → FieldType} (hty : ∀ k, k < N → parseFieldDescriptor (T k).2.2.1 = some (ty k)) (hnm : ∀ a, a < N → ∀ b, b < N → a ≠ b → (T a).2.1 ≠ (T b).2.1) (hfin : (T j).2.2.2 = false) {v : Int64} (hn : narrow (ty j) (.long v) = .long v) (hfit : fits (ty j) (.long v) = true) (hd : decode cc pc = .ok (.putfield idx, 3)) (K : G z (pc + 3) L st I (g_up J k j v)) : G z pc L (.long v :: .ref (E.2.1 k) :: st) I J := by
  obtain ⟨hx, hb, hml, hown, hts, hK, hD, hk0, rfl, rfl, rfl, rfl⟩ := F
  intro H locs ls hP hS hl
  exact va_put (D := (zE z).1) (T := T) hx hb hts hin ty hty hnm hown hK hP (hD I J) hS k (g_get hs) hc j hj (hts _ hq) (fun _ h => h) hfin (hty j hj) hn hfit (by rw [List.length_mapIdx]; exact (List.getElem?_eq_some_iff.mp hf).1) hd (fun H1 locs1 hP1 hD1 hS1 => K H1 locs1 ls (by
    rw [g_fsetL hf, ← g_up_updL] at hP1
    rw [← g_set (I' := I) hs (fun _ _ => rfl) (fun i h => g_up_row h)]
    exact hP1) hS1 hl)
theorem g_iald (F : Fx z S E own cc rm nL) {k n : Nat} {i : Int32} (j : Nat) (hs : S[k]? = some (.inr (0, n, 0))) (hi : i = nI j) (hj : j < n) (hn : n < 2 ^ 31) {v : Int32} (hv : I k j = v) (hd : decode cc pc = .ok (.iaload, 1)) (K : G z (pc + 1) L (.int v :: st) I J) : G z pc L (.int i :: .ref (E.2.1 k) :: st) I J := by
  obtain ⟨hx, hb, hml, hown, hts, hK, hD, hk0, rfl, rfl, rfl, rfl⟩ := F
  intro H locs ls hP hS hl
  exact va_iald hx hb hK hP k 0 (g_get hs) rfl (by rw [hi]; exact vp_in_nI hj hn) hd (by rw [hi, nI_clamp (Nat.lt_trans hj hn), show I k j = v from hv]; exact K H locs ls hP hS hl)
theorem g_bald (F : Fx z S E own cc rm nL) {k n : Nat} {i : Int32} (j : Nat) (hs : S[k]? = some (.inr (1, n, 0))) (hi : i = nI j) (hj : j < n) (hn : n < 2 ^ 31) {v : Int32} (hv : I k j = v) (hd : decode cc pc = .ok (.baload, 1)) (K : G z (pc + 1) L (.int v :: st) I J) : G z pc L (.int i :: .ref (E.2.1 k) :: st) I J := by
  obtain ⟨hx, hb, hml, hown, hts, hK, hD, hk0, rfl, rfl, rfl, rfl⟩ := F
  intro H locs ls hP hS hl
  exact va_bald hx hb hK hP k 1 (g_get hs) rfl (by rw [hi]; exact vp_in_nI hj hn) hd (by rw [hi, nI_clamp (Nat.lt_trans hj hn), show I k j = v from hv]; exact K H locs ls hP hS hl)
theorem g_zald (F : Fx z S E own cc rm nL) {k n : Nat} {i : Int32} (j : Nat) (hs : S[k]? = some (.inr (2, n, 0))) (hi : i = nI j) (hj : j < n) (hn : n < 2 ^ 31) {v : Int32} (hv : I k j = v) (hd : decode cc pc = .ok (.baload, 1)) (K : G z (pc + 1) L (.int v :: st) I J) : G z pc L (.int i :: .ref (E.2.1 k) :: st) I J := by
  obtain ⟨hx, hb, hml, hown, hts, hK, hD, hk0, rfl, rfl, rfl, rfl⟩ := F
  intro H locs ls hP hS hl
  exact va_zald hx hb hK hP k 2 (g_get hs) rfl (by rw [hi]; exact vp_in_nI hj hn) hd (by rw [hi, nI_clamp (Nat.lt_trans hj hn), show I k j = v from hv]; exact K H locs ls hP hS hl)
theorem g_iast (F : Fx z S E own cc rm nL) {k n : Nat} {i x : Int32} (j : Nat) (hs : S[k]? = some (.inr (0, n, 0))) (hi : i = nI j) (hj : j < n) (hn : n < 2 ^ 31) {v : Int32} (hv : x = v) (hd : decode cc pc = .ok (.iastore, 1)) (K : G z (pc + 1) L st (g_up I k j v) J) : G z pc L (.int x :: .int i :: .ref (E.2.1 k) :: st) I J := by
  obtain ⟨hx, hb, hml, hown, hts, hK, hD, hk0, rfl, rfl, rfl, rfl⟩ := F
  intro H locs ls hP hS hl
  exact va_iast hx hb hK hP (hD I J) hS k 0 (g_get hs) rfl (by rw [hi]; exact vp_in_nI hj hn) hd (fun H1 locs1 hP1 hD1 hS1 => K H1 locs1 ls (by
    rw [hi, nI_clamp (Nat.lt_trans hj hn), hv, ← g_up_upd] at hP1
    rw [← g_set (J' := J) hs (fun i h => g_up_row h) (fun _ _ => rfl)]
    exact hP1) hS1 hl)
theorem g_bast (F : Fx z S E own cc rm nL) {k n : Nat} {i x : Int32} (j : Nat) (hs : S[k]? = some (.inr (1, n, 0))) (hi : i = nI j) (hj : j < n) (hn : n < 2 ^ 31) {v : Int32} (hv : (vp_nar .byte x) = v) (hd : decode cc pc = .ok (.bastore, 1)) (K : G z (pc + 1) L st (g_up I k j v) J) : G z pc L (.int x :: .int i :: .ref (E.2.1 k) :: st) I J := by
  obtain ⟨hx, hb, hml, hown, hts, hK, hD, hk0, rfl, rfl, rfl, rfl⟩ := F
  intro H locs ls hP hS hl
  exact va_bast hx hb hK hP (hD I J) hS k 1 (g_get hs) rfl (by rw [hi]; exact vp_in_nI hj hn) hd (fun H1 locs1 hP1 hD1 hS1 => K H1 locs1 ls (by
    rw [hi, nI_clamp (Nat.lt_trans hj hn), hv, ← g_up_upd] at hP1
    rw [← g_set (J' := J) hs (fun i h => g_up_row h) (fun _ _ => rfl)]
    exact hP1) hS1 hl)
theorem g_zast (F : Fx z S E own cc rm nL) {k n : Nat} {i x : Int32} (j : Nat) (hs : S[k]? = some (.inr (2, n, 0))) (hi : i = nI j) (hj : j < n) (hn : n < 2 ^ 31) {v : Int32} (hv : (vp_nar .boolean x) = v) (hd : decode cc pc = .ok (.bastore, 1)) (K : G z (pc + 1) L st (g_up I k j v) J) : G z pc L (.int x :: .int i :: .ref (E.2.1 k) :: st) I J := by
  obtain ⟨hx, hb, hml, hown, hts, hK, hD, hk0, rfl, rfl, rfl, rfl⟩ := F
  intro H locs ls hP hS hl
  exact va_zast hx hb hK hP (hD I J) hS k 2 (g_get hs) rfl (by rw [hi]; exact vp_in_nI hj hn) hd (fun H1 locs1 hP1 hD1 hS1 => K H1 locs1 ls (by
    rw [hi, nI_clamp (Nat.lt_trans hj hn), hv, ← g_up_upd] at hP1
    rw [← g_set (J' := J) hs (fun i h => g_up_row h) (fun _ _ => rfl)]
    exact hP1) hS1 hl)
theorem g_ialdI (F : Fx z S E own cc rm nL) {k n : Nat} {i : Int32} (a : Int) (hs : S[k]? = some (.inr (0, n, 0))) (hi : i = iI a) (h0 : 0 ≤ a) (hj : a < (n : Int)) (hn : n < 2 ^ 31) {v : Int32} (hv : I k a.toNat = v) (hd : decode cc pc = .ok (.iaload, 1)) (K : G z (pc + 1) L (.int v :: st) I J) : G z pc L (.int i :: .ref (E.2.1 k) :: st) I J := by
  obtain ⟨hx, hb, hml, hown, hts, hK, hD, hk0, rfl, rfl, rfl, rfl⟩ := F
  intro H locs ls hP hS hl
  exact g_iald ⟨hx, hb, hml, hown, hts, hK, hD, hk0, rfl, rfl, rfl, rfl⟩ a.toNat hs (by rw [hi, ← iI_n, Int.toNat_of_nonneg h0]) (by omega) hn hv hd K H locs ls hP hS hl
theorem g_baldI (F : Fx z S E own cc rm nL) {k n : Nat} {i : Int32} (a : Int) (hs : S[k]? = some (.inr (1, n, 0))) (hi : i = iI a) (h0 : 0 ≤ a) (hj : a < (n : Int)) (hn : n < 2 ^ 31) {v : Int32} (hv : I k a.toNat = v) (hd : decode cc pc = .ok (.baload, 1)) (K : G z (pc + 1) L (.int v :: st) I J) : G z pc L (.int i :: .ref (E.2.1 k) :: st) I J := by
  obtain ⟨hx, hb, hml, hown, hts, hK, hD, hk0, rfl, rfl, rfl, rfl⟩ := F
  intro H locs ls hP hS hl
  exact g_bald ⟨hx, hb, hml, hown, hts, hK, hD, hk0, rfl, rfl, rfl, rfl⟩ a.toNat hs (by rw [hi, ← iI_n, Int.toNat_of_nonneg h0]) (by omega) hn hv hd K H locs ls hP hS hl
theorem g_zaldI (F : Fx z S E own cc rm nL) {k n : Nat} {i : Int32} (a : Int) (hs : S[k]? = some (.inr (2, n, 0))) (hi : i = iI a) (h0 : 0 ≤ a) (hj : a < (n : Int)) (hn : n < 2 ^ 31) {v : Int32} (hv : I k a.toNat = v) (hd : decode cc pc = .ok (.baload, 1)) (K : G z (pc + 1) L (.int v :: st) I J) : G z pc L (.int i :: .ref (E.2.1 k) :: st) I J := by
  obtain ⟨hx, hb, hml, hown, hts, hK, hD, hk0, rfl, rfl, rfl, rfl⟩ := F
  intro H locs ls hP hS hl
  exact g_zald ⟨hx, hb, hml, hown, hts, hK, hD, hk0, rfl, rfl, rfl, rfl⟩ a.toNat hs (by rw [hi, ← iI_n, Int.toNat_of_nonneg h0]) (by omega) hn hv hd K H locs ls hP hS hl
theorem g_iastI (F : Fx z S E own cc rm nL) {k n : Nat} {i x : Int32} (a : Int) (hs : S[k]? = some (.inr (0, n, 0))) (hi : i = iI a) (h0 : 0 ≤ a) (hj : a < (n : Int)) (hn : n < 2 ^ 31) {v : Int32} (hv : x = v) (hd : decode cc pc = .ok (.iastore, 1)) (K : G z (pc + 1) L st (g_up I k a.toNat v) J) : G z pc L (.int x :: .int i :: .ref (E.2.1 k) :: st) I J := by
  obtain ⟨hx, hb, hml, hown, hts, hK, hD, hk0, rfl, rfl, rfl, rfl⟩ := F
  intro H locs ls hP hS hl
  exact g_iast ⟨hx, hb, hml, hown, hts, hK, hD, hk0, rfl, rfl, rfl, rfl⟩ a.toNat hs (by rw [hi, ← iI_n, Int.toNat_of_nonneg h0]) (by omega) hn hv hd K H locs ls hP hS hl
theorem g_bastI (F : Fx z S E own cc rm nL) {k n : Nat} {i x : Int32} (a : Int) (hs : S[k]? = some (.inr (1, n, 0))) (hi : i = iI a) (h0 : 0 ≤ a) (hj : a < (n : Int)) (hn : n < 2 ^ 31) {v : Int32} (hv : (vp_nar .byte x) = v) (hd : decode cc pc = .ok (.bastore, 1)) (K : G z (pc + 1) L st (g_up I k a.toNat v) J) : G z pc L (.int x :: .int i :: .ref (E.2.1 k) :: st) I J := by
  obtain ⟨hx, hb, hml, hown, hts, hK, hD, hk0, rfl, rfl, rfl, rfl⟩ := F
  intro H locs ls hP hS hl
  exact g_bast ⟨hx, hb, hml, hown, hts, hK, hD, hk0, rfl, rfl, rfl, rfl⟩ a.toNat hs (by rw [hi, ← iI_n, Int.toNat_of_nonneg h0]) (by omega) hn hv hd K H locs ls hP hS hl
theorem g_zastI (F : Fx z S E own cc rm nL) {k n : Nat} {i x : Int32} (a : Int) (hs : S[k]? = some (.inr (2, n, 0))) (hi : i = iI a) (h0 : 0 ≤ a) (hj : a < (n : Int)) (hn : n < 2 ^ 31) {v : Int32} (hv : (vp_nar .boolean x) = v) (hd : decode cc pc = .ok (.bastore, 1)) (K : G z (pc + 1) L st (g_up I k a.toNat v) J) : G z pc L (.int x :: .int i :: .ref (E.2.1 k) :: st) I J := by
  obtain ⟨hx, hb, hml, hown, hts, hK, hD, hk0, rfl, rfl, rfl, rfl⟩ := F
  intro H locs ls hP hS hl
  exact g_zast ⟨hx, hb, hml, hown, hts, hK, hD, hk0, rfl, rfl, rfl, rfl⟩ a.toNat hs (by rw [hi, ← iI_n, Int.toNat_of_nonneg h0]) (by omega) hn hv hd K H locs ls hP hS hl
theorem g_ialdX (F : Fx z S E own cc rm nL) {k n : Nat} {i : Int32} (hs : S[k]? = some (.inr (0, n, 0))) (hin : vp_in i n) (hn : n < 2 ^ 31) {v : Int32} (hv : I k i.toNatClampNeg = v) (hd : decode cc pc = .ok (.iaload, 1)) (K : G z (pc + 1) L (.int v :: st) I J) : G z pc L (.int i :: .ref (E.2.1 k) :: st) I J := by
  obtain ⟨hx, hb, hml, hown, hts, hK, hD, hk0, rfl, rfl, rfl, rfl⟩ := F
  intro H locs ls hP hS hl
  exact va_iald hx hb hK hP k 0 (g_get hs) rfl hin hd (by rw [show I k i.toNatClampNeg = v from hv]; exact K H locs ls hP hS hl)
theorem g_lald (F : Fx z S E own cc rm nL) {k n : Nat} {i : Int32} (j : Nat) (hs : S[k]? = some (.inr (3, n, 1))) (hi : i = nI j) (hj : j < n) (hn : n < 2 ^ 31) {v : Int64} (hv : J k j = v) (hd : decode cc pc = .ok (.laload, 1)) (K : G z (pc + 1) L (.long v :: st) I J) : G z pc L (.int i :: .ref (E.2.1 k) :: st) I J := by
  obtain ⟨hx, hb, hml, hown, hts, hK, hD, hk0, rfl, rfl, rfl, rfl⟩ := F
  intro H locs ls hP hS hl
  exact va_lald hx hb hK hP k 3 (g_get hs) rfl (by rw [hi]; exact vp_in_nI hj hn) hd (by rw [hi, nI_clamp (Nat.lt_trans hj hn), show J k j = v from hv]; exact K H locs ls hP hS hl)
theorem g_last (F : Fx z S E own cc rm nL) {k n : Nat} {i : Int32} {x : Int64} (j : Nat) (hs : S[k]? = some (.inr (3, n, 1))) (hi : i = nI j) (hj : j < n) (hn : n < 2 ^ 31) (hd : decode cc pc = .ok (.lastore, 1)) (K : G z (pc + 1) L st I (g_up J k j x)) : G z pc L (.long x :: .int i :: .ref (E.2.1 k) :: st) I J := by
  obtain ⟨hx, hb, hml, hown, hts, hK, hD, hk0, rfl, rfl, rfl, rfl⟩ := F
  intro H locs ls hP hS hl
  exact va_last hx hb hK hP (hD I J) hS k 3 (g_get hs) rfl (by rw [hi]; exact vp_in_nI hj hn) hd (fun H1 locs1 hP1 hD1 hS1 => K H1 locs1 ls (by
    rw [hi, nI_clamp (Nat.lt_trans hj hn), ← g_up_updL] at hP1
    rw [← g_set (I' := I) hs (fun _ _ => rfl) (fun i h => g_up_row h)]
    exact hP1) hS1 hl)
theorem g_alen (F : Fx z S E own cc rm nL) {k t n so : Nat} {ty : FieldType} {v : Int32} (hs : S[k]? = some (.inr (t, n, so))) (ht : (g_ty E)[t]? = some (E.2.2 t, ty)) (hv : nI n = v) (hd : decode cc pc = .ok (.arraylength, 1)) (K : G z (pc + 1) L (.int v :: st) I J) : G z pc L (.ref (E.2.1 k) :: st) I J := by
  obtain ⟨hx, hb, hml, hown, hts, hK, hD, hk0, rfl, rfl, rfl, rfl⟩ := F
  intro H locs ls hP hS hl
  exact va_alen hx hb hK hP k t (g_get hs) ht hv hd (K H locs ls hP hS hl)
theorem g_aald (F : Fx z S E own cc rm nL) {k n nn kk : Nat} {i : Int32} (j : Nat) (hs : S[k]? = some (.inr (4, n, nn + 3))) (hi : i = nI j) (hj : j < n) (hn : n < 2 ^ 31) (hc : j < nn % 8) (hkk : nn / 8 + 2 * j = kk) (hd : decode cc pc = .ok (.aaload, 1)) (K : G z (pc + 1) L (.ref (E.2.1 kk) :: st) I J) : G z pc L (.int i :: .ref (E.2.1 k) :: st) I J := by
  obtain ⟨hx, hb, hml, hown, hts, hK, hD, hk0, rfl, rfl, rfl, rfl⟩ := F
  intro H locs ls hP hS hl
  exact va_aldq hx hb hK hP k 4 (g_get hs) rfl (by rw [hi]; exact vp_in_nI hj hn) hd (by rw [hi, nI_clamp (Nat.lt_trans hj hn), if_pos hc, hkk]; exact K H locs ls hP hS hl)
/-- the end that a method is to come to -/
abbrev Fe (z : gZ) (S : List gS) (E : gE) (ret : Option FieldType) (post : Option Value → gM → gN → Prop) : Prop := (zh z).sig.returnType = ret ∧ (zh z).locks = false ∧ zQ z = MQ (zb z) (gQ S E (zA z) post) (za z) (zs z) (zk z) (zn z) (zA z)
theorem g_iret (F : Fx z S E own cc rm nL) {post : Option Value → gM → gN → Prop} {v : Int32} (e : Fe z S E (some .int) post) (hd : decode cc pc = .ok (.ireturn, 1)) (h : post (some (.int v)) I J) : G z pc L ([.int v]) I J := by
  obtain ⟨hx, hb, hml, hown, hts, hK, hD, hk0, rfl, rfl, rfl, rfl⟩ := F
  intro H locs ls hP hS hl
  unfold gW
  rw [e.2.2]
  exact W.iret hx hb e.1 (fun t ht hW => ⟨⟨_, I, J, rfl, h, by rw [ht]; exact hP⟩, hS.F ht⟩) hS.2.2 hd e.2.1
theorem g_zret (F : Fx z S E own cc rm nL) {post : Option Value → gM → gN → Prop} {v : Int32} (hn : narrow .boolean (.int v) = .int v) (e : Fe z S E (some .boolean) post) (hd : decode cc pc = .ok (.ireturn, 1)) (h : post (some (.int v)) I J) : G z pc L ([.int v]) I J := by
  obtain ⟨hx, hb, hml, hown, hts, hK, hD, hk0, rfl, rfl, rfl, rfl⟩ := F
  intro H locs ls hP hS hl
  unfold gW
  rw [e.2.2]
  exact W.zret hx hb e.1 hn (fun t ht hW => ⟨⟨_, I, J, rfl, h, by rw [ht]; exact hP⟩, hS.F ht⟩) hS.2.2 hd e.2.1
theorem g_lret (F : Fx z S E own cc rm nL) {post : Option Value → gM → gN → Prop} {v : Int64} (e : Fe z S E (some .long) post) (hd : decode cc pc = .ok (.lreturn, 1)) (h : post (some (.long v)) I J) : G z pc L ([.long v]) I J := by
  obtain ⟨hx, hb, hml, hown, hts, hK, hD, hk0, rfl, rfl, rfl, rfl⟩ := F
  intro H locs ls hP hS hl
  unfold gW
  rw [e.2.2]
  exact W.lret hx hb e.1 (fun t ht hW => ⟨⟨_, I, J, rfl, h, by rw [ht]; exact hP⟩, hS.F ht⟩) hS.2.2 hd e.2.1
theorem g_vret (F : Fx z S E own cc rm nL) {post : Option Value → gM → gN → Prop}  (e : Fe z S E none post) (hd : decode cc pc = .ok (.return_, 1)) (h : post none I J) : G z pc L ([]) I J := by
  obtain ⟨hx, hb, hml, hown, hts, hK, hD, hk0, rfl, rfl, rfl, rfl⟩ := F
  intro H locs ls hP hS hl
  unfold gW
  rw [e.2.2]
  exact W.vret hx hb e.1 (fun t ht hW => ⟨⟨_, I, J, rfl, h, by rw [ht]; exact hP⟩, hS.F ht⟩) hS.2.2 hd e.2.1
end GROWS
/-! contracts and calls -/
def gA (S : List gS) (E : gE) : Nat → Prop := fun q => ∃ k, k < S.length ∧ q = E.2.1 k
def gDist (S : List gS) (E : gE) : Prop := ∀ i j, i < S.length → j < S.length → E.2.1 i = E.2.1 j → i = j
theorem g_D {S : List gS} {E : gE} {A : Nat → Prop} (h : gDist S E) (hA : ∀ k, k < S.length → A (E.2.1 k)) (I : gM) (J : gN) : va_D A (g_w S E I J) := by
  refine ⟨fun i j p q hi hj hpq => ?_, fun k q hk => ?_⟩
  · obtain ⟨x, hx, rfl⟩ := g_get' hi
    obtain ⟨y, hy, rfl⟩ := g_get' hj
    exact h i j (List.getElem?_eq_some_iff.mp hx).1 (List.getElem?_eq_some_iff.mp hy).1 hpq
  · obtain ⟨x, hx, rfl⟩ := g_get' hk
    exact hA k (List.getElem?_eq_some_iff.mp hx).1
abbrev gws (y : MethodName) (cc : ByteArray) (nL : Nat) (ret : Option FieldType) : List Cond := Cond.code y cc nL ret :: gw
def Ct (l : Launch) (S : List gS) (E : gE) (y : MethodName) (cc : ByteArray) (nL : Nat) (ret : Option FieldType) (rm : Room) (av : List Value) (I : gM) (J : gN) (post : Option Value → gM → gN → Prop) : Prop :=
  Met l y (gws y cc nL ret) rm (gP S E I J av) (gQ S E (gA S E) post) 0 0 (gA S E)
theorem Ct.of {l : Launch} {S : List gS} {E : gE} {y : MethodName} {cc : ByteArray} {nL : Nat} {ret : Option FieldType} {rm : Room} {av : List Value} {I : gM} {J : gN} {post : Option Value → gM → gN → Prop} (own : String) (hown : y.cls = own)
    (hdist : gDist S E) (hy : plainName y.cls = true) (hlen : (lg_sl av).length ≤ nL)
    (body : ∀ z, Fx z S E own cc rm nL → Fe z S E ret post → zl z = l → G z 0 (lv_args 0 av) [] I J) : Ct l S E y cc nL ret rm av I J post := by
  refine Met.ofW (cc := cc) (maxL := nL) (ret := ret) hy rfl ?_
  intro p e s m args below meth c s₁ B hml hv
  obtain ⟨rfl, hP, hK⟩ := hv
  have hts := atoms_spec (ws := gws y cc nL ret) B.pre
  have hl := lv_entry av (n := nL) hlen
  rw [lg_entry_eq]
  exact body ((p, l, e, (headSpec (gws y cc nL ret) rm).room, s, m, av.toArray, below, meth, c), (0, 0, MQ below (gQ S E (gA S E) post) av.toArray s 0 0 (gA S E)), (S, E), gA S E, nL)
    ⟨B.exec, B.bytes, hml, by rw [← hown]; exact findClass_of_methodNamed B.named, fun w h => hts w (List.mem_cons_of_mem _ h), hK, g_D hdist (fun k hk => ⟨k, hk, rfl⟩), ⟨Nat.zero_le _, Nat.zero_le _⟩, rfl, rfl, rfl, rfl⟩ ⟨B.returns, B.notSynchronized, rfl⟩ rfl s.heap [] _ hP va_S.rf hl
abbrev gMv (y : MethodName) (cc : ByteArray) (nL : Nat) (ret : Option FieldType) (C : String) (n : Nat) : Prop := Cond.instanceMethod y ∈ gw ∧ Cond.selects C y y ∈ gw ∧ Cond.initialized C ∈ gw ∧ Cond.code y cc nL ret ∈ gw ∧ y.cls = C ∧ y.cls ≠ "java/lang/invoke/MethodHandle" ∧ y.cls ≠ "java/lang/invoke/VarHandle" ∧ (parseMethodDescriptor y.desc).map (fun d => d.parameters.length) = some n
abbrev gMs (y : MethodName) (cc : ByteArray) (nL : Nat) (ret : Option FieldType) (n : Nat) : Prop := Cond.static y ∈ gw ∧ Cond.initialized y.cls ∈ gw ∧ Cond.code y cc nL ret ∈ gw ∧ y.cls ≠ "java/lang/invoke/MethodHandle" ∧ y.cls ≠ "java/lang/invoke/VarHandle" ∧ (parseMethodDescriptor y.desc).map (fun d => d.parameters.length) = some n
def gR (h : Nat) : Room := { frames := h, cells := 0, slots := 0, locals := 64 * h }
def gRok (a : Room) (n : Nat) (b : Room) : Bool := Nat.ble (a.frames + 1) b.frames && Nat.ble (8 + (n + 11) + a.locals) b.locals && Nat.beq a.cells 0 && Nat.beq a.slots 0
theorem gRok_le {a b : Room} {n : Nat} (h : gRok a n b = true) : a.frames + 1 ≤ b.frames ∧ 8 + (n + 11) + a.locals ≤ b.locals ∧ a.cells = 0 ∧ a.slots = 0 := by
  simp only [gRok, Bool.and_eq_true] at h
  exact ⟨Nat.le_of_ble_eq_true h.1.1.1, Nat.le_of_ble_eq_true h.1.1.2, Nat.eq_of_beq_eq_true h.1.2, Nat.eq_of_beq_eq_true h.2⟩
section GCALLS
variable {z : gZ} {S : List gS} {E : gE} {own : String} {cc : ByteArray} {rm : Room} {nL : Nat} {pc : Nat} {L : List (Nat × Value)} {st : List Value} {I : gM} {J : gN}
theorem g_run {post : Option Value → gM → gN → Prop} {H : Heap} {locs : List Loc} {ls : Array Slot} {rest : List Value} {a : Array Value} (hAA : ∀ q, gA (zS z) (zE z) q → zA z q)
    (hr : va_Run (zp z) (zl z) (ze z) (zR z) (zs z) (zm z) (za z) (zb z) (zh z) (zc z) H locs (zk z) (zn z) 0 0 (F0 (zm z) pc ls st) rest (gQ (zS z) (zE z) (gA (zS z) (zE z)) post a) (gA (zS z) (zE z)))
    (hS : va_S (zA z) (zs z).heap H locs) (hl : lv_has ls (zL z) L)
    (K : ∀ (r : Option Value) (I' : gM) (J' : gN), post r I' J' → G z (pc + 3) L (r.toList ++ rest) I' J') : gW z H locs (F0 (zm z) pc ls st) := by
  intro T hT X
  obtain ⟨v, st₀, t, T', L2, h0, X', hL, e1, e2, ⟨⟨r, I', J', hv, hp, hP'⟩, hz, hk⟩, stp⟩ := hr T hT X
  cases hv
  rw [h0] at hz hk
  obtain ⟨t2, a1, b1⟩ := K v I' J' hp T'.heap (locs ++ L2) ls (by rw [e1]; exact hP')
    ⟨Nat.le_trans hS.1 (by rw [e1]; exact hz), fun q h1 h2 => by rw [e1, hk q (Nat.lt_of_lt_of_le h1 hS.1) (fun y => h2 (hAA q y))]; exact hS.2.1 q h1 h2, fun q hq => by
      rcases List.mem_append.mp hq with h | h
      · exact hS.2.2 q h
      · exact hAA _ (hL q h)⟩ hl T' rfl X'
  exact ⟨t2, stp t2 a1, b1⟩
theorem g_blind {av : List Value} : FrameBlind (gP S E I J av) := fun a U g mk q => by
  obtain ⟨q0, qP, qK⟩ := q
  exact ⟨q0, qP, va_K.moved (u := U) (U := U.calling g mk a) (Vm.Alike.refl U.vm) qK⟩
theorem g_AA {A : Nat → Prop} (h : ∀ I J, va_D A (g_w S E I J)) : ∀ q, gA S E q → A q := by
  rintro q ⟨k, hk, rfl⟩
  exact (h (fun _ _ => 0) (fun _ _ => 0)).2 k _ (g_get (List.getElem?_eq_getElem hk))
theorem g_room {m : MethodId} {ls : Array Slot} {st rest : List Value} (h : (rest.map fun v => v.category).sum ≤ 8) : 2 * (F0 m pc ls st).monitorRoom + (rest.map fun v => v.category).sum ≤ 8 := by
  simpa [F0, JFrame.monitorRoom] using h
/-- a call of an object's method -/
theorem g_callV (F : Fx z S E own cc rm nL) {y : MethodName} {c2 : ByteArray} {n2 n idx k ci N : Nat} {ret : Option FieldType} {r2 : Room} {As rest : List Value} {post : Option Value → gM → gN → Prop} {C : String} {T : u_T} {fds : List Nat}
    (hC : Ct (zl z) S E y c2 n2 ret r2 (.ref (E.2.1 k) :: As) I J post) (hm : gMv y c2 n2 ret C n) (hq : Cond.methodLink own idx y ∈ gw) (hR : gRok r2 n2 rm = true)
    (hs : S[k]? = some (.inl (ci, fds))) (hc : vwCl[ci]? = some (C, T, N)) (hn : As.length = n) (hst : st = As.reverse ++ .ref (E.2.1 k) :: rest) (hW : (rest.map fun v => v.category).sum ≤ 8) (hd : decode cc pc = .ok (.invokevirtual idx, 3))
    (K : ∀ (r : Option Value) (I' : gM) (J' : gN), post r I' J' → G z (pc + 3) L (r.toList ++ rest) I' J') : G z pc L st I J := by
  obtain ⟨hx, hb, hml, hown, hts, hK, hD, hk0, rfl, rfl, rfl, rfl⟩ := F
  obtain ⟨m1, m2, m3, m4, m5, m6, m7, m8⟩ := hm
  obtain ⟨r1, r2', r3, r4⟩ := gRok_le hR
  intro H locs ls hP hS hl
  have cw : CallW (zR z) (zs z) (za z) own C idx y c2 n2 ret (gws y c2 n2 ret) r2 0 0 n :=
    ⟨callB_of n hts (gw_good0 m4) rfl r3 r4 (by rw [m5]; exact hts _ m3) (hts _ hq) ⟨m6, m7, m8⟩ ⟨r1, r2'⟩, hts _ m1, hts _ m2⟩
  refine g_run (fun q h => g_AA hD q h) (va_runV (As := As) (rest := rest) ⟨hx, hb, hml, hown, hts⟩ hC cw ⟨g_blind, va_recv hK hP hc (g_get hs), fun U hU hW => ⟨rfl, by rw [hU]; exact hP, va_K.moved hW.alike hK⟩⟩ rfl hn hl.1 hst (g_room hW) hd ⟨hk0.1, hk0.2⟩) hS hl K
/-- a call of a static method -/
theorem g_callS (F : Fx z S E own cc rm nL) {y : MethodName} {c2 : ByteArray} {n2 n idx : Nat} {ret : Option FieldType} {r2 : Room} {As rest : List Value} {post : Option Value → gM → gN → Prop}
    (hC : Ct (zl z) S E y c2 n2 ret r2 As I J post) (hm : gMs y c2 n2 ret n) (hq : Cond.methodLink own idx y ∈ gw) (hR : gRok r2 n2 rm = true)
    (hn : As.length = n) (hst : st = As.reverse ++ rest) (hW : (rest.map fun v => v.category).sum ≤ 8) (hd : decode cc pc = .ok (.invokestatic idx, 3))
    (K : ∀ (r : Option Value) (I' : gM) (J' : gN), post r I' J' → G z (pc + 3) L (r.toList ++ rest) I' J') : G z pc L st I J := by
  obtain ⟨hx, hb, hml, hown, hts, hK, hD, hk0, rfl, rfl, rfl, rfl⟩ := F
  obtain ⟨m1, m3, m4, m6, m7, m8⟩ := hm
  obtain ⟨r1, r2', r3, r4⟩ := gRok_le hR
  intro H locs ls hP hS hl
  refine g_run (fun q h => g_AA hD q h) (va_runS (As := As) (rest := rest) ⟨hx, hb, hml, hown, hts⟩ hC ⟨callB_of n hts (gw_good0 m4) rfl r3 r4 (hts _ m3) (hts _ hq) ⟨m6, m7, m8⟩ ⟨r1, r2'⟩, hts _ m1⟩ ⟨g_blind, fun U hU hW => ⟨rfl, by rw [hU]; exact hP, va_K.moved hW.alike hK⟩⟩ rfl hn hl.1 hst (g_room hW) hd ⟨hk0.1, hk0.2⟩) hS hl K
theorem q_max : Cond.code Lib.Math.max.name Lib.Math.max.code 2 (some .int) ∈ gw := by
  have e : prog_18_method_65_code = Lib.Math.max.code := by decide +kernel
  rw [← e]; exact q378
theorem q_min : Cond.code Lib.Math.min.name Lib.Math.min.code 2 (some .int) ∈ gw := by
  have e : prog_18_method_69_code = Lib.Math.min.code := by decide +kernel
  rw [← e]; exact q602
theorem g_mmax (F : Fx z S E own cc rm nL) {idx : Nat} {x y v : Int32} (hq : Cond.methodLink own idx Lib.Math.max.name ∈ gw) (hv : (if x < y then y else x) = v) (hf : 1 ≤ rm.frames) (hw : (st.map fun v => v.category).sum ≤ 8) (hlo : 21 ≤ rm.locals) (hd : decode cc pc = .ok (.invokestatic idx, 3)) (K : G z (pc + 3) L (.int v :: st) I J) : G z pc L (.int y :: .int x :: st) I J := by
  obtain ⟨hx, hb, hml, hown, hts, hK, hD, hk0, rfl, rfl, rfl, rfl⟩ := F
  intro H locs ls hP hS hl
  exact va_mmax hx hb (hml.trans hl.1.symm) hown (hts _ hq) (hts _ q377) (hts _ q13) (hts _ q_max) hf (Nat.le_trans (Nat.add_le_add_right hw 13) hlo) hk0.1 hk0.2 hd (by rw [hv]; exact K H locs ls hP hS hl)
theorem g_mmin (F : Fx z S E own cc rm nL) {idx : Nat} {x y v : Int32} (hq : Cond.methodLink own idx Lib.Math.min.name ∈ gw) (hv : (if y < x then y else x) = v) (hf : 1 ≤ rm.frames) (hw : (st.map fun v => v.category).sum ≤ 8) (hlo : 21 ≤ rm.locals) (hd : decode cc pc = .ok (.invokestatic idx, 3)) (K : G z (pc + 3) L (.int v :: st) I J) : G z pc L (.int y :: .int x :: st) I J := by
  obtain ⟨hx, hb, hml, hown, hts, hK, hD, hk0, rfl, rfl, rfl, rfl⟩ := F
  intro H locs ls hP hS hl
  exact va_mmin hx hb (hml.trans hl.1.symm) hown (hts _ hq) (hts _ q601) (hts _ q13) (hts _ q_min) hf (Nat.le_trans (Nat.add_le_add_right hw 13) hlo) hk0.1 hk0.2 hd (by rw [hv]; exact K H locs ls hP hS hl)
end GCALLS
end
section
/-! (the decode rows stand with the methods) -/
end
section
/-! the cells of LeapJoin, of LeapJoinModel and the law's out, in the order in which they are made -/
def sh : List gS := [.inl (8, [4, 6, 11, 16, 21, 32, 43, 46, 47, 49, 51, 53, 54, 56, 0, 0, 1]), .inl (6, [0, 5, 0]), .inr (1, 400, 0), .inl (5, [0, 0, 0, 7, 8, 9, 10]), .inr (0, 4, 0), .inr (0, 4, 0), .inr (0, 12, 0), .inr (0, 48, 0), .inl (5, [0, 0, 0, 12, 13, 14, 15]), .inr (0, 4, 0), .inr (0, 4, 0), .inr (0, 12, 0), .inr (0, 48, 0), .inl (5, [0, 0, 0, 17, 18, 19, 20]), .inr (0, 4, 0), .inr (0, 4, 0), .inr (0, 12, 0), .inr (0, 48, 0), .inl (1, [0, 0, 0, 22, 23, 24, 25, 26, 27, 28, 29, 30, 31]), .inr (0, 4, 0), .inr (0, 4, 0), .inr (0, 20736, 0), .inr (0, 5, 0), .inr (0, 48, 0), .inr (0, 3, 0), .inr (0, 16, 0), .inr (0, 16, 0), .inr (0, 16, 0), .inr (0, 16, 0), .inl (1, [0, 0, 0, 33, 34, 35, 36, 37, 38, 39, 40, 41, 42]), .inr (0, 4, 0), .inr (0, 4, 0), .inr (0, 20736, 0), .inr (0, 5, 0), .inr (0, 48, 0), .inr (0, 3, 0), .inr (0, 16, 0), .inr (0, 16, 0), .inr (0, 16, 0), .inr (0, 16, 0), .inl (0, [44, 45]), .inr (0, 100, 0), .inr (0, 100, 0), .inl (7, [0, 0, 0, 0]), .inl (2, [48, 0, 0]), .inr (0, 300, 0), .inl (2, [50, 0, 0]), .inr (0, 300, 0), .inl (3, [0, 52, 0]), .inr (0, 120, 0), .inr (4, 4, 439), .inl (4, [0, 55]), .inr (0, 60, 0), .inr (0, 4, 0), .inl (4, [0, 58]), .inr (0, 60, 0), .inl (4, [0, 60]), .inr (0, 60, 0), .inl (4, [0, 62]), .inr (0, 60, 0), .inl (4, [0, 64]), .inr (0, 60, 0), .inl (9, [0, 66, 0, 0, 0, 67, 68, 69, 70, 0, 71, 72, 0, 73, 74, 75, 76, 0, 77, 0, 78, 79, 80, 81, 82, 83, 0, 0, 84, 0, 1, 0, 0, 0, 85, 86, 87, 88, 89, 90, 91, 92, 0]), .inr (0, 400, 0), .inr (0, 4, 0), .inr (0, 12, 0), .inr (0, 4, 0), .inr (0, 144, 0), .inr (0, 300, 0), .inr (0, 5, 0), .inr (0, 331, 0), .inr (0, 4, 0), .inr (0, 4, 0), .inr (0, 12, 0), .inr (0, 4, 0), .inr (0, 4, 0), .inr (0, 192, 0), .inr (0, 16, 0), .inr (0, 16, 0), .inr (0, 5, 0), .inr (0, 82944, 0), .inr (0, 13240, 0), .inr (0, 400, 0), .inr (0, 400, 0), .inr (0, 4, 0), .inr (2, 20736, 0), .inr (0, 100, 0), .inr (0, 4, 0), .inr (0, 150, 0), .inr (0, 331, 0), .inr (3, 1, 1)]
theorem s0 : sh[0]? = some (.inl (8, [4, 6, 11, 16, 21, 32, 43, 46, 47, 49, 51, 53, 54, 56, 0, 0, 1])) := rfl
theorem s1 : sh[1]? = some (.inl (6, [0, 5, 0])) := rfl
theorem s2 : sh[2]? = some (.inr (1, 400, 0)) := rfl
theorem s3 : sh[3]? = some (.inl (5, [0, 0, 0, 7, 8, 9, 10])) := rfl
theorem s4 : sh[4]? = some (.inr (0, 4, 0)) := rfl
theorem s5 : sh[5]? = some (.inr (0, 4, 0)) := rfl
theorem s6 : sh[6]? = some (.inr (0, 12, 0)) := rfl
theorem s7 : sh[7]? = some (.inr (0, 48, 0)) := rfl
theorem s8 : sh[8]? = some (.inl (5, [0, 0, 0, 12, 13, 14, 15])) := rfl
theorem s9 : sh[9]? = some (.inr (0, 4, 0)) := rfl
theorem s10 : sh[10]? = some (.inr (0, 4, 0)) := rfl
theorem s11 : sh[11]? = some (.inr (0, 12, 0)) := rfl
theorem s12 : sh[12]? = some (.inr (0, 48, 0)) := rfl
theorem s13 : sh[13]? = some (.inl (5, [0, 0, 0, 17, 18, 19, 20])) := rfl
theorem s14 : sh[14]? = some (.inr (0, 4, 0)) := rfl
theorem s15 : sh[15]? = some (.inr (0, 4, 0)) := rfl
theorem s16 : sh[16]? = some (.inr (0, 12, 0)) := rfl
theorem s17 : sh[17]? = some (.inr (0, 48, 0)) := rfl
theorem s18 : sh[18]? = some (.inl (1, [0, 0, 0, 22, 23, 24, 25, 26, 27, 28, 29, 30, 31])) := rfl
theorem s19 : sh[19]? = some (.inr (0, 4, 0)) := rfl
theorem s20 : sh[20]? = some (.inr (0, 4, 0)) := rfl
theorem s21 : sh[21]? = some (.inr (0, 20736, 0)) := rfl
theorem s22 : sh[22]? = some (.inr (0, 5, 0)) := rfl
theorem s23 : sh[23]? = some (.inr (0, 48, 0)) := rfl
theorem s24 : sh[24]? = some (.inr (0, 3, 0)) := rfl
theorem s25 : sh[25]? = some (.inr (0, 16, 0)) := rfl
theorem s26 : sh[26]? = some (.inr (0, 16, 0)) := rfl
theorem s27 : sh[27]? = some (.inr (0, 16, 0)) := rfl
theorem s28 : sh[28]? = some (.inr (0, 16, 0)) := rfl
theorem s29 : sh[29]? = some (.inl (1, [0, 0, 0, 33, 34, 35, 36, 37, 38, 39, 40, 41, 42])) := rfl
theorem s30 : sh[30]? = some (.inr (0, 4, 0)) := rfl
theorem s31 : sh[31]? = some (.inr (0, 4, 0)) := rfl
theorem s32 : sh[32]? = some (.inr (0, 20736, 0)) := rfl
theorem s33 : sh[33]? = some (.inr (0, 5, 0)) := rfl
theorem s34 : sh[34]? = some (.inr (0, 48, 0)) := rfl
theorem s35 : sh[35]? = some (.inr (0, 3, 0)) := rfl
theorem s36 : sh[36]? = some (.inr (0, 16, 0)) := rfl
theorem s37 : sh[37]? = some (.inr (0, 16, 0)) := rfl
theorem s38 : sh[38]? = some (.inr (0, 16, 0)) := rfl
theorem s39 : sh[39]? = some (.inr (0, 16, 0)) := rfl
theorem s40 : sh[40]? = some (.inl (0, [44, 45])) := rfl
theorem s41 : sh[41]? = some (.inr (0, 100, 0)) := rfl
theorem s42 : sh[42]? = some (.inr (0, 100, 0)) := rfl
theorem s43 : sh[43]? = some (.inl (7, [0, 0, 0, 0])) := rfl
theorem s44 : sh[44]? = some (.inl (2, [48, 0, 0])) := rfl
theorem s45 : sh[45]? = some (.inr (0, 300, 0)) := rfl
theorem s46 : sh[46]? = some (.inl (2, [50, 0, 0])) := rfl
theorem s47 : sh[47]? = some (.inr (0, 300, 0)) := rfl
theorem s48 : sh[48]? = some (.inl (3, [0, 52, 0])) := rfl
theorem s49 : sh[49]? = some (.inr (0, 120, 0)) := rfl
theorem s50 : sh[50]? = some (.inr (4, 4, 439)) := rfl
theorem s51 : sh[51]? = some (.inl (4, [0, 55])) := rfl
theorem s52 : sh[52]? = some (.inr (0, 60, 0)) := rfl
theorem s53 : sh[53]? = some (.inr (0, 4, 0)) := rfl
theorem s54 : sh[54]? = some (.inl (4, [0, 58])) := rfl
theorem s55 : sh[55]? = some (.inr (0, 60, 0)) := rfl
theorem s56 : sh[56]? = some (.inl (4, [0, 60])) := rfl
theorem s57 : sh[57]? = some (.inr (0, 60, 0)) := rfl
theorem s58 : sh[58]? = some (.inl (4, [0, 62])) := rfl
theorem s59 : sh[59]? = some (.inr (0, 60, 0)) := rfl
theorem s60 : sh[60]? = some (.inl (4, [0, 64])) := rfl
theorem s61 : sh[61]? = some (.inr (0, 60, 0)) := rfl
theorem s62 : sh[62]? = some (.inl (9, [0, 66, 0, 0, 0, 67, 68, 69, 70, 0, 71, 72, 0, 73, 74, 75, 76, 0, 77, 0, 78, 79, 80, 81, 82, 83, 0, 0, 84, 0, 1, 0, 0, 0, 85, 86, 87, 88, 89, 90, 91, 92, 0])) := rfl
theorem s63 : sh[63]? = some (.inr (0, 400, 0)) := rfl
theorem s64 : sh[64]? = some (.inr (0, 4, 0)) := rfl
theorem s65 : sh[65]? = some (.inr (0, 12, 0)) := rfl
theorem s66 : sh[66]? = some (.inr (0, 4, 0)) := rfl
theorem s67 : sh[67]? = some (.inr (0, 144, 0)) := rfl
theorem s68 : sh[68]? = some (.inr (0, 300, 0)) := rfl
theorem s69 : sh[69]? = some (.inr (0, 5, 0)) := rfl
theorem s70 : sh[70]? = some (.inr (0, 331, 0)) := rfl
theorem s71 : sh[71]? = some (.inr (0, 4, 0)) := rfl
theorem s72 : sh[72]? = some (.inr (0, 4, 0)) := rfl
theorem s73 : sh[73]? = some (.inr (0, 12, 0)) := rfl
theorem s74 : sh[74]? = some (.inr (0, 4, 0)) := rfl
theorem s75 : sh[75]? = some (.inr (0, 4, 0)) := rfl
theorem s76 : sh[76]? = some (.inr (0, 192, 0)) := rfl
theorem s77 : sh[77]? = some (.inr (0, 16, 0)) := rfl
theorem s78 : sh[78]? = some (.inr (0, 16, 0)) := rfl
theorem s79 : sh[79]? = some (.inr (0, 5, 0)) := rfl
theorem s80 : sh[80]? = some (.inr (0, 82944, 0)) := rfl
theorem s81 : sh[81]? = some (.inr (0, 13240, 0)) := rfl
theorem s82 : sh[82]? = some (.inr (0, 400, 0)) := rfl
theorem s83 : sh[83]? = some (.inr (0, 400, 0)) := rfl
theorem s84 : sh[84]? = some (.inr (0, 4, 0)) := rfl
theorem s85 : sh[85]? = some (.inr (2, 20736, 0)) := rfl
theorem s86 : sh[86]? = some (.inr (0, 100, 0)) := rfl
theorem s87 : sh[87]? = some (.inr (0, 4, 0)) := rfl
theorem s88 : sh[88]? = some (.inr (0, 150, 0)) := rfl
theorem s89 : sh[89]? = some (.inr (0, 331, 0)) := rfl
theorem s90 : sh[90]? = some (.inr (3, 1, 1)) := rfl
abbrev g0 : gM := fun _ _ => 0
abbrev h0 : gN := fun _ _ => 0
theorem g_lt {a b : Int32} : a < b ↔ a.toInt < b.toInt := Int32.lt_iff_toInt_lt
theorem g_le {a b : Int32} : a ≤ b ↔ a.toInt ≤ b.toInt := Int32.le_iff_toInt_le
theorem g_eq {a b : Int32} : a = b ↔ a.toInt = b.toInt := Int32.toInt_inj.symm
theorem g_0shr (x : Int32) : (0 : Int32) >>> x = 0 := by simp
theorem g_l0 : (0 : Int32).toInt = 0 := by decide
theorem g_l1 : (1 : Int32).toInt = 1 := by decide
theorem g_l2 : (2 : Int32).toInt = 2 := by decide
theorem g_l3 : (3 : Int32).toInt = 3 := by decide
theorem g_l4 : (4 : Int32).toInt = 4 := by decide
theorem g_l5 : (5 : Int32).toInt = 5 := by decide
theorem g_lm1 : ((-1) : Int32).toInt = -1 := by decide
theorem g_l400 : (400 : Int32).toInt = 400 := by decide
theorem g_l40 : (40 : Int32).toInt = 40 := by decide
theorem g_l15 : (15 : Int32).toInt = 15 := by decide
end
section
/-! constructors: the cells come one by one; all numbers are 0 -/
def gCl (N : Nat) (x : gS) : Bool := match x with
  | .inl (_, fds) => fds.all (fun f => Nat.blt f (N + 3))
  | .inr (_, _, so) => Nat.blt so 3 || Nat.beq ((so - 3) % 8) 0 || Nat.ble ((so - 3) / 8 + 2 * ((so - 3) % 8)) (N + 1)
theorem g_el_up {E : gE} {a : Nat → Int32} {b : Nat → Int64} {x : gS} {N q : Nat} (h : gCl N x = true) : g_el (E.1, va_up E.2.1 N q, E.2.2) a b x = g_el E a b x := by
  match x with
  | .inl (ci, fds) =>
    simp only [g_el]
    congr 2
    apply List.ext_getElem?
    intro i
    simp only [List.getElem?_mapIdx]
    cases hx : fds[i]? with
    | none => rfl
    | some f =>
      have hf : f < N + 3 := by
        have h1 := List.all_eq_true.mp h f (List.mem_of_getElem? hx)
        simpa [Nat.blt_eq] using h1
      match f, hf with
      | 0, _ => rfl
      | 1, _ => rfl
      | 2, _ => rfl
      | n + 3, hf => simp [g_fv, va_up, Nat.ne_of_lt (Nat.lt_of_add_lt_add_right hf)]
  | .inr (t, len, so) =>
    match so, h with
    | 0, _ => rfl
    | 1, _ => rfl
    | 2, _ => rfl
    | n + 3, h =>
      have h2 : n % 8 = 0 ∨ n / 8 + 2 * (n % 8) ≤ N + 1 := by
        have h3 : (Nat.blt (n + 3) 3 || Nat.beq ((n + 3 - 3) % 8) 0 || Nat.ble ((n + 3 - 3) / 8 + 2 * ((n + 3 - 3) % 8)) (N + 1)) = true := h
        simp only [Bool.or_eq_true, Nat.blt_eq, Nat.add_sub_cancel] at h3
        rcases h3 with (h3 | h3) | h3
        · omega
        · exact Or.inl (Nat.eq_of_beq_eq_true h3)
        · exact Or.inr (Nat.le_of_ble_eq_true h3)
      simp only [g_el, g_av]
      congr 4
      simp only [Sum.inr.injEq]
      funext j
      by_cases hj : j < n % 8
      · simp only [if_pos hj]
        have hne : ¬ n / 8 + 2 * j = N := by omega
        simp [va_up, hne]
      · simp only [if_neg hj]
theorem g_push {S : List gS} {E : gE} {I : gM} {J : gN} {x : gS} {q N : Nat} (hN : S.length = N) (hcl : (S ++ [x]).all (gCl N) = true) : g_w S E I J ++ [(q, g_el E (I N) (J N) x)] = g_w (S ++ [x]) (E.1, va_up E.2.1 N q, E.2.2) I J := by
  subst hN
  have hall : ∀ y ∈ S ++ [x], gCl S.length y = true := fun y hy => List.all_eq_true.mp hcl y hy
  have hlen : (g_w S E I J).length = S.length := by simp [g_w]
  apply List.ext_getElem?
  intro i
  rcases Nat.lt_trichotomy i S.length with h | h | h
  · have hi : S[i]? = some S[i] := List.getElem?_eq_getElem h
    rw [List.getElem?_append_left (by rw [hlen]; exact h), g_get hi, g_get (S := S ++ [x]) (k := i) (x := S[i]) (by rw [List.getElem?_append_left h, hi]), g_el_up (hall _ (List.mem_append_left _ (List.getElem_mem h)))]
    simp [va_up, Nat.ne_of_lt h]
  · subst h
    rw [List.getElem?_append_right (by rw [hlen]; exact Nat.le_refl _), hlen, Nat.sub_self, g_get (S := S ++ [x]) (k := S.length) (x := x) (by simp), g_el_up (hall _ (by simp))]
    simp [va_up]
  · rw [List.getElem?_eq_none (by simp [hlen]; omega), List.getElem?_eq_none (by simp [g_w]; omega)]
theorem g_setS {S : List gS} {E : gE} {I : gM} {J : gN} {k : Nat} {x y : gS} (h : S[k]? = some x) : (g_w S E I J).set k (E.2.1 k, g_el E (I k) (J k) y) = g_w (S.set k y) E I J := by
  have hlt := (List.getElem?_eq_some_iff.mp h).1
  apply List.ext_getElem?
  intro i
  by_cases hi : i = k
  · subst hi
    rw [List.getElem?_set_self (by simp [g_w]; exact hlt), g_get (List.getElem?_set_self hlt)]
  · rw [List.getElem?_set_ne (Ne.symm hi)]
    simp only [g_w, List.getElem?_mapIdx, List.getElem?_set_ne (Ne.symm hi)]
theorem g_fsetR {ad : Nat → Nat} {a : Nat → Int32} {b : Nat → Int64} {fds : List Nat} {j n f0 : Nat} (hf : fds[j]? = some f0) : (fds.mapIdx (fun i f => g_fv ad a b i f)).set j (.ref (ad n)) = (fds.set j (n + 3)).mapIdx (fun i f => g_fv ad a b i f) := by
  have hlt := (List.getElem?_eq_some_iff.mp hf).1
  apply List.ext_getElem?
  intro i
  by_cases hi : i = j
  · subst hi
    rw [List.getElem?_set_self (by rw [List.length_mapIdx]; exact hlt)]
    simp only [List.getElem?_mapIdx, List.getElem?_set_self hlt, Option.map_some]
    rfl
  · rw [List.getElem?_set_ne (Ne.symm hi)]
    simp only [List.getElem?_mapIdx, List.getElem?_set_ne (Ne.symm hi)]
/-- a walk in which cells come: k cells of n slots have come -/
def GC (z : gZ) (k n : Nat) (S : List gS) (E : gE) (pc : Nat) (L : List (Nat × Value)) (st : List Value) : Prop :=
  ∀ (H : Heap) (locs : List Loc) (ls : Array Slot), va_P E.1 vwCl (g_w S E g0 h0) H → va_D (zA z) (g_w S E g0 h0) → va_S (zA z) (zs z).heap H locs → lv_has ls (zL z) L →
    W (zp z) (zl z) (ze z) (zR z) (zs z) (zm z) (za z) (zb z) (zh z) (zc z) H locs k n (zQ z) (F0 (zm z) pc ls st)
abbrev Fc (z : gZ) (own : String) (cc : ByteArray) (rm : Room) (nL : Nat) (D : va_G) (tA : Nat → ClassId) : Prop :=
  (zp z).tables.exec = Jvm.exec ∧ (zc z).code = cc ∧ (zc z).maxLocals = nL ∧ (zs z).vm.findClass own = some (zm z).cls ∧ (∀ w ∈ gw, w.before (za z) (zs z) = true) ∧
  va_K D vwCl (g_ty (D, fun _ => 0, tA)) (zs z) ∧ (∀ q, (zs z).heap.size ≤ q → zA z q) ∧ zL z = nL ∧ zR z = rm
section GCROWS
variable {z : gZ} {k n : Nat} {S : List gS} {D : va_G} {ad : Nat → Nat} {tA : Nat → ClassId} {own : String} {cc : ByteArray} {rm : Room} {nL pc : Nat} {L : List (Nat × Value)} {st : List Value}
theorem gc_ls {Ln : List (Nat × Value)} {sn : List Value} (h1 : L = Ln) (h2 : st = sn) (K : GC z k n S (D, ad, tA) pc Ln sn) : GC z k n S (D, ad, tA) pc L st := by subst h1; subst h2; exact K
theorem gc_S {S2 : List gS} (h : S = S2) (K : GC z k n S2 (D, ad, tA) pc L st) : GC z k n S (D, ad, tA) pc L st := by subst h; exact K
theorem gc_sub {Ln : List (Nat × Value)} (ks : List Nat) (h : lv_pick L ks = Ln) (K : GC z k n S (D, ad, tA) pc Ln st) : GC z k n S (D, ad, tA) pc L st := fun H locs ls hP hD hS hl => K H locs ls hP hD hS (lv_sub hl ks h)
theorem gc_iconst (F : Fc z own cc rm nL D tA) {c : Int} {v : Int32} (hd : decode cc pc = .ok (.iconst c, 1)) (hv : Int32.ofInt c = v) (K : GC z k n S (D, ad, tA) (pc + 1) L (.int v :: st)) : GC z k n S (D, ad, tA) pc L st :=
  fun H locs ls hP hD hS hl => lv_iconst F.1 F.2.1 hd hv (K H locs ls hP hD hS hl)
theorem gc_bipush (F : Fc z own cc rm nL D tA) {c : Int} {v : Int32} (hd : decode cc pc = .ok (.bipush c, 2)) (hv : (Int8.ofInt c).toInt32 = v) (K : GC z k n S (D, ad, tA) (pc + 2) L (.int v :: st)) : GC z k n S (D, ad, tA) pc L st :=
  fun H locs ls hP hD hS hl => lv_bipush F.1 F.2.1 hd hv (K H locs ls hP hD hS hl)
theorem gc_sipush (F : Fc z own cc rm nL D tA) {c : Int} {v : Int32} (hd : decode cc pc = .ok (.sipush c, 3)) (hv : (Int16.ofInt c).toInt32 = v) (K : GC z k n S (D, ad, tA) (pc + 3) L (.int v :: st)) : GC z k n S (D, ad, tA) pc L st :=
  fun H locs ls hP hD hS hl => lv_sipush F.1 F.2.1 hd hv (K H locs ls hP hD hS hl)
theorem gc_ldc (F : Fc z own cc rm nL D tA) {idx : Nat} {v : Int32} (hd : decode cc pc = .ok (.ldc idx, 2)) (hq : Cond.constant own idx v ∈ gw) (K : GC z k n S (D, ad, tA) (pc + 2) L (.int v :: st)) : GC z k n S (D, ad, tA) pc L st :=
  fun H locs ls hP hD hS hl => lv_ldc F.1 F.2.1 F.2.2.2.1 (F.2.2.2.2.1 _ hq) hd (K H locs ls hP hD hS hl)
theorem gc_lconst (F : Fc z own cc rm nL D tA) {c : Fin 2} {v : Int64} (hd : decode cc pc = .ok (.lconst c, 1)) (hv : Int64.ofNat (c : Nat) = v) (K : GC z k n S (D, ad, tA) (pc + 1) L (.long v :: st)) : GC z k n S (D, ad, tA) pc L st :=
  fun H locs ls hP hD hS hl => lv_lconst F.1 F.2.1 hd hv (K H locs ls hP hD hS hl)
theorem gc_aload_n (F : Fc z own cc rm nL D tA) {c : Fin 4} {i x : Nat} (q : Nat) (hd : decode cc pc = .ok (.aload_n c, 1)) (hi : (c : Nat) = i) (hq : L[q]? = some (i, .ref x)) (K : GC z k n S (D, ad, tA) (pc + 1) L (.ref x :: st)) : GC z k n S (D, ad, tA) pc L st :=
  fun H locs ls hP hD hS hl => lv_aload_n F.1 F.2.1 hd hi (lv_at hl q hq) (K H locs ls hP hD hS hl)
theorem gc_iload_n (F : Fc z own cc rm nL D tA) {c : Fin 4} {i : Nat} {x : Int32} (q : Nat) (hd : decode cc pc = .ok (.iload_n c, 1)) (hi : (c : Nat) = i) (hq : L[q]? = some (i, .int x)) (K : GC z k n S (D, ad, tA) (pc + 1) L (.int x :: st)) : GC z k n S (D, ad, tA) pc L st :=
  fun H locs ls hP hD hS hl => lv_iload_n F.1 F.2.1 hd hi (lv_at hl q hq) (K H locs ls hP hD hS hl)
theorem gc_istore_n (F : Fc z own cc rm nL D tA) {c : Fin 4} {i : Nat} {x : Int32} {Ln : List (Nat × Value)} (hd : decode cc pc = .ok (.istore_n c, 1)) (hi : (c : Nat) = i) (hn : i < nL) (hL : (i, Value.int x) :: L.filter (fun q => !(q.1 == i) && !(q.1 + 1 == i && q.2.category == 2)) = Ln) (K : GC z k n S (D, ad, tA) (pc + 1) Ln st) : GC z k n S (D, ad, tA) pc L (.int x :: st) := by
  obtain ⟨hx, hb, hml, hown, hts, hK, hA, rfl, rfl⟩ := F
  exact fun H locs ls hP hD hS hl => lv_istore_n (lv := L) hx hb hd hi hl hn hL (fun ls hl => K H locs ls hP hD hS hl)
theorem gc_astore_n (F : Fc z own cc rm nL D tA) {c : Fin 4} {i : Nat} {x : Nat} {Ln : List (Nat × Value)} (hd : decode cc pc = .ok (.astore_n c, 1)) (hi : (c : Nat) = i) (hn : i < nL) (hL : (i, Value.ref x) :: L.filter (fun q => !(q.1 == i) && !(q.1 + 1 == i && q.2.category == 2)) = Ln) (K : GC z k n S (D, ad, tA) (pc + 1) Ln st) : GC z k n S (D, ad, tA) pc L (.ref x :: st) := by
  obtain ⟨hx, hb, hml, hown, hts, hK, hA, rfl, rfl⟩ := F
  exact fun H locs ls hP hD hS hl => lv_astore_n (lv := L) hx hb hd hi hl hn hL (fun ls hl => K H locs ls hP hD hS hl)
theorem gc_iinc (F : Fc z own cc rm nL D tA) {i : Nat} {c : Int} {x v : Int32} {Ln : List (Nat × Value)} (q : Nat) (hd : decode cc pc = .ok (.iinc i c, 3)) (hq : L[q]? = some (i, .int x)) (hv : x + Int32.ofInt c = v) (hn : i < nL) (hL : (i, Value.int v) :: L.filter (fun q => !(q.1 == i) && !(q.1 + 1 == i && q.2.category == 2)) = Ln) (K : GC z k n S (D, ad, tA) (pc + 3) Ln st) : GC z k n S (D, ad, tA) pc L st := by
  obtain ⟨hx, hb, hml, hown, hts, hK, hA, rfl, rfl⟩ := F
  exact fun H locs ls hP hD hS hl => lv_iinc (lv := L) hx hb hd hl hq hv hn hL (fun ls hl => K H locs ls hP hD hS hl)
theorem gc_dup (F : Fc z own cc rm nL D tA) {x : Nat} (hd : decode cc pc = .ok (.dup, 1)) (K : GC z k n S (D, ad, tA) (pc + 1) L (.ref x :: .ref x :: st)) : GC z k n S (D, ad, tA) pc L (.ref x :: st) :=
  fun H locs ls hP hD hS hl => lv_dup F.1 F.2.1 hd rfl (K H locs ls hP hD hS hl)
theorem gc_goto (F : Fc z own cc rm nL D tA) {off : Int} {tgt : Nat} (hd : decode cc pc = .ok (.goto off, 3)) (ht : (pc : Int) + off = (tgt : Int)) (K : GC z k n S (D, ad, tA) tgt L st) : GC z k n S (D, ad, tA) pc L st :=
  fun H locs ls hP hD hS hl => lv_goto F.1 F.2.1 hd ht (K H locs ls hP hD hS hl)
theorem gc_icmp_ge (F : Fc z own cc rm nL D tA) {x y : Int32} {off : Int} {tgt : Nat} (hd : decode cc pc = .ok (.if_icmp .ge off, 3)) (ht : (pc : Int) + off = (tgt : Int)) (kt : y ≤ x → GC z k n S (D, ad, tA) tgt L st) (kf : ¬ y ≤ x → GC z k n S (D, ad, tA) (pc + 3) L st) : GC z k n S (D, ad, tA) pc L (.int y :: .int x :: st) :=
  fun H locs ls hP hD hS hl => lv_icmp_ge F.1 F.2.1 hd ht (fun h => kt h H locs ls hP hD hS hl) (fun h => kf h H locs ls hP hD hS hl)
theorem gc_objInit (F : Fc z own cc rm nL D tA) {idx x : Nat} (hq : Cond.methodLink own idx objectInit ∈ gw) (hi : Cond.instanceMethod objectInit ∈ gw) (hc : Cond.code objectInit ⟨#[0xb1]⟩ 1 none ∈ gw) (hR : gRok (gR 0) 1 (gR rm.frames) = true) (hlo : 64 ≤ rm.locals) (hW : (st.map fun v => v.category).sum ≤ 8) (hd : decode cc pc = .ok (.invokespecial idx, 3)) (K : GC z k n S (D, ad, tA) (pc + 3) L st) : GC z k n S (D, ad, tA) pc L (.ref x :: st) := by
  obtain ⟨hx, hb, hml, hown, hts, hK, hA, rfl, rfl⟩ := F
  intro H locs ls hP hD hS hl
  exact W.objInit hx hb hown (hts _ hq) (hts _ hi) (hts _ hc) rfl (hl.1.trans hml.symm) rfl hd (gRok_le hR).1 (by have := g_room (pc := pc) (m := zm z) (ls := ls) (st := .ref x :: st) hW; omega) (W.eq (g2 := F0 (zm z) (pc + 3) ls st) rfl (K H locs ls hP hD hS hl))
theorem gc_puti (F : Fc z own cc rm nL D tA) {i j ci idx N a : Nat} {fds : List Nat} {C : String} {T : u_T} (ha : a = ad i) (hs : S[i]? = some (.inl (ci, fds))) (hf : fds[j]? = some 0) (hc : vwCl[ci]? = some (C, T, N)) (hin : ∀ w ∈ u_ws C T N, w ∈ gw) (hj : j < N) (hq : Cond.fieldLink own idx (T j).1 (T j).2.1 (T j).2.2.1 ∈ gw)
    {ty : Nat → FieldType} (hty : ∀ k, k < N → parseFieldDescriptor (T k).2.2.1 = some (ty k)) (hnm : ∀ a, a < N → ∀ b, b < N → a ≠ b → (T a).2.1 ≠ (T b).2.1) (hfin : (T j).2.2.2 = false) (hn : narrow (ty j) (.int 0) = .int 0) (hfit : fits (ty j) (.int 0) = true) (hd : decode cc pc = .ok (.putfield idx, 3)) (K : GC z k n S (D, ad, tA) (pc + 3) L st) : GC z k n S (D, ad, tA) pc L (.int 0 :: .ref a :: st) := by
  obtain ⟨hx, hb, hml, hown, hts, hK, hA, rfl, rfl⟩ := F
  subst ha
  intro H locs ls hP hD hS hl
  exact va_put (D := D) (T := T) hx hb hts hin ty hty hnm hown hK hP hD hS i (g_get hs) hc j hj (hts _ hq) (fun _ h => h) hfin (hty j hj) hn hfit (by rw [List.length_mapIdx]; exact (List.getElem?_eq_some_iff.mp hf).1) hd (fun H1 locs1 hP1 hD1 hS1 => by
    have e : ((g_w S (D, ad, tA) g0 h0).set i (ad i, .inr (ci, (fds.mapIdx (fun j f => g_fv ad (g0 i) (h0 i) j f)).set j (.int 0)))) = g_w S (D, ad, tA) g0 h0 := by
      rw [g_fset hf, ← g_up_upd]
      have e2 := g_set (E := (D, ad, tA)) (J := h0) (J' := h0) hs (fun q h => g_up_row (I := g0) (k := i) (j := j) (v := 0) h) (fun _ _ => rfl)
      rw [g_up_same (I := g0) (k := i) (j := j) (v := (0 : Int32)) rfl] at e2 ⊢
      exact e2
    rw [e] at hP1 hD1
    exact K H1 locs1 ls hP1 hD1 hS1 hl)
theorem gc_putl (F : Fc z own cc rm nL D tA) {i j ci idx N a : Nat} {fds : List Nat} {C : String} {T : u_T} (ha : a = ad i) (hs : S[i]? = some (.inl (ci, fds))) (hf : fds[j]? = some 1) (hc : vwCl[ci]? = some (C, T, N)) (hin : ∀ w ∈ u_ws C T N, w ∈ gw) (hj : j < N) (hq : Cond.fieldLink own idx (T j).1 (T j).2.1 (T j).2.2.1 ∈ gw)
    {ty : Nat → FieldType} (hty : ∀ k, k < N → parseFieldDescriptor (T k).2.2.1 = some (ty k)) (hnm : ∀ a, a < N → ∀ b, b < N → a ≠ b → (T a).2.1 ≠ (T b).2.1) (hfin : (T j).2.2.2 = false) (hn : narrow (ty j) (.long 0) = .long 0) (hfit : fits (ty j) (.long 0) = true) (hd : decode cc pc = .ok (.putfield idx, 3)) (K : GC z k n S (D, ad, tA) (pc + 3) L st) : GC z k n S (D, ad, tA) pc L (.long 0 :: .ref a :: st) := by
  obtain ⟨hx, hb, hml, hown, hts, hK, hA, rfl, rfl⟩ := F
  subst ha
  intro H locs ls hP hD hS hl
  exact va_put (D := D) (T := T) hx hb hts hin ty hty hnm hown hK hP hD hS i (g_get hs) hc j hj (hts _ hq) (fun _ h => h) hfin (hty j hj) hn hfit (by rw [List.length_mapIdx]; exact (List.getElem?_eq_some_iff.mp hf).1) hd (fun H1 locs1 hP1 hD1 hS1 => by
    have e : ((g_w S (D, ad, tA) g0 h0).set i (ad i, .inr (ci, (fds.mapIdx (fun j f => g_fv ad (g0 i) (h0 i) j f)).set j (.long 0)))) = g_w S (D, ad, tA) g0 h0 := by
      rw [g_fsetL hf, ← g_up_updL]
      have e2 := g_set (E := (D, ad, tA)) (I := g0) (I' := g0) hs (fun _ _ => rfl) (fun q h => g_up_row (I := h0) (k := i) (j := j) (v := 0) h)
      rw [g_up_same (I := h0) (k := i) (j := j) (v := (0 : Int64)) rfl] at e2 ⊢
      exact e2
    rw [e] at hP1 hD1
    exact K H1 locs1 ls hP1 hD1 hS1 hl)
theorem gc_putr (F : Fc z own cc rm nL D tA) {i j ci idx N a b m : Nat} {fds : List Nat} {C : String} {T : u_T} {S1 : List gS} (hin2 : (zh z).name = "<init>") (ha : a = ad i) (hb2 : b = ad m) (hs : S[i]? = some (.inl (ci, fds))) (hf : fds[j]? = some 2) (hS1 : S.set i (.inl (ci, fds.set j (m + 3))) = S1) (hc : vwCl[ci]? = some (C, T, N)) (hin : ∀ w ∈ u_ws C T N, w ∈ gw) (hj : j < N) (hq : Cond.fieldLink own idx (T j).1 (T j).2.1 (T j).2.2.1 ∈ gw)
    {ty : Nat → FieldType} (hty : ∀ k, k < N → parseFieldDescriptor (T k).2.2.1 = some (ty k)) (hnm : ∀ a, a < N → ∀ b, b < N → a ≠ b → (T a).2.1 ≠ (T b).2.1) (hfin : (T j).2.2.2 = true) (hdecl : (T j).1 = own) (hn : ∀ q, narrow (ty j) (.ref q) = .ref q) (hfit : ∀ q, fits (ty j) (.ref q) = true) (hd : decode cc pc = .ok (.putfield idx, 3)) (K : GC z k n S1 (D, ad, tA) (pc + 3) L st) : GC z k n S (D, ad, tA) pc L (.ref b :: .ref a :: st) := by
  obtain ⟨hx, hb, hml, hown, hts, hK, hA, rfl, rfl⟩ := F
  subst ha; subst hb2; subst hS1
  intro H locs ls hP hD hS hl
  exact va_putF (D := D) (T := T) hx hb hts hin ty hty hnm hown hK hP hD hS i (g_get hs) hc j hj (hts _ hq) (fun _ h => h) hfin hin2 hdecl (hty j hj) (hn _) (hfit _) (by rw [List.length_mapIdx]; exact (List.getElem?_eq_some_iff.mp hf).1) hd (fun H1 locs1 hP1 hD1 hS1 => by
    have e : ((g_w S (D, ad, tA) g0 h0).set i (ad i, .inr (ci, (fds.mapIdx (fun j f => g_fv ad (g0 i) (h0 i) j f)).set j (.ref (ad m))))) = g_w (S.set i (.inl (ci, fds.set j (m + 3)))) (D, ad, tA) g0 h0 := by
      rw [g_fsetR hf]
      exact g_setS (E := (D, ad, tA)) (I := g0) (J := h0) (y := .inl (ci, fds.set j (m + 3))) hs
    rw [e] at hP1 hD1
    exact K H1 locs1 ls hP1 hD1 hS1 hl)
theorem gc_getr (F : Fc z own cc rm nL D tA) {i j ci idx N a m : Nat} {fds : List Nat} {C : String} {T : u_T} (ha : a = ad i) (hs : S[i]? = some (.inl (ci, fds))) (hf : fds[j]? = some (m + 3)) (hc : vwCl[ci]? = some (C, T, N)) (hin : ∀ w ∈ u_ws C T N, w ∈ gw) (hj : j < N) (hq : Cond.fieldLink own idx (T j).1 (T j).2.1 (T j).2.2.1 ∈ gw) (hd : decode cc pc = .ok (.getfield idx, 3)) (K : GC z k n S (D, ad, tA) (pc + 3) L (.ref (ad m) :: st)) : GC z k n S (D, ad, tA) pc L (.ref a :: st) := by
  obtain ⟨hx, hb, hml, hown, hts, hK, hA, rfl, rfl⟩ := F
  subst ha
  intro H locs ls hP hD hS hl
  exact va_get (D := D) (T := T) hx hb hts hin hown hK hP i (g_get hs) hc j hj (hts _ hq) (fun _ h => h) (g_fget hf) hd (K H locs ls hP hD hS hl)
theorem gc_newa (F : Fc z own cc rm nL D tA) {at_ : ArrayType} {ty : FieldType} {t so len N : Nat} {v : Int32} {S1 : List gS} (hty : newarray.typeOf at_ = ty) (hq : Cond.arrayClass ty ∈ gw) (ht : (g_ty (D, fun _ => 0, tA))[t]? = some (tA t, ty)) (hra : ∀ c, va_RA (zs z) c ty = ((zs z).vm.findClass ("[" ++ ty.toString) = some c))
    (hcell : ∀ cA : ClassId, vp_cell cA (len, g_av ad (g0 N) (h0 N) so) = arrV cA len (fun _ => defaultValue ty)) (hv0 : ¬ v < 0) (hv : v.toNatClampNeg = len) (hby : len * componentBytes ty ≤ 536870912) (hk : k + 1 ≤ rm.cells) (hn : n + len ≤ rm.slots) (hS1 : S ++ [.inr (t, len, so)] = S1) (hN : S.length = N) (hcl : S1.all (gCl N) = true) (hd : decode cc pc = .ok (.newarray at_, 2))
    (K : ∀ q, GC z (k + 1) (n + len) S1 (D, va_up ad N q, tA) (pc + 2) L (.ref (va_up ad N q N) :: st)) : GC z k n S (D, ad, tA) pc L (.int v :: st) := by
  obtain ⟨hx, hb, hml, hown, hts, hK, hA, rfl, rfl⟩ := F
  subst hS1; subst hty
  intro H locs ls hP hD hS hl
  refine va_newa hx hb (hts _ hq) rfl hK hP hD hS hA hcell hv0 hv hby hk hn hd (fun q cA H1 hK1 hP1 hD1 hS1 => ?_)
  have hcA : cA = tA t := by
    have h1 := (hK1.2 5 (cA, newarray.typeOf at_) (by rfl)).2
    have h2 := (hK.2 t _ ht).2
    rw [hra] at h1 h2
    exact Option.some.inj (h1.symm.trans h2)
  subst hcA
  have e := g_push (E := (D, ad, tA)) (I := g0) (J := h0) (q := q) hN hcl
  have hP2 : va_P D vwCl (g_w (S ++ [.inr (t, len, so)]) (D, va_up ad N q, tA) g0 h0) H1 := e ▸ hP1
  have hD2 : va_D (zA z) (g_w (S ++ [.inr (t, len, so)]) (D, va_up ad N q, tA) g0 h0) := e ▸ hD1
  have K2 := K q H1 locs ls hP2 hD2 hS1 hl
  rw [va_up_self] at K2
  exact K2
theorem gc_newq (F : Fc z own cc rm nL D tA) {idx m len N : Nat} {v : Int32} {S1 : List gS} (hq : Cond.classLink own idx "LeapJoin$Script" ∈ gw) (hao : va_AO "LeapJoin$Script" (zs z)) (hv0 : ¬ v < 0) (hv : v.toNatClampNeg = len) (hby : len * 4 ≤ 536870912) (hk : k + 1 ≤ rm.cells) (hn : n + len ≤ rm.slots) (hS1 : S ++ [.inr (4, len, 8 * m + 3)] = S1) (hN : S.length = N) (hcl : S1.all (gCl N) = true) (hd : decode cc pc = .ok (.anewarray idx, 3))
    (K : ∀ q, GC z (k + 1) (n + len) S1 (D, va_up ad N q, tA) (pc + 3) L (.ref (va_up ad N q N) :: st)) : GC z k n S (D, ad, tA) pc L (.int v :: st) := by
  obtain ⟨hx, hb, hml, hown, hts, hK, hA, rfl, rfl⟩ := F
  subst hS1
  intro H locs ls hP hD hS hl
  refine va_newq hx hb hown (hts _ hq) hao hK hP hD hS hA hv0 hv hby hk hn hd (fun q cA H1 hK1 hP1 hD1 hS1 => ?_)
  have hcA : cA = tA 4 := by
    obtain ⟨k1, c1, -, -, -, h1⟩ := (hK1.2 5 (cA, .object "LeapJoin$Script") (by rfl)).2
    obtain ⟨k2, c2, -, -, -, h2⟩ := (hK.2 4 (tA 4, .object "LeapJoin$Script") (by rfl)).2
    exact Option.some.inj (h1.symm.trans h2)
  subst hcA
  have e := g_push (E := (D, ad, tA)) (I := g0) (J := h0) (q := q) hN hcl
  have e0 : g_el (D, ad, tA) (g0 N) (h0 N) (.inr (4, len, 8 * m + 3)) = .inl (tA 4, len, .inr (.inr (.inr (.inr (fun _ => none))))) := by
    simp only [g_el, g_av]
    congr 4
    simp only [Sum.inr.injEq]
    funext j
    rw [if_neg (by omega)]
  rw [e0] at e
  have hP2 : va_P D vwCl (g_w (S ++ [.inr (4, len, 8 * m + 3)]) (D, va_up ad N q, tA) g0 h0) H1 := e ▸ hP1
  have hD2 : va_D (zA z) (g_w (S ++ [.inr (4, len, 8 * m + 3)]) (D, va_up ad N q, tA) g0 h0) := e ▸ hD1
  have K2 := K q H1 locs ls hP2 hD2 hS1 hl
  rw [va_up_self] at K2
  exact K2
theorem gc_aast (F : Fc z own cc rm nL D tA) {a b i c m len qk ci N : Nat} {v : Int32} {C : String} {T : u_T} {fds : List Nat} {S1 : List gS} (ha : a = ad i) (hb2 : b = ad qk) (hs : S[i]? = some (.inr (4, len, 8 * m + c + 3))) (hqk : qk = m + 2 * c) (hsv : S[qk]? = some (.inl (ci, fds))) (hc : vwCl[ci]? = some ("LeapJoin$Script", T, N)) (hv : v = nI c) (hl : c < len) (hl2 : len < 8) (hS1 : S.set i (.inr (4, len, 8 * m + (c + 1) + 3)) = S1) (hd : decode cc pc = .ok (.aastore, 1))
    (K : GC z k n S1 (D, ad, tA) (pc + 1) L st) : GC z k n S (D, ad, tA) pc L (.ref b :: .int v :: .ref a :: st) := by
  obtain ⟨hx, hb, hml, hown, hts, hK, hA, rfl, rfl⟩ := F
  subst ha; subst hb2; subst hS1
  intro H locs ls hP hD hS hll
  refine va_astq (D := D) (r := ("LeapJoin$Script", T, N)) hx hb hK hP hD hS i 4 qk ci (g_get hs) rfl (g_get hsv) hc (by rw [hv]; exact vp_in_nI hl (by omega)) hd (fun H1 locs1 hP1 hD1 hS1 => ?_)
  have e : ((g_w S (D, ad, tA) g0 h0).set i (ad i, .inl (tA 4, len, .inr (.inr (.inr (.inr (va_up (fun j => if j < (8 * m + c) % 8 then some (ad ((8 * m + c) / 8 + 2 * j)) else none) v.toNatClampNeg (some (ad qk))))))))) = g_w (S.set i (.inr (4, len, 8 * m + (c + 1) + 3))) (D, ad, tA) g0 h0 := by
    rw [← g_setS (E := (D, ad, tA)) (I := g0) (J := h0) (y := .inr (4, len, 8 * m + (c + 1) + 3)) hs]
    congr 3
    simp only [g_el, g_av]
    congr 4
    simp only [Sum.inr.injEq]
    funext j
    rw [hv, nI_clamp (by omega)]
    have h1 : (8 * m + c) % 8 = c := by omega
    have h2 : (8 * m + (c + 1)) % 8 = c + 1 ∨ c + 1 = 8 := by omega
    have h3 : (8 * m + c) / 8 = m := by omega
    have h4 : (8 * m + (c + 1)) / 8 = m ∨ c + 1 = 8 := by omega
    rcases h2 with h2 | h2
    · rcases h4 with h4 | h4
      · rw [h1, h2, h3, h4]
        by_cases hj : j = c
        · subst hj
          rw [va_up_self, if_pos (by omega), hqk]
        · rw [va_up_ne _ _ hj]
          by_cases hj2 : j < c
          · rw [if_pos hj2, if_pos (by omega)]
          · rw [if_neg hj2, if_neg (by omega)]
      · omega
    · omega
  have hP2 : va_P D vwCl (g_w (S.set i (.inr (4, len, 8 * m + (c + 1) + 3))) (D, ad, tA) g0 h0) H1 := e ▸ hP1
  have hD2 : va_D (zA z) (g_w (S.set i (.inr (4, len, 8 * m + (c + 1) + 3))) (D, ad, tA) g0 h0) := e ▸ hD1
  exact K H1 locs1 ls hP2 hD2 hS1 hll
theorem gc_new (F : Fc z own cc rm nL D tA) {idx ci N2 N : Nat} {C : String} {T : u_T} {fds : List Nat} {S1 : List gS} {ty : Nat → FieldType} (hin : ∀ w ∈ u_ws C T N2, w ∈ gw) (hty : ∀ k, k < N2 → parseFieldDescriptor (T k).2.2.1 = some (ty k)) (hq : Cond.classLink own idx C ∈ gw) (hi : Cond.instantiable C N2 ∈ gw) (hini : Cond.initialized C ∈ gw) (hc : vwCl[ci]? = some (C, T, N2)) (hfs : ∀ j, j < N2 → defaultValue (ty j) = vp_V (fds.mapIdx (fun j f => g_fv ad (g0 N) (h0 N) j f)) j) (hk : k + 1 ≤ rm.cells) (hn : n + N2 ≤ rm.slots) (hS1 : S ++ [.inl (ci, fds)] = S1) (hN : S.length = N) (hcl : S1.all (gCl N) = true) (hd : decode cc pc = .ok (.new idx, 3))
    (K : ∀ q, GC z (k + 1) (n + N2) S1 (D, va_up ad N q, tA) (pc + 3) L (.ref (va_up ad N q N) :: st)) : GC z k n S (D, ad, tA) pc L st := by
  obtain ⟨hx, hb, hml, hown, hts, hK, hA, rfl, rfl⟩ := F
  subst hS1
  intro H locs ls hP hD hS hl
  refine va_new hx hb hts hin ty hty hown (hts _ hq) (hts _ hi) (hts _ hini) hK hP hD hS hA hc hfs hk hn hd (fun q H1 hP1 hD1 hS1 => ?_)
  have e := g_push (E := (D, ad, tA)) (I := g0) (J := h0) (q := q) hN hcl
  have hP2 : va_P D vwCl (g_w (S ++ [.inl (ci, fds)]) (D, va_up ad N q, tA) g0 h0) H1 := e ▸ hP1
  have hD2 : va_D (zA z) (g_w (S ++ [.inl (ci, fds)]) (D, va_up ad N q, tA) g0 h0) := e ▸ hD1
  have K2 := K q H1 locs ls hP2 hD2 hS1 hl
  rw [va_up_self] at K2
  exact K2
end GCROWS
end
section
/-! a constructor's contract: from the cells S to the cells S1 (the elder ones where they were), all numbers 0 -/
def gAI (S : List gS) (ad : Nat → Nat) (sz : Nat) : Nat → Prop := fun q => (∃ k, k < S.length ∧ q = ad k) ∨ sz ≤ q
def gQI (D : va_G) (tA : Nat → ClassId) (S S1 : List gS) (ad : Nat → Nat) (A : Nat → Prop) : Array Value → State → Outcome → State → Prop := fun _ st oc t =>
  (oc = .returned none ∧ ∃ ad1 : Nat → Nat, (∀ k, k < S.length → ad1 k = ad k) ∧ va_P D vwCl (g_w S1 (D, ad1, tA) g0 h0) t.heap ∧ va_D A (g_w S1 (D, ad1, tA) g0 h0)) ∧ va_F A st t
abbrev gPI (D : va_G) (tA : Nat → ClassId) (S : List gS) (ad : Nat → Nat) (k sz : Nat) (Ex : State → Prop) : Array Value → State → Prop := va_Pc [.ref (ad k)] (fun U => U.heap.size = sz ∧ va_P D vwCl (g_w S (D, ad, tA) g0 h0) U.heap ∧ va_K D vwCl (g_ty (D, fun _ => 0, tA)) U ∧ va_D (fun _ => True) (g_w S (D, ad, tA) g0 h0) ∧ Ex U)
def CtI (l : Launch) (D : va_G) (tA : Nat → ClassId) (S S1 : List gS) (k : Nat) (y : MethodName) (cc : ByteArray) (nL : Nat) (rm : Room) (mc ms : Nat) (Ex : State → Prop) : Prop :=
  ∀ (ad : Nat → Nat) (sz : Nat), Met l y (gws y cc nL none) rm (gPI D tA S ad k sz Ex) (gQI D tA S S1 ad (gAI S ad sz)) mc ms (gAI S ad sz)
abbrev FcE (z : gZ) (D : va_G) (tA : Nat → ClassId) (S S1 : List gS) (ad : Nat → Nat) (mc ms : Nat) : Prop := (zh z).sig.returnType = none ∧ (zh z).locks = false ∧ zQ z = MQ (zb z) (gQI D tA S S1 ad (zA z)) (za z) (zs z) mc ms (zA z)
theorem CtI.of {l : Launch} {D : va_G} {tA : Nat → ClassId} {S S1 : List gS} {k : Nat} {y : MethodName} {cc : ByteArray} {nL : Nat} {rm : Room} {mc ms : Nat} {Ex : State → Prop} (own : String) (hown : y.cls = own) (hname : y.name = "<init>") (hy : plainName y.cls = true) (hnL : 1 ≤ nL)
    (body : ∀ z ad, Fc z own cc rm nL D tA → (zh z).name = "<init>" → FcE z D tA S S1 ad mc ms → zl z = l → Ex (zs z) → GC z 0 0 S (D, ad, tA) 0 [(0, .ref (ad k))] []) : CtI l D tA S S1 k y cc nL rm mc ms Ex := by
  intro ad sz
  refine Met.ofW (cc := cc) (maxL := nL) (ret := none) hy rfl ?_
  intro p e s m args below meth c s₁ B hml hv
  obtain ⟨rfl, hsz, hP, hK, hD, hEx⟩ := hv
  subst hsz
  have hts := atoms_spec (ws := gws y cc nL none) B.pre
  have hl := lv_entry [.ref (ad k)] (n := nL) hnL
  have hin : meth.name = y.name := (name_of_methodNamed B.named B.method).1
  rw [hname] at hin
  rw [lg_entry_eq]
  have hD2 : va_D (gAI S ad s.heap.size) (g_w S (D, ad, tA) g0 h0) := hD.weaken (fun i q hq _ => by
    obtain ⟨x, hx, rfl⟩ := g_get' hq
    exact Or.inl ⟨i, (List.getElem?_eq_some_iff.mp hx).1, rfl⟩)
  exact body ((p, l, e, (headSpec (gws y cc nL none) rm).room, s, m, [Value.ref (ad k)].toArray, below, meth, c), (0, 0, MQ below (gQI D tA S S1 ad (gAI S ad s.heap.size)) [Value.ref (ad k)].toArray s mc ms (gAI S ad s.heap.size)), (S, (D, ad, tA)), gAI S ad s.heap.size, nL) ad
    ⟨B.exec, B.bytes, hml, by rw [← hown]; exact findClass_of_methodNamed B.named, fun w h => hts w (List.mem_cons_of_mem _ h), hK, fun q h => Or.inr h, rfl, rfl⟩ hin ⟨B.returns, B.notSynchronized, rfl⟩ rfl hEx s.heap [] _ hP hD2 va_S.rf hl
section GCENDS
variable {z : gZ} {k n : Nat} {S : List gS} {D : va_G} {ad : Nat → Nat} {tA : Nat → ClassId} {own : String} {cc : ByteArray} {rm : Room} {nL pc : Nat} {L : List (Nat × Value)} {st : List Value}
theorem gc_vret (F : Fc z own cc rm nL D tA) {S0 : List gS} {ad0 : Nat → Nat} (e : FcE z D tA S0 S ad0 k n) (hag : ∀ i, i < S0.length → ad i = ad0 i) (hd : decode cc pc = .ok (.return_, 1)) : GC z k n S (D, ad, tA) pc L [] := by
  obtain ⟨hx, hb, hml, hown, hts, hK, hA, rfl, rfl⟩ := F
  intro H locs ls hP hD hS hl
  rw [e.2.2]
  exact W.vret hx hb e.1 (fun t ht hW => ⟨⟨rfl, ad, hag, by rw [ht]; exact hP, hD⟩, hS.F ht⟩) hS.2.2 hd e.2.1
theorem gc_run {S1 : List gS} {H : Heap} {locs : List Loc} {ls : Array Slot} {rest st0 : List Value} {a : Array Value} {mc ms : Nat} (hA : ∀ q, (zs z).heap.size ≤ q → zA z q)
    (hr : va_Run (zp z) (zl z) (ze z) (zR z) (zs z) (zm z) (za z) (zb z) (zh z) (zc z) H locs k n mc ms (F0 (zm z) pc ls st0) rest (gQI D tA S S1 ad (gAI S ad H.size) a) (gAI S ad H.size))
    (hD : va_D (zA z) (g_w S (D, ad, tA) g0 h0)) (hS : va_S (zA z) (zs z).heap H locs) (hl : lv_has ls (zL z) L)
    (K : ∀ ad1 : Nat → Nat, (∀ i, i < S.length → ad1 i = ad i) → GC z (k + mc) (n + ms) S1 (D, ad1, tA) (pc + 3) L rest) :
    W (zp z) (zl z) (ze z) (zR z) (zs z) (zm z) (za z) (zb z) (zh z) (zc z) H locs k n (zQ z) (F0 (zm z) pc ls st0) := by
  have hAA : ∀ q, gAI S ad H.size q → zA z q := by
    rintro q (⟨i, hi, rfl⟩ | h)
    · exact hD.2 i _ (g_get (List.getElem?_eq_getElem hi))
    · exact hA q (Nat.le_trans hS.1 h)
  intro T hT X
  obtain ⟨v, st₀, t, T', L2, h0', X', hL, e1, e2, ⟨⟨hv, ad1, hag, hP', hD'⟩, hz, hk⟩, stp⟩ := hr T hT X
  cases hv
  rw [h0'] at hz hk
  obtain ⟨t2, a1, b1⟩ := K ad1 hag T'.heap (locs ++ L2) ls (by rw [e1]; exact hP') (hD'.weaken (fun _ q _ h => hAA _ h))
    ⟨Nat.le_trans hS.1 (by rw [e1]; exact hz), fun q h1 h2 => by rw [e1, hk q (Nat.lt_of_lt_of_le h1 hS.1) (fun y => h2 (hAA q y))]; exact hS.2.1 q h1 h2, fun q hq => by
      rcases List.mem_append.mp hq with h | h
      · exact hS.2.2 q h
      · exact hAA _ (hL q h)⟩ hl T' rfl X'
  exact ⟨t2, stp t2 a1, b1⟩
theorem gPI_blind {i sz : Nat} {Ex : State → Prop} (hEx : ∀ (a : Array Value) (U : State) (g : JFrame) (mk : MethodId), Ex U → Ex (U.calling g mk a)) : FrameBlind (gPI D tA S ad i sz Ex) := fun a U g mk q => by
  obtain ⟨q0, q1, qP, qK, qD, qE⟩ := q
  exact ⟨q0, q1, qP, va_K.moved (u := U) (U := U.calling g mk a) (Vm.Alike.refl U.vm) qK, qD, hEx a U g mk qE⟩
/-- a constructor called across nest mates -/
theorem gc_callN (F : Fc z own cc rm nL D tA) {y : MethodName} {c2 : ByteArray} {n2 idx i a mc ms : Nat} {r2 : Room} {S1 : List gS} {host : String}
    (hC : CtI (zl z) D tA S S1 i y c2 n2 r2 mc ms (fun _ => True)) (ha : a = ad i) (hnest : va_Nw (.methodLinkNest own idx y host) (zs z)) (hinst : Cond.instanceMethod y ∈ gw) (hini : Cond.initialized y.cls ∈ gw) (hcode : Cond.code y c2 n2 none ∈ gw) (hy1 : y.name = "<init>")
    (hd4 : y.cls ≠ "java/lang/invoke/MethodHandle" ∧ y.cls ≠ "java/lang/invoke/VarHandle" ∧ (parseMethodDescriptor y.desc).map (fun d => d.parameters.length) = some 0) (hR : r2.frames + 1 ≤ rm.frames ∧ 8 + (n2 + 11) + r2.locals ≤ rm.locals) (hrc : r2.cells = mc) (hrs : r2.slots = ms) (hk : k + mc ≤ rm.cells) (hn : n + ms ≤ rm.slots)
    (hW : (st.map fun v => v.category).sum ≤ 8) (hd : decode cc pc = .ok (.invokespecial idx, 3))
    (K : ∀ ad1 : Nat → Nat, (∀ j, j < S.length → ad1 j = ad j) → GC z (k + mc) (n + ms) S1 (D, ad1, tA) (pc + 3) L st) : GC z k n S (D, ad, tA) pc L (.ref a :: st) := by
  obtain ⟨hx, hb, hml, hown, hts, hK, hA, rfl, rfl⟩ := F
  subst ha
  intro H locs ls hP hD hS hl
  exact gc_run (S := S) hA (va_runIN (As := []) (rest := st) ⟨hx, hb, hml, hown, hts⟩ (hC ad H.size) ⟨va_cnB 0 hts (gw_good0 hcode) rfl hrc hrs hnest (hts _ hini) hd4 hR, hy1, hts _ hinst⟩ ⟨gPI_blind (fun _ _ _ _ q => q), fun U hU hW => ⟨rfl, by rw [hU], by rw [hU]; exact hP, va_K.moved hW.alike hK, hD.weaken (fun _ _ _ _ => trivial), trivial⟩⟩ rfl rfl hl.1 rfl (g_room hW) hd ⟨hk, hn⟩) hD hS hl K
/-- a constructor called from elsewhere -/
theorem gc_callI (F : Fc z own cc rm nL D tA) {y : MethodName} {c2 : ByteArray} {n2 idx i a mc ms : Nat} {r2 : Room} {S1 : List gS} {Ex : State → Prop} (hExb : ∀ (a : Array Value) (U : State) (g : JFrame) (mk : MethodId), Ex U → Ex (U.calling g mk a)) (hExw : ∀ U : State, (zs z).WarmedH U.vm → Ex U)
    (hC : CtI (zl z) D tA S S1 i y c2 n2 r2 mc ms Ex) (ha : a = ad i) (hq : Cond.methodLink own idx y ∈ gw) (hinst : Cond.instanceMethod y ∈ gw) (hini : Cond.initialized y.cls ∈ gw) (hcode : Cond.code y c2 n2 none ∈ gw) (hy1 : y.name = "<init>")
    (hd4 : y.cls ≠ "java/lang/invoke/MethodHandle" ∧ y.cls ≠ "java/lang/invoke/VarHandle" ∧ (parseMethodDescriptor y.desc).map (fun d => d.parameters.length) = some 0) (hR : r2.frames + 1 ≤ rm.frames ∧ 8 + (n2 + 11) + r2.locals ≤ rm.locals) (hrc : r2.cells = mc) (hrs : r2.slots = ms) (hk : k + mc ≤ rm.cells) (hn : n + ms ≤ rm.slots)
    (hW : (st.map fun v => v.category).sum ≤ 8) (hd : decode cc pc = .ok (.invokespecial idx, 3))
    (K : ∀ ad1 : Nat → Nat, (∀ j, j < S.length → ad1 j = ad j) → GC z (k + mc) (n + ms) S1 (D, ad1, tA) (pc + 3) L st) : GC z k n S (D, ad, tA) pc L (.ref a :: st) := by
  obtain ⟨hx, hb, hml, hown, hts, hK, hA, rfl, rfl⟩ := F
  subst ha
  intro H locs ls hP hD hS hl
  exact gc_run (S := S) hA (va_runI (As := []) (rest := st) ⟨hx, hb, hml, hown, hts⟩ (hC ad H.size) (cwI 0 hts (gw_good0 hcode) rfl hrc hrs (hts _ hini) (hts _ hq) (hts _ hinst) hy1 hd4 hR) ⟨gPI_blind hExb, fun U hU hW => ⟨rfl, by rw [hU], by rw [hU]; exact hP, va_K.moved hW.alike hK, hD.weaken (fun _ _ _ _ => trivial), hExw U hW⟩⟩ rfl rfl hl.1 rfl (g_room hW) hd ⟨hk, hn⟩) hD hS hl K
end GCENDS
end
section
theorem dX8_init_0 : decode cX8_init 0 = .ok (.aload_n 0, 1) := by decide +kernel
theorem dX8_init_1 : decode cX8_init 1 = .ok (.invokespecial 3, 3) := by decide +kernel
theorem dX8_init_4 : decode cX8_init 4 = .ok (.aload_n 0, 1) := by decide +kernel
theorem dX8_init_5 : decode cX8_init 5 = .ok (.new 9, 3) := by decide +kernel
theorem dX8_init_8 : decode cX8_init 8 = .ok (.dup, 1) := by decide +kernel
theorem dX8_init_9 : decode cX8_init 9 = .ok (.invokespecial 11, 3) := by decide +kernel
theorem dX8_init_12 : decode cX8_init 12 = .ok (.putfield 12, 3) := by decide +kernel
theorem dX8_init_15 : decode cX8_init 15 = .ok (.aload_n 0, 1) := by decide +kernel
theorem dX8_init_16 : decode cX8_init 16 = .ok (.new 16, 3) := by decide +kernel
theorem dX8_init_19 : decode cX8_init 19 = .ok (.dup, 1) := by decide +kernel
theorem dX8_init_20 : decode cX8_init 20 = .ok (.invokespecial 18, 3) := by decide +kernel
theorem dX8_init_23 : decode cX8_init 23 = .ok (.putfield 19, 3) := by decide +kernel
theorem dX8_init_26 : decode cX8_init 26 = .ok (.aload_n 0, 1) := by decide +kernel
theorem dX8_init_27 : decode cX8_init 27 = .ok (.new 16, 3) := by decide +kernel
theorem dX8_init_30 : decode cX8_init 30 = .ok (.dup, 1) := by decide +kernel
theorem dX8_init_31 : decode cX8_init 31 = .ok (.invokespecial 18, 3) := by decide +kernel
theorem dX8_init_34 : decode cX8_init 34 = .ok (.putfield 23, 3) := by decide +kernel
theorem dX8_init_37 : decode cX8_init 37 = .ok (.aload_n 0, 1) := by decide +kernel
theorem dX8_init_38 : decode cX8_init 38 = .ok (.new 16, 3) := by decide +kernel
theorem dX8_init_41 : decode cX8_init 41 = .ok (.dup, 1) := by decide +kernel
theorem dX8_init_42 : decode cX8_init 42 = .ok (.invokespecial 18, 3) := by decide +kernel
theorem dX8_init_45 : decode cX8_init 45 = .ok (.putfield 26, 3) := by decide +kernel
theorem dX8_init_48 : decode cX8_init 48 = .ok (.aload_n 0, 1) := by decide +kernel
theorem dX8_init_49 : decode cX8_init 49 = .ok (.new 29, 3) := by decide +kernel
theorem dX8_init_52 : decode cX8_init 52 = .ok (.dup, 1) := by decide +kernel
theorem dX8_init_53 : decode cX8_init 53 = .ok (.invokespecial 31, 3) := by decide +kernel
theorem dX8_init_56 : decode cX8_init 56 = .ok (.putfield 32, 3) := by decide +kernel
theorem dX8_init_59 : decode cX8_init 59 = .ok (.aload_n 0, 1) := by decide +kernel
theorem dX8_init_60 : decode cX8_init 60 = .ok (.new 29, 3) := by decide +kernel
theorem dX8_init_63 : decode cX8_init 63 = .ok (.dup, 1) := by decide +kernel
theorem dX8_init_64 : decode cX8_init 64 = .ok (.invokespecial 31, 3) := by decide +kernel
theorem dX8_init_67 : decode cX8_init 67 = .ok (.putfield 36, 3) := by decide +kernel
theorem dX8_init_70 : decode cX8_init 70 = .ok (.aload_n 0, 1) := by decide +kernel
theorem dX8_init_71 : decode cX8_init 71 = .ok (.new 39, 3) := by decide +kernel
theorem dX8_init_74 : decode cX8_init 74 = .ok (.dup, 1) := by decide +kernel
theorem dX8_init_75 : decode cX8_init 75 = .ok (.invokespecial 41, 3) := by decide +kernel
theorem dX8_init_78 : decode cX8_init 78 = .ok (.putfield 42, 3) := by decide +kernel
theorem dX8_init_81 : decode cX8_init 81 = .ok (.aload_n 0, 1) := by decide +kernel
theorem dX8_init_82 : decode cX8_init 82 = .ok (.new 46, 3) := by decide +kernel
theorem dX8_init_85 : decode cX8_init 85 = .ok (.dup, 1) := by decide +kernel
theorem dX8_init_86 : decode cX8_init 86 = .ok (.invokespecial 48, 3) := by decide +kernel
theorem dX8_init_89 : decode cX8_init 89 = .ok (.putfield 49, 3) := by decide +kernel
theorem dX8_init_92 : decode cX8_init 92 = .ok (.aload_n 0, 1) := by decide +kernel
theorem dX8_init_93 : decode cX8_init 93 = .ok (.new 53, 3) := by decide +kernel
theorem dX8_init_96 : decode cX8_init 96 = .ok (.dup, 1) := by decide +kernel
theorem dX8_init_97 : decode cX8_init 97 = .ok (.invokespecial 55, 3) := by decide +kernel
theorem dX8_init_100 : decode cX8_init 100 = .ok (.putfield 56, 3) := by decide +kernel
theorem dX8_init_103 : decode cX8_init 103 = .ok (.aload_n 0, 1) := by decide +kernel
theorem dX8_init_104 : decode cX8_init 104 = .ok (.new 53, 3) := by decide +kernel
theorem dX8_init_107 : decode cX8_init 107 = .ok (.dup, 1) := by decide +kernel
theorem dX8_init_108 : decode cX8_init 108 = .ok (.invokespecial 55, 3) := by decide +kernel
theorem dX8_init_111 : decode cX8_init 111 = .ok (.putfield 60, 3) := by decide +kernel
theorem dX8_init_114 : decode cX8_init 114 = .ok (.aload_n 0, 1) := by decide +kernel
theorem dX8_init_115 : decode cX8_init 115 = .ok (.new 63, 3) := by decide +kernel
theorem dX8_init_118 : decode cX8_init 118 = .ok (.dup, 1) := by decide +kernel
theorem dX8_init_119 : decode cX8_init 119 = .ok (.invokespecial 65, 3) := by decide +kernel
theorem dX8_init_122 : decode cX8_init 122 = .ok (.putfield 66, 3) := by decide +kernel
theorem dX8_init_125 : decode cX8_init 125 = .ok (.aload_n 0, 1) := by decide +kernel
theorem dX8_init_126 : decode cX8_init 126 = .ok (.iconst 4, 1) := by decide +kernel
theorem dX8_init_127 : decode cX8_init 127 = .ok (.anewarray 70, 3) := by decide +kernel
theorem dX8_init_130 : decode cX8_init 130 = .ok (.putfield 72, 3) := by decide +kernel
theorem dX8_init_133 : decode cX8_init 133 = .ok (.aload_n 0, 1) := by decide +kernel
theorem dX8_init_134 : decode cX8_init 134 = .ok (.new 70, 3) := by decide +kernel
theorem dX8_init_137 : decode cX8_init 137 = .ok (.dup, 1) := by decide +kernel
theorem dX8_init_138 : decode cX8_init 138 = .ok (.invokespecial 76, 3) := by decide +kernel
theorem dX8_init_141 : decode cX8_init 141 = .ok (.putfield 77, 3) := by decide +kernel
theorem dX8_init_144 : decode cX8_init 144 = .ok (.aload_n 0, 1) := by decide +kernel
theorem dX8_init_145 : decode cX8_init 145 = .ok (.iconst 4, 1) := by decide +kernel
theorem dX8_init_146 : decode cX8_init 146 = .ok (.newarray .int, 2) := by decide +kernel
theorem dX8_init_148 : decode cX8_init 148 = .ok (.putfield 81, 3) := by decide +kernel
theorem dX8_init_151 : decode cX8_init 151 = .ok (.aload_n 0, 1) := by decide +kernel
theorem dX8_init_152 : decode cX8_init 152 = .ok (.iconst 0, 1) := by decide +kernel
theorem dX8_init_153 : decode cX8_init 153 = .ok (.putfield 85, 3) := by decide +kernel
theorem dX8_init_156 : decode cX8_init 156 = .ok (.aload_n 0, 1) := by decide +kernel
theorem dX8_init_157 : decode cX8_init 157 = .ok (.iconst 0, 1) := by decide +kernel
theorem dX8_init_158 : decode cX8_init 158 = .ok (.putfield 89, 3) := by decide +kernel
theorem dX8_init_161 : decode cX8_init 161 = .ok (.aload_n 0, 1) := by decide +kernel
theorem dX8_init_162 : decode cX8_init 162 = .ok (.lconst 0, 1) := by decide +kernel
theorem dX8_init_163 : decode cX8_init 163 = .ok (.putfield 93, 3) := by decide +kernel
theorem dX8_init_166 : decode cX8_init 166 = .ok (.iconst 0, 1) := by decide +kernel
theorem dX8_init_167 : decode cX8_init 167 = .ok (.istore_n 1, 1) := by decide +kernel
theorem dX8_init_168 : decode cX8_init 168 = .ok (.iload_n 1, 1) := by decide +kernel
theorem dX8_init_169 : decode cX8_init 169 = .ok (.iconst 4, 1) := by decide +kernel
theorem dX8_init_170 : decode cX8_init 170 = .ok (.if_icmp .ge 22, 3) := by decide +kernel
theorem dX8_init_173 : decode cX8_init 173 = .ok (.aload_n 0, 1) := by decide +kernel
theorem dX8_init_174 : decode cX8_init 174 = .ok (.getfield 72, 3) := by decide +kernel
theorem dX8_init_177 : decode cX8_init 177 = .ok (.iload_n 1, 1) := by decide +kernel
theorem dX8_init_178 : decode cX8_init 178 = .ok (.new 70, 3) := by decide +kernel
theorem dX8_init_181 : decode cX8_init 181 = .ok (.dup, 1) := by decide +kernel
theorem dX8_init_182 : decode cX8_init 182 = .ok (.invokespecial 76, 3) := by decide +kernel
theorem dX8_init_185 : decode cX8_init 185 = .ok (.aastore, 1) := by decide +kernel
theorem dX8_init_186 : decode cX8_init 186 = .ok (.iinc 1 1, 3) := by decide +kernel
theorem dX8_init_189 : decode cX8_init 189 = .ok (.goto (-21), 3) := by decide +kernel
theorem dX8_init_192 : decode cX8_init 192 = .ok (.return_, 1) := by decide +kernel
theorem dX6_init_0 : decode cX6_init 0 = .ok (.aload_n 0, 1) := by decide +kernel
theorem dX6_init_1 : decode cX6_init 1 = .ok (.invokespecial 3, 3) := by decide +kernel
theorem dX6_init_4 : decode cX6_init 4 = .ok (.aload_n 0, 1) := by decide +kernel
theorem dX6_init_5 : decode cX6_init 5 = .ok (.iconst 0, 1) := by decide +kernel
theorem dX6_init_6 : decode cX6_init 6 = .ok (.putfield 9, 3) := by decide +kernel
theorem dX6_init_9 : decode cX6_init 9 = .ok (.aload_n 0, 1) := by decide +kernel
theorem dX6_init_10 : decode cX6_init 10 = .ok (.sipush 400, 3) := by decide +kernel
theorem dX6_init_13 : decode cX6_init 13 = .ok (.newarray .byte, 2) := by decide +kernel
theorem dX6_init_15 : decode cX6_init 15 = .ok (.putfield 15, 3) := by decide +kernel
theorem dX6_init_18 : decode cX6_init 18 = .ok (.aload_n 0, 1) := by decide +kernel
theorem dX6_init_19 : decode cX6_init 19 = .ok (.iconst 0, 1) := by decide +kernel
theorem dX6_init_20 : decode cX6_init 20 = .ok (.putfield 19, 3) := by decide +kernel
theorem dX6_init_23 : decode cX6_init 23 = .ok (.return_, 1) := by decide +kernel
theorem dX5_init_0 : decode cX5_init 0 = .ok (.aload_n 0, 1) := by decide +kernel
theorem dX5_init_1 : decode cX5_init 1 = .ok (.invokespecial 3, 3) := by decide +kernel
theorem dX5_init_4 : decode cX5_init 4 = .ok (.aload_n 0, 1) := by decide +kernel
theorem dX5_init_5 : decode cX5_init 5 = .ok (.iconst 0, 1) := by decide +kernel
theorem dX5_init_6 : decode cX5_init 6 = .ok (.putfield 9, 3) := by decide +kernel
theorem dX5_init_9 : decode cX5_init 9 = .ok (.aload_n 0, 1) := by decide +kernel
theorem dX5_init_10 : decode cX5_init 10 = .ok (.iconst 0, 1) := by decide +kernel
theorem dX5_init_11 : decode cX5_init 11 = .ok (.putfield 15, 3) := by decide +kernel
theorem dX5_init_14 : decode cX5_init 14 = .ok (.aload_n 0, 1) := by decide +kernel
theorem dX5_init_15 : decode cX5_init 15 = .ok (.iconst 0, 1) := by decide +kernel
theorem dX5_init_16 : decode cX5_init 16 = .ok (.putfield 18, 3) := by decide +kernel
theorem dX5_init_19 : decode cX5_init 19 = .ok (.aload_n 0, 1) := by decide +kernel
theorem dX5_init_20 : decode cX5_init 20 = .ok (.iconst 4, 1) := by decide +kernel
theorem dX5_init_21 : decode cX5_init 21 = .ok (.newarray .int, 2) := by decide +kernel
theorem dX5_init_23 : decode cX5_init 23 = .ok (.putfield 21, 3) := by decide +kernel
theorem dX5_init_26 : decode cX5_init 26 = .ok (.aload_n 0, 1) := by decide +kernel
theorem dX5_init_27 : decode cX5_init 27 = .ok (.iconst 4, 1) := by decide +kernel
theorem dX5_init_28 : decode cX5_init 28 = .ok (.newarray .int, 2) := by decide +kernel
theorem dX5_init_30 : decode cX5_init 30 = .ok (.putfield 25, 3) := by decide +kernel
theorem dX5_init_33 : decode cX5_init 33 = .ok (.aload_n 0, 1) := by decide +kernel
theorem dX5_init_34 : decode cX5_init 34 = .ok (.bipush 12, 2) := by decide +kernel
theorem dX5_init_36 : decode cX5_init 36 = .ok (.newarray .int, 2) := by decide +kernel
theorem dX5_init_38 : decode cX5_init 38 = .ok (.putfield 28, 3) := by decide +kernel
theorem dX5_init_41 : decode cX5_init 41 = .ok (.aload_n 0, 1) := by decide +kernel
theorem dX5_init_42 : decode cX5_init 42 = .ok (.bipush 48, 2) := by decide +kernel
theorem dX5_init_44 : decode cX5_init 44 = .ok (.newarray .int, 2) := by decide +kernel
theorem dX5_init_46 : decode cX5_init 46 = .ok (.putfield 31, 3) := by decide +kernel
theorem dX5_init_49 : decode cX5_init 49 = .ok (.return_, 1) := by decide +kernel
theorem dX1_init_0 : decode cX1_init 0 = .ok (.aload_n 0, 1) := by decide +kernel
theorem dX1_init_1 : decode cX1_init 1 = .ok (.invokespecial 3, 3) := by decide +kernel
theorem dX1_init_4 : decode cX1_init 4 = .ok (.aload_n 0, 1) := by decide +kernel
theorem dX1_init_5 : decode cX1_init 5 = .ok (.iconst 0, 1) := by decide +kernel
theorem dX1_init_6 : decode cX1_init 6 = .ok (.putfield 9, 3) := by decide +kernel
theorem dX1_init_9 : decode cX1_init 9 = .ok (.aload_n 0, 1) := by decide +kernel
theorem dX1_init_10 : decode cX1_init 10 = .ok (.iconst 0, 1) := by decide +kernel
theorem dX1_init_11 : decode cX1_init 11 = .ok (.putfield 15, 3) := by decide +kernel
theorem dX1_init_14 : decode cX1_init 14 = .ok (.aload_n 0, 1) := by decide +kernel
theorem dX1_init_15 : decode cX1_init 15 = .ok (.iconst 0, 1) := by decide +kernel
theorem dX1_init_16 : decode cX1_init 16 = .ok (.putfield 18, 3) := by decide +kernel
theorem dX1_init_19 : decode cX1_init 19 = .ok (.aload_n 0, 1) := by decide +kernel
theorem dX1_init_20 : decode cX1_init 20 = .ok (.iconst 4, 1) := by decide +kernel
theorem dX1_init_21 : decode cX1_init 21 = .ok (.newarray .int, 2) := by decide +kernel
theorem dX1_init_23 : decode cX1_init 23 = .ok (.putfield 21, 3) := by decide +kernel
theorem dX1_init_26 : decode cX1_init 26 = .ok (.aload_n 0, 1) := by decide +kernel
theorem dX1_init_27 : decode cX1_init 27 = .ok (.iconst 4, 1) := by decide +kernel
theorem dX1_init_28 : decode cX1_init 28 = .ok (.newarray .int, 2) := by decide +kernel
theorem dX1_init_30 : decode cX1_init 30 = .ok (.putfield 25, 3) := by decide +kernel
theorem dX1_init_33 : decode cX1_init 33 = .ok (.aload_n 0, 1) := by decide +kernel
theorem dX1_init_34 : decode cX1_init 34 = .ok (.sipush 20736, 3) := by decide +kernel
theorem dX1_init_37 : decode cX1_init 37 = .ok (.newarray .int, 2) := by decide +kernel
theorem dX1_init_39 : decode cX1_init 39 = .ok (.putfield 28, 3) := by decide +kernel
theorem dX1_init_42 : decode cX1_init 42 = .ok (.aload_n 0, 1) := by decide +kernel
theorem dX1_init_43 : decode cX1_init 43 = .ok (.iconst 5, 1) := by decide +kernel
theorem dX1_init_44 : decode cX1_init 44 = .ok (.newarray .int, 2) := by decide +kernel
theorem dX1_init_46 : decode cX1_init 46 = .ok (.putfield 31, 3) := by decide +kernel
theorem dX1_init_49 : decode cX1_init 49 = .ok (.aload_n 0, 1) := by decide +kernel
theorem dX1_init_50 : decode cX1_init 50 = .ok (.bipush 48, 2) := by decide +kernel
theorem dX1_init_52 : decode cX1_init 52 = .ok (.newarray .int, 2) := by decide +kernel
theorem dX1_init_54 : decode cX1_init 54 = .ok (.putfield 34, 3) := by decide +kernel
theorem dX1_init_57 : decode cX1_init 57 = .ok (.aload_n 0, 1) := by decide +kernel
theorem dX1_init_58 : decode cX1_init 58 = .ok (.iconst 3, 1) := by decide +kernel
theorem dX1_init_59 : decode cX1_init 59 = .ok (.newarray .int, 2) := by decide +kernel
theorem dX1_init_61 : decode cX1_init 61 = .ok (.putfield 37, 3) := by decide +kernel
theorem dX1_init_64 : decode cX1_init 64 = .ok (.aload_n 0, 1) := by decide +kernel
theorem dX1_init_65 : decode cX1_init 65 = .ok (.bipush 16, 2) := by decide +kernel
theorem dX1_init_67 : decode cX1_init 67 = .ok (.newarray .int, 2) := by decide +kernel
theorem dX1_init_69 : decode cX1_init 69 = .ok (.putfield 40, 3) := by decide +kernel
theorem dX1_init_72 : decode cX1_init 72 = .ok (.aload_n 0, 1) := by decide +kernel
theorem dX1_init_73 : decode cX1_init 73 = .ok (.bipush 16, 2) := by decide +kernel
theorem dX1_init_75 : decode cX1_init 75 = .ok (.newarray .int, 2) := by decide +kernel
theorem dX1_init_77 : decode cX1_init 77 = .ok (.putfield 43, 3) := by decide +kernel
theorem dX1_init_80 : decode cX1_init 80 = .ok (.aload_n 0, 1) := by decide +kernel
theorem dX1_init_81 : decode cX1_init 81 = .ok (.bipush 16, 2) := by decide +kernel
theorem dX1_init_83 : decode cX1_init 83 = .ok (.newarray .int, 2) := by decide +kernel
theorem dX1_init_85 : decode cX1_init 85 = .ok (.putfield 46, 3) := by decide +kernel
theorem dX1_init_88 : decode cX1_init 88 = .ok (.aload_n 0, 1) := by decide +kernel
theorem dX1_init_89 : decode cX1_init 89 = .ok (.bipush 16, 2) := by decide +kernel
theorem dX1_init_91 : decode cX1_init 91 = .ok (.newarray .int, 2) := by decide +kernel
theorem dX1_init_93 : decode cX1_init 93 = .ok (.putfield 49, 3) := by decide +kernel
theorem dX1_init_96 : decode cX1_init 96 = .ok (.return_, 1) := by decide +kernel
theorem dX0_init_0 : decode cX0_init 0 = .ok (.aload_n 0, 1) := by decide +kernel
theorem dX0_init_1 : decode cX0_init 1 = .ok (.invokespecial 3, 3) := by decide +kernel
theorem dX0_init_4 : decode cX0_init 4 = .ok (.aload_n 0, 1) := by decide +kernel
theorem dX0_init_5 : decode cX0_init 5 = .ok (.bipush 100, 2) := by decide +kernel
theorem dX0_init_7 : decode cX0_init 7 = .ok (.newarray .int, 2) := by decide +kernel
theorem dX0_init_9 : decode cX0_init 9 = .ok (.putfield 9, 3) := by decide +kernel
theorem dX0_init_12 : decode cX0_init 12 = .ok (.aload_n 0, 1) := by decide +kernel
theorem dX0_init_13 : decode cX0_init 13 = .ok (.bipush 100, 2) := by decide +kernel
theorem dX0_init_15 : decode cX0_init 15 = .ok (.newarray .int, 2) := by decide +kernel
theorem dX0_init_17 : decode cX0_init 17 = .ok (.putfield 15, 3) := by decide +kernel
theorem dX0_init_20 : decode cX0_init 20 = .ok (.return_, 1) := by decide +kernel
theorem dX7_init_0 : decode cX7_init 0 = .ok (.aload_n 0, 1) := by decide +kernel
theorem dX7_init_1 : decode cX7_init 1 = .ok (.invokespecial 3, 3) := by decide +kernel
theorem dX7_init_4 : decode cX7_init 4 = .ok (.aload_n 0, 1) := by decide +kernel
theorem dX7_init_5 : decode cX7_init 5 = .ok (.iconst 0, 1) := by decide +kernel
theorem dX7_init_6 : decode cX7_init 6 = .ok (.putfield 9, 3) := by decide +kernel
theorem dX7_init_9 : decode cX7_init 9 = .ok (.aload_n 0, 1) := by decide +kernel
theorem dX7_init_10 : decode cX7_init 10 = .ok (.iconst 0, 1) := by decide +kernel
theorem dX7_init_11 : decode cX7_init 11 = .ok (.putfield 15, 3) := by decide +kernel
theorem dX7_init_14 : decode cX7_init 14 = .ok (.aload_n 0, 1) := by decide +kernel
theorem dX7_init_15 : decode cX7_init 15 = .ok (.iconst 0, 1) := by decide +kernel
theorem dX7_init_16 : decode cX7_init 16 = .ok (.putfield 19, 3) := by decide +kernel
theorem dX7_init_19 : decode cX7_init 19 = .ok (.aload_n 0, 1) := by decide +kernel
theorem dX7_init_20 : decode cX7_init 20 = .ok (.iconst 0, 1) := by decide +kernel
theorem dX7_init_21 : decode cX7_init 21 = .ok (.putfield 22, 3) := by decide +kernel
theorem dX7_init_24 : decode cX7_init 24 = .ok (.return_, 1) := by decide +kernel
theorem dX2_init_0 : decode cX2_init 0 = .ok (.aload_n 0, 1) := by decide +kernel
theorem dX2_init_1 : decode cX2_init 1 = .ok (.invokespecial 3, 3) := by decide +kernel
theorem dX2_init_4 : decode cX2_init 4 = .ok (.aload_n 0, 1) := by decide +kernel
theorem dX2_init_5 : decode cX2_init 5 = .ok (.sipush 300, 3) := by decide +kernel
theorem dX2_init_8 : decode cX2_init 8 = .ok (.newarray .int, 2) := by decide +kernel
theorem dX2_init_10 : decode cX2_init 10 = .ok (.putfield 11, 3) := by decide +kernel
theorem dX2_init_13 : decode cX2_init 13 = .ok (.aload_n 0, 1) := by decide +kernel
theorem dX2_init_14 : decode cX2_init 14 = .ok (.iconst 0, 1) := by decide +kernel
theorem dX2_init_15 : decode cX2_init 15 = .ok (.putfield 15, 3) := by decide +kernel
theorem dX2_init_18 : decode cX2_init 18 = .ok (.aload_n 0, 1) := by decide +kernel
theorem dX2_init_19 : decode cX2_init 19 = .ok (.iconst 0, 1) := by decide +kernel
theorem dX2_init_20 : decode cX2_init 20 = .ok (.putfield 19, 3) := by decide +kernel
theorem dX2_init_23 : decode cX2_init 23 = .ok (.return_, 1) := by decide +kernel
theorem dX3_init_0 : decode cX3_init 0 = .ok (.aload_n 0, 1) := by decide +kernel
theorem dX3_init_1 : decode cX3_init 1 = .ok (.invokespecial 3, 3) := by decide +kernel
theorem dX3_init_4 : decode cX3_init 4 = .ok (.aload_n 0, 1) := by decide +kernel
theorem dX3_init_5 : decode cX3_init 5 = .ok (.iconst 0, 1) := by decide +kernel
theorem dX3_init_6 : decode cX3_init 6 = .ok (.putfield 9, 3) := by decide +kernel
theorem dX3_init_9 : decode cX3_init 9 = .ok (.aload_n 0, 1) := by decide +kernel
theorem dX3_init_10 : decode cX3_init 10 = .ok (.bipush 120, 2) := by decide +kernel
theorem dX3_init_12 : decode cX3_init 12 = .ok (.newarray .int, 2) := by decide +kernel
theorem dX3_init_14 : decode cX3_init 14 = .ok (.putfield 15, 3) := by decide +kernel
theorem dX3_init_17 : decode cX3_init 17 = .ok (.aload_n 0, 1) := by decide +kernel
theorem dX3_init_18 : decode cX3_init 18 = .ok (.iconst 0, 1) := by decide +kernel
theorem dX3_init_19 : decode cX3_init 19 = .ok (.putfield 19, 3) := by decide +kernel
theorem dX3_init_22 : decode cX3_init 22 = .ok (.return_, 1) := by decide +kernel
theorem dX4_init_0 : decode cX4_init 0 = .ok (.aload_n 0, 1) := by decide +kernel
theorem dX4_init_1 : decode cX4_init 1 = .ok (.invokespecial 3, 3) := by decide +kernel
theorem dX4_init_4 : decode cX4_init 4 = .ok (.aload_n 0, 1) := by decide +kernel
theorem dX4_init_5 : decode cX4_init 5 = .ok (.iconst 0, 1) := by decide +kernel
theorem dX4_init_6 : decode cX4_init 6 = .ok (.putfield 9, 3) := by decide +kernel
theorem dX4_init_9 : decode cX4_init 9 = .ok (.aload_n 0, 1) := by decide +kernel
theorem dX4_init_10 : decode cX4_init 10 = .ok (.bipush 60, 2) := by decide +kernel
theorem dX4_init_12 : decode cX4_init 12 = .ok (.newarray .int, 2) := by decide +kernel
theorem dX4_init_14 : decode cX4_init 14 = .ok (.putfield 15, 3) := by decide +kernel
theorem dX4_init_17 : decode cX4_init 17 = .ok (.return_, 1) := by decide +kernel
theorem dX9_init_0 : decode cX9_init 0 = .ok (.aload_n 0, 1) := by decide +kernel
theorem dX9_init_1 : decode cX9_init 1 = .ok (.invokespecial 3, 3) := by decide +kernel
theorem dX9_init_4 : decode cX9_init 4 = .ok (.aload_n 0, 1) := by decide +kernel
theorem dX9_init_5 : decode cX9_init 5 = .ok (.sipush 400, 3) := by decide +kernel
theorem dX9_init_8 : decode cX9_init 8 = .ok (.newarray .int, 2) := by decide +kernel
theorem dX9_init_10 : decode cX9_init 10 = .ok (.putfield 9, 3) := by decide +kernel
theorem dX9_init_13 : decode cX9_init 13 = .ok (.aload_n 0, 1) := by decide +kernel
theorem dX9_init_14 : decode cX9_init 14 = .ok (.iconst 4, 1) := by decide +kernel
theorem dX9_init_15 : decode cX9_init 15 = .ok (.newarray .int, 2) := by decide +kernel
theorem dX9_init_17 : decode cX9_init 17 = .ok (.putfield 13, 3) := by decide +kernel
theorem dX9_init_20 : decode cX9_init 20 = .ok (.aload_n 0, 1) := by decide +kernel
theorem dX9_init_21 : decode cX9_init 21 = .ok (.bipush 12, 2) := by decide +kernel
theorem dX9_init_23 : decode cX9_init 23 = .ok (.newarray .int, 2) := by decide +kernel
theorem dX9_init_25 : decode cX9_init 25 = .ok (.putfield 16, 3) := by decide +kernel
theorem dX9_init_28 : decode cX9_init 28 = .ok (.aload_n 0, 1) := by decide +kernel
theorem dX9_init_29 : decode cX9_init 29 = .ok (.iconst 4, 1) := by decide +kernel
theorem dX9_init_30 : decode cX9_init 30 = .ok (.newarray .int, 2) := by decide +kernel
theorem dX9_init_32 : decode cX9_init 32 = .ok (.putfield 19, 3) := by decide +kernel
theorem dX9_init_35 : decode cX9_init 35 = .ok (.aload_n 0, 1) := by decide +kernel
theorem dX9_init_36 : decode cX9_init 36 = .ok (.sipush 144, 3) := by decide +kernel
theorem dX9_init_39 : decode cX9_init 39 = .ok (.newarray .int, 2) := by decide +kernel
theorem dX9_init_41 : decode cX9_init 41 = .ok (.putfield 22, 3) := by decide +kernel
theorem dX9_init_44 : decode cX9_init 44 = .ok (.aload_n 0, 1) := by decide +kernel
theorem dX9_init_45 : decode cX9_init 45 = .ok (.sipush 300, 3) := by decide +kernel
theorem dX9_init_48 : decode cX9_init 48 = .ok (.newarray .int, 2) := by decide +kernel
theorem dX9_init_50 : decode cX9_init 50 = .ok (.putfield 25, 3) := by decide +kernel
theorem dX9_init_53 : decode cX9_init 53 = .ok (.aload_n 0, 1) := by decide +kernel
theorem dX9_init_54 : decode cX9_init 54 = .ok (.iconst 5, 1) := by decide +kernel
theorem dX9_init_55 : decode cX9_init 55 = .ok (.newarray .int, 2) := by decide +kernel
theorem dX9_init_57 : decode cX9_init 57 = .ok (.putfield 28, 3) := by decide +kernel
theorem dX9_init_60 : decode cX9_init 60 = .ok (.aload_n 0, 1) := by decide +kernel
theorem dX9_init_61 : decode cX9_init 61 = .ok (.sipush 331, 3) := by decide +kernel
theorem dX9_init_64 : decode cX9_init 64 = .ok (.newarray .int, 2) := by decide +kernel
theorem dX9_init_66 : decode cX9_init 66 = .ok (.putfield 31, 3) := by decide +kernel
theorem dX9_init_69 : decode cX9_init 69 = .ok (.aload_n 0, 1) := by decide +kernel
theorem dX9_init_70 : decode cX9_init 70 = .ok (.iconst 4, 1) := by decide +kernel
theorem dX9_init_71 : decode cX9_init 71 = .ok (.newarray .int, 2) := by decide +kernel
theorem dX9_init_73 : decode cX9_init 73 = .ok (.putfield 34, 3) := by decide +kernel
theorem dX9_init_76 : decode cX9_init 76 = .ok (.aload_n 0, 1) := by decide +kernel
theorem dX9_init_77 : decode cX9_init 77 = .ok (.iconst 4, 1) := by decide +kernel
theorem dX9_init_78 : decode cX9_init 78 = .ok (.newarray .int, 2) := by decide +kernel
theorem dX9_init_80 : decode cX9_init 80 = .ok (.putfield 37, 3) := by decide +kernel
theorem dX9_init_83 : decode cX9_init 83 = .ok (.aload_n 0, 1) := by decide +kernel
theorem dX9_init_84 : decode cX9_init 84 = .ok (.bipush 12, 2) := by decide +kernel
theorem dX9_init_86 : decode cX9_init 86 = .ok (.newarray .int, 2) := by decide +kernel
theorem dX9_init_88 : decode cX9_init 88 = .ok (.putfield 40, 3) := by decide +kernel
theorem dX9_init_91 : decode cX9_init 91 = .ok (.aload_n 0, 1) := by decide +kernel
theorem dX9_init_92 : decode cX9_init 92 = .ok (.iconst 4, 1) := by decide +kernel
theorem dX9_init_93 : decode cX9_init 93 = .ok (.newarray .int, 2) := by decide +kernel
theorem dX9_init_95 : decode cX9_init 95 = .ok (.putfield 43, 3) := by decide +kernel
theorem dX9_init_98 : decode cX9_init 98 = .ok (.aload_n 0, 1) := by decide +kernel
theorem dX9_init_99 : decode cX9_init 99 = .ok (.iconst 4, 1) := by decide +kernel
theorem dX9_init_100 : decode cX9_init 100 = .ok (.newarray .int, 2) := by decide +kernel
theorem dX9_init_102 : decode cX9_init 102 = .ok (.putfield 46, 3) := by decide +kernel
theorem dX9_init_105 : decode cX9_init 105 = .ok (.aload_n 0, 1) := by decide +kernel
theorem dX9_init_106 : decode cX9_init 106 = .ok (.sipush 192, 3) := by decide +kernel
theorem dX9_init_109 : decode cX9_init 109 = .ok (.newarray .int, 2) := by decide +kernel
theorem dX9_init_111 : decode cX9_init 111 = .ok (.putfield 49, 3) := by decide +kernel
theorem dX9_init_114 : decode cX9_init 114 = .ok (.aload_n 0, 1) := by decide +kernel
theorem dX9_init_115 : decode cX9_init 115 = .ok (.bipush 16, 2) := by decide +kernel
theorem dX9_init_117 : decode cX9_init 117 = .ok (.newarray .int, 2) := by decide +kernel
theorem dX9_init_119 : decode cX9_init 119 = .ok (.putfield 52, 3) := by decide +kernel
theorem dX9_init_122 : decode cX9_init 122 = .ok (.aload_n 0, 1) := by decide +kernel
theorem dX9_init_123 : decode cX9_init 123 = .ok (.bipush 16, 2) := by decide +kernel
theorem dX9_init_125 : decode cX9_init 125 = .ok (.newarray .int, 2) := by decide +kernel
theorem dX9_init_127 : decode cX9_init 127 = .ok (.putfield 55, 3) := by decide +kernel
theorem dX9_init_130 : decode cX9_init 130 = .ok (.aload_n 0, 1) := by decide +kernel
theorem dX9_init_131 : decode cX9_init 131 = .ok (.iconst 5, 1) := by decide +kernel
theorem dX9_init_132 : decode cX9_init 132 = .ok (.newarray .int, 2) := by decide +kernel
theorem dX9_init_134 : decode cX9_init 134 = .ok (.putfield 58, 3) := by decide +kernel
theorem dX9_init_137 : decode cX9_init 137 = .ok (.aload_n 0, 1) := by decide +kernel
theorem dX9_init_138 : decode cX9_init 138 = .ok (.ldc 61, 2) := by decide +kernel
theorem dX9_init_140 : decode cX9_init 140 = .ok (.newarray .int, 2) := by decide +kernel
theorem dX9_init_142 : decode cX9_init 142 = .ok (.putfield 62, 3) := by decide +kernel
theorem dX9_init_145 : decode cX9_init 145 = .ok (.aload_n 0, 1) := by decide +kernel
theorem dX9_init_146 : decode cX9_init 146 = .ok (.sipush 13240, 3) := by decide +kernel
theorem dX9_init_149 : decode cX9_init 149 = .ok (.newarray .int, 2) := by decide +kernel
theorem dX9_init_151 : decode cX9_init 151 = .ok (.putfield 65, 3) := by decide +kernel
theorem dX9_init_154 : decode cX9_init 154 = .ok (.aload_n 0, 1) := by decide +kernel
theorem dX9_init_155 : decode cX9_init 155 = .ok (.sipush 400, 3) := by decide +kernel
theorem dX9_init_158 : decode cX9_init 158 = .ok (.newarray .int, 2) := by decide +kernel
theorem dX9_init_160 : decode cX9_init 160 = .ok (.putfield 68, 3) := by decide +kernel
theorem dX9_init_163 : decode cX9_init 163 = .ok (.aload_n 0, 1) := by decide +kernel
theorem dX9_init_164 : decode cX9_init 164 = .ok (.sipush 400, 3) := by decide +kernel
theorem dX9_init_167 : decode cX9_init 167 = .ok (.newarray .int, 2) := by decide +kernel
theorem dX9_init_169 : decode cX9_init 169 = .ok (.putfield 71, 3) := by decide +kernel
theorem dX9_init_172 : decode cX9_init 172 = .ok (.aload_n 0, 1) := by decide +kernel
theorem dX9_init_173 : decode cX9_init 173 = .ok (.iconst 4, 1) := by decide +kernel
theorem dX9_init_174 : decode cX9_init 174 = .ok (.newarray .int, 2) := by decide +kernel
theorem dX9_init_176 : decode cX9_init 176 = .ok (.putfield 74, 3) := by decide +kernel
theorem dX9_init_179 : decode cX9_init 179 = .ok (.aload_n 0, 1) := by decide +kernel
theorem dX9_init_180 : decode cX9_init 180 = .ok (.sipush 20736, 3) := by decide +kernel
theorem dX9_init_183 : decode cX9_init 183 = .ok (.newarray .boolean, 2) := by decide +kernel
theorem dX9_init_185 : decode cX9_init 185 = .ok (.putfield 77, 3) := by decide +kernel
theorem dX9_init_188 : decode cX9_init 188 = .ok (.aload_n 0, 1) := by decide +kernel
theorem dX9_init_189 : decode cX9_init 189 = .ok (.bipush 100, 2) := by decide +kernel
theorem dX9_init_191 : decode cX9_init 191 = .ok (.newarray .int, 2) := by decide +kernel
theorem dX9_init_193 : decode cX9_init 193 = .ok (.putfield 81, 3) := by decide +kernel
theorem dX9_init_196 : decode cX9_init 196 = .ok (.aload_n 0, 1) := by decide +kernel
theorem dX9_init_197 : decode cX9_init 197 = .ok (.iconst 4, 1) := by decide +kernel
theorem dX9_init_198 : decode cX9_init 198 = .ok (.newarray .int, 2) := by decide +kernel
theorem dX9_init_200 : decode cX9_init 200 = .ok (.putfield 84, 3) := by decide +kernel
theorem dX9_init_203 : decode cX9_init 203 = .ok (.aload_n 0, 1) := by decide +kernel
theorem dX9_init_204 : decode cX9_init 204 = .ok (.sipush 150, 3) := by decide +kernel
theorem dX9_init_207 : decode cX9_init 207 = .ok (.newarray .int, 2) := by decide +kernel
theorem dX9_init_209 : decode cX9_init 209 = .ok (.putfield 87, 3) := by decide +kernel
theorem dX9_init_212 : decode cX9_init 212 = .ok (.aload_n 0, 1) := by decide +kernel
theorem dX9_init_213 : decode cX9_init 213 = .ok (.sipush 331, 3) := by decide +kernel
theorem dX9_init_216 : decode cX9_init 216 = .ok (.newarray .int, 2) := by decide +kernel
theorem dX9_init_218 : decode cX9_init 218 = .ok (.putfield 90, 3) := by decide +kernel
theorem dX9_init_221 : decode cX9_init 221 = .ok (.return_, 1) := by decide +kernel
def U0 : List gS := [.inl (8, [2, 2, 2, 2, 2, 2, 2, 2, 2, 2, 2, 2, 2, 2, 0, 0, 1])]
def U1 : List gS := [.inl (8, [2, 2, 2, 2, 2, 2, 2, 2, 2, 2, 2, 2, 2, 2, 0, 0, 1]), .inl (6, [0, 2, 0])]
def U2 : List gS := [.inl (8, [2, 2, 2, 2, 2, 2, 2, 2, 2, 2, 2, 2, 2, 2, 0, 0, 1]), .inl (6, [0, 2, 0]), .inr (1, 400, 0)]
def U3 : List gS := [.inl (8, [2, 2, 2, 2, 2, 2, 2, 2, 2, 2, 2, 2, 2, 2, 0, 0, 1]), .inl (6, [0, 5, 0]), .inr (1, 400, 0)]
def U4 : List gS := [.inl (8, [4, 2, 2, 2, 2, 2, 2, 2, 2, 2, 2, 2, 2, 2, 0, 0, 1]), .inl (6, [0, 5, 0]), .inr (1, 400, 0)]
def U5 : List gS := [.inl (8, [4, 2, 2, 2, 2, 2, 2, 2, 2, 2, 2, 2, 2, 2, 0, 0, 1]), .inl (6, [0, 5, 0]), .inr (1, 400, 0), .inl (5, [0, 0, 0, 2, 2, 2, 2])]
def U6 : List gS := [.inl (8, [4, 2, 2, 2, 2, 2, 2, 2, 2, 2, 2, 2, 2, 2, 0, 0, 1]), .inl (6, [0, 5, 0]), .inr (1, 400, 0), .inl (5, [0, 0, 0, 2, 2, 2, 2]), .inr (0, 4, 0)]
def U7 : List gS := [.inl (8, [4, 2, 2, 2, 2, 2, 2, 2, 2, 2, 2, 2, 2, 2, 0, 0, 1]), .inl (6, [0, 5, 0]), .inr (1, 400, 0), .inl (5, [0, 0, 0, 7, 2, 2, 2]), .inr (0, 4, 0)]
def U8 : List gS := [.inl (8, [4, 2, 2, 2, 2, 2, 2, 2, 2, 2, 2, 2, 2, 2, 0, 0, 1]), .inl (6, [0, 5, 0]), .inr (1, 400, 0), .inl (5, [0, 0, 0, 7, 2, 2, 2]), .inr (0, 4, 0), .inr (0, 4, 0)]
def U9 : List gS := [.inl (8, [4, 2, 2, 2, 2, 2, 2, 2, 2, 2, 2, 2, 2, 2, 0, 0, 1]), .inl (6, [0, 5, 0]), .inr (1, 400, 0), .inl (5, [0, 0, 0, 7, 8, 2, 2]), .inr (0, 4, 0), .inr (0, 4, 0)]
def U10 : List gS := [.inl (8, [4, 2, 2, 2, 2, 2, 2, 2, 2, 2, 2, 2, 2, 2, 0, 0, 1]), .inl (6, [0, 5, 0]), .inr (1, 400, 0), .inl (5, [0, 0, 0, 7, 8, 2, 2]), .inr (0, 4, 0), .inr (0, 4, 0), .inr (0, 12, 0)]
def U11 : List gS := [.inl (8, [4, 2, 2, 2, 2, 2, 2, 2, 2, 2, 2, 2, 2, 2, 0, 0, 1]), .inl (6, [0, 5, 0]), .inr (1, 400, 0), .inl (5, [0, 0, 0, 7, 8, 9, 2]), .inr (0, 4, 0), .inr (0, 4, 0), .inr (0, 12, 0)]
def U12 : List gS := [.inl (8, [4, 2, 2, 2, 2, 2, 2, 2, 2, 2, 2, 2, 2, 2, 0, 0, 1]), .inl (6, [0, 5, 0]), .inr (1, 400, 0), .inl (5, [0, 0, 0, 7, 8, 9, 2]), .inr (0, 4, 0), .inr (0, 4, 0), .inr (0, 12, 0), .inr (0, 48, 0)]
def U13 : List gS := [.inl (8, [4, 2, 2, 2, 2, 2, 2, 2, 2, 2, 2, 2, 2, 2, 0, 0, 1]), .inl (6, [0, 5, 0]), .inr (1, 400, 0), .inl (5, [0, 0, 0, 7, 8, 9, 10]), .inr (0, 4, 0), .inr (0, 4, 0), .inr (0, 12, 0), .inr (0, 48, 0)]
def U14 : List gS := [.inl (8, [4, 6, 2, 2, 2, 2, 2, 2, 2, 2, 2, 2, 2, 2, 0, 0, 1]), .inl (6, [0, 5, 0]), .inr (1, 400, 0), .inl (5, [0, 0, 0, 7, 8, 9, 10]), .inr (0, 4, 0), .inr (0, 4, 0), .inr (0, 12, 0), .inr (0, 48, 0)]
def U15 : List gS := [.inl (8, [4, 6, 2, 2, 2, 2, 2, 2, 2, 2, 2, 2, 2, 2, 0, 0, 1]), .inl (6, [0, 5, 0]), .inr (1, 400, 0), .inl (5, [0, 0, 0, 7, 8, 9, 10]), .inr (0, 4, 0), .inr (0, 4, 0), .inr (0, 12, 0), .inr (0, 48, 0), .inl (5, [0, 0, 0, 2, 2, 2, 2])]
def U16 : List gS := [.inl (8, [4, 6, 2, 2, 2, 2, 2, 2, 2, 2, 2, 2, 2, 2, 0, 0, 1]), .inl (6, [0, 5, 0]), .inr (1, 400, 0), .inl (5, [0, 0, 0, 7, 8, 9, 10]), .inr (0, 4, 0), .inr (0, 4, 0), .inr (0, 12, 0), .inr (0, 48, 0), .inl (5, [0, 0, 0, 2, 2, 2, 2]), .inr (0, 4, 0)]
def U17 : List gS := [.inl (8, [4, 6, 2, 2, 2, 2, 2, 2, 2, 2, 2, 2, 2, 2, 0, 0, 1]), .inl (6, [0, 5, 0]), .inr (1, 400, 0), .inl (5, [0, 0, 0, 7, 8, 9, 10]), .inr (0, 4, 0), .inr (0, 4, 0), .inr (0, 12, 0), .inr (0, 48, 0), .inl (5, [0, 0, 0, 12, 2, 2, 2]), .inr (0, 4, 0)]
def U18 : List gS := [.inl (8, [4, 6, 2, 2, 2, 2, 2, 2, 2, 2, 2, 2, 2, 2, 0, 0, 1]), .inl (6, [0, 5, 0]), .inr (1, 400, 0), .inl (5, [0, 0, 0, 7, 8, 9, 10]), .inr (0, 4, 0), .inr (0, 4, 0), .inr (0, 12, 0), .inr (0, 48, 0), .inl (5, [0, 0, 0, 12, 2, 2, 2]), .inr (0, 4, 0), .inr (0, 4, 0)]
def U19 : List gS := [.inl (8, [4, 6, 2, 2, 2, 2, 2, 2, 2, 2, 2, 2, 2, 2, 0, 0, 1]), .inl (6, [0, 5, 0]), .inr (1, 400, 0), .inl (5, [0, 0, 0, 7, 8, 9, 10]), .inr (0, 4, 0), .inr (0, 4, 0), .inr (0, 12, 0), .inr (0, 48, 0), .inl (5, [0, 0, 0, 12, 13, 2, 2]), .inr (0, 4, 0), .inr (0, 4, 0)]
def U20 : List gS := [.inl (8, [4, 6, 2, 2, 2, 2, 2, 2, 2, 2, 2, 2, 2, 2, 0, 0, 1]), .inl (6, [0, 5, 0]), .inr (1, 400, 0), .inl (5, [0, 0, 0, 7, 8, 9, 10]), .inr (0, 4, 0), .inr (0, 4, 0), .inr (0, 12, 0), .inr (0, 48, 0), .inl (5, [0, 0, 0, 12, 13, 2, 2]), .inr (0, 4, 0), .inr (0, 4, 0), .inr (0, 12, 0)]
def U21 : List gS := [.inl (8, [4, 6, 2, 2, 2, 2, 2, 2, 2, 2, 2, 2, 2, 2, 0, 0, 1]), .inl (6, [0, 5, 0]), .inr (1, 400, 0), .inl (5, [0, 0, 0, 7, 8, 9, 10]), .inr (0, 4, 0), .inr (0, 4, 0), .inr (0, 12, 0), .inr (0, 48, 0), .inl (5, [0, 0, 0, 12, 13, 14, 2]), .inr (0, 4, 0), .inr (0, 4, 0), .inr (0, 12, 0)]
def U22 : List gS := [.inl (8, [4, 6, 2, 2, 2, 2, 2, 2, 2, 2, 2, 2, 2, 2, 0, 0, 1]), .inl (6, [0, 5, 0]), .inr (1, 400, 0), .inl (5, [0, 0, 0, 7, 8, 9, 10]), .inr (0, 4, 0), .inr (0, 4, 0), .inr (0, 12, 0), .inr (0, 48, 0), .inl (5, [0, 0, 0, 12, 13, 14, 2]), .inr (0, 4, 0), .inr (0, 4, 0), .inr (0, 12, 0), .inr (0, 48, 0)]
def U23 : List gS := [.inl (8, [4, 6, 2, 2, 2, 2, 2, 2, 2, 2, 2, 2, 2, 2, 0, 0, 1]), .inl (6, [0, 5, 0]), .inr (1, 400, 0), .inl (5, [0, 0, 0, 7, 8, 9, 10]), .inr (0, 4, 0), .inr (0, 4, 0), .inr (0, 12, 0), .inr (0, 48, 0), .inl (5, [0, 0, 0, 12, 13, 14, 15]), .inr (0, 4, 0), .inr (0, 4, 0), .inr (0, 12, 0), .inr (0, 48, 0)]
def U24 : List gS := [.inl (8, [4, 6, 11, 2, 2, 2, 2, 2, 2, 2, 2, 2, 2, 2, 0, 0, 1]), .inl (6, [0, 5, 0]), .inr (1, 400, 0), .inl (5, [0, 0, 0, 7, 8, 9, 10]), .inr (0, 4, 0), .inr (0, 4, 0), .inr (0, 12, 0), .inr (0, 48, 0), .inl (5, [0, 0, 0, 12, 13, 14, 15]), .inr (0, 4, 0), .inr (0, 4, 0), .inr (0, 12, 0), .inr (0, 48, 0)]
def U25 : List gS := [.inl (8, [4, 6, 11, 2, 2, 2, 2, 2, 2, 2, 2, 2, 2, 2, 0, 0, 1]), .inl (6, [0, 5, 0]), .inr (1, 400, 0), .inl (5, [0, 0, 0, 7, 8, 9, 10]), .inr (0, 4, 0), .inr (0, 4, 0), .inr (0, 12, 0), .inr (0, 48, 0), .inl (5, [0, 0, 0, 12, 13, 14, 15]), .inr (0, 4, 0), .inr (0, 4, 0), .inr (0, 12, 0), .inr (0, 48, 0), .inl (5, [0, 0, 0, 2, 2, 2, 2])]
def U26 : List gS := [.inl (8, [4, 6, 11, 2, 2, 2, 2, 2, 2, 2, 2, 2, 2, 2, 0, 0, 1]), .inl (6, [0, 5, 0]), .inr (1, 400, 0), .inl (5, [0, 0, 0, 7, 8, 9, 10]), .inr (0, 4, 0), .inr (0, 4, 0), .inr (0, 12, 0), .inr (0, 48, 0), .inl (5, [0, 0, 0, 12, 13, 14, 15]), .inr (0, 4, 0), .inr (0, 4, 0), .inr (0, 12, 0), .inr (0, 48, 0), .inl (5, [0, 0, 0, 2, 2, 2, 2]), .inr (0, 4, 0)]
def U27 : List gS := [.inl (8, [4, 6, 11, 2, 2, 2, 2, 2, 2, 2, 2, 2, 2, 2, 0, 0, 1]), .inl (6, [0, 5, 0]), .inr (1, 400, 0), .inl (5, [0, 0, 0, 7, 8, 9, 10]), .inr (0, 4, 0), .inr (0, 4, 0), .inr (0, 12, 0), .inr (0, 48, 0), .inl (5, [0, 0, 0, 12, 13, 14, 15]), .inr (0, 4, 0), .inr (0, 4, 0), .inr (0, 12, 0), .inr (0, 48, 0), .inl (5, [0, 0, 0, 17, 2, 2, 2]), .inr (0, 4, 0)]
def U28 : List gS := [.inl (8, [4, 6, 11, 2, 2, 2, 2, 2, 2, 2, 2, 2, 2, 2, 0, 0, 1]), .inl (6, [0, 5, 0]), .inr (1, 400, 0), .inl (5, [0, 0, 0, 7, 8, 9, 10]), .inr (0, 4, 0), .inr (0, 4, 0), .inr (0, 12, 0), .inr (0, 48, 0), .inl (5, [0, 0, 0, 12, 13, 14, 15]), .inr (0, 4, 0), .inr (0, 4, 0), .inr (0, 12, 0), .inr (0, 48, 0), .inl (5, [0, 0, 0, 17, 2, 2, 2]), .inr (0, 4, 0), .inr (0, 4, 0)]
def U29 : List gS := [.inl (8, [4, 6, 11, 2, 2, 2, 2, 2, 2, 2, 2, 2, 2, 2, 0, 0, 1]), .inl (6, [0, 5, 0]), .inr (1, 400, 0), .inl (5, [0, 0, 0, 7, 8, 9, 10]), .inr (0, 4, 0), .inr (0, 4, 0), .inr (0, 12, 0), .inr (0, 48, 0), .inl (5, [0, 0, 0, 12, 13, 14, 15]), .inr (0, 4, 0), .inr (0, 4, 0), .inr (0, 12, 0), .inr (0, 48, 0), .inl (5, [0, 0, 0, 17, 18, 2, 2]), .inr (0, 4, 0), .inr (0, 4, 0)]
def U30 : List gS := [.inl (8, [4, 6, 11, 2, 2, 2, 2, 2, 2, 2, 2, 2, 2, 2, 0, 0, 1]), .inl (6, [0, 5, 0]), .inr (1, 400, 0), .inl (5, [0, 0, 0, 7, 8, 9, 10]), .inr (0, 4, 0), .inr (0, 4, 0), .inr (0, 12, 0), .inr (0, 48, 0), .inl (5, [0, 0, 0, 12, 13, 14, 15]), .inr (0, 4, 0), .inr (0, 4, 0), .inr (0, 12, 0), .inr (0, 48, 0), .inl (5, [0, 0, 0, 17, 18, 2, 2]), .inr (0, 4, 0), .inr (0, 4, 0), .inr (0, 12, 0)]
def U31 : List gS := [.inl (8, [4, 6, 11, 2, 2, 2, 2, 2, 2, 2, 2, 2, 2, 2, 0, 0, 1]), .inl (6, [0, 5, 0]), .inr (1, 400, 0), .inl (5, [0, 0, 0, 7, 8, 9, 10]), .inr (0, 4, 0), .inr (0, 4, 0), .inr (0, 12, 0), .inr (0, 48, 0), .inl (5, [0, 0, 0, 12, 13, 14, 15]), .inr (0, 4, 0), .inr (0, 4, 0), .inr (0, 12, 0), .inr (0, 48, 0), .inl (5, [0, 0, 0, 17, 18, 19, 2]), .inr (0, 4, 0), .inr (0, 4, 0), .inr (0, 12, 0)]
def U32 : List gS := [.inl (8, [4, 6, 11, 2, 2, 2, 2, 2, 2, 2, 2, 2, 2, 2, 0, 0, 1]), .inl (6, [0, 5, 0]), .inr (1, 400, 0), .inl (5, [0, 0, 0, 7, 8, 9, 10]), .inr (0, 4, 0), .inr (0, 4, 0), .inr (0, 12, 0), .inr (0, 48, 0), .inl (5, [0, 0, 0, 12, 13, 14, 15]), .inr (0, 4, 0), .inr (0, 4, 0), .inr (0, 12, 0), .inr (0, 48, 0), .inl (5, [0, 0, 0, 17, 18, 19, 2]), .inr (0, 4, 0), .inr (0, 4, 0), .inr (0, 12, 0), .inr (0, 48, 0)]
def U33 : List gS := [.inl (8, [4, 6, 11, 2, 2, 2, 2, 2, 2, 2, 2, 2, 2, 2, 0, 0, 1]), .inl (6, [0, 5, 0]), .inr (1, 400, 0), .inl (5, [0, 0, 0, 7, 8, 9, 10]), .inr (0, 4, 0), .inr (0, 4, 0), .inr (0, 12, 0), .inr (0, 48, 0), .inl (5, [0, 0, 0, 12, 13, 14, 15]), .inr (0, 4, 0), .inr (0, 4, 0), .inr (0, 12, 0), .inr (0, 48, 0), .inl (5, [0, 0, 0, 17, 18, 19, 20]), .inr (0, 4, 0), .inr (0, 4, 0), .inr (0, 12, 0), .inr (0, 48, 0)]
def U34 : List gS := [.inl (8, [4, 6, 11, 16, 2, 2, 2, 2, 2, 2, 2, 2, 2, 2, 0, 0, 1]), .inl (6, [0, 5, 0]), .inr (1, 400, 0), .inl (5, [0, 0, 0, 7, 8, 9, 10]), .inr (0, 4, 0), .inr (0, 4, 0), .inr (0, 12, 0), .inr (0, 48, 0), .inl (5, [0, 0, 0, 12, 13, 14, 15]), .inr (0, 4, 0), .inr (0, 4, 0), .inr (0, 12, 0), .inr (0, 48, 0), .inl (5, [0, 0, 0, 17, 18, 19, 20]), .inr (0, 4, 0), .inr (0, 4, 0), .inr (0, 12, 0), .inr (0, 48, 0)]
def U35 : List gS := [.inl (8, [4, 6, 11, 16, 2, 2, 2, 2, 2, 2, 2, 2, 2, 2, 0, 0, 1]), .inl (6, [0, 5, 0]), .inr (1, 400, 0), .inl (5, [0, 0, 0, 7, 8, 9, 10]), .inr (0, 4, 0), .inr (0, 4, 0), .inr (0, 12, 0), .inr (0, 48, 0), .inl (5, [0, 0, 0, 12, 13, 14, 15]), .inr (0, 4, 0), .inr (0, 4, 0), .inr (0, 12, 0), .inr (0, 48, 0), .inl (5, [0, 0, 0, 17, 18, 19, 20]), .inr (0, 4, 0), .inr (0, 4, 0), .inr (0, 12, 0), .inr (0, 48, 0), .inl (1, [0, 0, 0, 2, 2, 2, 2, 2, 2, 2, 2, 2, 2])]
def U36 : List gS := [.inl (8, [4, 6, 11, 16, 2, 2, 2, 2, 2, 2, 2, 2, 2, 2, 0, 0, 1]), .inl (6, [0, 5, 0]), .inr (1, 400, 0), .inl (5, [0, 0, 0, 7, 8, 9, 10]), .inr (0, 4, 0), .inr (0, 4, 0), .inr (0, 12, 0), .inr (0, 48, 0), .inl (5, [0, 0, 0, 12, 13, 14, 15]), .inr (0, 4, 0), .inr (0, 4, 0), .inr (0, 12, 0), .inr (0, 48, 0), .inl (5, [0, 0, 0, 17, 18, 19, 20]), .inr (0, 4, 0), .inr (0, 4, 0), .inr (0, 12, 0), .inr (0, 48, 0), .inl (1, [0, 0, 0, 2, 2, 2, 2, 2, 2, 2, 2, 2, 2]), .inr (0, 4, 0)]
def U37 : List gS := [.inl (8, [4, 6, 11, 16, 2, 2, 2, 2, 2, 2, 2, 2, 2, 2, 0, 0, 1]), .inl (6, [0, 5, 0]), .inr (1, 400, 0), .inl (5, [0, 0, 0, 7, 8, 9, 10]), .inr (0, 4, 0), .inr (0, 4, 0), .inr (0, 12, 0), .inr (0, 48, 0), .inl (5, [0, 0, 0, 12, 13, 14, 15]), .inr (0, 4, 0), .inr (0, 4, 0), .inr (0, 12, 0), .inr (0, 48, 0), .inl (5, [0, 0, 0, 17, 18, 19, 20]), .inr (0, 4, 0), .inr (0, 4, 0), .inr (0, 12, 0), .inr (0, 48, 0), .inl (1, [0, 0, 0, 22, 2, 2, 2, 2, 2, 2, 2, 2, 2]), .inr (0, 4, 0)]
def U38 : List gS := [.inl (8, [4, 6, 11, 16, 2, 2, 2, 2, 2, 2, 2, 2, 2, 2, 0, 0, 1]), .inl (6, [0, 5, 0]), .inr (1, 400, 0), .inl (5, [0, 0, 0, 7, 8, 9, 10]), .inr (0, 4, 0), .inr (0, 4, 0), .inr (0, 12, 0), .inr (0, 48, 0), .inl (5, [0, 0, 0, 12, 13, 14, 15]), .inr (0, 4, 0), .inr (0, 4, 0), .inr (0, 12, 0), .inr (0, 48, 0), .inl (5, [0, 0, 0, 17, 18, 19, 20]), .inr (0, 4, 0), .inr (0, 4, 0), .inr (0, 12, 0), .inr (0, 48, 0), .inl (1, [0, 0, 0, 22, 2, 2, 2, 2, 2, 2, 2, 2, 2]), .inr (0, 4, 0), .inr (0, 4, 0)]
def U39 : List gS := [.inl (8, [4, 6, 11, 16, 2, 2, 2, 2, 2, 2, 2, 2, 2, 2, 0, 0, 1]), .inl (6, [0, 5, 0]), .inr (1, 400, 0), .inl (5, [0, 0, 0, 7, 8, 9, 10]), .inr (0, 4, 0), .inr (0, 4, 0), .inr (0, 12, 0), .inr (0, 48, 0), .inl (5, [0, 0, 0, 12, 13, 14, 15]), .inr (0, 4, 0), .inr (0, 4, 0), .inr (0, 12, 0), .inr (0, 48, 0), .inl (5, [0, 0, 0, 17, 18, 19, 20]), .inr (0, 4, 0), .inr (0, 4, 0), .inr (0, 12, 0), .inr (0, 48, 0), .inl (1, [0, 0, 0, 22, 23, 2, 2, 2, 2, 2, 2, 2, 2]), .inr (0, 4, 0), .inr (0, 4, 0)]
def U40 : List gS := [.inl (8, [4, 6, 11, 16, 2, 2, 2, 2, 2, 2, 2, 2, 2, 2, 0, 0, 1]), .inl (6, [0, 5, 0]), .inr (1, 400, 0), .inl (5, [0, 0, 0, 7, 8, 9, 10]), .inr (0, 4, 0), .inr (0, 4, 0), .inr (0, 12, 0), .inr (0, 48, 0), .inl (5, [0, 0, 0, 12, 13, 14, 15]), .inr (0, 4, 0), .inr (0, 4, 0), .inr (0, 12, 0), .inr (0, 48, 0), .inl (5, [0, 0, 0, 17, 18, 19, 20]), .inr (0, 4, 0), .inr (0, 4, 0), .inr (0, 12, 0), .inr (0, 48, 0), .inl (1, [0, 0, 0, 22, 23, 2, 2, 2, 2, 2, 2, 2, 2]), .inr (0, 4, 0), .inr (0, 4, 0), .inr (0, 20736, 0)]
def U41 : List gS := [.inl (8, [4, 6, 11, 16, 2, 2, 2, 2, 2, 2, 2, 2, 2, 2, 0, 0, 1]), .inl (6, [0, 5, 0]), .inr (1, 400, 0), .inl (5, [0, 0, 0, 7, 8, 9, 10]), .inr (0, 4, 0), .inr (0, 4, 0), .inr (0, 12, 0), .inr (0, 48, 0), .inl (5, [0, 0, 0, 12, 13, 14, 15]), .inr (0, 4, 0), .inr (0, 4, 0), .inr (0, 12, 0), .inr (0, 48, 0), .inl (5, [0, 0, 0, 17, 18, 19, 20]), .inr (0, 4, 0), .inr (0, 4, 0), .inr (0, 12, 0), .inr (0, 48, 0), .inl (1, [0, 0, 0, 22, 23, 24, 2, 2, 2, 2, 2, 2, 2]), .inr (0, 4, 0), .inr (0, 4, 0), .inr (0, 20736, 0)]
def U42 : List gS := [.inl (8, [4, 6, 11, 16, 2, 2, 2, 2, 2, 2, 2, 2, 2, 2, 0, 0, 1]), .inl (6, [0, 5, 0]), .inr (1, 400, 0), .inl (5, [0, 0, 0, 7, 8, 9, 10]), .inr (0, 4, 0), .inr (0, 4, 0), .inr (0, 12, 0), .inr (0, 48, 0), .inl (5, [0, 0, 0, 12, 13, 14, 15]), .inr (0, 4, 0), .inr (0, 4, 0), .inr (0, 12, 0), .inr (0, 48, 0), .inl (5, [0, 0, 0, 17, 18, 19, 20]), .inr (0, 4, 0), .inr (0, 4, 0), .inr (0, 12, 0), .inr (0, 48, 0), .inl (1, [0, 0, 0, 22, 23, 24, 2, 2, 2, 2, 2, 2, 2]), .inr (0, 4, 0), .inr (0, 4, 0), .inr (0, 20736, 0), .inr (0, 5, 0)]
def U43 : List gS := [.inl (8, [4, 6, 11, 16, 2, 2, 2, 2, 2, 2, 2, 2, 2, 2, 0, 0, 1]), .inl (6, [0, 5, 0]), .inr (1, 400, 0), .inl (5, [0, 0, 0, 7, 8, 9, 10]), .inr (0, 4, 0), .inr (0, 4, 0), .inr (0, 12, 0), .inr (0, 48, 0), .inl (5, [0, 0, 0, 12, 13, 14, 15]), .inr (0, 4, 0), .inr (0, 4, 0), .inr (0, 12, 0), .inr (0, 48, 0), .inl (5, [0, 0, 0, 17, 18, 19, 20]), .inr (0, 4, 0), .inr (0, 4, 0), .inr (0, 12, 0), .inr (0, 48, 0), .inl (1, [0, 0, 0, 22, 23, 24, 25, 2, 2, 2, 2, 2, 2]), .inr (0, 4, 0), .inr (0, 4, 0), .inr (0, 20736, 0), .inr (0, 5, 0)]
def U44 : List gS := [.inl (8, [4, 6, 11, 16, 2, 2, 2, 2, 2, 2, 2, 2, 2, 2, 0, 0, 1]), .inl (6, [0, 5, 0]), .inr (1, 400, 0), .inl (5, [0, 0, 0, 7, 8, 9, 10]), .inr (0, 4, 0), .inr (0, 4, 0), .inr (0, 12, 0), .inr (0, 48, 0), .inl (5, [0, 0, 0, 12, 13, 14, 15]), .inr (0, 4, 0), .inr (0, 4, 0), .inr (0, 12, 0), .inr (0, 48, 0), .inl (5, [0, 0, 0, 17, 18, 19, 20]), .inr (0, 4, 0), .inr (0, 4, 0), .inr (0, 12, 0), .inr (0, 48, 0), .inl (1, [0, 0, 0, 22, 23, 24, 25, 2, 2, 2, 2, 2, 2]), .inr (0, 4, 0), .inr (0, 4, 0), .inr (0, 20736, 0), .inr (0, 5, 0), .inr (0, 48, 0)]
def U45 : List gS := [.inl (8, [4, 6, 11, 16, 2, 2, 2, 2, 2, 2, 2, 2, 2, 2, 0, 0, 1]), .inl (6, [0, 5, 0]), .inr (1, 400, 0), .inl (5, [0, 0, 0, 7, 8, 9, 10]), .inr (0, 4, 0), .inr (0, 4, 0), .inr (0, 12, 0), .inr (0, 48, 0), .inl (5, [0, 0, 0, 12, 13, 14, 15]), .inr (0, 4, 0), .inr (0, 4, 0), .inr (0, 12, 0), .inr (0, 48, 0), .inl (5, [0, 0, 0, 17, 18, 19, 20]), .inr (0, 4, 0), .inr (0, 4, 0), .inr (0, 12, 0), .inr (0, 48, 0), .inl (1, [0, 0, 0, 22, 23, 24, 25, 26, 2, 2, 2, 2, 2]), .inr (0, 4, 0), .inr (0, 4, 0), .inr (0, 20736, 0), .inr (0, 5, 0), .inr (0, 48, 0)]
def U46 : List gS := [.inl (8, [4, 6, 11, 16, 2, 2, 2, 2, 2, 2, 2, 2, 2, 2, 0, 0, 1]), .inl (6, [0, 5, 0]), .inr (1, 400, 0), .inl (5, [0, 0, 0, 7, 8, 9, 10]), .inr (0, 4, 0), .inr (0, 4, 0), .inr (0, 12, 0), .inr (0, 48, 0), .inl (5, [0, 0, 0, 12, 13, 14, 15]), .inr (0, 4, 0), .inr (0, 4, 0), .inr (0, 12, 0), .inr (0, 48, 0), .inl (5, [0, 0, 0, 17, 18, 19, 20]), .inr (0, 4, 0), .inr (0, 4, 0), .inr (0, 12, 0), .inr (0, 48, 0), .inl (1, [0, 0, 0, 22, 23, 24, 25, 26, 2, 2, 2, 2, 2]), .inr (0, 4, 0), .inr (0, 4, 0), .inr (0, 20736, 0), .inr (0, 5, 0), .inr (0, 48, 0), .inr (0, 3, 0)]
def U47 : List gS := [.inl (8, [4, 6, 11, 16, 2, 2, 2, 2, 2, 2, 2, 2, 2, 2, 0, 0, 1]), .inl (6, [0, 5, 0]), .inr (1, 400, 0), .inl (5, [0, 0, 0, 7, 8, 9, 10]), .inr (0, 4, 0), .inr (0, 4, 0), .inr (0, 12, 0), .inr (0, 48, 0), .inl (5, [0, 0, 0, 12, 13, 14, 15]), .inr (0, 4, 0), .inr (0, 4, 0), .inr (0, 12, 0), .inr (0, 48, 0), .inl (5, [0, 0, 0, 17, 18, 19, 20]), .inr (0, 4, 0), .inr (0, 4, 0), .inr (0, 12, 0), .inr (0, 48, 0), .inl (1, [0, 0, 0, 22, 23, 24, 25, 26, 27, 2, 2, 2, 2]), .inr (0, 4, 0), .inr (0, 4, 0), .inr (0, 20736, 0), .inr (0, 5, 0), .inr (0, 48, 0), .inr (0, 3, 0)]
def U48 : List gS := [.inl (8, [4, 6, 11, 16, 2, 2, 2, 2, 2, 2, 2, 2, 2, 2, 0, 0, 1]), .inl (6, [0, 5, 0]), .inr (1, 400, 0), .inl (5, [0, 0, 0, 7, 8, 9, 10]), .inr (0, 4, 0), .inr (0, 4, 0), .inr (0, 12, 0), .inr (0, 48, 0), .inl (5, [0, 0, 0, 12, 13, 14, 15]), .inr (0, 4, 0), .inr (0, 4, 0), .inr (0, 12, 0), .inr (0, 48, 0), .inl (5, [0, 0, 0, 17, 18, 19, 20]), .inr (0, 4, 0), .inr (0, 4, 0), .inr (0, 12, 0), .inr (0, 48, 0), .inl (1, [0, 0, 0, 22, 23, 24, 25, 26, 27, 2, 2, 2, 2]), .inr (0, 4, 0), .inr (0, 4, 0), .inr (0, 20736, 0), .inr (0, 5, 0), .inr (0, 48, 0), .inr (0, 3, 0), .inr (0, 16, 0)]
def U49 : List gS := [.inl (8, [4, 6, 11, 16, 2, 2, 2, 2, 2, 2, 2, 2, 2, 2, 0, 0, 1]), .inl (6, [0, 5, 0]), .inr (1, 400, 0), .inl (5, [0, 0, 0, 7, 8, 9, 10]), .inr (0, 4, 0), .inr (0, 4, 0), .inr (0, 12, 0), .inr (0, 48, 0), .inl (5, [0, 0, 0, 12, 13, 14, 15]), .inr (0, 4, 0), .inr (0, 4, 0), .inr (0, 12, 0), .inr (0, 48, 0), .inl (5, [0, 0, 0, 17, 18, 19, 20]), .inr (0, 4, 0), .inr (0, 4, 0), .inr (0, 12, 0), .inr (0, 48, 0), .inl (1, [0, 0, 0, 22, 23, 24, 25, 26, 27, 28, 2, 2, 2]), .inr (0, 4, 0), .inr (0, 4, 0), .inr (0, 20736, 0), .inr (0, 5, 0), .inr (0, 48, 0), .inr (0, 3, 0), .inr (0, 16, 0)]
def U50 : List gS := [.inl (8, [4, 6, 11, 16, 2, 2, 2, 2, 2, 2, 2, 2, 2, 2, 0, 0, 1]), .inl (6, [0, 5, 0]), .inr (1, 400, 0), .inl (5, [0, 0, 0, 7, 8, 9, 10]), .inr (0, 4, 0), .inr (0, 4, 0), .inr (0, 12, 0), .inr (0, 48, 0), .inl (5, [0, 0, 0, 12, 13, 14, 15]), .inr (0, 4, 0), .inr (0, 4, 0), .inr (0, 12, 0), .inr (0, 48, 0), .inl (5, [0, 0, 0, 17, 18, 19, 20]), .inr (0, 4, 0), .inr (0, 4, 0), .inr (0, 12, 0), .inr (0, 48, 0), .inl (1, [0, 0, 0, 22, 23, 24, 25, 26, 27, 28, 2, 2, 2]), .inr (0, 4, 0), .inr (0, 4, 0), .inr (0, 20736, 0), .inr (0, 5, 0), .inr (0, 48, 0), .inr (0, 3, 0), .inr (0, 16, 0), .inr (0, 16, 0)]
def U51 : List gS := [.inl (8, [4, 6, 11, 16, 2, 2, 2, 2, 2, 2, 2, 2, 2, 2, 0, 0, 1]), .inl (6, [0, 5, 0]), .inr (1, 400, 0), .inl (5, [0, 0, 0, 7, 8, 9, 10]), .inr (0, 4, 0), .inr (0, 4, 0), .inr (0, 12, 0), .inr (0, 48, 0), .inl (5, [0, 0, 0, 12, 13, 14, 15]), .inr (0, 4, 0), .inr (0, 4, 0), .inr (0, 12, 0), .inr (0, 48, 0), .inl (5, [0, 0, 0, 17, 18, 19, 20]), .inr (0, 4, 0), .inr (0, 4, 0), .inr (0, 12, 0), .inr (0, 48, 0), .inl (1, [0, 0, 0, 22, 23, 24, 25, 26, 27, 28, 29, 2, 2]), .inr (0, 4, 0), .inr (0, 4, 0), .inr (0, 20736, 0), .inr (0, 5, 0), .inr (0, 48, 0), .inr (0, 3, 0), .inr (0, 16, 0), .inr (0, 16, 0)]
def U52 : List gS := [.inl (8, [4, 6, 11, 16, 2, 2, 2, 2, 2, 2, 2, 2, 2, 2, 0, 0, 1]), .inl (6, [0, 5, 0]), .inr (1, 400, 0), .inl (5, [0, 0, 0, 7, 8, 9, 10]), .inr (0, 4, 0), .inr (0, 4, 0), .inr (0, 12, 0), .inr (0, 48, 0), .inl (5, [0, 0, 0, 12, 13, 14, 15]), .inr (0, 4, 0), .inr (0, 4, 0), .inr (0, 12, 0), .inr (0, 48, 0), .inl (5, [0, 0, 0, 17, 18, 19, 20]), .inr (0, 4, 0), .inr (0, 4, 0), .inr (0, 12, 0), .inr (0, 48, 0), .inl (1, [0, 0, 0, 22, 23, 24, 25, 26, 27, 28, 29, 2, 2]), .inr (0, 4, 0), .inr (0, 4, 0), .inr (0, 20736, 0), .inr (0, 5, 0), .inr (0, 48, 0), .inr (0, 3, 0), .inr (0, 16, 0), .inr (0, 16, 0), .inr (0, 16, 0)]
def U53 : List gS := [.inl (8, [4, 6, 11, 16, 2, 2, 2, 2, 2, 2, 2, 2, 2, 2, 0, 0, 1]), .inl (6, [0, 5, 0]), .inr (1, 400, 0), .inl (5, [0, 0, 0, 7, 8, 9, 10]), .inr (0, 4, 0), .inr (0, 4, 0), .inr (0, 12, 0), .inr (0, 48, 0), .inl (5, [0, 0, 0, 12, 13, 14, 15]), .inr (0, 4, 0), .inr (0, 4, 0), .inr (0, 12, 0), .inr (0, 48, 0), .inl (5, [0, 0, 0, 17, 18, 19, 20]), .inr (0, 4, 0), .inr (0, 4, 0), .inr (0, 12, 0), .inr (0, 48, 0), .inl (1, [0, 0, 0, 22, 23, 24, 25, 26, 27, 28, 29, 30, 2]), .inr (0, 4, 0), .inr (0, 4, 0), .inr (0, 20736, 0), .inr (0, 5, 0), .inr (0, 48, 0), .inr (0, 3, 0), .inr (0, 16, 0), .inr (0, 16, 0), .inr (0, 16, 0)]
def U54 : List gS := [.inl (8, [4, 6, 11, 16, 2, 2, 2, 2, 2, 2, 2, 2, 2, 2, 0, 0, 1]), .inl (6, [0, 5, 0]), .inr (1, 400, 0), .inl (5, [0, 0, 0, 7, 8, 9, 10]), .inr (0, 4, 0), .inr (0, 4, 0), .inr (0, 12, 0), .inr (0, 48, 0), .inl (5, [0, 0, 0, 12, 13, 14, 15]), .inr (0, 4, 0), .inr (0, 4, 0), .inr (0, 12, 0), .inr (0, 48, 0), .inl (5, [0, 0, 0, 17, 18, 19, 20]), .inr (0, 4, 0), .inr (0, 4, 0), .inr (0, 12, 0), .inr (0, 48, 0), .inl (1, [0, 0, 0, 22, 23, 24, 25, 26, 27, 28, 29, 30, 2]), .inr (0, 4, 0), .inr (0, 4, 0), .inr (0, 20736, 0), .inr (0, 5, 0), .inr (0, 48, 0), .inr (0, 3, 0), .inr (0, 16, 0), .inr (0, 16, 0), .inr (0, 16, 0), .inr (0, 16, 0)]
def U55 : List gS := [.inl (8, [4, 6, 11, 16, 2, 2, 2, 2, 2, 2, 2, 2, 2, 2, 0, 0, 1]), .inl (6, [0, 5, 0]), .inr (1, 400, 0), .inl (5, [0, 0, 0, 7, 8, 9, 10]), .inr (0, 4, 0), .inr (0, 4, 0), .inr (0, 12, 0), .inr (0, 48, 0), .inl (5, [0, 0, 0, 12, 13, 14, 15]), .inr (0, 4, 0), .inr (0, 4, 0), .inr (0, 12, 0), .inr (0, 48, 0), .inl (5, [0, 0, 0, 17, 18, 19, 20]), .inr (0, 4, 0), .inr (0, 4, 0), .inr (0, 12, 0), .inr (0, 48, 0), .inl (1, [0, 0, 0, 22, 23, 24, 25, 26, 27, 28, 29, 30, 31]), .inr (0, 4, 0), .inr (0, 4, 0), .inr (0, 20736, 0), .inr (0, 5, 0), .inr (0, 48, 0), .inr (0, 3, 0), .inr (0, 16, 0), .inr (0, 16, 0), .inr (0, 16, 0), .inr (0, 16, 0)]
def U56 : List gS := [.inl (8, [4, 6, 11, 16, 21, 2, 2, 2, 2, 2, 2, 2, 2, 2, 0, 0, 1]), .inl (6, [0, 5, 0]), .inr (1, 400, 0), .inl (5, [0, 0, 0, 7, 8, 9, 10]), .inr (0, 4, 0), .inr (0, 4, 0), .inr (0, 12, 0), .inr (0, 48, 0), .inl (5, [0, 0, 0, 12, 13, 14, 15]), .inr (0, 4, 0), .inr (0, 4, 0), .inr (0, 12, 0), .inr (0, 48, 0), .inl (5, [0, 0, 0, 17, 18, 19, 20]), .inr (0, 4, 0), .inr (0, 4, 0), .inr (0, 12, 0), .inr (0, 48, 0), .inl (1, [0, 0, 0, 22, 23, 24, 25, 26, 27, 28, 29, 30, 31]), .inr (0, 4, 0), .inr (0, 4, 0), .inr (0, 20736, 0), .inr (0, 5, 0), .inr (0, 48, 0), .inr (0, 3, 0), .inr (0, 16, 0), .inr (0, 16, 0), .inr (0, 16, 0), .inr (0, 16, 0)]
def U57 : List gS := [.inl (8, [4, 6, 11, 16, 21, 2, 2, 2, 2, 2, 2, 2, 2, 2, 0, 0, 1]), .inl (6, [0, 5, 0]), .inr (1, 400, 0), .inl (5, [0, 0, 0, 7, 8, 9, 10]), .inr (0, 4, 0), .inr (0, 4, 0), .inr (0, 12, 0), .inr (0, 48, 0), .inl (5, [0, 0, 0, 12, 13, 14, 15]), .inr (0, 4, 0), .inr (0, 4, 0), .inr (0, 12, 0), .inr (0, 48, 0), .inl (5, [0, 0, 0, 17, 18, 19, 20]), .inr (0, 4, 0), .inr (0, 4, 0), .inr (0, 12, 0), .inr (0, 48, 0), .inl (1, [0, 0, 0, 22, 23, 24, 25, 26, 27, 28, 29, 30, 31]), .inr (0, 4, 0), .inr (0, 4, 0), .inr (0, 20736, 0), .inr (0, 5, 0), .inr (0, 48, 0), .inr (0, 3, 0), .inr (0, 16, 0), .inr (0, 16, 0), .inr (0, 16, 0), .inr (0, 16, 0), .inl (1, [0, 0, 0, 2, 2, 2, 2, 2, 2, 2, 2, 2, 2])]
def U58 : List gS := [.inl (8, [4, 6, 11, 16, 21, 2, 2, 2, 2, 2, 2, 2, 2, 2, 0, 0, 1]), .inl (6, [0, 5, 0]), .inr (1, 400, 0), .inl (5, [0, 0, 0, 7, 8, 9, 10]), .inr (0, 4, 0), .inr (0, 4, 0), .inr (0, 12, 0), .inr (0, 48, 0), .inl (5, [0, 0, 0, 12, 13, 14, 15]), .inr (0, 4, 0), .inr (0, 4, 0), .inr (0, 12, 0), .inr (0, 48, 0), .inl (5, [0, 0, 0, 17, 18, 19, 20]), .inr (0, 4, 0), .inr (0, 4, 0), .inr (0, 12, 0), .inr (0, 48, 0), .inl (1, [0, 0, 0, 22, 23, 24, 25, 26, 27, 28, 29, 30, 31]), .inr (0, 4, 0), .inr (0, 4, 0), .inr (0, 20736, 0), .inr (0, 5, 0), .inr (0, 48, 0), .inr (0, 3, 0), .inr (0, 16, 0), .inr (0, 16, 0), .inr (0, 16, 0), .inr (0, 16, 0), .inl (1, [0, 0, 0, 2, 2, 2, 2, 2, 2, 2, 2, 2, 2]), .inr (0, 4, 0)]
def U59 : List gS := [.inl (8, [4, 6, 11, 16, 21, 2, 2, 2, 2, 2, 2, 2, 2, 2, 0, 0, 1]), .inl (6, [0, 5, 0]), .inr (1, 400, 0), .inl (5, [0, 0, 0, 7, 8, 9, 10]), .inr (0, 4, 0), .inr (0, 4, 0), .inr (0, 12, 0), .inr (0, 48, 0), .inl (5, [0, 0, 0, 12, 13, 14, 15]), .inr (0, 4, 0), .inr (0, 4, 0), .inr (0, 12, 0), .inr (0, 48, 0), .inl (5, [0, 0, 0, 17, 18, 19, 20]), .inr (0, 4, 0), .inr (0, 4, 0), .inr (0, 12, 0), .inr (0, 48, 0), .inl (1, [0, 0, 0, 22, 23, 24, 25, 26, 27, 28, 29, 30, 31]), .inr (0, 4, 0), .inr (0, 4, 0), .inr (0, 20736, 0), .inr (0, 5, 0), .inr (0, 48, 0), .inr (0, 3, 0), .inr (0, 16, 0), .inr (0, 16, 0), .inr (0, 16, 0), .inr (0, 16, 0), .inl (1, [0, 0, 0, 33, 2, 2, 2, 2, 2, 2, 2, 2, 2]), .inr (0, 4, 0)]
def U60 : List gS := [.inl (8, [4, 6, 11, 16, 21, 2, 2, 2, 2, 2, 2, 2, 2, 2, 0, 0, 1]), .inl (6, [0, 5, 0]), .inr (1, 400, 0), .inl (5, [0, 0, 0, 7, 8, 9, 10]), .inr (0, 4, 0), .inr (0, 4, 0), .inr (0, 12, 0), .inr (0, 48, 0), .inl (5, [0, 0, 0, 12, 13, 14, 15]), .inr (0, 4, 0), .inr (0, 4, 0), .inr (0, 12, 0), .inr (0, 48, 0), .inl (5, [0, 0, 0, 17, 18, 19, 20]), .inr (0, 4, 0), .inr (0, 4, 0), .inr (0, 12, 0), .inr (0, 48, 0), .inl (1, [0, 0, 0, 22, 23, 24, 25, 26, 27, 28, 29, 30, 31]), .inr (0, 4, 0), .inr (0, 4, 0), .inr (0, 20736, 0), .inr (0, 5, 0), .inr (0, 48, 0), .inr (0, 3, 0), .inr (0, 16, 0), .inr (0, 16, 0), .inr (0, 16, 0), .inr (0, 16, 0), .inl (1, [0, 0, 0, 33, 2, 2, 2, 2, 2, 2, 2, 2, 2]), .inr (0, 4, 0), .inr (0, 4, 0)]
def U61 : List gS := [.inl (8, [4, 6, 11, 16, 21, 2, 2, 2, 2, 2, 2, 2, 2, 2, 0, 0, 1]), .inl (6, [0, 5, 0]), .inr (1, 400, 0), .inl (5, [0, 0, 0, 7, 8, 9, 10]), .inr (0, 4, 0), .inr (0, 4, 0), .inr (0, 12, 0), .inr (0, 48, 0), .inl (5, [0, 0, 0, 12, 13, 14, 15]), .inr (0, 4, 0), .inr (0, 4, 0), .inr (0, 12, 0), .inr (0, 48, 0), .inl (5, [0, 0, 0, 17, 18, 19, 20]), .inr (0, 4, 0), .inr (0, 4, 0), .inr (0, 12, 0), .inr (0, 48, 0), .inl (1, [0, 0, 0, 22, 23, 24, 25, 26, 27, 28, 29, 30, 31]), .inr (0, 4, 0), .inr (0, 4, 0), .inr (0, 20736, 0), .inr (0, 5, 0), .inr (0, 48, 0), .inr (0, 3, 0), .inr (0, 16, 0), .inr (0, 16, 0), .inr (0, 16, 0), .inr (0, 16, 0), .inl (1, [0, 0, 0, 33, 34, 2, 2, 2, 2, 2, 2, 2, 2]), .inr (0, 4, 0), .inr (0, 4, 0)]
def U62 : List gS := [.inl (8, [4, 6, 11, 16, 21, 2, 2, 2, 2, 2, 2, 2, 2, 2, 0, 0, 1]), .inl (6, [0, 5, 0]), .inr (1, 400, 0), .inl (5, [0, 0, 0, 7, 8, 9, 10]), .inr (0, 4, 0), .inr (0, 4, 0), .inr (0, 12, 0), .inr (0, 48, 0), .inl (5, [0, 0, 0, 12, 13, 14, 15]), .inr (0, 4, 0), .inr (0, 4, 0), .inr (0, 12, 0), .inr (0, 48, 0), .inl (5, [0, 0, 0, 17, 18, 19, 20]), .inr (0, 4, 0), .inr (0, 4, 0), .inr (0, 12, 0), .inr (0, 48, 0), .inl (1, [0, 0, 0, 22, 23, 24, 25, 26, 27, 28, 29, 30, 31]), .inr (0, 4, 0), .inr (0, 4, 0), .inr (0, 20736, 0), .inr (0, 5, 0), .inr (0, 48, 0), .inr (0, 3, 0), .inr (0, 16, 0), .inr (0, 16, 0), .inr (0, 16, 0), .inr (0, 16, 0), .inl (1, [0, 0, 0, 33, 34, 2, 2, 2, 2, 2, 2, 2, 2]), .inr (0, 4, 0), .inr (0, 4, 0), .inr (0, 20736, 0)]
def U63 : List gS := [.inl (8, [4, 6, 11, 16, 21, 2, 2, 2, 2, 2, 2, 2, 2, 2, 0, 0, 1]), .inl (6, [0, 5, 0]), .inr (1, 400, 0), .inl (5, [0, 0, 0, 7, 8, 9, 10]), .inr (0, 4, 0), .inr (0, 4, 0), .inr (0, 12, 0), .inr (0, 48, 0), .inl (5, [0, 0, 0, 12, 13, 14, 15]), .inr (0, 4, 0), .inr (0, 4, 0), .inr (0, 12, 0), .inr (0, 48, 0), .inl (5, [0, 0, 0, 17, 18, 19, 20]), .inr (0, 4, 0), .inr (0, 4, 0), .inr (0, 12, 0), .inr (0, 48, 0), .inl (1, [0, 0, 0, 22, 23, 24, 25, 26, 27, 28, 29, 30, 31]), .inr (0, 4, 0), .inr (0, 4, 0), .inr (0, 20736, 0), .inr (0, 5, 0), .inr (0, 48, 0), .inr (0, 3, 0), .inr (0, 16, 0), .inr (0, 16, 0), .inr (0, 16, 0), .inr (0, 16, 0), .inl (1, [0, 0, 0, 33, 34, 35, 2, 2, 2, 2, 2, 2, 2]), .inr (0, 4, 0), .inr (0, 4, 0), .inr (0, 20736, 0)]
def U64 : List gS := [.inl (8, [4, 6, 11, 16, 21, 2, 2, 2, 2, 2, 2, 2, 2, 2, 0, 0, 1]), .inl (6, [0, 5, 0]), .inr (1, 400, 0), .inl (5, [0, 0, 0, 7, 8, 9, 10]), .inr (0, 4, 0), .inr (0, 4, 0), .inr (0, 12, 0), .inr (0, 48, 0), .inl (5, [0, 0, 0, 12, 13, 14, 15]), .inr (0, 4, 0), .inr (0, 4, 0), .inr (0, 12, 0), .inr (0, 48, 0), .inl (5, [0, 0, 0, 17, 18, 19, 20]), .inr (0, 4, 0), .inr (0, 4, 0), .inr (0, 12, 0), .inr (0, 48, 0), .inl (1, [0, 0, 0, 22, 23, 24, 25, 26, 27, 28, 29, 30, 31]), .inr (0, 4, 0), .inr (0, 4, 0), .inr (0, 20736, 0), .inr (0, 5, 0), .inr (0, 48, 0), .inr (0, 3, 0), .inr (0, 16, 0), .inr (0, 16, 0), .inr (0, 16, 0), .inr (0, 16, 0), .inl (1, [0, 0, 0, 33, 34, 35, 2, 2, 2, 2, 2, 2, 2]), .inr (0, 4, 0), .inr (0, 4, 0), .inr (0, 20736, 0), .inr (0, 5, 0)]
def U65 : List gS := [.inl (8, [4, 6, 11, 16, 21, 2, 2, 2, 2, 2, 2, 2, 2, 2, 0, 0, 1]), .inl (6, [0, 5, 0]), .inr (1, 400, 0), .inl (5, [0, 0, 0, 7, 8, 9, 10]), .inr (0, 4, 0), .inr (0, 4, 0), .inr (0, 12, 0), .inr (0, 48, 0), .inl (5, [0, 0, 0, 12, 13, 14, 15]), .inr (0, 4, 0), .inr (0, 4, 0), .inr (0, 12, 0), .inr (0, 48, 0), .inl (5, [0, 0, 0, 17, 18, 19, 20]), .inr (0, 4, 0), .inr (0, 4, 0), .inr (0, 12, 0), .inr (0, 48, 0), .inl (1, [0, 0, 0, 22, 23, 24, 25, 26, 27, 28, 29, 30, 31]), .inr (0, 4, 0), .inr (0, 4, 0), .inr (0, 20736, 0), .inr (0, 5, 0), .inr (0, 48, 0), .inr (0, 3, 0), .inr (0, 16, 0), .inr (0, 16, 0), .inr (0, 16, 0), .inr (0, 16, 0), .inl (1, [0, 0, 0, 33, 34, 35, 36, 2, 2, 2, 2, 2, 2]), .inr (0, 4, 0), .inr (0, 4, 0), .inr (0, 20736, 0), .inr (0, 5, 0)]
def U66 : List gS := [.inl (8, [4, 6, 11, 16, 21, 2, 2, 2, 2, 2, 2, 2, 2, 2, 0, 0, 1]), .inl (6, [0, 5, 0]), .inr (1, 400, 0), .inl (5, [0, 0, 0, 7, 8, 9, 10]), .inr (0, 4, 0), .inr (0, 4, 0), .inr (0, 12, 0), .inr (0, 48, 0), .inl (5, [0, 0, 0, 12, 13, 14, 15]), .inr (0, 4, 0), .inr (0, 4, 0), .inr (0, 12, 0), .inr (0, 48, 0), .inl (5, [0, 0, 0, 17, 18, 19, 20]), .inr (0, 4, 0), .inr (0, 4, 0), .inr (0, 12, 0), .inr (0, 48, 0), .inl (1, [0, 0, 0, 22, 23, 24, 25, 26, 27, 28, 29, 30, 31]), .inr (0, 4, 0), .inr (0, 4, 0), .inr (0, 20736, 0), .inr (0, 5, 0), .inr (0, 48, 0), .inr (0, 3, 0), .inr (0, 16, 0), .inr (0, 16, 0), .inr (0, 16, 0), .inr (0, 16, 0), .inl (1, [0, 0, 0, 33, 34, 35, 36, 2, 2, 2, 2, 2, 2]), .inr (0, 4, 0), .inr (0, 4, 0), .inr (0, 20736, 0), .inr (0, 5, 0), .inr (0, 48, 0)]
def U67 : List gS := [.inl (8, [4, 6, 11, 16, 21, 2, 2, 2, 2, 2, 2, 2, 2, 2, 0, 0, 1]), .inl (6, [0, 5, 0]), .inr (1, 400, 0), .inl (5, [0, 0, 0, 7, 8, 9, 10]), .inr (0, 4, 0), .inr (0, 4, 0), .inr (0, 12, 0), .inr (0, 48, 0), .inl (5, [0, 0, 0, 12, 13, 14, 15]), .inr (0, 4, 0), .inr (0, 4, 0), .inr (0, 12, 0), .inr (0, 48, 0), .inl (5, [0, 0, 0, 17, 18, 19, 20]), .inr (0, 4, 0), .inr (0, 4, 0), .inr (0, 12, 0), .inr (0, 48, 0), .inl (1, [0, 0, 0, 22, 23, 24, 25, 26, 27, 28, 29, 30, 31]), .inr (0, 4, 0), .inr (0, 4, 0), .inr (0, 20736, 0), .inr (0, 5, 0), .inr (0, 48, 0), .inr (0, 3, 0), .inr (0, 16, 0), .inr (0, 16, 0), .inr (0, 16, 0), .inr (0, 16, 0), .inl (1, [0, 0, 0, 33, 34, 35, 36, 37, 2, 2, 2, 2, 2]), .inr (0, 4, 0), .inr (0, 4, 0), .inr (0, 20736, 0), .inr (0, 5, 0), .inr (0, 48, 0)]
def U68 : List gS := [.inl (8, [4, 6, 11, 16, 21, 2, 2, 2, 2, 2, 2, 2, 2, 2, 0, 0, 1]), .inl (6, [0, 5, 0]), .inr (1, 400, 0), .inl (5, [0, 0, 0, 7, 8, 9, 10]), .inr (0, 4, 0), .inr (0, 4, 0), .inr (0, 12, 0), .inr (0, 48, 0), .inl (5, [0, 0, 0, 12, 13, 14, 15]), .inr (0, 4, 0), .inr (0, 4, 0), .inr (0, 12, 0), .inr (0, 48, 0), .inl (5, [0, 0, 0, 17, 18, 19, 20]), .inr (0, 4, 0), .inr (0, 4, 0), .inr (0, 12, 0), .inr (0, 48, 0), .inl (1, [0, 0, 0, 22, 23, 24, 25, 26, 27, 28, 29, 30, 31]), .inr (0, 4, 0), .inr (0, 4, 0), .inr (0, 20736, 0), .inr (0, 5, 0), .inr (0, 48, 0), .inr (0, 3, 0), .inr (0, 16, 0), .inr (0, 16, 0), .inr (0, 16, 0), .inr (0, 16, 0), .inl (1, [0, 0, 0, 33, 34, 35, 36, 37, 2, 2, 2, 2, 2]), .inr (0, 4, 0), .inr (0, 4, 0), .inr (0, 20736, 0), .inr (0, 5, 0), .inr (0, 48, 0), .inr (0, 3, 0)]
def U69 : List gS := [.inl (8, [4, 6, 11, 16, 21, 2, 2, 2, 2, 2, 2, 2, 2, 2, 0, 0, 1]), .inl (6, [0, 5, 0]), .inr (1, 400, 0), .inl (5, [0, 0, 0, 7, 8, 9, 10]), .inr (0, 4, 0), .inr (0, 4, 0), .inr (0, 12, 0), .inr (0, 48, 0), .inl (5, [0, 0, 0, 12, 13, 14, 15]), .inr (0, 4, 0), .inr (0, 4, 0), .inr (0, 12, 0), .inr (0, 48, 0), .inl (5, [0, 0, 0, 17, 18, 19, 20]), .inr (0, 4, 0), .inr (0, 4, 0), .inr (0, 12, 0), .inr (0, 48, 0), .inl (1, [0, 0, 0, 22, 23, 24, 25, 26, 27, 28, 29, 30, 31]), .inr (0, 4, 0), .inr (0, 4, 0), .inr (0, 20736, 0), .inr (0, 5, 0), .inr (0, 48, 0), .inr (0, 3, 0), .inr (0, 16, 0), .inr (0, 16, 0), .inr (0, 16, 0), .inr (0, 16, 0), .inl (1, [0, 0, 0, 33, 34, 35, 36, 37, 38, 2, 2, 2, 2]), .inr (0, 4, 0), .inr (0, 4, 0), .inr (0, 20736, 0), .inr (0, 5, 0), .inr (0, 48, 0), .inr (0, 3, 0)]
def U70 : List gS := [.inl (8, [4, 6, 11, 16, 21, 2, 2, 2, 2, 2, 2, 2, 2, 2, 0, 0, 1]), .inl (6, [0, 5, 0]), .inr (1, 400, 0), .inl (5, [0, 0, 0, 7, 8, 9, 10]), .inr (0, 4, 0), .inr (0, 4, 0), .inr (0, 12, 0), .inr (0, 48, 0), .inl (5, [0, 0, 0, 12, 13, 14, 15]), .inr (0, 4, 0), .inr (0, 4, 0), .inr (0, 12, 0), .inr (0, 48, 0), .inl (5, [0, 0, 0, 17, 18, 19, 20]), .inr (0, 4, 0), .inr (0, 4, 0), .inr (0, 12, 0), .inr (0, 48, 0), .inl (1, [0, 0, 0, 22, 23, 24, 25, 26, 27, 28, 29, 30, 31]), .inr (0, 4, 0), .inr (0, 4, 0), .inr (0, 20736, 0), .inr (0, 5, 0), .inr (0, 48, 0), .inr (0, 3, 0), .inr (0, 16, 0), .inr (0, 16, 0), .inr (0, 16, 0), .inr (0, 16, 0), .inl (1, [0, 0, 0, 33, 34, 35, 36, 37, 38, 2, 2, 2, 2]), .inr (0, 4, 0), .inr (0, 4, 0), .inr (0, 20736, 0), .inr (0, 5, 0), .inr (0, 48, 0), .inr (0, 3, 0), .inr (0, 16, 0)]
def U71 : List gS := [.inl (8, [4, 6, 11, 16, 21, 2, 2, 2, 2, 2, 2, 2, 2, 2, 0, 0, 1]), .inl (6, [0, 5, 0]), .inr (1, 400, 0), .inl (5, [0, 0, 0, 7, 8, 9, 10]), .inr (0, 4, 0), .inr (0, 4, 0), .inr (0, 12, 0), .inr (0, 48, 0), .inl (5, [0, 0, 0, 12, 13, 14, 15]), .inr (0, 4, 0), .inr (0, 4, 0), .inr (0, 12, 0), .inr (0, 48, 0), .inl (5, [0, 0, 0, 17, 18, 19, 20]), .inr (0, 4, 0), .inr (0, 4, 0), .inr (0, 12, 0), .inr (0, 48, 0), .inl (1, [0, 0, 0, 22, 23, 24, 25, 26, 27, 28, 29, 30, 31]), .inr (0, 4, 0), .inr (0, 4, 0), .inr (0, 20736, 0), .inr (0, 5, 0), .inr (0, 48, 0), .inr (0, 3, 0), .inr (0, 16, 0), .inr (0, 16, 0), .inr (0, 16, 0), .inr (0, 16, 0), .inl (1, [0, 0, 0, 33, 34, 35, 36, 37, 38, 39, 2, 2, 2]), .inr (0, 4, 0), .inr (0, 4, 0), .inr (0, 20736, 0), .inr (0, 5, 0), .inr (0, 48, 0), .inr (0, 3, 0), .inr (0, 16, 0)]
def U72 : List gS := [.inl (8, [4, 6, 11, 16, 21, 2, 2, 2, 2, 2, 2, 2, 2, 2, 0, 0, 1]), .inl (6, [0, 5, 0]), .inr (1, 400, 0), .inl (5, [0, 0, 0, 7, 8, 9, 10]), .inr (0, 4, 0), .inr (0, 4, 0), .inr (0, 12, 0), .inr (0, 48, 0), .inl (5, [0, 0, 0, 12, 13, 14, 15]), .inr (0, 4, 0), .inr (0, 4, 0), .inr (0, 12, 0), .inr (0, 48, 0), .inl (5, [0, 0, 0, 17, 18, 19, 20]), .inr (0, 4, 0), .inr (0, 4, 0), .inr (0, 12, 0), .inr (0, 48, 0), .inl (1, [0, 0, 0, 22, 23, 24, 25, 26, 27, 28, 29, 30, 31]), .inr (0, 4, 0), .inr (0, 4, 0), .inr (0, 20736, 0), .inr (0, 5, 0), .inr (0, 48, 0), .inr (0, 3, 0), .inr (0, 16, 0), .inr (0, 16, 0), .inr (0, 16, 0), .inr (0, 16, 0), .inl (1, [0, 0, 0, 33, 34, 35, 36, 37, 38, 39, 2, 2, 2]), .inr (0, 4, 0), .inr (0, 4, 0), .inr (0, 20736, 0), .inr (0, 5, 0), .inr (0, 48, 0), .inr (0, 3, 0), .inr (0, 16, 0), .inr (0, 16, 0)]
def U73 : List gS := [.inl (8, [4, 6, 11, 16, 21, 2, 2, 2, 2, 2, 2, 2, 2, 2, 0, 0, 1]), .inl (6, [0, 5, 0]), .inr (1, 400, 0), .inl (5, [0, 0, 0, 7, 8, 9, 10]), .inr (0, 4, 0), .inr (0, 4, 0), .inr (0, 12, 0), .inr (0, 48, 0), .inl (5, [0, 0, 0, 12, 13, 14, 15]), .inr (0, 4, 0), .inr (0, 4, 0), .inr (0, 12, 0), .inr (0, 48, 0), .inl (5, [0, 0, 0, 17, 18, 19, 20]), .inr (0, 4, 0), .inr (0, 4, 0), .inr (0, 12, 0), .inr (0, 48, 0), .inl (1, [0, 0, 0, 22, 23, 24, 25, 26, 27, 28, 29, 30, 31]), .inr (0, 4, 0), .inr (0, 4, 0), .inr (0, 20736, 0), .inr (0, 5, 0), .inr (0, 48, 0), .inr (0, 3, 0), .inr (0, 16, 0), .inr (0, 16, 0), .inr (0, 16, 0), .inr (0, 16, 0), .inl (1, [0, 0, 0, 33, 34, 35, 36, 37, 38, 39, 40, 2, 2]), .inr (0, 4, 0), .inr (0, 4, 0), .inr (0, 20736, 0), .inr (0, 5, 0), .inr (0, 48, 0), .inr (0, 3, 0), .inr (0, 16, 0), .inr (0, 16, 0)]
def U74 : List gS := [.inl (8, [4, 6, 11, 16, 21, 2, 2, 2, 2, 2, 2, 2, 2, 2, 0, 0, 1]), .inl (6, [0, 5, 0]), .inr (1, 400, 0), .inl (5, [0, 0, 0, 7, 8, 9, 10]), .inr (0, 4, 0), .inr (0, 4, 0), .inr (0, 12, 0), .inr (0, 48, 0), .inl (5, [0, 0, 0, 12, 13, 14, 15]), .inr (0, 4, 0), .inr (0, 4, 0), .inr (0, 12, 0), .inr (0, 48, 0), .inl (5, [0, 0, 0, 17, 18, 19, 20]), .inr (0, 4, 0), .inr (0, 4, 0), .inr (0, 12, 0), .inr (0, 48, 0), .inl (1, [0, 0, 0, 22, 23, 24, 25, 26, 27, 28, 29, 30, 31]), .inr (0, 4, 0), .inr (0, 4, 0), .inr (0, 20736, 0), .inr (0, 5, 0), .inr (0, 48, 0), .inr (0, 3, 0), .inr (0, 16, 0), .inr (0, 16, 0), .inr (0, 16, 0), .inr (0, 16, 0), .inl (1, [0, 0, 0, 33, 34, 35, 36, 37, 38, 39, 40, 2, 2]), .inr (0, 4, 0), .inr (0, 4, 0), .inr (0, 20736, 0), .inr (0, 5, 0), .inr (0, 48, 0), .inr (0, 3, 0), .inr (0, 16, 0), .inr (0, 16, 0), .inr (0, 16, 0)]
def U75 : List gS := [.inl (8, [4, 6, 11, 16, 21, 2, 2, 2, 2, 2, 2, 2, 2, 2, 0, 0, 1]), .inl (6, [0, 5, 0]), .inr (1, 400, 0), .inl (5, [0, 0, 0, 7, 8, 9, 10]), .inr (0, 4, 0), .inr (0, 4, 0), .inr (0, 12, 0), .inr (0, 48, 0), .inl (5, [0, 0, 0, 12, 13, 14, 15]), .inr (0, 4, 0), .inr (0, 4, 0), .inr (0, 12, 0), .inr (0, 48, 0), .inl (5, [0, 0, 0, 17, 18, 19, 20]), .inr (0, 4, 0), .inr (0, 4, 0), .inr (0, 12, 0), .inr (0, 48, 0), .inl (1, [0, 0, 0, 22, 23, 24, 25, 26, 27, 28, 29, 30, 31]), .inr (0, 4, 0), .inr (0, 4, 0), .inr (0, 20736, 0), .inr (0, 5, 0), .inr (0, 48, 0), .inr (0, 3, 0), .inr (0, 16, 0), .inr (0, 16, 0), .inr (0, 16, 0), .inr (0, 16, 0), .inl (1, [0, 0, 0, 33, 34, 35, 36, 37, 38, 39, 40, 41, 2]), .inr (0, 4, 0), .inr (0, 4, 0), .inr (0, 20736, 0), .inr (0, 5, 0), .inr (0, 48, 0), .inr (0, 3, 0), .inr (0, 16, 0), .inr (0, 16, 0), .inr (0, 16, 0)]
def U76 : List gS := [.inl (8, [4, 6, 11, 16, 21, 2, 2, 2, 2, 2, 2, 2, 2, 2, 0, 0, 1]), .inl (6, [0, 5, 0]), .inr (1, 400, 0), .inl (5, [0, 0, 0, 7, 8, 9, 10]), .inr (0, 4, 0), .inr (0, 4, 0), .inr (0, 12, 0), .inr (0, 48, 0), .inl (5, [0, 0, 0, 12, 13, 14, 15]), .inr (0, 4, 0), .inr (0, 4, 0), .inr (0, 12, 0), .inr (0, 48, 0), .inl (5, [0, 0, 0, 17, 18, 19, 20]), .inr (0, 4, 0), .inr (0, 4, 0), .inr (0, 12, 0), .inr (0, 48, 0), .inl (1, [0, 0, 0, 22, 23, 24, 25, 26, 27, 28, 29, 30, 31]), .inr (0, 4, 0), .inr (0, 4, 0), .inr (0, 20736, 0), .inr (0, 5, 0), .inr (0, 48, 0), .inr (0, 3, 0), .inr (0, 16, 0), .inr (0, 16, 0), .inr (0, 16, 0), .inr (0, 16, 0), .inl (1, [0, 0, 0, 33, 34, 35, 36, 37, 38, 39, 40, 41, 2]), .inr (0, 4, 0), .inr (0, 4, 0), .inr (0, 20736, 0), .inr (0, 5, 0), .inr (0, 48, 0), .inr (0, 3, 0), .inr (0, 16, 0), .inr (0, 16, 0), .inr (0, 16, 0), .inr (0, 16, 0)]
def U77 : List gS := [.inl (8, [4, 6, 11, 16, 21, 2, 2, 2, 2, 2, 2, 2, 2, 2, 0, 0, 1]), .inl (6, [0, 5, 0]), .inr (1, 400, 0), .inl (5, [0, 0, 0, 7, 8, 9, 10]), .inr (0, 4, 0), .inr (0, 4, 0), .inr (0, 12, 0), .inr (0, 48, 0), .inl (5, [0, 0, 0, 12, 13, 14, 15]), .inr (0, 4, 0), .inr (0, 4, 0), .inr (0, 12, 0), .inr (0, 48, 0), .inl (5, [0, 0, 0, 17, 18, 19, 20]), .inr (0, 4, 0), .inr (0, 4, 0), .inr (0, 12, 0), .inr (0, 48, 0), .inl (1, [0, 0, 0, 22, 23, 24, 25, 26, 27, 28, 29, 30, 31]), .inr (0, 4, 0), .inr (0, 4, 0), .inr (0, 20736, 0), .inr (0, 5, 0), .inr (0, 48, 0), .inr (0, 3, 0), .inr (0, 16, 0), .inr (0, 16, 0), .inr (0, 16, 0), .inr (0, 16, 0), .inl (1, [0, 0, 0, 33, 34, 35, 36, 37, 38, 39, 40, 41, 42]), .inr (0, 4, 0), .inr (0, 4, 0), .inr (0, 20736, 0), .inr (0, 5, 0), .inr (0, 48, 0), .inr (0, 3, 0), .inr (0, 16, 0), .inr (0, 16, 0), .inr (0, 16, 0), .inr (0, 16, 0)]
def U78 : List gS := [.inl (8, [4, 6, 11, 16, 21, 32, 2, 2, 2, 2, 2, 2, 2, 2, 0, 0, 1]), .inl (6, [0, 5, 0]), .inr (1, 400, 0), .inl (5, [0, 0, 0, 7, 8, 9, 10]), .inr (0, 4, 0), .inr (0, 4, 0), .inr (0, 12, 0), .inr (0, 48, 0), .inl (5, [0, 0, 0, 12, 13, 14, 15]), .inr (0, 4, 0), .inr (0, 4, 0), .inr (0, 12, 0), .inr (0, 48, 0), .inl (5, [0, 0, 0, 17, 18, 19, 20]), .inr (0, 4, 0), .inr (0, 4, 0), .inr (0, 12, 0), .inr (0, 48, 0), .inl (1, [0, 0, 0, 22, 23, 24, 25, 26, 27, 28, 29, 30, 31]), .inr (0, 4, 0), .inr (0, 4, 0), .inr (0, 20736, 0), .inr (0, 5, 0), .inr (0, 48, 0), .inr (0, 3, 0), .inr (0, 16, 0), .inr (0, 16, 0), .inr (0, 16, 0), .inr (0, 16, 0), .inl (1, [0, 0, 0, 33, 34, 35, 36, 37, 38, 39, 40, 41, 42]), .inr (0, 4, 0), .inr (0, 4, 0), .inr (0, 20736, 0), .inr (0, 5, 0), .inr (0, 48, 0), .inr (0, 3, 0), .inr (0, 16, 0), .inr (0, 16, 0), .inr (0, 16, 0), .inr (0, 16, 0)]
def U79 : List gS := [.inl (8, [4, 6, 11, 16, 21, 32, 2, 2, 2, 2, 2, 2, 2, 2, 0, 0, 1]), .inl (6, [0, 5, 0]), .inr (1, 400, 0), .inl (5, [0, 0, 0, 7, 8, 9, 10]), .inr (0, 4, 0), .inr (0, 4, 0), .inr (0, 12, 0), .inr (0, 48, 0), .inl (5, [0, 0, 0, 12, 13, 14, 15]), .inr (0, 4, 0), .inr (0, 4, 0), .inr (0, 12, 0), .inr (0, 48, 0), .inl (5, [0, 0, 0, 17, 18, 19, 20]), .inr (0, 4, 0), .inr (0, 4, 0), .inr (0, 12, 0), .inr (0, 48, 0), .inl (1, [0, 0, 0, 22, 23, 24, 25, 26, 27, 28, 29, 30, 31]), .inr (0, 4, 0), .inr (0, 4, 0), .inr (0, 20736, 0), .inr (0, 5, 0), .inr (0, 48, 0), .inr (0, 3, 0), .inr (0, 16, 0), .inr (0, 16, 0), .inr (0, 16, 0), .inr (0, 16, 0), .inl (1, [0, 0, 0, 33, 34, 35, 36, 37, 38, 39, 40, 41, 42]), .inr (0, 4, 0), .inr (0, 4, 0), .inr (0, 20736, 0), .inr (0, 5, 0), .inr (0, 48, 0), .inr (0, 3, 0), .inr (0, 16, 0), .inr (0, 16, 0), .inr (0, 16, 0), .inr (0, 16, 0), .inl (0, [2, 2])]
def U80 : List gS := [.inl (8, [4, 6, 11, 16, 21, 32, 2, 2, 2, 2, 2, 2, 2, 2, 0, 0, 1]), .inl (6, [0, 5, 0]), .inr (1, 400, 0), .inl (5, [0, 0, 0, 7, 8, 9, 10]), .inr (0, 4, 0), .inr (0, 4, 0), .inr (0, 12, 0), .inr (0, 48, 0), .inl (5, [0, 0, 0, 12, 13, 14, 15]), .inr (0, 4, 0), .inr (0, 4, 0), .inr (0, 12, 0), .inr (0, 48, 0), .inl (5, [0, 0, 0, 17, 18, 19, 20]), .inr (0, 4, 0), .inr (0, 4, 0), .inr (0, 12, 0), .inr (0, 48, 0), .inl (1, [0, 0, 0, 22, 23, 24, 25, 26, 27, 28, 29, 30, 31]), .inr (0, 4, 0), .inr (0, 4, 0), .inr (0, 20736, 0), .inr (0, 5, 0), .inr (0, 48, 0), .inr (0, 3, 0), .inr (0, 16, 0), .inr (0, 16, 0), .inr (0, 16, 0), .inr (0, 16, 0), .inl (1, [0, 0, 0, 33, 34, 35, 36, 37, 38, 39, 40, 41, 42]), .inr (0, 4, 0), .inr (0, 4, 0), .inr (0, 20736, 0), .inr (0, 5, 0), .inr (0, 48, 0), .inr (0, 3, 0), .inr (0, 16, 0), .inr (0, 16, 0), .inr (0, 16, 0), .inr (0, 16, 0), .inl (0, [2, 2]), .inr (0, 100, 0)]
def U81 : List gS := [.inl (8, [4, 6, 11, 16, 21, 32, 2, 2, 2, 2, 2, 2, 2, 2, 0, 0, 1]), .inl (6, [0, 5, 0]), .inr (1, 400, 0), .inl (5, [0, 0, 0, 7, 8, 9, 10]), .inr (0, 4, 0), .inr (0, 4, 0), .inr (0, 12, 0), .inr (0, 48, 0), .inl (5, [0, 0, 0, 12, 13, 14, 15]), .inr (0, 4, 0), .inr (0, 4, 0), .inr (0, 12, 0), .inr (0, 48, 0), .inl (5, [0, 0, 0, 17, 18, 19, 20]), .inr (0, 4, 0), .inr (0, 4, 0), .inr (0, 12, 0), .inr (0, 48, 0), .inl (1, [0, 0, 0, 22, 23, 24, 25, 26, 27, 28, 29, 30, 31]), .inr (0, 4, 0), .inr (0, 4, 0), .inr (0, 20736, 0), .inr (0, 5, 0), .inr (0, 48, 0), .inr (0, 3, 0), .inr (0, 16, 0), .inr (0, 16, 0), .inr (0, 16, 0), .inr (0, 16, 0), .inl (1, [0, 0, 0, 33, 34, 35, 36, 37, 38, 39, 40, 41, 42]), .inr (0, 4, 0), .inr (0, 4, 0), .inr (0, 20736, 0), .inr (0, 5, 0), .inr (0, 48, 0), .inr (0, 3, 0), .inr (0, 16, 0), .inr (0, 16, 0), .inr (0, 16, 0), .inr (0, 16, 0), .inl (0, [44, 2]), .inr (0, 100, 0)]
def U82 : List gS := [.inl (8, [4, 6, 11, 16, 21, 32, 2, 2, 2, 2, 2, 2, 2, 2, 0, 0, 1]), .inl (6, [0, 5, 0]), .inr (1, 400, 0), .inl (5, [0, 0, 0, 7, 8, 9, 10]), .inr (0, 4, 0), .inr (0, 4, 0), .inr (0, 12, 0), .inr (0, 48, 0), .inl (5, [0, 0, 0, 12, 13, 14, 15]), .inr (0, 4, 0), .inr (0, 4, 0), .inr (0, 12, 0), .inr (0, 48, 0), .inl (5, [0, 0, 0, 17, 18, 19, 20]), .inr (0, 4, 0), .inr (0, 4, 0), .inr (0, 12, 0), .inr (0, 48, 0), .inl (1, [0, 0, 0, 22, 23, 24, 25, 26, 27, 28, 29, 30, 31]), .inr (0, 4, 0), .inr (0, 4, 0), .inr (0, 20736, 0), .inr (0, 5, 0), .inr (0, 48, 0), .inr (0, 3, 0), .inr (0, 16, 0), .inr (0, 16, 0), .inr (0, 16, 0), .inr (0, 16, 0), .inl (1, [0, 0, 0, 33, 34, 35, 36, 37, 38, 39, 40, 41, 42]), .inr (0, 4, 0), .inr (0, 4, 0), .inr (0, 20736, 0), .inr (0, 5, 0), .inr (0, 48, 0), .inr (0, 3, 0), .inr (0, 16, 0), .inr (0, 16, 0), .inr (0, 16, 0), .inr (0, 16, 0), .inl (0, [44, 2]), .inr (0, 100, 0), .inr (0, 100, 0)]
def U83 : List gS := [.inl (8, [4, 6, 11, 16, 21, 32, 2, 2, 2, 2, 2, 2, 2, 2, 0, 0, 1]), .inl (6, [0, 5, 0]), .inr (1, 400, 0), .inl (5, [0, 0, 0, 7, 8, 9, 10]), .inr (0, 4, 0), .inr (0, 4, 0), .inr (0, 12, 0), .inr (0, 48, 0), .inl (5, [0, 0, 0, 12, 13, 14, 15]), .inr (0, 4, 0), .inr (0, 4, 0), .inr (0, 12, 0), .inr (0, 48, 0), .inl (5, [0, 0, 0, 17, 18, 19, 20]), .inr (0, 4, 0), .inr (0, 4, 0), .inr (0, 12, 0), .inr (0, 48, 0), .inl (1, [0, 0, 0, 22, 23, 24, 25, 26, 27, 28, 29, 30, 31]), .inr (0, 4, 0), .inr (0, 4, 0), .inr (0, 20736, 0), .inr (0, 5, 0), .inr (0, 48, 0), .inr (0, 3, 0), .inr (0, 16, 0), .inr (0, 16, 0), .inr (0, 16, 0), .inr (0, 16, 0), .inl (1, [0, 0, 0, 33, 34, 35, 36, 37, 38, 39, 40, 41, 42]), .inr (0, 4, 0), .inr (0, 4, 0), .inr (0, 20736, 0), .inr (0, 5, 0), .inr (0, 48, 0), .inr (0, 3, 0), .inr (0, 16, 0), .inr (0, 16, 0), .inr (0, 16, 0), .inr (0, 16, 0), .inl (0, [44, 45]), .inr (0, 100, 0), .inr (0, 100, 0)]
def U84 : List gS := [.inl (8, [4, 6, 11, 16, 21, 32, 43, 2, 2, 2, 2, 2, 2, 2, 0, 0, 1]), .inl (6, [0, 5, 0]), .inr (1, 400, 0), .inl (5, [0, 0, 0, 7, 8, 9, 10]), .inr (0, 4, 0), .inr (0, 4, 0), .inr (0, 12, 0), .inr (0, 48, 0), .inl (5, [0, 0, 0, 12, 13, 14, 15]), .inr (0, 4, 0), .inr (0, 4, 0), .inr (0, 12, 0), .inr (0, 48, 0), .inl (5, [0, 0, 0, 17, 18, 19, 20]), .inr (0, 4, 0), .inr (0, 4, 0), .inr (0, 12, 0), .inr (0, 48, 0), .inl (1, [0, 0, 0, 22, 23, 24, 25, 26, 27, 28, 29, 30, 31]), .inr (0, 4, 0), .inr (0, 4, 0), .inr (0, 20736, 0), .inr (0, 5, 0), .inr (0, 48, 0), .inr (0, 3, 0), .inr (0, 16, 0), .inr (0, 16, 0), .inr (0, 16, 0), .inr (0, 16, 0), .inl (1, [0, 0, 0, 33, 34, 35, 36, 37, 38, 39, 40, 41, 42]), .inr (0, 4, 0), .inr (0, 4, 0), .inr (0, 20736, 0), .inr (0, 5, 0), .inr (0, 48, 0), .inr (0, 3, 0), .inr (0, 16, 0), .inr (0, 16, 0), .inr (0, 16, 0), .inr (0, 16, 0), .inl (0, [44, 45]), .inr (0, 100, 0), .inr (0, 100, 0)]
def U85 : List gS := [.inl (8, [4, 6, 11, 16, 21, 32, 43, 2, 2, 2, 2, 2, 2, 2, 0, 0, 1]), .inl (6, [0, 5, 0]), .inr (1, 400, 0), .inl (5, [0, 0, 0, 7, 8, 9, 10]), .inr (0, 4, 0), .inr (0, 4, 0), .inr (0, 12, 0), .inr (0, 48, 0), .inl (5, [0, 0, 0, 12, 13, 14, 15]), .inr (0, 4, 0), .inr (0, 4, 0), .inr (0, 12, 0), .inr (0, 48, 0), .inl (5, [0, 0, 0, 17, 18, 19, 20]), .inr (0, 4, 0), .inr (0, 4, 0), .inr (0, 12, 0), .inr (0, 48, 0), .inl (1, [0, 0, 0, 22, 23, 24, 25, 26, 27, 28, 29, 30, 31]), .inr (0, 4, 0), .inr (0, 4, 0), .inr (0, 20736, 0), .inr (0, 5, 0), .inr (0, 48, 0), .inr (0, 3, 0), .inr (0, 16, 0), .inr (0, 16, 0), .inr (0, 16, 0), .inr (0, 16, 0), .inl (1, [0, 0, 0, 33, 34, 35, 36, 37, 38, 39, 40, 41, 42]), .inr (0, 4, 0), .inr (0, 4, 0), .inr (0, 20736, 0), .inr (0, 5, 0), .inr (0, 48, 0), .inr (0, 3, 0), .inr (0, 16, 0), .inr (0, 16, 0), .inr (0, 16, 0), .inr (0, 16, 0), .inl (0, [44, 45]), .inr (0, 100, 0), .inr (0, 100, 0), .inl (7, [0, 0, 0, 0])]
def U86 : List gS := [.inl (8, [4, 6, 11, 16, 21, 32, 43, 46, 2, 2, 2, 2, 2, 2, 0, 0, 1]), .inl (6, [0, 5, 0]), .inr (1, 400, 0), .inl (5, [0, 0, 0, 7, 8, 9, 10]), .inr (0, 4, 0), .inr (0, 4, 0), .inr (0, 12, 0), .inr (0, 48, 0), .inl (5, [0, 0, 0, 12, 13, 14, 15]), .inr (0, 4, 0), .inr (0, 4, 0), .inr (0, 12, 0), .inr (0, 48, 0), .inl (5, [0, 0, 0, 17, 18, 19, 20]), .inr (0, 4, 0), .inr (0, 4, 0), .inr (0, 12, 0), .inr (0, 48, 0), .inl (1, [0, 0, 0, 22, 23, 24, 25, 26, 27, 28, 29, 30, 31]), .inr (0, 4, 0), .inr (0, 4, 0), .inr (0, 20736, 0), .inr (0, 5, 0), .inr (0, 48, 0), .inr (0, 3, 0), .inr (0, 16, 0), .inr (0, 16, 0), .inr (0, 16, 0), .inr (0, 16, 0), .inl (1, [0, 0, 0, 33, 34, 35, 36, 37, 38, 39, 40, 41, 42]), .inr (0, 4, 0), .inr (0, 4, 0), .inr (0, 20736, 0), .inr (0, 5, 0), .inr (0, 48, 0), .inr (0, 3, 0), .inr (0, 16, 0), .inr (0, 16, 0), .inr (0, 16, 0), .inr (0, 16, 0), .inl (0, [44, 45]), .inr (0, 100, 0), .inr (0, 100, 0), .inl (7, [0, 0, 0, 0])]
def U87 : List gS := [.inl (8, [4, 6, 11, 16, 21, 32, 43, 46, 2, 2, 2, 2, 2, 2, 0, 0, 1]), .inl (6, [0, 5, 0]), .inr (1, 400, 0), .inl (5, [0, 0, 0, 7, 8, 9, 10]), .inr (0, 4, 0), .inr (0, 4, 0), .inr (0, 12, 0), .inr (0, 48, 0), .inl (5, [0, 0, 0, 12, 13, 14, 15]), .inr (0, 4, 0), .inr (0, 4, 0), .inr (0, 12, 0), .inr (0, 48, 0), .inl (5, [0, 0, 0, 17, 18, 19, 20]), .inr (0, 4, 0), .inr (0, 4, 0), .inr (0, 12, 0), .inr (0, 48, 0), .inl (1, [0, 0, 0, 22, 23, 24, 25, 26, 27, 28, 29, 30, 31]), .inr (0, 4, 0), .inr (0, 4, 0), .inr (0, 20736, 0), .inr (0, 5, 0), .inr (0, 48, 0), .inr (0, 3, 0), .inr (0, 16, 0), .inr (0, 16, 0), .inr (0, 16, 0), .inr (0, 16, 0), .inl (1, [0, 0, 0, 33, 34, 35, 36, 37, 38, 39, 40, 41, 42]), .inr (0, 4, 0), .inr (0, 4, 0), .inr (0, 20736, 0), .inr (0, 5, 0), .inr (0, 48, 0), .inr (0, 3, 0), .inr (0, 16, 0), .inr (0, 16, 0), .inr (0, 16, 0), .inr (0, 16, 0), .inl (0, [44, 45]), .inr (0, 100, 0), .inr (0, 100, 0), .inl (7, [0, 0, 0, 0]), .inl (2, [2, 0, 0])]
def U88 : List gS := [.inl (8, [4, 6, 11, 16, 21, 32, 43, 46, 2, 2, 2, 2, 2, 2, 0, 0, 1]), .inl (6, [0, 5, 0]), .inr (1, 400, 0), .inl (5, [0, 0, 0, 7, 8, 9, 10]), .inr (0, 4, 0), .inr (0, 4, 0), .inr (0, 12, 0), .inr (0, 48, 0), .inl (5, [0, 0, 0, 12, 13, 14, 15]), .inr (0, 4, 0), .inr (0, 4, 0), .inr (0, 12, 0), .inr (0, 48, 0), .inl (5, [0, 0, 0, 17, 18, 19, 20]), .inr (0, 4, 0), .inr (0, 4, 0), .inr (0, 12, 0), .inr (0, 48, 0), .inl (1, [0, 0, 0, 22, 23, 24, 25, 26, 27, 28, 29, 30, 31]), .inr (0, 4, 0), .inr (0, 4, 0), .inr (0, 20736, 0), .inr (0, 5, 0), .inr (0, 48, 0), .inr (0, 3, 0), .inr (0, 16, 0), .inr (0, 16, 0), .inr (0, 16, 0), .inr (0, 16, 0), .inl (1, [0, 0, 0, 33, 34, 35, 36, 37, 38, 39, 40, 41, 42]), .inr (0, 4, 0), .inr (0, 4, 0), .inr (0, 20736, 0), .inr (0, 5, 0), .inr (0, 48, 0), .inr (0, 3, 0), .inr (0, 16, 0), .inr (0, 16, 0), .inr (0, 16, 0), .inr (0, 16, 0), .inl (0, [44, 45]), .inr (0, 100, 0), .inr (0, 100, 0), .inl (7, [0, 0, 0, 0]), .inl (2, [2, 0, 0]), .inr (0, 300, 0)]
def U89 : List gS := [.inl (8, [4, 6, 11, 16, 21, 32, 43, 46, 2, 2, 2, 2, 2, 2, 0, 0, 1]), .inl (6, [0, 5, 0]), .inr (1, 400, 0), .inl (5, [0, 0, 0, 7, 8, 9, 10]), .inr (0, 4, 0), .inr (0, 4, 0), .inr (0, 12, 0), .inr (0, 48, 0), .inl (5, [0, 0, 0, 12, 13, 14, 15]), .inr (0, 4, 0), .inr (0, 4, 0), .inr (0, 12, 0), .inr (0, 48, 0), .inl (5, [0, 0, 0, 17, 18, 19, 20]), .inr (0, 4, 0), .inr (0, 4, 0), .inr (0, 12, 0), .inr (0, 48, 0), .inl (1, [0, 0, 0, 22, 23, 24, 25, 26, 27, 28, 29, 30, 31]), .inr (0, 4, 0), .inr (0, 4, 0), .inr (0, 20736, 0), .inr (0, 5, 0), .inr (0, 48, 0), .inr (0, 3, 0), .inr (0, 16, 0), .inr (0, 16, 0), .inr (0, 16, 0), .inr (0, 16, 0), .inl (1, [0, 0, 0, 33, 34, 35, 36, 37, 38, 39, 40, 41, 42]), .inr (0, 4, 0), .inr (0, 4, 0), .inr (0, 20736, 0), .inr (0, 5, 0), .inr (0, 48, 0), .inr (0, 3, 0), .inr (0, 16, 0), .inr (0, 16, 0), .inr (0, 16, 0), .inr (0, 16, 0), .inl (0, [44, 45]), .inr (0, 100, 0), .inr (0, 100, 0), .inl (7, [0, 0, 0, 0]), .inl (2, [48, 0, 0]), .inr (0, 300, 0)]
def U90 : List gS := [.inl (8, [4, 6, 11, 16, 21, 32, 43, 46, 47, 2, 2, 2, 2, 2, 0, 0, 1]), .inl (6, [0, 5, 0]), .inr (1, 400, 0), .inl (5, [0, 0, 0, 7, 8, 9, 10]), .inr (0, 4, 0), .inr (0, 4, 0), .inr (0, 12, 0), .inr (0, 48, 0), .inl (5, [0, 0, 0, 12, 13, 14, 15]), .inr (0, 4, 0), .inr (0, 4, 0), .inr (0, 12, 0), .inr (0, 48, 0), .inl (5, [0, 0, 0, 17, 18, 19, 20]), .inr (0, 4, 0), .inr (0, 4, 0), .inr (0, 12, 0), .inr (0, 48, 0), .inl (1, [0, 0, 0, 22, 23, 24, 25, 26, 27, 28, 29, 30, 31]), .inr (0, 4, 0), .inr (0, 4, 0), .inr (0, 20736, 0), .inr (0, 5, 0), .inr (0, 48, 0), .inr (0, 3, 0), .inr (0, 16, 0), .inr (0, 16, 0), .inr (0, 16, 0), .inr (0, 16, 0), .inl (1, [0, 0, 0, 33, 34, 35, 36, 37, 38, 39, 40, 41, 42]), .inr (0, 4, 0), .inr (0, 4, 0), .inr (0, 20736, 0), .inr (0, 5, 0), .inr (0, 48, 0), .inr (0, 3, 0), .inr (0, 16, 0), .inr (0, 16, 0), .inr (0, 16, 0), .inr (0, 16, 0), .inl (0, [44, 45]), .inr (0, 100, 0), .inr (0, 100, 0), .inl (7, [0, 0, 0, 0]), .inl (2, [48, 0, 0]), .inr (0, 300, 0)]
def U91 : List gS := [.inl (8, [4, 6, 11, 16, 21, 32, 43, 46, 47, 2, 2, 2, 2, 2, 0, 0, 1]), .inl (6, [0, 5, 0]), .inr (1, 400, 0), .inl (5, [0, 0, 0, 7, 8, 9, 10]), .inr (0, 4, 0), .inr (0, 4, 0), .inr (0, 12, 0), .inr (0, 48, 0), .inl (5, [0, 0, 0, 12, 13, 14, 15]), .inr (0, 4, 0), .inr (0, 4, 0), .inr (0, 12, 0), .inr (0, 48, 0), .inl (5, [0, 0, 0, 17, 18, 19, 20]), .inr (0, 4, 0), .inr (0, 4, 0), .inr (0, 12, 0), .inr (0, 48, 0), .inl (1, [0, 0, 0, 22, 23, 24, 25, 26, 27, 28, 29, 30, 31]), .inr (0, 4, 0), .inr (0, 4, 0), .inr (0, 20736, 0), .inr (0, 5, 0), .inr (0, 48, 0), .inr (0, 3, 0), .inr (0, 16, 0), .inr (0, 16, 0), .inr (0, 16, 0), .inr (0, 16, 0), .inl (1, [0, 0, 0, 33, 34, 35, 36, 37, 38, 39, 40, 41, 42]), .inr (0, 4, 0), .inr (0, 4, 0), .inr (0, 20736, 0), .inr (0, 5, 0), .inr (0, 48, 0), .inr (0, 3, 0), .inr (0, 16, 0), .inr (0, 16, 0), .inr (0, 16, 0), .inr (0, 16, 0), .inl (0, [44, 45]), .inr (0, 100, 0), .inr (0, 100, 0), .inl (7, [0, 0, 0, 0]), .inl (2, [48, 0, 0]), .inr (0, 300, 0), .inl (2, [2, 0, 0])]
def U92 : List gS := [.inl (8, [4, 6, 11, 16, 21, 32, 43, 46, 47, 2, 2, 2, 2, 2, 0, 0, 1]), .inl (6, [0, 5, 0]), .inr (1, 400, 0), .inl (5, [0, 0, 0, 7, 8, 9, 10]), .inr (0, 4, 0), .inr (0, 4, 0), .inr (0, 12, 0), .inr (0, 48, 0), .inl (5, [0, 0, 0, 12, 13, 14, 15]), .inr (0, 4, 0), .inr (0, 4, 0), .inr (0, 12, 0), .inr (0, 48, 0), .inl (5, [0, 0, 0, 17, 18, 19, 20]), .inr (0, 4, 0), .inr (0, 4, 0), .inr (0, 12, 0), .inr (0, 48, 0), .inl (1, [0, 0, 0, 22, 23, 24, 25, 26, 27, 28, 29, 30, 31]), .inr (0, 4, 0), .inr (0, 4, 0), .inr (0, 20736, 0), .inr (0, 5, 0), .inr (0, 48, 0), .inr (0, 3, 0), .inr (0, 16, 0), .inr (0, 16, 0), .inr (0, 16, 0), .inr (0, 16, 0), .inl (1, [0, 0, 0, 33, 34, 35, 36, 37, 38, 39, 40, 41, 42]), .inr (0, 4, 0), .inr (0, 4, 0), .inr (0, 20736, 0), .inr (0, 5, 0), .inr (0, 48, 0), .inr (0, 3, 0), .inr (0, 16, 0), .inr (0, 16, 0), .inr (0, 16, 0), .inr (0, 16, 0), .inl (0, [44, 45]), .inr (0, 100, 0), .inr (0, 100, 0), .inl (7, [0, 0, 0, 0]), .inl (2, [48, 0, 0]), .inr (0, 300, 0), .inl (2, [2, 0, 0]), .inr (0, 300, 0)]
def U93 : List gS := [.inl (8, [4, 6, 11, 16, 21, 32, 43, 46, 47, 2, 2, 2, 2, 2, 0, 0, 1]), .inl (6, [0, 5, 0]), .inr (1, 400, 0), .inl (5, [0, 0, 0, 7, 8, 9, 10]), .inr (0, 4, 0), .inr (0, 4, 0), .inr (0, 12, 0), .inr (0, 48, 0), .inl (5, [0, 0, 0, 12, 13, 14, 15]), .inr (0, 4, 0), .inr (0, 4, 0), .inr (0, 12, 0), .inr (0, 48, 0), .inl (5, [0, 0, 0, 17, 18, 19, 20]), .inr (0, 4, 0), .inr (0, 4, 0), .inr (0, 12, 0), .inr (0, 48, 0), .inl (1, [0, 0, 0, 22, 23, 24, 25, 26, 27, 28, 29, 30, 31]), .inr (0, 4, 0), .inr (0, 4, 0), .inr (0, 20736, 0), .inr (0, 5, 0), .inr (0, 48, 0), .inr (0, 3, 0), .inr (0, 16, 0), .inr (0, 16, 0), .inr (0, 16, 0), .inr (0, 16, 0), .inl (1, [0, 0, 0, 33, 34, 35, 36, 37, 38, 39, 40, 41, 42]), .inr (0, 4, 0), .inr (0, 4, 0), .inr (0, 20736, 0), .inr (0, 5, 0), .inr (0, 48, 0), .inr (0, 3, 0), .inr (0, 16, 0), .inr (0, 16, 0), .inr (0, 16, 0), .inr (0, 16, 0), .inl (0, [44, 45]), .inr (0, 100, 0), .inr (0, 100, 0), .inl (7, [0, 0, 0, 0]), .inl (2, [48, 0, 0]), .inr (0, 300, 0), .inl (2, [50, 0, 0]), .inr (0, 300, 0)]
def U94 : List gS := [.inl (8, [4, 6, 11, 16, 21, 32, 43, 46, 47, 49, 2, 2, 2, 2, 0, 0, 1]), .inl (6, [0, 5, 0]), .inr (1, 400, 0), .inl (5, [0, 0, 0, 7, 8, 9, 10]), .inr (0, 4, 0), .inr (0, 4, 0), .inr (0, 12, 0), .inr (0, 48, 0), .inl (5, [0, 0, 0, 12, 13, 14, 15]), .inr (0, 4, 0), .inr (0, 4, 0), .inr (0, 12, 0), .inr (0, 48, 0), .inl (5, [0, 0, 0, 17, 18, 19, 20]), .inr (0, 4, 0), .inr (0, 4, 0), .inr (0, 12, 0), .inr (0, 48, 0), .inl (1, [0, 0, 0, 22, 23, 24, 25, 26, 27, 28, 29, 30, 31]), .inr (0, 4, 0), .inr (0, 4, 0), .inr (0, 20736, 0), .inr (0, 5, 0), .inr (0, 48, 0), .inr (0, 3, 0), .inr (0, 16, 0), .inr (0, 16, 0), .inr (0, 16, 0), .inr (0, 16, 0), .inl (1, [0, 0, 0, 33, 34, 35, 36, 37, 38, 39, 40, 41, 42]), .inr (0, 4, 0), .inr (0, 4, 0), .inr (0, 20736, 0), .inr (0, 5, 0), .inr (0, 48, 0), .inr (0, 3, 0), .inr (0, 16, 0), .inr (0, 16, 0), .inr (0, 16, 0), .inr (0, 16, 0), .inl (0, [44, 45]), .inr (0, 100, 0), .inr (0, 100, 0), .inl (7, [0, 0, 0, 0]), .inl (2, [48, 0, 0]), .inr (0, 300, 0), .inl (2, [50, 0, 0]), .inr (0, 300, 0)]
def U95 : List gS := [.inl (8, [4, 6, 11, 16, 21, 32, 43, 46, 47, 49, 2, 2, 2, 2, 0, 0, 1]), .inl (6, [0, 5, 0]), .inr (1, 400, 0), .inl (5, [0, 0, 0, 7, 8, 9, 10]), .inr (0, 4, 0), .inr (0, 4, 0), .inr (0, 12, 0), .inr (0, 48, 0), .inl (5, [0, 0, 0, 12, 13, 14, 15]), .inr (0, 4, 0), .inr (0, 4, 0), .inr (0, 12, 0), .inr (0, 48, 0), .inl (5, [0, 0, 0, 17, 18, 19, 20]), .inr (0, 4, 0), .inr (0, 4, 0), .inr (0, 12, 0), .inr (0, 48, 0), .inl (1, [0, 0, 0, 22, 23, 24, 25, 26, 27, 28, 29, 30, 31]), .inr (0, 4, 0), .inr (0, 4, 0), .inr (0, 20736, 0), .inr (0, 5, 0), .inr (0, 48, 0), .inr (0, 3, 0), .inr (0, 16, 0), .inr (0, 16, 0), .inr (0, 16, 0), .inr (0, 16, 0), .inl (1, [0, 0, 0, 33, 34, 35, 36, 37, 38, 39, 40, 41, 42]), .inr (0, 4, 0), .inr (0, 4, 0), .inr (0, 20736, 0), .inr (0, 5, 0), .inr (0, 48, 0), .inr (0, 3, 0), .inr (0, 16, 0), .inr (0, 16, 0), .inr (0, 16, 0), .inr (0, 16, 0), .inl (0, [44, 45]), .inr (0, 100, 0), .inr (0, 100, 0), .inl (7, [0, 0, 0, 0]), .inl (2, [48, 0, 0]), .inr (0, 300, 0), .inl (2, [50, 0, 0]), .inr (0, 300, 0), .inl (3, [0, 2, 0])]
def U96 : List gS := [.inl (8, [4, 6, 11, 16, 21, 32, 43, 46, 47, 49, 2, 2, 2, 2, 0, 0, 1]), .inl (6, [0, 5, 0]), .inr (1, 400, 0), .inl (5, [0, 0, 0, 7, 8, 9, 10]), .inr (0, 4, 0), .inr (0, 4, 0), .inr (0, 12, 0), .inr (0, 48, 0), .inl (5, [0, 0, 0, 12, 13, 14, 15]), .inr (0, 4, 0), .inr (0, 4, 0), .inr (0, 12, 0), .inr (0, 48, 0), .inl (5, [0, 0, 0, 17, 18, 19, 20]), .inr (0, 4, 0), .inr (0, 4, 0), .inr (0, 12, 0), .inr (0, 48, 0), .inl (1, [0, 0, 0, 22, 23, 24, 25, 26, 27, 28, 29, 30, 31]), .inr (0, 4, 0), .inr (0, 4, 0), .inr (0, 20736, 0), .inr (0, 5, 0), .inr (0, 48, 0), .inr (0, 3, 0), .inr (0, 16, 0), .inr (0, 16, 0), .inr (0, 16, 0), .inr (0, 16, 0), .inl (1, [0, 0, 0, 33, 34, 35, 36, 37, 38, 39, 40, 41, 42]), .inr (0, 4, 0), .inr (0, 4, 0), .inr (0, 20736, 0), .inr (0, 5, 0), .inr (0, 48, 0), .inr (0, 3, 0), .inr (0, 16, 0), .inr (0, 16, 0), .inr (0, 16, 0), .inr (0, 16, 0), .inl (0, [44, 45]), .inr (0, 100, 0), .inr (0, 100, 0), .inl (7, [0, 0, 0, 0]), .inl (2, [48, 0, 0]), .inr (0, 300, 0), .inl (2, [50, 0, 0]), .inr (0, 300, 0), .inl (3, [0, 2, 0]), .inr (0, 120, 0)]
def U97 : List gS := [.inl (8, [4, 6, 11, 16, 21, 32, 43, 46, 47, 49, 2, 2, 2, 2, 0, 0, 1]), .inl (6, [0, 5, 0]), .inr (1, 400, 0), .inl (5, [0, 0, 0, 7, 8, 9, 10]), .inr (0, 4, 0), .inr (0, 4, 0), .inr (0, 12, 0), .inr (0, 48, 0), .inl (5, [0, 0, 0, 12, 13, 14, 15]), .inr (0, 4, 0), .inr (0, 4, 0), .inr (0, 12, 0), .inr (0, 48, 0), .inl (5, [0, 0, 0, 17, 18, 19, 20]), .inr (0, 4, 0), .inr (0, 4, 0), .inr (0, 12, 0), .inr (0, 48, 0), .inl (1, [0, 0, 0, 22, 23, 24, 25, 26, 27, 28, 29, 30, 31]), .inr (0, 4, 0), .inr (0, 4, 0), .inr (0, 20736, 0), .inr (0, 5, 0), .inr (0, 48, 0), .inr (0, 3, 0), .inr (0, 16, 0), .inr (0, 16, 0), .inr (0, 16, 0), .inr (0, 16, 0), .inl (1, [0, 0, 0, 33, 34, 35, 36, 37, 38, 39, 40, 41, 42]), .inr (0, 4, 0), .inr (0, 4, 0), .inr (0, 20736, 0), .inr (0, 5, 0), .inr (0, 48, 0), .inr (0, 3, 0), .inr (0, 16, 0), .inr (0, 16, 0), .inr (0, 16, 0), .inr (0, 16, 0), .inl (0, [44, 45]), .inr (0, 100, 0), .inr (0, 100, 0), .inl (7, [0, 0, 0, 0]), .inl (2, [48, 0, 0]), .inr (0, 300, 0), .inl (2, [50, 0, 0]), .inr (0, 300, 0), .inl (3, [0, 52, 0]), .inr (0, 120, 0)]
def U98 : List gS := [.inl (8, [4, 6, 11, 16, 21, 32, 43, 46, 47, 49, 51, 2, 2, 2, 0, 0, 1]), .inl (6, [0, 5, 0]), .inr (1, 400, 0), .inl (5, [0, 0, 0, 7, 8, 9, 10]), .inr (0, 4, 0), .inr (0, 4, 0), .inr (0, 12, 0), .inr (0, 48, 0), .inl (5, [0, 0, 0, 12, 13, 14, 15]), .inr (0, 4, 0), .inr (0, 4, 0), .inr (0, 12, 0), .inr (0, 48, 0), .inl (5, [0, 0, 0, 17, 18, 19, 20]), .inr (0, 4, 0), .inr (0, 4, 0), .inr (0, 12, 0), .inr (0, 48, 0), .inl (1, [0, 0, 0, 22, 23, 24, 25, 26, 27, 28, 29, 30, 31]), .inr (0, 4, 0), .inr (0, 4, 0), .inr (0, 20736, 0), .inr (0, 5, 0), .inr (0, 48, 0), .inr (0, 3, 0), .inr (0, 16, 0), .inr (0, 16, 0), .inr (0, 16, 0), .inr (0, 16, 0), .inl (1, [0, 0, 0, 33, 34, 35, 36, 37, 38, 39, 40, 41, 42]), .inr (0, 4, 0), .inr (0, 4, 0), .inr (0, 20736, 0), .inr (0, 5, 0), .inr (0, 48, 0), .inr (0, 3, 0), .inr (0, 16, 0), .inr (0, 16, 0), .inr (0, 16, 0), .inr (0, 16, 0), .inl (0, [44, 45]), .inr (0, 100, 0), .inr (0, 100, 0), .inl (7, [0, 0, 0, 0]), .inl (2, [48, 0, 0]), .inr (0, 300, 0), .inl (2, [50, 0, 0]), .inr (0, 300, 0), .inl (3, [0, 52, 0]), .inr (0, 120, 0)]
def U99 : List gS := [.inl (8, [4, 6, 11, 16, 21, 32, 43, 46, 47, 49, 51, 2, 2, 2, 0, 0, 1]), .inl (6, [0, 5, 0]), .inr (1, 400, 0), .inl (5, [0, 0, 0, 7, 8, 9, 10]), .inr (0, 4, 0), .inr (0, 4, 0), .inr (0, 12, 0), .inr (0, 48, 0), .inl (5, [0, 0, 0, 12, 13, 14, 15]), .inr (0, 4, 0), .inr (0, 4, 0), .inr (0, 12, 0), .inr (0, 48, 0), .inl (5, [0, 0, 0, 17, 18, 19, 20]), .inr (0, 4, 0), .inr (0, 4, 0), .inr (0, 12, 0), .inr (0, 48, 0), .inl (1, [0, 0, 0, 22, 23, 24, 25, 26, 27, 28, 29, 30, 31]), .inr (0, 4, 0), .inr (0, 4, 0), .inr (0, 20736, 0), .inr (0, 5, 0), .inr (0, 48, 0), .inr (0, 3, 0), .inr (0, 16, 0), .inr (0, 16, 0), .inr (0, 16, 0), .inr (0, 16, 0), .inl (1, [0, 0, 0, 33, 34, 35, 36, 37, 38, 39, 40, 41, 42]), .inr (0, 4, 0), .inr (0, 4, 0), .inr (0, 20736, 0), .inr (0, 5, 0), .inr (0, 48, 0), .inr (0, 3, 0), .inr (0, 16, 0), .inr (0, 16, 0), .inr (0, 16, 0), .inr (0, 16, 0), .inl (0, [44, 45]), .inr (0, 100, 0), .inr (0, 100, 0), .inl (7, [0, 0, 0, 0]), .inl (2, [48, 0, 0]), .inr (0, 300, 0), .inl (2, [50, 0, 0]), .inr (0, 300, 0), .inl (3, [0, 52, 0]), .inr (0, 120, 0), .inr (4, 4, 435)]
def U100 : List gS := [.inl (8, [4, 6, 11, 16, 21, 32, 43, 46, 47, 49, 51, 53, 2, 2, 0, 0, 1]), .inl (6, [0, 5, 0]), .inr (1, 400, 0), .inl (5, [0, 0, 0, 7, 8, 9, 10]), .inr (0, 4, 0), .inr (0, 4, 0), .inr (0, 12, 0), .inr (0, 48, 0), .inl (5, [0, 0, 0, 12, 13, 14, 15]), .inr (0, 4, 0), .inr (0, 4, 0), .inr (0, 12, 0), .inr (0, 48, 0), .inl (5, [0, 0, 0, 17, 18, 19, 20]), .inr (0, 4, 0), .inr (0, 4, 0), .inr (0, 12, 0), .inr (0, 48, 0), .inl (1, [0, 0, 0, 22, 23, 24, 25, 26, 27, 28, 29, 30, 31]), .inr (0, 4, 0), .inr (0, 4, 0), .inr (0, 20736, 0), .inr (0, 5, 0), .inr (0, 48, 0), .inr (0, 3, 0), .inr (0, 16, 0), .inr (0, 16, 0), .inr (0, 16, 0), .inr (0, 16, 0), .inl (1, [0, 0, 0, 33, 34, 35, 36, 37, 38, 39, 40, 41, 42]), .inr (0, 4, 0), .inr (0, 4, 0), .inr (0, 20736, 0), .inr (0, 5, 0), .inr (0, 48, 0), .inr (0, 3, 0), .inr (0, 16, 0), .inr (0, 16, 0), .inr (0, 16, 0), .inr (0, 16, 0), .inl (0, [44, 45]), .inr (0, 100, 0), .inr (0, 100, 0), .inl (7, [0, 0, 0, 0]), .inl (2, [48, 0, 0]), .inr (0, 300, 0), .inl (2, [50, 0, 0]), .inr (0, 300, 0), .inl (3, [0, 52, 0]), .inr (0, 120, 0), .inr (4, 4, 435)]
def U101 : List gS := [.inl (8, [4, 6, 11, 16, 21, 32, 43, 46, 47, 49, 51, 53, 2, 2, 0, 0, 1]), .inl (6, [0, 5, 0]), .inr (1, 400, 0), .inl (5, [0, 0, 0, 7, 8, 9, 10]), .inr (0, 4, 0), .inr (0, 4, 0), .inr (0, 12, 0), .inr (0, 48, 0), .inl (5, [0, 0, 0, 12, 13, 14, 15]), .inr (0, 4, 0), .inr (0, 4, 0), .inr (0, 12, 0), .inr (0, 48, 0), .inl (5, [0, 0, 0, 17, 18, 19, 20]), .inr (0, 4, 0), .inr (0, 4, 0), .inr (0, 12, 0), .inr (0, 48, 0), .inl (1, [0, 0, 0, 22, 23, 24, 25, 26, 27, 28, 29, 30, 31]), .inr (0, 4, 0), .inr (0, 4, 0), .inr (0, 20736, 0), .inr (0, 5, 0), .inr (0, 48, 0), .inr (0, 3, 0), .inr (0, 16, 0), .inr (0, 16, 0), .inr (0, 16, 0), .inr (0, 16, 0), .inl (1, [0, 0, 0, 33, 34, 35, 36, 37, 38, 39, 40, 41, 42]), .inr (0, 4, 0), .inr (0, 4, 0), .inr (0, 20736, 0), .inr (0, 5, 0), .inr (0, 48, 0), .inr (0, 3, 0), .inr (0, 16, 0), .inr (0, 16, 0), .inr (0, 16, 0), .inr (0, 16, 0), .inl (0, [44, 45]), .inr (0, 100, 0), .inr (0, 100, 0), .inl (7, [0, 0, 0, 0]), .inl (2, [48, 0, 0]), .inr (0, 300, 0), .inl (2, [50, 0, 0]), .inr (0, 300, 0), .inl (3, [0, 52, 0]), .inr (0, 120, 0), .inr (4, 4, 435), .inl (4, [0, 2])]
def U102 : List gS := [.inl (8, [4, 6, 11, 16, 21, 32, 43, 46, 47, 49, 51, 53, 2, 2, 0, 0, 1]), .inl (6, [0, 5, 0]), .inr (1, 400, 0), .inl (5, [0, 0, 0, 7, 8, 9, 10]), .inr (0, 4, 0), .inr (0, 4, 0), .inr (0, 12, 0), .inr (0, 48, 0), .inl (5, [0, 0, 0, 12, 13, 14, 15]), .inr (0, 4, 0), .inr (0, 4, 0), .inr (0, 12, 0), .inr (0, 48, 0), .inl (5, [0, 0, 0, 17, 18, 19, 20]), .inr (0, 4, 0), .inr (0, 4, 0), .inr (0, 12, 0), .inr (0, 48, 0), .inl (1, [0, 0, 0, 22, 23, 24, 25, 26, 27, 28, 29, 30, 31]), .inr (0, 4, 0), .inr (0, 4, 0), .inr (0, 20736, 0), .inr (0, 5, 0), .inr (0, 48, 0), .inr (0, 3, 0), .inr (0, 16, 0), .inr (0, 16, 0), .inr (0, 16, 0), .inr (0, 16, 0), .inl (1, [0, 0, 0, 33, 34, 35, 36, 37, 38, 39, 40, 41, 42]), .inr (0, 4, 0), .inr (0, 4, 0), .inr (0, 20736, 0), .inr (0, 5, 0), .inr (0, 48, 0), .inr (0, 3, 0), .inr (0, 16, 0), .inr (0, 16, 0), .inr (0, 16, 0), .inr (0, 16, 0), .inl (0, [44, 45]), .inr (0, 100, 0), .inr (0, 100, 0), .inl (7, [0, 0, 0, 0]), .inl (2, [48, 0, 0]), .inr (0, 300, 0), .inl (2, [50, 0, 0]), .inr (0, 300, 0), .inl (3, [0, 52, 0]), .inr (0, 120, 0), .inr (4, 4, 435), .inl (4, [0, 2]), .inr (0, 60, 0)]
def U103 : List gS := [.inl (8, [4, 6, 11, 16, 21, 32, 43, 46, 47, 49, 51, 53, 2, 2, 0, 0, 1]), .inl (6, [0, 5, 0]), .inr (1, 400, 0), .inl (5, [0, 0, 0, 7, 8, 9, 10]), .inr (0, 4, 0), .inr (0, 4, 0), .inr (0, 12, 0), .inr (0, 48, 0), .inl (5, [0, 0, 0, 12, 13, 14, 15]), .inr (0, 4, 0), .inr (0, 4, 0), .inr (0, 12, 0), .inr (0, 48, 0), .inl (5, [0, 0, 0, 17, 18, 19, 20]), .inr (0, 4, 0), .inr (0, 4, 0), .inr (0, 12, 0), .inr (0, 48, 0), .inl (1, [0, 0, 0, 22, 23, 24, 25, 26, 27, 28, 29, 30, 31]), .inr (0, 4, 0), .inr (0, 4, 0), .inr (0, 20736, 0), .inr (0, 5, 0), .inr (0, 48, 0), .inr (0, 3, 0), .inr (0, 16, 0), .inr (0, 16, 0), .inr (0, 16, 0), .inr (0, 16, 0), .inl (1, [0, 0, 0, 33, 34, 35, 36, 37, 38, 39, 40, 41, 42]), .inr (0, 4, 0), .inr (0, 4, 0), .inr (0, 20736, 0), .inr (0, 5, 0), .inr (0, 48, 0), .inr (0, 3, 0), .inr (0, 16, 0), .inr (0, 16, 0), .inr (0, 16, 0), .inr (0, 16, 0), .inl (0, [44, 45]), .inr (0, 100, 0), .inr (0, 100, 0), .inl (7, [0, 0, 0, 0]), .inl (2, [48, 0, 0]), .inr (0, 300, 0), .inl (2, [50, 0, 0]), .inr (0, 300, 0), .inl (3, [0, 52, 0]), .inr (0, 120, 0), .inr (4, 4, 435), .inl (4, [0, 55]), .inr (0, 60, 0)]
def U104 : List gS := [.inl (8, [4, 6, 11, 16, 21, 32, 43, 46, 47, 49, 51, 53, 54, 2, 0, 0, 1]), .inl (6, [0, 5, 0]), .inr (1, 400, 0), .inl (5, [0, 0, 0, 7, 8, 9, 10]), .inr (0, 4, 0), .inr (0, 4, 0), .inr (0, 12, 0), .inr (0, 48, 0), .inl (5, [0, 0, 0, 12, 13, 14, 15]), .inr (0, 4, 0), .inr (0, 4, 0), .inr (0, 12, 0), .inr (0, 48, 0), .inl (5, [0, 0, 0, 17, 18, 19, 20]), .inr (0, 4, 0), .inr (0, 4, 0), .inr (0, 12, 0), .inr (0, 48, 0), .inl (1, [0, 0, 0, 22, 23, 24, 25, 26, 27, 28, 29, 30, 31]), .inr (0, 4, 0), .inr (0, 4, 0), .inr (0, 20736, 0), .inr (0, 5, 0), .inr (0, 48, 0), .inr (0, 3, 0), .inr (0, 16, 0), .inr (0, 16, 0), .inr (0, 16, 0), .inr (0, 16, 0), .inl (1, [0, 0, 0, 33, 34, 35, 36, 37, 38, 39, 40, 41, 42]), .inr (0, 4, 0), .inr (0, 4, 0), .inr (0, 20736, 0), .inr (0, 5, 0), .inr (0, 48, 0), .inr (0, 3, 0), .inr (0, 16, 0), .inr (0, 16, 0), .inr (0, 16, 0), .inr (0, 16, 0), .inl (0, [44, 45]), .inr (0, 100, 0), .inr (0, 100, 0), .inl (7, [0, 0, 0, 0]), .inl (2, [48, 0, 0]), .inr (0, 300, 0), .inl (2, [50, 0, 0]), .inr (0, 300, 0), .inl (3, [0, 52, 0]), .inr (0, 120, 0), .inr (4, 4, 435), .inl (4, [0, 55]), .inr (0, 60, 0)]
def U105 : List gS := [.inl (8, [4, 6, 11, 16, 21, 32, 43, 46, 47, 49, 51, 53, 54, 2, 0, 0, 1]), .inl (6, [0, 5, 0]), .inr (1, 400, 0), .inl (5, [0, 0, 0, 7, 8, 9, 10]), .inr (0, 4, 0), .inr (0, 4, 0), .inr (0, 12, 0), .inr (0, 48, 0), .inl (5, [0, 0, 0, 12, 13, 14, 15]), .inr (0, 4, 0), .inr (0, 4, 0), .inr (0, 12, 0), .inr (0, 48, 0), .inl (5, [0, 0, 0, 17, 18, 19, 20]), .inr (0, 4, 0), .inr (0, 4, 0), .inr (0, 12, 0), .inr (0, 48, 0), .inl (1, [0, 0, 0, 22, 23, 24, 25, 26, 27, 28, 29, 30, 31]), .inr (0, 4, 0), .inr (0, 4, 0), .inr (0, 20736, 0), .inr (0, 5, 0), .inr (0, 48, 0), .inr (0, 3, 0), .inr (0, 16, 0), .inr (0, 16, 0), .inr (0, 16, 0), .inr (0, 16, 0), .inl (1, [0, 0, 0, 33, 34, 35, 36, 37, 38, 39, 40, 41, 42]), .inr (0, 4, 0), .inr (0, 4, 0), .inr (0, 20736, 0), .inr (0, 5, 0), .inr (0, 48, 0), .inr (0, 3, 0), .inr (0, 16, 0), .inr (0, 16, 0), .inr (0, 16, 0), .inr (0, 16, 0), .inl (0, [44, 45]), .inr (0, 100, 0), .inr (0, 100, 0), .inl (7, [0, 0, 0, 0]), .inl (2, [48, 0, 0]), .inr (0, 300, 0), .inl (2, [50, 0, 0]), .inr (0, 300, 0), .inl (3, [0, 52, 0]), .inr (0, 120, 0), .inr (4, 4, 435), .inl (4, [0, 55]), .inr (0, 60, 0), .inr (0, 4, 0)]
def U106 : List gS := [.inl (8, [4, 6, 11, 16, 21, 32, 43, 46, 47, 49, 51, 53, 54, 56, 0, 0, 1]), .inl (6, [0, 5, 0]), .inr (1, 400, 0), .inl (5, [0, 0, 0, 7, 8, 9, 10]), .inr (0, 4, 0), .inr (0, 4, 0), .inr (0, 12, 0), .inr (0, 48, 0), .inl (5, [0, 0, 0, 12, 13, 14, 15]), .inr (0, 4, 0), .inr (0, 4, 0), .inr (0, 12, 0), .inr (0, 48, 0), .inl (5, [0, 0, 0, 17, 18, 19, 20]), .inr (0, 4, 0), .inr (0, 4, 0), .inr (0, 12, 0), .inr (0, 48, 0), .inl (1, [0, 0, 0, 22, 23, 24, 25, 26, 27, 28, 29, 30, 31]), .inr (0, 4, 0), .inr (0, 4, 0), .inr (0, 20736, 0), .inr (0, 5, 0), .inr (0, 48, 0), .inr (0, 3, 0), .inr (0, 16, 0), .inr (0, 16, 0), .inr (0, 16, 0), .inr (0, 16, 0), .inl (1, [0, 0, 0, 33, 34, 35, 36, 37, 38, 39, 40, 41, 42]), .inr (0, 4, 0), .inr (0, 4, 0), .inr (0, 20736, 0), .inr (0, 5, 0), .inr (0, 48, 0), .inr (0, 3, 0), .inr (0, 16, 0), .inr (0, 16, 0), .inr (0, 16, 0), .inr (0, 16, 0), .inl (0, [44, 45]), .inr (0, 100, 0), .inr (0, 100, 0), .inl (7, [0, 0, 0, 0]), .inl (2, [48, 0, 0]), .inr (0, 300, 0), .inl (2, [50, 0, 0]), .inr (0, 300, 0), .inl (3, [0, 52, 0]), .inr (0, 120, 0), .inr (4, 4, 435), .inl (4, [0, 55]), .inr (0, 60, 0), .inr (0, 4, 0)]
def U107 : List gS := [.inl (8, [4, 6, 11, 16, 21, 32, 43, 46, 47, 49, 51, 53, 54, 56, 0, 0, 1]), .inl (6, [0, 5, 0]), .inr (1, 400, 0), .inl (5, [0, 0, 0, 7, 8, 9, 10]), .inr (0, 4, 0), .inr (0, 4, 0), .inr (0, 12, 0), .inr (0, 48, 0), .inl (5, [0, 0, 0, 12, 13, 14, 15]), .inr (0, 4, 0), .inr (0, 4, 0), .inr (0, 12, 0), .inr (0, 48, 0), .inl (5, [0, 0, 0, 17, 18, 19, 20]), .inr (0, 4, 0), .inr (0, 4, 0), .inr (0, 12, 0), .inr (0, 48, 0), .inl (1, [0, 0, 0, 22, 23, 24, 25, 26, 27, 28, 29, 30, 31]), .inr (0, 4, 0), .inr (0, 4, 0), .inr (0, 20736, 0), .inr (0, 5, 0), .inr (0, 48, 0), .inr (0, 3, 0), .inr (0, 16, 0), .inr (0, 16, 0), .inr (0, 16, 0), .inr (0, 16, 0), .inl (1, [0, 0, 0, 33, 34, 35, 36, 37, 38, 39, 40, 41, 42]), .inr (0, 4, 0), .inr (0, 4, 0), .inr (0, 20736, 0), .inr (0, 5, 0), .inr (0, 48, 0), .inr (0, 3, 0), .inr (0, 16, 0), .inr (0, 16, 0), .inr (0, 16, 0), .inr (0, 16, 0), .inl (0, [44, 45]), .inr (0, 100, 0), .inr (0, 100, 0), .inl (7, [0, 0, 0, 0]), .inl (2, [48, 0, 0]), .inr (0, 300, 0), .inl (2, [50, 0, 0]), .inr (0, 300, 0), .inl (3, [0, 52, 0]), .inr (0, 120, 0), .inr (4, 4, 435), .inl (4, [0, 55]), .inr (0, 60, 0), .inr (0, 4, 0), .inl (4, [0, 2])]
def U108 : List gS := [.inl (8, [4, 6, 11, 16, 21, 32, 43, 46, 47, 49, 51, 53, 54, 56, 0, 0, 1]), .inl (6, [0, 5, 0]), .inr (1, 400, 0), .inl (5, [0, 0, 0, 7, 8, 9, 10]), .inr (0, 4, 0), .inr (0, 4, 0), .inr (0, 12, 0), .inr (0, 48, 0), .inl (5, [0, 0, 0, 12, 13, 14, 15]), .inr (0, 4, 0), .inr (0, 4, 0), .inr (0, 12, 0), .inr (0, 48, 0), .inl (5, [0, 0, 0, 17, 18, 19, 20]), .inr (0, 4, 0), .inr (0, 4, 0), .inr (0, 12, 0), .inr (0, 48, 0), .inl (1, [0, 0, 0, 22, 23, 24, 25, 26, 27, 28, 29, 30, 31]), .inr (0, 4, 0), .inr (0, 4, 0), .inr (0, 20736, 0), .inr (0, 5, 0), .inr (0, 48, 0), .inr (0, 3, 0), .inr (0, 16, 0), .inr (0, 16, 0), .inr (0, 16, 0), .inr (0, 16, 0), .inl (1, [0, 0, 0, 33, 34, 35, 36, 37, 38, 39, 40, 41, 42]), .inr (0, 4, 0), .inr (0, 4, 0), .inr (0, 20736, 0), .inr (0, 5, 0), .inr (0, 48, 0), .inr (0, 3, 0), .inr (0, 16, 0), .inr (0, 16, 0), .inr (0, 16, 0), .inr (0, 16, 0), .inl (0, [44, 45]), .inr (0, 100, 0), .inr (0, 100, 0), .inl (7, [0, 0, 0, 0]), .inl (2, [48, 0, 0]), .inr (0, 300, 0), .inl (2, [50, 0, 0]), .inr (0, 300, 0), .inl (3, [0, 52, 0]), .inr (0, 120, 0), .inr (4, 4, 435), .inl (4, [0, 55]), .inr (0, 60, 0), .inr (0, 4, 0), .inl (4, [0, 2]), .inr (0, 60, 0)]
def U109 : List gS := [.inl (8, [4, 6, 11, 16, 21, 32, 43, 46, 47, 49, 51, 53, 54, 56, 0, 0, 1]), .inl (6, [0, 5, 0]), .inr (1, 400, 0), .inl (5, [0, 0, 0, 7, 8, 9, 10]), .inr (0, 4, 0), .inr (0, 4, 0), .inr (0, 12, 0), .inr (0, 48, 0), .inl (5, [0, 0, 0, 12, 13, 14, 15]), .inr (0, 4, 0), .inr (0, 4, 0), .inr (0, 12, 0), .inr (0, 48, 0), .inl (5, [0, 0, 0, 17, 18, 19, 20]), .inr (0, 4, 0), .inr (0, 4, 0), .inr (0, 12, 0), .inr (0, 48, 0), .inl (1, [0, 0, 0, 22, 23, 24, 25, 26, 27, 28, 29, 30, 31]), .inr (0, 4, 0), .inr (0, 4, 0), .inr (0, 20736, 0), .inr (0, 5, 0), .inr (0, 48, 0), .inr (0, 3, 0), .inr (0, 16, 0), .inr (0, 16, 0), .inr (0, 16, 0), .inr (0, 16, 0), .inl (1, [0, 0, 0, 33, 34, 35, 36, 37, 38, 39, 40, 41, 42]), .inr (0, 4, 0), .inr (0, 4, 0), .inr (0, 20736, 0), .inr (0, 5, 0), .inr (0, 48, 0), .inr (0, 3, 0), .inr (0, 16, 0), .inr (0, 16, 0), .inr (0, 16, 0), .inr (0, 16, 0), .inl (0, [44, 45]), .inr (0, 100, 0), .inr (0, 100, 0), .inl (7, [0, 0, 0, 0]), .inl (2, [48, 0, 0]), .inr (0, 300, 0), .inl (2, [50, 0, 0]), .inr (0, 300, 0), .inl (3, [0, 52, 0]), .inr (0, 120, 0), .inr (4, 4, 435), .inl (4, [0, 55]), .inr (0, 60, 0), .inr (0, 4, 0), .inl (4, [0, 58]), .inr (0, 60, 0)]
def U110 : List gS := [.inl (8, [4, 6, 11, 16, 21, 32, 43, 46, 47, 49, 51, 53, 54, 56, 0, 0, 1]), .inl (6, [0, 5, 0]), .inr (1, 400, 0), .inl (5, [0, 0, 0, 7, 8, 9, 10]), .inr (0, 4, 0), .inr (0, 4, 0), .inr (0, 12, 0), .inr (0, 48, 0), .inl (5, [0, 0, 0, 12, 13, 14, 15]), .inr (0, 4, 0), .inr (0, 4, 0), .inr (0, 12, 0), .inr (0, 48, 0), .inl (5, [0, 0, 0, 17, 18, 19, 20]), .inr (0, 4, 0), .inr (0, 4, 0), .inr (0, 12, 0), .inr (0, 48, 0), .inl (1, [0, 0, 0, 22, 23, 24, 25, 26, 27, 28, 29, 30, 31]), .inr (0, 4, 0), .inr (0, 4, 0), .inr (0, 20736, 0), .inr (0, 5, 0), .inr (0, 48, 0), .inr (0, 3, 0), .inr (0, 16, 0), .inr (0, 16, 0), .inr (0, 16, 0), .inr (0, 16, 0), .inl (1, [0, 0, 0, 33, 34, 35, 36, 37, 38, 39, 40, 41, 42]), .inr (0, 4, 0), .inr (0, 4, 0), .inr (0, 20736, 0), .inr (0, 5, 0), .inr (0, 48, 0), .inr (0, 3, 0), .inr (0, 16, 0), .inr (0, 16, 0), .inr (0, 16, 0), .inr (0, 16, 0), .inl (0, [44, 45]), .inr (0, 100, 0), .inr (0, 100, 0), .inl (7, [0, 0, 0, 0]), .inl (2, [48, 0, 0]), .inr (0, 300, 0), .inl (2, [50, 0, 0]), .inr (0, 300, 0), .inl (3, [0, 52, 0]), .inr (0, 120, 0), .inr (4, 4, 436), .inl (4, [0, 55]), .inr (0, 60, 0), .inr (0, 4, 0), .inl (4, [0, 58]), .inr (0, 60, 0)]
def U111 : List gS := [.inl (8, [4, 6, 11, 16, 21, 32, 43, 46, 47, 49, 51, 53, 54, 56, 0, 0, 1]), .inl (6, [0, 5, 0]), .inr (1, 400, 0), .inl (5, [0, 0, 0, 7, 8, 9, 10]), .inr (0, 4, 0), .inr (0, 4, 0), .inr (0, 12, 0), .inr (0, 48, 0), .inl (5, [0, 0, 0, 12, 13, 14, 15]), .inr (0, 4, 0), .inr (0, 4, 0), .inr (0, 12, 0), .inr (0, 48, 0), .inl (5, [0, 0, 0, 17, 18, 19, 20]), .inr (0, 4, 0), .inr (0, 4, 0), .inr (0, 12, 0), .inr (0, 48, 0), .inl (1, [0, 0, 0, 22, 23, 24, 25, 26, 27, 28, 29, 30, 31]), .inr (0, 4, 0), .inr (0, 4, 0), .inr (0, 20736, 0), .inr (0, 5, 0), .inr (0, 48, 0), .inr (0, 3, 0), .inr (0, 16, 0), .inr (0, 16, 0), .inr (0, 16, 0), .inr (0, 16, 0), .inl (1, [0, 0, 0, 33, 34, 35, 36, 37, 38, 39, 40, 41, 42]), .inr (0, 4, 0), .inr (0, 4, 0), .inr (0, 20736, 0), .inr (0, 5, 0), .inr (0, 48, 0), .inr (0, 3, 0), .inr (0, 16, 0), .inr (0, 16, 0), .inr (0, 16, 0), .inr (0, 16, 0), .inl (0, [44, 45]), .inr (0, 100, 0), .inr (0, 100, 0), .inl (7, [0, 0, 0, 0]), .inl (2, [48, 0, 0]), .inr (0, 300, 0), .inl (2, [50, 0, 0]), .inr (0, 300, 0), .inl (3, [0, 52, 0]), .inr (0, 120, 0), .inr (4, 4, 436), .inl (4, [0, 55]), .inr (0, 60, 0), .inr (0, 4, 0), .inl (4, [0, 58]), .inr (0, 60, 0), .inl (4, [0, 2])]
def U112 : List gS := [.inl (8, [4, 6, 11, 16, 21, 32, 43, 46, 47, 49, 51, 53, 54, 56, 0, 0, 1]), .inl (6, [0, 5, 0]), .inr (1, 400, 0), .inl (5, [0, 0, 0, 7, 8, 9, 10]), .inr (0, 4, 0), .inr (0, 4, 0), .inr (0, 12, 0), .inr (0, 48, 0), .inl (5, [0, 0, 0, 12, 13, 14, 15]), .inr (0, 4, 0), .inr (0, 4, 0), .inr (0, 12, 0), .inr (0, 48, 0), .inl (5, [0, 0, 0, 17, 18, 19, 20]), .inr (0, 4, 0), .inr (0, 4, 0), .inr (0, 12, 0), .inr (0, 48, 0), .inl (1, [0, 0, 0, 22, 23, 24, 25, 26, 27, 28, 29, 30, 31]), .inr (0, 4, 0), .inr (0, 4, 0), .inr (0, 20736, 0), .inr (0, 5, 0), .inr (0, 48, 0), .inr (0, 3, 0), .inr (0, 16, 0), .inr (0, 16, 0), .inr (0, 16, 0), .inr (0, 16, 0), .inl (1, [0, 0, 0, 33, 34, 35, 36, 37, 38, 39, 40, 41, 42]), .inr (0, 4, 0), .inr (0, 4, 0), .inr (0, 20736, 0), .inr (0, 5, 0), .inr (0, 48, 0), .inr (0, 3, 0), .inr (0, 16, 0), .inr (0, 16, 0), .inr (0, 16, 0), .inr (0, 16, 0), .inl (0, [44, 45]), .inr (0, 100, 0), .inr (0, 100, 0), .inl (7, [0, 0, 0, 0]), .inl (2, [48, 0, 0]), .inr (0, 300, 0), .inl (2, [50, 0, 0]), .inr (0, 300, 0), .inl (3, [0, 52, 0]), .inr (0, 120, 0), .inr (4, 4, 436), .inl (4, [0, 55]), .inr (0, 60, 0), .inr (0, 4, 0), .inl (4, [0, 58]), .inr (0, 60, 0), .inl (4, [0, 2]), .inr (0, 60, 0)]
def U113 : List gS := [.inl (8, [4, 6, 11, 16, 21, 32, 43, 46, 47, 49, 51, 53, 54, 56, 0, 0, 1]), .inl (6, [0, 5, 0]), .inr (1, 400, 0), .inl (5, [0, 0, 0, 7, 8, 9, 10]), .inr (0, 4, 0), .inr (0, 4, 0), .inr (0, 12, 0), .inr (0, 48, 0), .inl (5, [0, 0, 0, 12, 13, 14, 15]), .inr (0, 4, 0), .inr (0, 4, 0), .inr (0, 12, 0), .inr (0, 48, 0), .inl (5, [0, 0, 0, 17, 18, 19, 20]), .inr (0, 4, 0), .inr (0, 4, 0), .inr (0, 12, 0), .inr (0, 48, 0), .inl (1, [0, 0, 0, 22, 23, 24, 25, 26, 27, 28, 29, 30, 31]), .inr (0, 4, 0), .inr (0, 4, 0), .inr (0, 20736, 0), .inr (0, 5, 0), .inr (0, 48, 0), .inr (0, 3, 0), .inr (0, 16, 0), .inr (0, 16, 0), .inr (0, 16, 0), .inr (0, 16, 0), .inl (1, [0, 0, 0, 33, 34, 35, 36, 37, 38, 39, 40, 41, 42]), .inr (0, 4, 0), .inr (0, 4, 0), .inr (0, 20736, 0), .inr (0, 5, 0), .inr (0, 48, 0), .inr (0, 3, 0), .inr (0, 16, 0), .inr (0, 16, 0), .inr (0, 16, 0), .inr (0, 16, 0), .inl (0, [44, 45]), .inr (0, 100, 0), .inr (0, 100, 0), .inl (7, [0, 0, 0, 0]), .inl (2, [48, 0, 0]), .inr (0, 300, 0), .inl (2, [50, 0, 0]), .inr (0, 300, 0), .inl (3, [0, 52, 0]), .inr (0, 120, 0), .inr (4, 4, 436), .inl (4, [0, 55]), .inr (0, 60, 0), .inr (0, 4, 0), .inl (4, [0, 58]), .inr (0, 60, 0), .inl (4, [0, 60]), .inr (0, 60, 0)]
def U114 : List gS := [.inl (8, [4, 6, 11, 16, 21, 32, 43, 46, 47, 49, 51, 53, 54, 56, 0, 0, 1]), .inl (6, [0, 5, 0]), .inr (1, 400, 0), .inl (5, [0, 0, 0, 7, 8, 9, 10]), .inr (0, 4, 0), .inr (0, 4, 0), .inr (0, 12, 0), .inr (0, 48, 0), .inl (5, [0, 0, 0, 12, 13, 14, 15]), .inr (0, 4, 0), .inr (0, 4, 0), .inr (0, 12, 0), .inr (0, 48, 0), .inl (5, [0, 0, 0, 17, 18, 19, 20]), .inr (0, 4, 0), .inr (0, 4, 0), .inr (0, 12, 0), .inr (0, 48, 0), .inl (1, [0, 0, 0, 22, 23, 24, 25, 26, 27, 28, 29, 30, 31]), .inr (0, 4, 0), .inr (0, 4, 0), .inr (0, 20736, 0), .inr (0, 5, 0), .inr (0, 48, 0), .inr (0, 3, 0), .inr (0, 16, 0), .inr (0, 16, 0), .inr (0, 16, 0), .inr (0, 16, 0), .inl (1, [0, 0, 0, 33, 34, 35, 36, 37, 38, 39, 40, 41, 42]), .inr (0, 4, 0), .inr (0, 4, 0), .inr (0, 20736, 0), .inr (0, 5, 0), .inr (0, 48, 0), .inr (0, 3, 0), .inr (0, 16, 0), .inr (0, 16, 0), .inr (0, 16, 0), .inr (0, 16, 0), .inl (0, [44, 45]), .inr (0, 100, 0), .inr (0, 100, 0), .inl (7, [0, 0, 0, 0]), .inl (2, [48, 0, 0]), .inr (0, 300, 0), .inl (2, [50, 0, 0]), .inr (0, 300, 0), .inl (3, [0, 52, 0]), .inr (0, 120, 0), .inr (4, 4, 437), .inl (4, [0, 55]), .inr (0, 60, 0), .inr (0, 4, 0), .inl (4, [0, 58]), .inr (0, 60, 0), .inl (4, [0, 60]), .inr (0, 60, 0)]
def U115 : List gS := [.inl (8, [4, 6, 11, 16, 21, 32, 43, 46, 47, 49, 51, 53, 54, 56, 0, 0, 1]), .inl (6, [0, 5, 0]), .inr (1, 400, 0), .inl (5, [0, 0, 0, 7, 8, 9, 10]), .inr (0, 4, 0), .inr (0, 4, 0), .inr (0, 12, 0), .inr (0, 48, 0), .inl (5, [0, 0, 0, 12, 13, 14, 15]), .inr (0, 4, 0), .inr (0, 4, 0), .inr (0, 12, 0), .inr (0, 48, 0), .inl (5, [0, 0, 0, 17, 18, 19, 20]), .inr (0, 4, 0), .inr (0, 4, 0), .inr (0, 12, 0), .inr (0, 48, 0), .inl (1, [0, 0, 0, 22, 23, 24, 25, 26, 27, 28, 29, 30, 31]), .inr (0, 4, 0), .inr (0, 4, 0), .inr (0, 20736, 0), .inr (0, 5, 0), .inr (0, 48, 0), .inr (0, 3, 0), .inr (0, 16, 0), .inr (0, 16, 0), .inr (0, 16, 0), .inr (0, 16, 0), .inl (1, [0, 0, 0, 33, 34, 35, 36, 37, 38, 39, 40, 41, 42]), .inr (0, 4, 0), .inr (0, 4, 0), .inr (0, 20736, 0), .inr (0, 5, 0), .inr (0, 48, 0), .inr (0, 3, 0), .inr (0, 16, 0), .inr (0, 16, 0), .inr (0, 16, 0), .inr (0, 16, 0), .inl (0, [44, 45]), .inr (0, 100, 0), .inr (0, 100, 0), .inl (7, [0, 0, 0, 0]), .inl (2, [48, 0, 0]), .inr (0, 300, 0), .inl (2, [50, 0, 0]), .inr (0, 300, 0), .inl (3, [0, 52, 0]), .inr (0, 120, 0), .inr (4, 4, 437), .inl (4, [0, 55]), .inr (0, 60, 0), .inr (0, 4, 0), .inl (4, [0, 58]), .inr (0, 60, 0), .inl (4, [0, 60]), .inr (0, 60, 0), .inl (4, [0, 2])]
def U116 : List gS := [.inl (8, [4, 6, 11, 16, 21, 32, 43, 46, 47, 49, 51, 53, 54, 56, 0, 0, 1]), .inl (6, [0, 5, 0]), .inr (1, 400, 0), .inl (5, [0, 0, 0, 7, 8, 9, 10]), .inr (0, 4, 0), .inr (0, 4, 0), .inr (0, 12, 0), .inr (0, 48, 0), .inl (5, [0, 0, 0, 12, 13, 14, 15]), .inr (0, 4, 0), .inr (0, 4, 0), .inr (0, 12, 0), .inr (0, 48, 0), .inl (5, [0, 0, 0, 17, 18, 19, 20]), .inr (0, 4, 0), .inr (0, 4, 0), .inr (0, 12, 0), .inr (0, 48, 0), .inl (1, [0, 0, 0, 22, 23, 24, 25, 26, 27, 28, 29, 30, 31]), .inr (0, 4, 0), .inr (0, 4, 0), .inr (0, 20736, 0), .inr (0, 5, 0), .inr (0, 48, 0), .inr (0, 3, 0), .inr (0, 16, 0), .inr (0, 16, 0), .inr (0, 16, 0), .inr (0, 16, 0), .inl (1, [0, 0, 0, 33, 34, 35, 36, 37, 38, 39, 40, 41, 42]), .inr (0, 4, 0), .inr (0, 4, 0), .inr (0, 20736, 0), .inr (0, 5, 0), .inr (0, 48, 0), .inr (0, 3, 0), .inr (0, 16, 0), .inr (0, 16, 0), .inr (0, 16, 0), .inr (0, 16, 0), .inl (0, [44, 45]), .inr (0, 100, 0), .inr (0, 100, 0), .inl (7, [0, 0, 0, 0]), .inl (2, [48, 0, 0]), .inr (0, 300, 0), .inl (2, [50, 0, 0]), .inr (0, 300, 0), .inl (3, [0, 52, 0]), .inr (0, 120, 0), .inr (4, 4, 437), .inl (4, [0, 55]), .inr (0, 60, 0), .inr (0, 4, 0), .inl (4, [0, 58]), .inr (0, 60, 0), .inl (4, [0, 60]), .inr (0, 60, 0), .inl (4, [0, 2]), .inr (0, 60, 0)]
def U117 : List gS := [.inl (8, [4, 6, 11, 16, 21, 32, 43, 46, 47, 49, 51, 53, 54, 56, 0, 0, 1]), .inl (6, [0, 5, 0]), .inr (1, 400, 0), .inl (5, [0, 0, 0, 7, 8, 9, 10]), .inr (0, 4, 0), .inr (0, 4, 0), .inr (0, 12, 0), .inr (0, 48, 0), .inl (5, [0, 0, 0, 12, 13, 14, 15]), .inr (0, 4, 0), .inr (0, 4, 0), .inr (0, 12, 0), .inr (0, 48, 0), .inl (5, [0, 0, 0, 17, 18, 19, 20]), .inr (0, 4, 0), .inr (0, 4, 0), .inr (0, 12, 0), .inr (0, 48, 0), .inl (1, [0, 0, 0, 22, 23, 24, 25, 26, 27, 28, 29, 30, 31]), .inr (0, 4, 0), .inr (0, 4, 0), .inr (0, 20736, 0), .inr (0, 5, 0), .inr (0, 48, 0), .inr (0, 3, 0), .inr (0, 16, 0), .inr (0, 16, 0), .inr (0, 16, 0), .inr (0, 16, 0), .inl (1, [0, 0, 0, 33, 34, 35, 36, 37, 38, 39, 40, 41, 42]), .inr (0, 4, 0), .inr (0, 4, 0), .inr (0, 20736, 0), .inr (0, 5, 0), .inr (0, 48, 0), .inr (0, 3, 0), .inr (0, 16, 0), .inr (0, 16, 0), .inr (0, 16, 0), .inr (0, 16, 0), .inl (0, [44, 45]), .inr (0, 100, 0), .inr (0, 100, 0), .inl (7, [0, 0, 0, 0]), .inl (2, [48, 0, 0]), .inr (0, 300, 0), .inl (2, [50, 0, 0]), .inr (0, 300, 0), .inl (3, [0, 52, 0]), .inr (0, 120, 0), .inr (4, 4, 437), .inl (4, [0, 55]), .inr (0, 60, 0), .inr (0, 4, 0), .inl (4, [0, 58]), .inr (0, 60, 0), .inl (4, [0, 60]), .inr (0, 60, 0), .inl (4, [0, 62]), .inr (0, 60, 0)]
def U118 : List gS := [.inl (8, [4, 6, 11, 16, 21, 32, 43, 46, 47, 49, 51, 53, 54, 56, 0, 0, 1]), .inl (6, [0, 5, 0]), .inr (1, 400, 0), .inl (5, [0, 0, 0, 7, 8, 9, 10]), .inr (0, 4, 0), .inr (0, 4, 0), .inr (0, 12, 0), .inr (0, 48, 0), .inl (5, [0, 0, 0, 12, 13, 14, 15]), .inr (0, 4, 0), .inr (0, 4, 0), .inr (0, 12, 0), .inr (0, 48, 0), .inl (5, [0, 0, 0, 17, 18, 19, 20]), .inr (0, 4, 0), .inr (0, 4, 0), .inr (0, 12, 0), .inr (0, 48, 0), .inl (1, [0, 0, 0, 22, 23, 24, 25, 26, 27, 28, 29, 30, 31]), .inr (0, 4, 0), .inr (0, 4, 0), .inr (0, 20736, 0), .inr (0, 5, 0), .inr (0, 48, 0), .inr (0, 3, 0), .inr (0, 16, 0), .inr (0, 16, 0), .inr (0, 16, 0), .inr (0, 16, 0), .inl (1, [0, 0, 0, 33, 34, 35, 36, 37, 38, 39, 40, 41, 42]), .inr (0, 4, 0), .inr (0, 4, 0), .inr (0, 20736, 0), .inr (0, 5, 0), .inr (0, 48, 0), .inr (0, 3, 0), .inr (0, 16, 0), .inr (0, 16, 0), .inr (0, 16, 0), .inr (0, 16, 0), .inl (0, [44, 45]), .inr (0, 100, 0), .inr (0, 100, 0), .inl (7, [0, 0, 0, 0]), .inl (2, [48, 0, 0]), .inr (0, 300, 0), .inl (2, [50, 0, 0]), .inr (0, 300, 0), .inl (3, [0, 52, 0]), .inr (0, 120, 0), .inr (4, 4, 438), .inl (4, [0, 55]), .inr (0, 60, 0), .inr (0, 4, 0), .inl (4, [0, 58]), .inr (0, 60, 0), .inl (4, [0, 60]), .inr (0, 60, 0), .inl (4, [0, 62]), .inr (0, 60, 0)]
def U119 : List gS := [.inl (8, [4, 6, 11, 16, 21, 32, 43, 46, 47, 49, 51, 53, 54, 56, 0, 0, 1]), .inl (6, [0, 5, 0]), .inr (1, 400, 0), .inl (5, [0, 0, 0, 7, 8, 9, 10]), .inr (0, 4, 0), .inr (0, 4, 0), .inr (0, 12, 0), .inr (0, 48, 0), .inl (5, [0, 0, 0, 12, 13, 14, 15]), .inr (0, 4, 0), .inr (0, 4, 0), .inr (0, 12, 0), .inr (0, 48, 0), .inl (5, [0, 0, 0, 17, 18, 19, 20]), .inr (0, 4, 0), .inr (0, 4, 0), .inr (0, 12, 0), .inr (0, 48, 0), .inl (1, [0, 0, 0, 22, 23, 24, 25, 26, 27, 28, 29, 30, 31]), .inr (0, 4, 0), .inr (0, 4, 0), .inr (0, 20736, 0), .inr (0, 5, 0), .inr (0, 48, 0), .inr (0, 3, 0), .inr (0, 16, 0), .inr (0, 16, 0), .inr (0, 16, 0), .inr (0, 16, 0), .inl (1, [0, 0, 0, 33, 34, 35, 36, 37, 38, 39, 40, 41, 42]), .inr (0, 4, 0), .inr (0, 4, 0), .inr (0, 20736, 0), .inr (0, 5, 0), .inr (0, 48, 0), .inr (0, 3, 0), .inr (0, 16, 0), .inr (0, 16, 0), .inr (0, 16, 0), .inr (0, 16, 0), .inl (0, [44, 45]), .inr (0, 100, 0), .inr (0, 100, 0), .inl (7, [0, 0, 0, 0]), .inl (2, [48, 0, 0]), .inr (0, 300, 0), .inl (2, [50, 0, 0]), .inr (0, 300, 0), .inl (3, [0, 52, 0]), .inr (0, 120, 0), .inr (4, 4, 438), .inl (4, [0, 55]), .inr (0, 60, 0), .inr (0, 4, 0), .inl (4, [0, 58]), .inr (0, 60, 0), .inl (4, [0, 60]), .inr (0, 60, 0), .inl (4, [0, 62]), .inr (0, 60, 0), .inl (4, [0, 2])]
def U120 : List gS := [.inl (8, [4, 6, 11, 16, 21, 32, 43, 46, 47, 49, 51, 53, 54, 56, 0, 0, 1]), .inl (6, [0, 5, 0]), .inr (1, 400, 0), .inl (5, [0, 0, 0, 7, 8, 9, 10]), .inr (0, 4, 0), .inr (0, 4, 0), .inr (0, 12, 0), .inr (0, 48, 0), .inl (5, [0, 0, 0, 12, 13, 14, 15]), .inr (0, 4, 0), .inr (0, 4, 0), .inr (0, 12, 0), .inr (0, 48, 0), .inl (5, [0, 0, 0, 17, 18, 19, 20]), .inr (0, 4, 0), .inr (0, 4, 0), .inr (0, 12, 0), .inr (0, 48, 0), .inl (1, [0, 0, 0, 22, 23, 24, 25, 26, 27, 28, 29, 30, 31]), .inr (0, 4, 0), .inr (0, 4, 0), .inr (0, 20736, 0), .inr (0, 5, 0), .inr (0, 48, 0), .inr (0, 3, 0), .inr (0, 16, 0), .inr (0, 16, 0), .inr (0, 16, 0), .inr (0, 16, 0), .inl (1, [0, 0, 0, 33, 34, 35, 36, 37, 38, 39, 40, 41, 42]), .inr (0, 4, 0), .inr (0, 4, 0), .inr (0, 20736, 0), .inr (0, 5, 0), .inr (0, 48, 0), .inr (0, 3, 0), .inr (0, 16, 0), .inr (0, 16, 0), .inr (0, 16, 0), .inr (0, 16, 0), .inl (0, [44, 45]), .inr (0, 100, 0), .inr (0, 100, 0), .inl (7, [0, 0, 0, 0]), .inl (2, [48, 0, 0]), .inr (0, 300, 0), .inl (2, [50, 0, 0]), .inr (0, 300, 0), .inl (3, [0, 52, 0]), .inr (0, 120, 0), .inr (4, 4, 438), .inl (4, [0, 55]), .inr (0, 60, 0), .inr (0, 4, 0), .inl (4, [0, 58]), .inr (0, 60, 0), .inl (4, [0, 60]), .inr (0, 60, 0), .inl (4, [0, 62]), .inr (0, 60, 0), .inl (4, [0, 2]), .inr (0, 60, 0)]
def U121 : List gS := [.inl (8, [4, 6, 11, 16, 21, 32, 43, 46, 47, 49, 51, 53, 54, 56, 0, 0, 1]), .inl (6, [0, 5, 0]), .inr (1, 400, 0), .inl (5, [0, 0, 0, 7, 8, 9, 10]), .inr (0, 4, 0), .inr (0, 4, 0), .inr (0, 12, 0), .inr (0, 48, 0), .inl (5, [0, 0, 0, 12, 13, 14, 15]), .inr (0, 4, 0), .inr (0, 4, 0), .inr (0, 12, 0), .inr (0, 48, 0), .inl (5, [0, 0, 0, 17, 18, 19, 20]), .inr (0, 4, 0), .inr (0, 4, 0), .inr (0, 12, 0), .inr (0, 48, 0), .inl (1, [0, 0, 0, 22, 23, 24, 25, 26, 27, 28, 29, 30, 31]), .inr (0, 4, 0), .inr (0, 4, 0), .inr (0, 20736, 0), .inr (0, 5, 0), .inr (0, 48, 0), .inr (0, 3, 0), .inr (0, 16, 0), .inr (0, 16, 0), .inr (0, 16, 0), .inr (0, 16, 0), .inl (1, [0, 0, 0, 33, 34, 35, 36, 37, 38, 39, 40, 41, 42]), .inr (0, 4, 0), .inr (0, 4, 0), .inr (0, 20736, 0), .inr (0, 5, 0), .inr (0, 48, 0), .inr (0, 3, 0), .inr (0, 16, 0), .inr (0, 16, 0), .inr (0, 16, 0), .inr (0, 16, 0), .inl (0, [44, 45]), .inr (0, 100, 0), .inr (0, 100, 0), .inl (7, [0, 0, 0, 0]), .inl (2, [48, 0, 0]), .inr (0, 300, 0), .inl (2, [50, 0, 0]), .inr (0, 300, 0), .inl (3, [0, 52, 0]), .inr (0, 120, 0), .inr (4, 4, 438), .inl (4, [0, 55]), .inr (0, 60, 0), .inr (0, 4, 0), .inl (4, [0, 58]), .inr (0, 60, 0), .inl (4, [0, 60]), .inr (0, 60, 0), .inl (4, [0, 62]), .inr (0, 60, 0), .inl (4, [0, 64]), .inr (0, 60, 0)]
def U122 : List gS := [.inl (8, [4, 6, 11, 16, 21, 32, 43, 46, 47, 49, 51, 53, 54, 56, 0, 0, 1]), .inl (6, [0, 5, 0]), .inr (1, 400, 0), .inl (5, [0, 0, 0, 7, 8, 9, 10]), .inr (0, 4, 0), .inr (0, 4, 0), .inr (0, 12, 0), .inr (0, 48, 0), .inl (5, [0, 0, 0, 12, 13, 14, 15]), .inr (0, 4, 0), .inr (0, 4, 0), .inr (0, 12, 0), .inr (0, 48, 0), .inl (5, [0, 0, 0, 17, 18, 19, 20]), .inr (0, 4, 0), .inr (0, 4, 0), .inr (0, 12, 0), .inr (0, 48, 0), .inl (1, [0, 0, 0, 22, 23, 24, 25, 26, 27, 28, 29, 30, 31]), .inr (0, 4, 0), .inr (0, 4, 0), .inr (0, 20736, 0), .inr (0, 5, 0), .inr (0, 48, 0), .inr (0, 3, 0), .inr (0, 16, 0), .inr (0, 16, 0), .inr (0, 16, 0), .inr (0, 16, 0), .inl (1, [0, 0, 0, 33, 34, 35, 36, 37, 38, 39, 40, 41, 42]), .inr (0, 4, 0), .inr (0, 4, 0), .inr (0, 20736, 0), .inr (0, 5, 0), .inr (0, 48, 0), .inr (0, 3, 0), .inr (0, 16, 0), .inr (0, 16, 0), .inr (0, 16, 0), .inr (0, 16, 0), .inl (0, [44, 45]), .inr (0, 100, 0), .inr (0, 100, 0), .inl (7, [0, 0, 0, 0]), .inl (2, [48, 0, 0]), .inr (0, 300, 0), .inl (2, [50, 0, 0]), .inr (0, 300, 0), .inl (3, [0, 52, 0]), .inr (0, 120, 0), .inr (4, 4, 439), .inl (4, [0, 55]), .inr (0, 60, 0), .inr (0, 4, 0), .inl (4, [0, 58]), .inr (0, 60, 0), .inl (4, [0, 60]), .inr (0, 60, 0), .inl (4, [0, 62]), .inr (0, 60, 0), .inl (4, [0, 64]), .inr (0, 60, 0)]
def U123 : List gS := [.inl (8, [4, 6, 11, 16, 21, 32, 43, 46, 47, 49, 51, 53, 54, 56, 0, 0, 1]), .inl (6, [0, 5, 0]), .inr (1, 400, 0), .inl (5, [0, 0, 0, 7, 8, 9, 10]), .inr (0, 4, 0), .inr (0, 4, 0), .inr (0, 12, 0), .inr (0, 48, 0), .inl (5, [0, 0, 0, 12, 13, 14, 15]), .inr (0, 4, 0), .inr (0, 4, 0), .inr (0, 12, 0), .inr (0, 48, 0), .inl (5, [0, 0, 0, 17, 18, 19, 20]), .inr (0, 4, 0), .inr (0, 4, 0), .inr (0, 12, 0), .inr (0, 48, 0), .inl (1, [0, 0, 0, 22, 23, 24, 25, 26, 27, 28, 29, 30, 31]), .inr (0, 4, 0), .inr (0, 4, 0), .inr (0, 20736, 0), .inr (0, 5, 0), .inr (0, 48, 0), .inr (0, 3, 0), .inr (0, 16, 0), .inr (0, 16, 0), .inr (0, 16, 0), .inr (0, 16, 0), .inl (1, [0, 0, 0, 33, 34, 35, 36, 37, 38, 39, 40, 41, 42]), .inr (0, 4, 0), .inr (0, 4, 0), .inr (0, 20736, 0), .inr (0, 5, 0), .inr (0, 48, 0), .inr (0, 3, 0), .inr (0, 16, 0), .inr (0, 16, 0), .inr (0, 16, 0), .inr (0, 16, 0), .inl (0, [44, 45]), .inr (0, 100, 0), .inr (0, 100, 0), .inl (7, [0, 0, 0, 0]), .inl (2, [48, 0, 0]), .inr (0, 300, 0), .inl (2, [50, 0, 0]), .inr (0, 300, 0), .inl (3, [0, 52, 0]), .inr (0, 120, 0), .inr (4, 4, 439), .inl (4, [0, 55]), .inr (0, 60, 0), .inr (0, 4, 0), .inl (4, [0, 58]), .inr (0, 60, 0), .inl (4, [0, 60]), .inr (0, 60, 0), .inl (4, [0, 62]), .inr (0, 60, 0), .inl (4, [0, 64]), .inr (0, 60, 0), .inl (9, [0, 2, 0, 0, 0, 2, 2, 2, 2, 0, 2, 2, 0, 2, 2, 2, 2, 0, 2, 0, 2, 2, 2, 2, 2, 2, 0, 0, 2, 0, 1, 0, 0, 0, 2, 2, 2, 2, 2, 2, 2, 2, 0])]
def U124 : List gS := [.inl (8, [4, 6, 11, 16, 21, 32, 43, 46, 47, 49, 51, 53, 54, 56, 0, 0, 1]), .inl (6, [0, 5, 0]), .inr (1, 400, 0), .inl (5, [0, 0, 0, 7, 8, 9, 10]), .inr (0, 4, 0), .inr (0, 4, 0), .inr (0, 12, 0), .inr (0, 48, 0), .inl (5, [0, 0, 0, 12, 13, 14, 15]), .inr (0, 4, 0), .inr (0, 4, 0), .inr (0, 12, 0), .inr (0, 48, 0), .inl (5, [0, 0, 0, 17, 18, 19, 20]), .inr (0, 4, 0), .inr (0, 4, 0), .inr (0, 12, 0), .inr (0, 48, 0), .inl (1, [0, 0, 0, 22, 23, 24, 25, 26, 27, 28, 29, 30, 31]), .inr (0, 4, 0), .inr (0, 4, 0), .inr (0, 20736, 0), .inr (0, 5, 0), .inr (0, 48, 0), .inr (0, 3, 0), .inr (0, 16, 0), .inr (0, 16, 0), .inr (0, 16, 0), .inr (0, 16, 0), .inl (1, [0, 0, 0, 33, 34, 35, 36, 37, 38, 39, 40, 41, 42]), .inr (0, 4, 0), .inr (0, 4, 0), .inr (0, 20736, 0), .inr (0, 5, 0), .inr (0, 48, 0), .inr (0, 3, 0), .inr (0, 16, 0), .inr (0, 16, 0), .inr (0, 16, 0), .inr (0, 16, 0), .inl (0, [44, 45]), .inr (0, 100, 0), .inr (0, 100, 0), .inl (7, [0, 0, 0, 0]), .inl (2, [48, 0, 0]), .inr (0, 300, 0), .inl (2, [50, 0, 0]), .inr (0, 300, 0), .inl (3, [0, 52, 0]), .inr (0, 120, 0), .inr (4, 4, 439), .inl (4, [0, 55]), .inr (0, 60, 0), .inr (0, 4, 0), .inl (4, [0, 58]), .inr (0, 60, 0), .inl (4, [0, 60]), .inr (0, 60, 0), .inl (4, [0, 62]), .inr (0, 60, 0), .inl (4, [0, 64]), .inr (0, 60, 0), .inl (9, [0, 2, 0, 0, 0, 2, 2, 2, 2, 0, 2, 2, 0, 2, 2, 2, 2, 0, 2, 0, 2, 2, 2, 2, 2, 2, 0, 0, 2, 0, 1, 0, 0, 0, 2, 2, 2, 2, 2, 2, 2, 2, 0]), .inr (0, 400, 0)]
def U125 : List gS := [.inl (8, [4, 6, 11, 16, 21, 32, 43, 46, 47, 49, 51, 53, 54, 56, 0, 0, 1]), .inl (6, [0, 5, 0]), .inr (1, 400, 0), .inl (5, [0, 0, 0, 7, 8, 9, 10]), .inr (0, 4, 0), .inr (0, 4, 0), .inr (0, 12, 0), .inr (0, 48, 0), .inl (5, [0, 0, 0, 12, 13, 14, 15]), .inr (0, 4, 0), .inr (0, 4, 0), .inr (0, 12, 0), .inr (0, 48, 0), .inl (5, [0, 0, 0, 17, 18, 19, 20]), .inr (0, 4, 0), .inr (0, 4, 0), .inr (0, 12, 0), .inr (0, 48, 0), .inl (1, [0, 0, 0, 22, 23, 24, 25, 26, 27, 28, 29, 30, 31]), .inr (0, 4, 0), .inr (0, 4, 0), .inr (0, 20736, 0), .inr (0, 5, 0), .inr (0, 48, 0), .inr (0, 3, 0), .inr (0, 16, 0), .inr (0, 16, 0), .inr (0, 16, 0), .inr (0, 16, 0), .inl (1, [0, 0, 0, 33, 34, 35, 36, 37, 38, 39, 40, 41, 42]), .inr (0, 4, 0), .inr (0, 4, 0), .inr (0, 20736, 0), .inr (0, 5, 0), .inr (0, 48, 0), .inr (0, 3, 0), .inr (0, 16, 0), .inr (0, 16, 0), .inr (0, 16, 0), .inr (0, 16, 0), .inl (0, [44, 45]), .inr (0, 100, 0), .inr (0, 100, 0), .inl (7, [0, 0, 0, 0]), .inl (2, [48, 0, 0]), .inr (0, 300, 0), .inl (2, [50, 0, 0]), .inr (0, 300, 0), .inl (3, [0, 52, 0]), .inr (0, 120, 0), .inr (4, 4, 439), .inl (4, [0, 55]), .inr (0, 60, 0), .inr (0, 4, 0), .inl (4, [0, 58]), .inr (0, 60, 0), .inl (4, [0, 60]), .inr (0, 60, 0), .inl (4, [0, 62]), .inr (0, 60, 0), .inl (4, [0, 64]), .inr (0, 60, 0), .inl (9, [0, 66, 0, 0, 0, 2, 2, 2, 2, 0, 2, 2, 0, 2, 2, 2, 2, 0, 2, 0, 2, 2, 2, 2, 2, 2, 0, 0, 2, 0, 1, 0, 0, 0, 2, 2, 2, 2, 2, 2, 2, 2, 0]), .inr (0, 400, 0)]
def U126 : List gS := [.inl (8, [4, 6, 11, 16, 21, 32, 43, 46, 47, 49, 51, 53, 54, 56, 0, 0, 1]), .inl (6, [0, 5, 0]), .inr (1, 400, 0), .inl (5, [0, 0, 0, 7, 8, 9, 10]), .inr (0, 4, 0), .inr (0, 4, 0), .inr (0, 12, 0), .inr (0, 48, 0), .inl (5, [0, 0, 0, 12, 13, 14, 15]), .inr (0, 4, 0), .inr (0, 4, 0), .inr (0, 12, 0), .inr (0, 48, 0), .inl (5, [0, 0, 0, 17, 18, 19, 20]), .inr (0, 4, 0), .inr (0, 4, 0), .inr (0, 12, 0), .inr (0, 48, 0), .inl (1, [0, 0, 0, 22, 23, 24, 25, 26, 27, 28, 29, 30, 31]), .inr (0, 4, 0), .inr (0, 4, 0), .inr (0, 20736, 0), .inr (0, 5, 0), .inr (0, 48, 0), .inr (0, 3, 0), .inr (0, 16, 0), .inr (0, 16, 0), .inr (0, 16, 0), .inr (0, 16, 0), .inl (1, [0, 0, 0, 33, 34, 35, 36, 37, 38, 39, 40, 41, 42]), .inr (0, 4, 0), .inr (0, 4, 0), .inr (0, 20736, 0), .inr (0, 5, 0), .inr (0, 48, 0), .inr (0, 3, 0), .inr (0, 16, 0), .inr (0, 16, 0), .inr (0, 16, 0), .inr (0, 16, 0), .inl (0, [44, 45]), .inr (0, 100, 0), .inr (0, 100, 0), .inl (7, [0, 0, 0, 0]), .inl (2, [48, 0, 0]), .inr (0, 300, 0), .inl (2, [50, 0, 0]), .inr (0, 300, 0), .inl (3, [0, 52, 0]), .inr (0, 120, 0), .inr (4, 4, 439), .inl (4, [0, 55]), .inr (0, 60, 0), .inr (0, 4, 0), .inl (4, [0, 58]), .inr (0, 60, 0), .inl (4, [0, 60]), .inr (0, 60, 0), .inl (4, [0, 62]), .inr (0, 60, 0), .inl (4, [0, 64]), .inr (0, 60, 0), .inl (9, [0, 66, 0, 0, 0, 2, 2, 2, 2, 0, 2, 2, 0, 2, 2, 2, 2, 0, 2, 0, 2, 2, 2, 2, 2, 2, 0, 0, 2, 0, 1, 0, 0, 0, 2, 2, 2, 2, 2, 2, 2, 2, 0]), .inr (0, 400, 0), .inr (0, 4, 0)]
def U127 : List gS := [.inl (8, [4, 6, 11, 16, 21, 32, 43, 46, 47, 49, 51, 53, 54, 56, 0, 0, 1]), .inl (6, [0, 5, 0]), .inr (1, 400, 0), .inl (5, [0, 0, 0, 7, 8, 9, 10]), .inr (0, 4, 0), .inr (0, 4, 0), .inr (0, 12, 0), .inr (0, 48, 0), .inl (5, [0, 0, 0, 12, 13, 14, 15]), .inr (0, 4, 0), .inr (0, 4, 0), .inr (0, 12, 0), .inr (0, 48, 0), .inl (5, [0, 0, 0, 17, 18, 19, 20]), .inr (0, 4, 0), .inr (0, 4, 0), .inr (0, 12, 0), .inr (0, 48, 0), .inl (1, [0, 0, 0, 22, 23, 24, 25, 26, 27, 28, 29, 30, 31]), .inr (0, 4, 0), .inr (0, 4, 0), .inr (0, 20736, 0), .inr (0, 5, 0), .inr (0, 48, 0), .inr (0, 3, 0), .inr (0, 16, 0), .inr (0, 16, 0), .inr (0, 16, 0), .inr (0, 16, 0), .inl (1, [0, 0, 0, 33, 34, 35, 36, 37, 38, 39, 40, 41, 42]), .inr (0, 4, 0), .inr (0, 4, 0), .inr (0, 20736, 0), .inr (0, 5, 0), .inr (0, 48, 0), .inr (0, 3, 0), .inr (0, 16, 0), .inr (0, 16, 0), .inr (0, 16, 0), .inr (0, 16, 0), .inl (0, [44, 45]), .inr (0, 100, 0), .inr (0, 100, 0), .inl (7, [0, 0, 0, 0]), .inl (2, [48, 0, 0]), .inr (0, 300, 0), .inl (2, [50, 0, 0]), .inr (0, 300, 0), .inl (3, [0, 52, 0]), .inr (0, 120, 0), .inr (4, 4, 439), .inl (4, [0, 55]), .inr (0, 60, 0), .inr (0, 4, 0), .inl (4, [0, 58]), .inr (0, 60, 0), .inl (4, [0, 60]), .inr (0, 60, 0), .inl (4, [0, 62]), .inr (0, 60, 0), .inl (4, [0, 64]), .inr (0, 60, 0), .inl (9, [0, 66, 0, 0, 0, 67, 2, 2, 2, 0, 2, 2, 0, 2, 2, 2, 2, 0, 2, 0, 2, 2, 2, 2, 2, 2, 0, 0, 2, 0, 1, 0, 0, 0, 2, 2, 2, 2, 2, 2, 2, 2, 0]), .inr (0, 400, 0), .inr (0, 4, 0)]
def U128 : List gS := [.inl (8, [4, 6, 11, 16, 21, 32, 43, 46, 47, 49, 51, 53, 54, 56, 0, 0, 1]), .inl (6, [0, 5, 0]), .inr (1, 400, 0), .inl (5, [0, 0, 0, 7, 8, 9, 10]), .inr (0, 4, 0), .inr (0, 4, 0), .inr (0, 12, 0), .inr (0, 48, 0), .inl (5, [0, 0, 0, 12, 13, 14, 15]), .inr (0, 4, 0), .inr (0, 4, 0), .inr (0, 12, 0), .inr (0, 48, 0), .inl (5, [0, 0, 0, 17, 18, 19, 20]), .inr (0, 4, 0), .inr (0, 4, 0), .inr (0, 12, 0), .inr (0, 48, 0), .inl (1, [0, 0, 0, 22, 23, 24, 25, 26, 27, 28, 29, 30, 31]), .inr (0, 4, 0), .inr (0, 4, 0), .inr (0, 20736, 0), .inr (0, 5, 0), .inr (0, 48, 0), .inr (0, 3, 0), .inr (0, 16, 0), .inr (0, 16, 0), .inr (0, 16, 0), .inr (0, 16, 0), .inl (1, [0, 0, 0, 33, 34, 35, 36, 37, 38, 39, 40, 41, 42]), .inr (0, 4, 0), .inr (0, 4, 0), .inr (0, 20736, 0), .inr (0, 5, 0), .inr (0, 48, 0), .inr (0, 3, 0), .inr (0, 16, 0), .inr (0, 16, 0), .inr (0, 16, 0), .inr (0, 16, 0), .inl (0, [44, 45]), .inr (0, 100, 0), .inr (0, 100, 0), .inl (7, [0, 0, 0, 0]), .inl (2, [48, 0, 0]), .inr (0, 300, 0), .inl (2, [50, 0, 0]), .inr (0, 300, 0), .inl (3, [0, 52, 0]), .inr (0, 120, 0), .inr (4, 4, 439), .inl (4, [0, 55]), .inr (0, 60, 0), .inr (0, 4, 0), .inl (4, [0, 58]), .inr (0, 60, 0), .inl (4, [0, 60]), .inr (0, 60, 0), .inl (4, [0, 62]), .inr (0, 60, 0), .inl (4, [0, 64]), .inr (0, 60, 0), .inl (9, [0, 66, 0, 0, 0, 67, 2, 2, 2, 0, 2, 2, 0, 2, 2, 2, 2, 0, 2, 0, 2, 2, 2, 2, 2, 2, 0, 0, 2, 0, 1, 0, 0, 0, 2, 2, 2, 2, 2, 2, 2, 2, 0]), .inr (0, 400, 0), .inr (0, 4, 0), .inr (0, 12, 0)]
def U129 : List gS := [.inl (8, [4, 6, 11, 16, 21, 32, 43, 46, 47, 49, 51, 53, 54, 56, 0, 0, 1]), .inl (6, [0, 5, 0]), .inr (1, 400, 0), .inl (5, [0, 0, 0, 7, 8, 9, 10]), .inr (0, 4, 0), .inr (0, 4, 0), .inr (0, 12, 0), .inr (0, 48, 0), .inl (5, [0, 0, 0, 12, 13, 14, 15]), .inr (0, 4, 0), .inr (0, 4, 0), .inr (0, 12, 0), .inr (0, 48, 0), .inl (5, [0, 0, 0, 17, 18, 19, 20]), .inr (0, 4, 0), .inr (0, 4, 0), .inr (0, 12, 0), .inr (0, 48, 0), .inl (1, [0, 0, 0, 22, 23, 24, 25, 26, 27, 28, 29, 30, 31]), .inr (0, 4, 0), .inr (0, 4, 0), .inr (0, 20736, 0), .inr (0, 5, 0), .inr (0, 48, 0), .inr (0, 3, 0), .inr (0, 16, 0), .inr (0, 16, 0), .inr (0, 16, 0), .inr (0, 16, 0), .inl (1, [0, 0, 0, 33, 34, 35, 36, 37, 38, 39, 40, 41, 42]), .inr (0, 4, 0), .inr (0, 4, 0), .inr (0, 20736, 0), .inr (0, 5, 0), .inr (0, 48, 0), .inr (0, 3, 0), .inr (0, 16, 0), .inr (0, 16, 0), .inr (0, 16, 0), .inr (0, 16, 0), .inl (0, [44, 45]), .inr (0, 100, 0), .inr (0, 100, 0), .inl (7, [0, 0, 0, 0]), .inl (2, [48, 0, 0]), .inr (0, 300, 0), .inl (2, [50, 0, 0]), .inr (0, 300, 0), .inl (3, [0, 52, 0]), .inr (0, 120, 0), .inr (4, 4, 439), .inl (4, [0, 55]), .inr (0, 60, 0), .inr (0, 4, 0), .inl (4, [0, 58]), .inr (0, 60, 0), .inl (4, [0, 60]), .inr (0, 60, 0), .inl (4, [0, 62]), .inr (0, 60, 0), .inl (4, [0, 64]), .inr (0, 60, 0), .inl (9, [0, 66, 0, 0, 0, 67, 68, 2, 2, 0, 2, 2, 0, 2, 2, 2, 2, 0, 2, 0, 2, 2, 2, 2, 2, 2, 0, 0, 2, 0, 1, 0, 0, 0, 2, 2, 2, 2, 2, 2, 2, 2, 0]), .inr (0, 400, 0), .inr (0, 4, 0), .inr (0, 12, 0)]
def U130 : List gS := [.inl (8, [4, 6, 11, 16, 21, 32, 43, 46, 47, 49, 51, 53, 54, 56, 0, 0, 1]), .inl (6, [0, 5, 0]), .inr (1, 400, 0), .inl (5, [0, 0, 0, 7, 8, 9, 10]), .inr (0, 4, 0), .inr (0, 4, 0), .inr (0, 12, 0), .inr (0, 48, 0), .inl (5, [0, 0, 0, 12, 13, 14, 15]), .inr (0, 4, 0), .inr (0, 4, 0), .inr (0, 12, 0), .inr (0, 48, 0), .inl (5, [0, 0, 0, 17, 18, 19, 20]), .inr (0, 4, 0), .inr (0, 4, 0), .inr (0, 12, 0), .inr (0, 48, 0), .inl (1, [0, 0, 0, 22, 23, 24, 25, 26, 27, 28, 29, 30, 31]), .inr (0, 4, 0), .inr (0, 4, 0), .inr (0, 20736, 0), .inr (0, 5, 0), .inr (0, 48, 0), .inr (0, 3, 0), .inr (0, 16, 0), .inr (0, 16, 0), .inr (0, 16, 0), .inr (0, 16, 0), .inl (1, [0, 0, 0, 33, 34, 35, 36, 37, 38, 39, 40, 41, 42]), .inr (0, 4, 0), .inr (0, 4, 0), .inr (0, 20736, 0), .inr (0, 5, 0), .inr (0, 48, 0), .inr (0, 3, 0), .inr (0, 16, 0), .inr (0, 16, 0), .inr (0, 16, 0), .inr (0, 16, 0), .inl (0, [44, 45]), .inr (0, 100, 0), .inr (0, 100, 0), .inl (7, [0, 0, 0, 0]), .inl (2, [48, 0, 0]), .inr (0, 300, 0), .inl (2, [50, 0, 0]), .inr (0, 300, 0), .inl (3, [0, 52, 0]), .inr (0, 120, 0), .inr (4, 4, 439), .inl (4, [0, 55]), .inr (0, 60, 0), .inr (0, 4, 0), .inl (4, [0, 58]), .inr (0, 60, 0), .inl (4, [0, 60]), .inr (0, 60, 0), .inl (4, [0, 62]), .inr (0, 60, 0), .inl (4, [0, 64]), .inr (0, 60, 0), .inl (9, [0, 66, 0, 0, 0, 67, 68, 2, 2, 0, 2, 2, 0, 2, 2, 2, 2, 0, 2, 0, 2, 2, 2, 2, 2, 2, 0, 0, 2, 0, 1, 0, 0, 0, 2, 2, 2, 2, 2, 2, 2, 2, 0]), .inr (0, 400, 0), .inr (0, 4, 0), .inr (0, 12, 0), .inr (0, 4, 0)]
def U131 : List gS := [.inl (8, [4, 6, 11, 16, 21, 32, 43, 46, 47, 49, 51, 53, 54, 56, 0, 0, 1]), .inl (6, [0, 5, 0]), .inr (1, 400, 0), .inl (5, [0, 0, 0, 7, 8, 9, 10]), .inr (0, 4, 0), .inr (0, 4, 0), .inr (0, 12, 0), .inr (0, 48, 0), .inl (5, [0, 0, 0, 12, 13, 14, 15]), .inr (0, 4, 0), .inr (0, 4, 0), .inr (0, 12, 0), .inr (0, 48, 0), .inl (5, [0, 0, 0, 17, 18, 19, 20]), .inr (0, 4, 0), .inr (0, 4, 0), .inr (0, 12, 0), .inr (0, 48, 0), .inl (1, [0, 0, 0, 22, 23, 24, 25, 26, 27, 28, 29, 30, 31]), .inr (0, 4, 0), .inr (0, 4, 0), .inr (0, 20736, 0), .inr (0, 5, 0), .inr (0, 48, 0), .inr (0, 3, 0), .inr (0, 16, 0), .inr (0, 16, 0), .inr (0, 16, 0), .inr (0, 16, 0), .inl (1, [0, 0, 0, 33, 34, 35, 36, 37, 38, 39, 40, 41, 42]), .inr (0, 4, 0), .inr (0, 4, 0), .inr (0, 20736, 0), .inr (0, 5, 0), .inr (0, 48, 0), .inr (0, 3, 0), .inr (0, 16, 0), .inr (0, 16, 0), .inr (0, 16, 0), .inr (0, 16, 0), .inl (0, [44, 45]), .inr (0, 100, 0), .inr (0, 100, 0), .inl (7, [0, 0, 0, 0]), .inl (2, [48, 0, 0]), .inr (0, 300, 0), .inl (2, [50, 0, 0]), .inr (0, 300, 0), .inl (3, [0, 52, 0]), .inr (0, 120, 0), .inr (4, 4, 439), .inl (4, [0, 55]), .inr (0, 60, 0), .inr (0, 4, 0), .inl (4, [0, 58]), .inr (0, 60, 0), .inl (4, [0, 60]), .inr (0, 60, 0), .inl (4, [0, 62]), .inr (0, 60, 0), .inl (4, [0, 64]), .inr (0, 60, 0), .inl (9, [0, 66, 0, 0, 0, 67, 68, 69, 2, 0, 2, 2, 0, 2, 2, 2, 2, 0, 2, 0, 2, 2, 2, 2, 2, 2, 0, 0, 2, 0, 1, 0, 0, 0, 2, 2, 2, 2, 2, 2, 2, 2, 0]), .inr (0, 400, 0), .inr (0, 4, 0), .inr (0, 12, 0), .inr (0, 4, 0)]
def U132 : List gS := [.inl (8, [4, 6, 11, 16, 21, 32, 43, 46, 47, 49, 51, 53, 54, 56, 0, 0, 1]), .inl (6, [0, 5, 0]), .inr (1, 400, 0), .inl (5, [0, 0, 0, 7, 8, 9, 10]), .inr (0, 4, 0), .inr (0, 4, 0), .inr (0, 12, 0), .inr (0, 48, 0), .inl (5, [0, 0, 0, 12, 13, 14, 15]), .inr (0, 4, 0), .inr (0, 4, 0), .inr (0, 12, 0), .inr (0, 48, 0), .inl (5, [0, 0, 0, 17, 18, 19, 20]), .inr (0, 4, 0), .inr (0, 4, 0), .inr (0, 12, 0), .inr (0, 48, 0), .inl (1, [0, 0, 0, 22, 23, 24, 25, 26, 27, 28, 29, 30, 31]), .inr (0, 4, 0), .inr (0, 4, 0), .inr (0, 20736, 0), .inr (0, 5, 0), .inr (0, 48, 0), .inr (0, 3, 0), .inr (0, 16, 0), .inr (0, 16, 0), .inr (0, 16, 0), .inr (0, 16, 0), .inl (1, [0, 0, 0, 33, 34, 35, 36, 37, 38, 39, 40, 41, 42]), .inr (0, 4, 0), .inr (0, 4, 0), .inr (0, 20736, 0), .inr (0, 5, 0), .inr (0, 48, 0), .inr (0, 3, 0), .inr (0, 16, 0), .inr (0, 16, 0), .inr (0, 16, 0), .inr (0, 16, 0), .inl (0, [44, 45]), .inr (0, 100, 0), .inr (0, 100, 0), .inl (7, [0, 0, 0, 0]), .inl (2, [48, 0, 0]), .inr (0, 300, 0), .inl (2, [50, 0, 0]), .inr (0, 300, 0), .inl (3, [0, 52, 0]), .inr (0, 120, 0), .inr (4, 4, 439), .inl (4, [0, 55]), .inr (0, 60, 0), .inr (0, 4, 0), .inl (4, [0, 58]), .inr (0, 60, 0), .inl (4, [0, 60]), .inr (0, 60, 0), .inl (4, [0, 62]), .inr (0, 60, 0), .inl (4, [0, 64]), .inr (0, 60, 0), .inl (9, [0, 66, 0, 0, 0, 67, 68, 69, 2, 0, 2, 2, 0, 2, 2, 2, 2, 0, 2, 0, 2, 2, 2, 2, 2, 2, 0, 0, 2, 0, 1, 0, 0, 0, 2, 2, 2, 2, 2, 2, 2, 2, 0]), .inr (0, 400, 0), .inr (0, 4, 0), .inr (0, 12, 0), .inr (0, 4, 0), .inr (0, 144, 0)]
def U133 : List gS := [.inl (8, [4, 6, 11, 16, 21, 32, 43, 46, 47, 49, 51, 53, 54, 56, 0, 0, 1]), .inl (6, [0, 5, 0]), .inr (1, 400, 0), .inl (5, [0, 0, 0, 7, 8, 9, 10]), .inr (0, 4, 0), .inr (0, 4, 0), .inr (0, 12, 0), .inr (0, 48, 0), .inl (5, [0, 0, 0, 12, 13, 14, 15]), .inr (0, 4, 0), .inr (0, 4, 0), .inr (0, 12, 0), .inr (0, 48, 0), .inl (5, [0, 0, 0, 17, 18, 19, 20]), .inr (0, 4, 0), .inr (0, 4, 0), .inr (0, 12, 0), .inr (0, 48, 0), .inl (1, [0, 0, 0, 22, 23, 24, 25, 26, 27, 28, 29, 30, 31]), .inr (0, 4, 0), .inr (0, 4, 0), .inr (0, 20736, 0), .inr (0, 5, 0), .inr (0, 48, 0), .inr (0, 3, 0), .inr (0, 16, 0), .inr (0, 16, 0), .inr (0, 16, 0), .inr (0, 16, 0), .inl (1, [0, 0, 0, 33, 34, 35, 36, 37, 38, 39, 40, 41, 42]), .inr (0, 4, 0), .inr (0, 4, 0), .inr (0, 20736, 0), .inr (0, 5, 0), .inr (0, 48, 0), .inr (0, 3, 0), .inr (0, 16, 0), .inr (0, 16, 0), .inr (0, 16, 0), .inr (0, 16, 0), .inl (0, [44, 45]), .inr (0, 100, 0), .inr (0, 100, 0), .inl (7, [0, 0, 0, 0]), .inl (2, [48, 0, 0]), .inr (0, 300, 0), .inl (2, [50, 0, 0]), .inr (0, 300, 0), .inl (3, [0, 52, 0]), .inr (0, 120, 0), .inr (4, 4, 439), .inl (4, [0, 55]), .inr (0, 60, 0), .inr (0, 4, 0), .inl (4, [0, 58]), .inr (0, 60, 0), .inl (4, [0, 60]), .inr (0, 60, 0), .inl (4, [0, 62]), .inr (0, 60, 0), .inl (4, [0, 64]), .inr (0, 60, 0), .inl (9, [0, 66, 0, 0, 0, 67, 68, 69, 70, 0, 2, 2, 0, 2, 2, 2, 2, 0, 2, 0, 2, 2, 2, 2, 2, 2, 0, 0, 2, 0, 1, 0, 0, 0, 2, 2, 2, 2, 2, 2, 2, 2, 0]), .inr (0, 400, 0), .inr (0, 4, 0), .inr (0, 12, 0), .inr (0, 4, 0), .inr (0, 144, 0)]
def U134 : List gS := [.inl (8, [4, 6, 11, 16, 21, 32, 43, 46, 47, 49, 51, 53, 54, 56, 0, 0, 1]), .inl (6, [0, 5, 0]), .inr (1, 400, 0), .inl (5, [0, 0, 0, 7, 8, 9, 10]), .inr (0, 4, 0), .inr (0, 4, 0), .inr (0, 12, 0), .inr (0, 48, 0), .inl (5, [0, 0, 0, 12, 13, 14, 15]), .inr (0, 4, 0), .inr (0, 4, 0), .inr (0, 12, 0), .inr (0, 48, 0), .inl (5, [0, 0, 0, 17, 18, 19, 20]), .inr (0, 4, 0), .inr (0, 4, 0), .inr (0, 12, 0), .inr (0, 48, 0), .inl (1, [0, 0, 0, 22, 23, 24, 25, 26, 27, 28, 29, 30, 31]), .inr (0, 4, 0), .inr (0, 4, 0), .inr (0, 20736, 0), .inr (0, 5, 0), .inr (0, 48, 0), .inr (0, 3, 0), .inr (0, 16, 0), .inr (0, 16, 0), .inr (0, 16, 0), .inr (0, 16, 0), .inl (1, [0, 0, 0, 33, 34, 35, 36, 37, 38, 39, 40, 41, 42]), .inr (0, 4, 0), .inr (0, 4, 0), .inr (0, 20736, 0), .inr (0, 5, 0), .inr (0, 48, 0), .inr (0, 3, 0), .inr (0, 16, 0), .inr (0, 16, 0), .inr (0, 16, 0), .inr (0, 16, 0), .inl (0, [44, 45]), .inr (0, 100, 0), .inr (0, 100, 0), .inl (7, [0, 0, 0, 0]), .inl (2, [48, 0, 0]), .inr (0, 300, 0), .inl (2, [50, 0, 0]), .inr (0, 300, 0), .inl (3, [0, 52, 0]), .inr (0, 120, 0), .inr (4, 4, 439), .inl (4, [0, 55]), .inr (0, 60, 0), .inr (0, 4, 0), .inl (4, [0, 58]), .inr (0, 60, 0), .inl (4, [0, 60]), .inr (0, 60, 0), .inl (4, [0, 62]), .inr (0, 60, 0), .inl (4, [0, 64]), .inr (0, 60, 0), .inl (9, [0, 66, 0, 0, 0, 67, 68, 69, 70, 0, 2, 2, 0, 2, 2, 2, 2, 0, 2, 0, 2, 2, 2, 2, 2, 2, 0, 0, 2, 0, 1, 0, 0, 0, 2, 2, 2, 2, 2, 2, 2, 2, 0]), .inr (0, 400, 0), .inr (0, 4, 0), .inr (0, 12, 0), .inr (0, 4, 0), .inr (0, 144, 0), .inr (0, 300, 0)]
def U135 : List gS := [.inl (8, [4, 6, 11, 16, 21, 32, 43, 46, 47, 49, 51, 53, 54, 56, 0, 0, 1]), .inl (6, [0, 5, 0]), .inr (1, 400, 0), .inl (5, [0, 0, 0, 7, 8, 9, 10]), .inr (0, 4, 0), .inr (0, 4, 0), .inr (0, 12, 0), .inr (0, 48, 0), .inl (5, [0, 0, 0, 12, 13, 14, 15]), .inr (0, 4, 0), .inr (0, 4, 0), .inr (0, 12, 0), .inr (0, 48, 0), .inl (5, [0, 0, 0, 17, 18, 19, 20]), .inr (0, 4, 0), .inr (0, 4, 0), .inr (0, 12, 0), .inr (0, 48, 0), .inl (1, [0, 0, 0, 22, 23, 24, 25, 26, 27, 28, 29, 30, 31]), .inr (0, 4, 0), .inr (0, 4, 0), .inr (0, 20736, 0), .inr (0, 5, 0), .inr (0, 48, 0), .inr (0, 3, 0), .inr (0, 16, 0), .inr (0, 16, 0), .inr (0, 16, 0), .inr (0, 16, 0), .inl (1, [0, 0, 0, 33, 34, 35, 36, 37, 38, 39, 40, 41, 42]), .inr (0, 4, 0), .inr (0, 4, 0), .inr (0, 20736, 0), .inr (0, 5, 0), .inr (0, 48, 0), .inr (0, 3, 0), .inr (0, 16, 0), .inr (0, 16, 0), .inr (0, 16, 0), .inr (0, 16, 0), .inl (0, [44, 45]), .inr (0, 100, 0), .inr (0, 100, 0), .inl (7, [0, 0, 0, 0]), .inl (2, [48, 0, 0]), .inr (0, 300, 0), .inl (2, [50, 0, 0]), .inr (0, 300, 0), .inl (3, [0, 52, 0]), .inr (0, 120, 0), .inr (4, 4, 439), .inl (4, [0, 55]), .inr (0, 60, 0), .inr (0, 4, 0), .inl (4, [0, 58]), .inr (0, 60, 0), .inl (4, [0, 60]), .inr (0, 60, 0), .inl (4, [0, 62]), .inr (0, 60, 0), .inl (4, [0, 64]), .inr (0, 60, 0), .inl (9, [0, 66, 0, 0, 0, 67, 68, 69, 70, 0, 71, 2, 0, 2, 2, 2, 2, 0, 2, 0, 2, 2, 2, 2, 2, 2, 0, 0, 2, 0, 1, 0, 0, 0, 2, 2, 2, 2, 2, 2, 2, 2, 0]), .inr (0, 400, 0), .inr (0, 4, 0), .inr (0, 12, 0), .inr (0, 4, 0), .inr (0, 144, 0), .inr (0, 300, 0)]
def U136 : List gS := [.inl (8, [4, 6, 11, 16, 21, 32, 43, 46, 47, 49, 51, 53, 54, 56, 0, 0, 1]), .inl (6, [0, 5, 0]), .inr (1, 400, 0), .inl (5, [0, 0, 0, 7, 8, 9, 10]), .inr (0, 4, 0), .inr (0, 4, 0), .inr (0, 12, 0), .inr (0, 48, 0), .inl (5, [0, 0, 0, 12, 13, 14, 15]), .inr (0, 4, 0), .inr (0, 4, 0), .inr (0, 12, 0), .inr (0, 48, 0), .inl (5, [0, 0, 0, 17, 18, 19, 20]), .inr (0, 4, 0), .inr (0, 4, 0), .inr (0, 12, 0), .inr (0, 48, 0), .inl (1, [0, 0, 0, 22, 23, 24, 25, 26, 27, 28, 29, 30, 31]), .inr (0, 4, 0), .inr (0, 4, 0), .inr (0, 20736, 0), .inr (0, 5, 0), .inr (0, 48, 0), .inr (0, 3, 0), .inr (0, 16, 0), .inr (0, 16, 0), .inr (0, 16, 0), .inr (0, 16, 0), .inl (1, [0, 0, 0, 33, 34, 35, 36, 37, 38, 39, 40, 41, 42]), .inr (0, 4, 0), .inr (0, 4, 0), .inr (0, 20736, 0), .inr (0, 5, 0), .inr (0, 48, 0), .inr (0, 3, 0), .inr (0, 16, 0), .inr (0, 16, 0), .inr (0, 16, 0), .inr (0, 16, 0), .inl (0, [44, 45]), .inr (0, 100, 0), .inr (0, 100, 0), .inl (7, [0, 0, 0, 0]), .inl (2, [48, 0, 0]), .inr (0, 300, 0), .inl (2, [50, 0, 0]), .inr (0, 300, 0), .inl (3, [0, 52, 0]), .inr (0, 120, 0), .inr (4, 4, 439), .inl (4, [0, 55]), .inr (0, 60, 0), .inr (0, 4, 0), .inl (4, [0, 58]), .inr (0, 60, 0), .inl (4, [0, 60]), .inr (0, 60, 0), .inl (4, [0, 62]), .inr (0, 60, 0), .inl (4, [0, 64]), .inr (0, 60, 0), .inl (9, [0, 66, 0, 0, 0, 67, 68, 69, 70, 0, 71, 2, 0, 2, 2, 2, 2, 0, 2, 0, 2, 2, 2, 2, 2, 2, 0, 0, 2, 0, 1, 0, 0, 0, 2, 2, 2, 2, 2, 2, 2, 2, 0]), .inr (0, 400, 0), .inr (0, 4, 0), .inr (0, 12, 0), .inr (0, 4, 0), .inr (0, 144, 0), .inr (0, 300, 0), .inr (0, 5, 0)]
def U137 : List gS := [.inl (8, [4, 6, 11, 16, 21, 32, 43, 46, 47, 49, 51, 53, 54, 56, 0, 0, 1]), .inl (6, [0, 5, 0]), .inr (1, 400, 0), .inl (5, [0, 0, 0, 7, 8, 9, 10]), .inr (0, 4, 0), .inr (0, 4, 0), .inr (0, 12, 0), .inr (0, 48, 0), .inl (5, [0, 0, 0, 12, 13, 14, 15]), .inr (0, 4, 0), .inr (0, 4, 0), .inr (0, 12, 0), .inr (0, 48, 0), .inl (5, [0, 0, 0, 17, 18, 19, 20]), .inr (0, 4, 0), .inr (0, 4, 0), .inr (0, 12, 0), .inr (0, 48, 0), .inl (1, [0, 0, 0, 22, 23, 24, 25, 26, 27, 28, 29, 30, 31]), .inr (0, 4, 0), .inr (0, 4, 0), .inr (0, 20736, 0), .inr (0, 5, 0), .inr (0, 48, 0), .inr (0, 3, 0), .inr (0, 16, 0), .inr (0, 16, 0), .inr (0, 16, 0), .inr (0, 16, 0), .inl (1, [0, 0, 0, 33, 34, 35, 36, 37, 38, 39, 40, 41, 42]), .inr (0, 4, 0), .inr (0, 4, 0), .inr (0, 20736, 0), .inr (0, 5, 0), .inr (0, 48, 0), .inr (0, 3, 0), .inr (0, 16, 0), .inr (0, 16, 0), .inr (0, 16, 0), .inr (0, 16, 0), .inl (0, [44, 45]), .inr (0, 100, 0), .inr (0, 100, 0), .inl (7, [0, 0, 0, 0]), .inl (2, [48, 0, 0]), .inr (0, 300, 0), .inl (2, [50, 0, 0]), .inr (0, 300, 0), .inl (3, [0, 52, 0]), .inr (0, 120, 0), .inr (4, 4, 439), .inl (4, [0, 55]), .inr (0, 60, 0), .inr (0, 4, 0), .inl (4, [0, 58]), .inr (0, 60, 0), .inl (4, [0, 60]), .inr (0, 60, 0), .inl (4, [0, 62]), .inr (0, 60, 0), .inl (4, [0, 64]), .inr (0, 60, 0), .inl (9, [0, 66, 0, 0, 0, 67, 68, 69, 70, 0, 71, 72, 0, 2, 2, 2, 2, 0, 2, 0, 2, 2, 2, 2, 2, 2, 0, 0, 2, 0, 1, 0, 0, 0, 2, 2, 2, 2, 2, 2, 2, 2, 0]), .inr (0, 400, 0), .inr (0, 4, 0), .inr (0, 12, 0), .inr (0, 4, 0), .inr (0, 144, 0), .inr (0, 300, 0), .inr (0, 5, 0)]
def U138 : List gS := [.inl (8, [4, 6, 11, 16, 21, 32, 43, 46, 47, 49, 51, 53, 54, 56, 0, 0, 1]), .inl (6, [0, 5, 0]), .inr (1, 400, 0), .inl (5, [0, 0, 0, 7, 8, 9, 10]), .inr (0, 4, 0), .inr (0, 4, 0), .inr (0, 12, 0), .inr (0, 48, 0), .inl (5, [0, 0, 0, 12, 13, 14, 15]), .inr (0, 4, 0), .inr (0, 4, 0), .inr (0, 12, 0), .inr (0, 48, 0), .inl (5, [0, 0, 0, 17, 18, 19, 20]), .inr (0, 4, 0), .inr (0, 4, 0), .inr (0, 12, 0), .inr (0, 48, 0), .inl (1, [0, 0, 0, 22, 23, 24, 25, 26, 27, 28, 29, 30, 31]), .inr (0, 4, 0), .inr (0, 4, 0), .inr (0, 20736, 0), .inr (0, 5, 0), .inr (0, 48, 0), .inr (0, 3, 0), .inr (0, 16, 0), .inr (0, 16, 0), .inr (0, 16, 0), .inr (0, 16, 0), .inl (1, [0, 0, 0, 33, 34, 35, 36, 37, 38, 39, 40, 41, 42]), .inr (0, 4, 0), .inr (0, 4, 0), .inr (0, 20736, 0), .inr (0, 5, 0), .inr (0, 48, 0), .inr (0, 3, 0), .inr (0, 16, 0), .inr (0, 16, 0), .inr (0, 16, 0), .inr (0, 16, 0), .inl (0, [44, 45]), .inr (0, 100, 0), .inr (0, 100, 0), .inl (7, [0, 0, 0, 0]), .inl (2, [48, 0, 0]), .inr (0, 300, 0), .inl (2, [50, 0, 0]), .inr (0, 300, 0), .inl (3, [0, 52, 0]), .inr (0, 120, 0), .inr (4, 4, 439), .inl (4, [0, 55]), .inr (0, 60, 0), .inr (0, 4, 0), .inl (4, [0, 58]), .inr (0, 60, 0), .inl (4, [0, 60]), .inr (0, 60, 0), .inl (4, [0, 62]), .inr (0, 60, 0), .inl (4, [0, 64]), .inr (0, 60, 0), .inl (9, [0, 66, 0, 0, 0, 67, 68, 69, 70, 0, 71, 72, 0, 2, 2, 2, 2, 0, 2, 0, 2, 2, 2, 2, 2, 2, 0, 0, 2, 0, 1, 0, 0, 0, 2, 2, 2, 2, 2, 2, 2, 2, 0]), .inr (0, 400, 0), .inr (0, 4, 0), .inr (0, 12, 0), .inr (0, 4, 0), .inr (0, 144, 0), .inr (0, 300, 0), .inr (0, 5, 0), .inr (0, 331, 0)]
def U139 : List gS := [.inl (8, [4, 6, 11, 16, 21, 32, 43, 46, 47, 49, 51, 53, 54, 56, 0, 0, 1]), .inl (6, [0, 5, 0]), .inr (1, 400, 0), .inl (5, [0, 0, 0, 7, 8, 9, 10]), .inr (0, 4, 0), .inr (0, 4, 0), .inr (0, 12, 0), .inr (0, 48, 0), .inl (5, [0, 0, 0, 12, 13, 14, 15]), .inr (0, 4, 0), .inr (0, 4, 0), .inr (0, 12, 0), .inr (0, 48, 0), .inl (5, [0, 0, 0, 17, 18, 19, 20]), .inr (0, 4, 0), .inr (0, 4, 0), .inr (0, 12, 0), .inr (0, 48, 0), .inl (1, [0, 0, 0, 22, 23, 24, 25, 26, 27, 28, 29, 30, 31]), .inr (0, 4, 0), .inr (0, 4, 0), .inr (0, 20736, 0), .inr (0, 5, 0), .inr (0, 48, 0), .inr (0, 3, 0), .inr (0, 16, 0), .inr (0, 16, 0), .inr (0, 16, 0), .inr (0, 16, 0), .inl (1, [0, 0, 0, 33, 34, 35, 36, 37, 38, 39, 40, 41, 42]), .inr (0, 4, 0), .inr (0, 4, 0), .inr (0, 20736, 0), .inr (0, 5, 0), .inr (0, 48, 0), .inr (0, 3, 0), .inr (0, 16, 0), .inr (0, 16, 0), .inr (0, 16, 0), .inr (0, 16, 0), .inl (0, [44, 45]), .inr (0, 100, 0), .inr (0, 100, 0), .inl (7, [0, 0, 0, 0]), .inl (2, [48, 0, 0]), .inr (0, 300, 0), .inl (2, [50, 0, 0]), .inr (0, 300, 0), .inl (3, [0, 52, 0]), .inr (0, 120, 0), .inr (4, 4, 439), .inl (4, [0, 55]), .inr (0, 60, 0), .inr (0, 4, 0), .inl (4, [0, 58]), .inr (0, 60, 0), .inl (4, [0, 60]), .inr (0, 60, 0), .inl (4, [0, 62]), .inr (0, 60, 0), .inl (4, [0, 64]), .inr (0, 60, 0), .inl (9, [0, 66, 0, 0, 0, 67, 68, 69, 70, 0, 71, 72, 0, 73, 2, 2, 2, 0, 2, 0, 2, 2, 2, 2, 2, 2, 0, 0, 2, 0, 1, 0, 0, 0, 2, 2, 2, 2, 2, 2, 2, 2, 0]), .inr (0, 400, 0), .inr (0, 4, 0), .inr (0, 12, 0), .inr (0, 4, 0), .inr (0, 144, 0), .inr (0, 300, 0), .inr (0, 5, 0), .inr (0, 331, 0)]
def U140 : List gS := [.inl (8, [4, 6, 11, 16, 21, 32, 43, 46, 47, 49, 51, 53, 54, 56, 0, 0, 1]), .inl (6, [0, 5, 0]), .inr (1, 400, 0), .inl (5, [0, 0, 0, 7, 8, 9, 10]), .inr (0, 4, 0), .inr (0, 4, 0), .inr (0, 12, 0), .inr (0, 48, 0), .inl (5, [0, 0, 0, 12, 13, 14, 15]), .inr (0, 4, 0), .inr (0, 4, 0), .inr (0, 12, 0), .inr (0, 48, 0), .inl (5, [0, 0, 0, 17, 18, 19, 20]), .inr (0, 4, 0), .inr (0, 4, 0), .inr (0, 12, 0), .inr (0, 48, 0), .inl (1, [0, 0, 0, 22, 23, 24, 25, 26, 27, 28, 29, 30, 31]), .inr (0, 4, 0), .inr (0, 4, 0), .inr (0, 20736, 0), .inr (0, 5, 0), .inr (0, 48, 0), .inr (0, 3, 0), .inr (0, 16, 0), .inr (0, 16, 0), .inr (0, 16, 0), .inr (0, 16, 0), .inl (1, [0, 0, 0, 33, 34, 35, 36, 37, 38, 39, 40, 41, 42]), .inr (0, 4, 0), .inr (0, 4, 0), .inr (0, 20736, 0), .inr (0, 5, 0), .inr (0, 48, 0), .inr (0, 3, 0), .inr (0, 16, 0), .inr (0, 16, 0), .inr (0, 16, 0), .inr (0, 16, 0), .inl (0, [44, 45]), .inr (0, 100, 0), .inr (0, 100, 0), .inl (7, [0, 0, 0, 0]), .inl (2, [48, 0, 0]), .inr (0, 300, 0), .inl (2, [50, 0, 0]), .inr (0, 300, 0), .inl (3, [0, 52, 0]), .inr (0, 120, 0), .inr (4, 4, 439), .inl (4, [0, 55]), .inr (0, 60, 0), .inr (0, 4, 0), .inl (4, [0, 58]), .inr (0, 60, 0), .inl (4, [0, 60]), .inr (0, 60, 0), .inl (4, [0, 62]), .inr (0, 60, 0), .inl (4, [0, 64]), .inr (0, 60, 0), .inl (9, [0, 66, 0, 0, 0, 67, 68, 69, 70, 0, 71, 72, 0, 73, 2, 2, 2, 0, 2, 0, 2, 2, 2, 2, 2, 2, 0, 0, 2, 0, 1, 0, 0, 0, 2, 2, 2, 2, 2, 2, 2, 2, 0]), .inr (0, 400, 0), .inr (0, 4, 0), .inr (0, 12, 0), .inr (0, 4, 0), .inr (0, 144, 0), .inr (0, 300, 0), .inr (0, 5, 0), .inr (0, 331, 0), .inr (0, 4, 0)]
def U141 : List gS := [.inl (8, [4, 6, 11, 16, 21, 32, 43, 46, 47, 49, 51, 53, 54, 56, 0, 0, 1]), .inl (6, [0, 5, 0]), .inr (1, 400, 0), .inl (5, [0, 0, 0, 7, 8, 9, 10]), .inr (0, 4, 0), .inr (0, 4, 0), .inr (0, 12, 0), .inr (0, 48, 0), .inl (5, [0, 0, 0, 12, 13, 14, 15]), .inr (0, 4, 0), .inr (0, 4, 0), .inr (0, 12, 0), .inr (0, 48, 0), .inl (5, [0, 0, 0, 17, 18, 19, 20]), .inr (0, 4, 0), .inr (0, 4, 0), .inr (0, 12, 0), .inr (0, 48, 0), .inl (1, [0, 0, 0, 22, 23, 24, 25, 26, 27, 28, 29, 30, 31]), .inr (0, 4, 0), .inr (0, 4, 0), .inr (0, 20736, 0), .inr (0, 5, 0), .inr (0, 48, 0), .inr (0, 3, 0), .inr (0, 16, 0), .inr (0, 16, 0), .inr (0, 16, 0), .inr (0, 16, 0), .inl (1, [0, 0, 0, 33, 34, 35, 36, 37, 38, 39, 40, 41, 42]), .inr (0, 4, 0), .inr (0, 4, 0), .inr (0, 20736, 0), .inr (0, 5, 0), .inr (0, 48, 0), .inr (0, 3, 0), .inr (0, 16, 0), .inr (0, 16, 0), .inr (0, 16, 0), .inr (0, 16, 0), .inl (0, [44, 45]), .inr (0, 100, 0), .inr (0, 100, 0), .inl (7, [0, 0, 0, 0]), .inl (2, [48, 0, 0]), .inr (0, 300, 0), .inl (2, [50, 0, 0]), .inr (0, 300, 0), .inl (3, [0, 52, 0]), .inr (0, 120, 0), .inr (4, 4, 439), .inl (4, [0, 55]), .inr (0, 60, 0), .inr (0, 4, 0), .inl (4, [0, 58]), .inr (0, 60, 0), .inl (4, [0, 60]), .inr (0, 60, 0), .inl (4, [0, 62]), .inr (0, 60, 0), .inl (4, [0, 64]), .inr (0, 60, 0), .inl (9, [0, 66, 0, 0, 0, 67, 68, 69, 70, 0, 71, 72, 0, 73, 74, 2, 2, 0, 2, 0, 2, 2, 2, 2, 2, 2, 0, 0, 2, 0, 1, 0, 0, 0, 2, 2, 2, 2, 2, 2, 2, 2, 0]), .inr (0, 400, 0), .inr (0, 4, 0), .inr (0, 12, 0), .inr (0, 4, 0), .inr (0, 144, 0), .inr (0, 300, 0), .inr (0, 5, 0), .inr (0, 331, 0), .inr (0, 4, 0)]
def U142 : List gS := [.inl (8, [4, 6, 11, 16, 21, 32, 43, 46, 47, 49, 51, 53, 54, 56, 0, 0, 1]), .inl (6, [0, 5, 0]), .inr (1, 400, 0), .inl (5, [0, 0, 0, 7, 8, 9, 10]), .inr (0, 4, 0), .inr (0, 4, 0), .inr (0, 12, 0), .inr (0, 48, 0), .inl (5, [0, 0, 0, 12, 13, 14, 15]), .inr (0, 4, 0), .inr (0, 4, 0), .inr (0, 12, 0), .inr (0, 48, 0), .inl (5, [0, 0, 0, 17, 18, 19, 20]), .inr (0, 4, 0), .inr (0, 4, 0), .inr (0, 12, 0), .inr (0, 48, 0), .inl (1, [0, 0, 0, 22, 23, 24, 25, 26, 27, 28, 29, 30, 31]), .inr (0, 4, 0), .inr (0, 4, 0), .inr (0, 20736, 0), .inr (0, 5, 0), .inr (0, 48, 0), .inr (0, 3, 0), .inr (0, 16, 0), .inr (0, 16, 0), .inr (0, 16, 0), .inr (0, 16, 0), .inl (1, [0, 0, 0, 33, 34, 35, 36, 37, 38, 39, 40, 41, 42]), .inr (0, 4, 0), .inr (0, 4, 0), .inr (0, 20736, 0), .inr (0, 5, 0), .inr (0, 48, 0), .inr (0, 3, 0), .inr (0, 16, 0), .inr (0, 16, 0), .inr (0, 16, 0), .inr (0, 16, 0), .inl (0, [44, 45]), .inr (0, 100, 0), .inr (0, 100, 0), .inl (7, [0, 0, 0, 0]), .inl (2, [48, 0, 0]), .inr (0, 300, 0), .inl (2, [50, 0, 0]), .inr (0, 300, 0), .inl (3, [0, 52, 0]), .inr (0, 120, 0), .inr (4, 4, 439), .inl (4, [0, 55]), .inr (0, 60, 0), .inr (0, 4, 0), .inl (4, [0, 58]), .inr (0, 60, 0), .inl (4, [0, 60]), .inr (0, 60, 0), .inl (4, [0, 62]), .inr (0, 60, 0), .inl (4, [0, 64]), .inr (0, 60, 0), .inl (9, [0, 66, 0, 0, 0, 67, 68, 69, 70, 0, 71, 72, 0, 73, 74, 2, 2, 0, 2, 0, 2, 2, 2, 2, 2, 2, 0, 0, 2, 0, 1, 0, 0, 0, 2, 2, 2, 2, 2, 2, 2, 2, 0]), .inr (0, 400, 0), .inr (0, 4, 0), .inr (0, 12, 0), .inr (0, 4, 0), .inr (0, 144, 0), .inr (0, 300, 0), .inr (0, 5, 0), .inr (0, 331, 0), .inr (0, 4, 0), .inr (0, 4, 0)]
def U143 : List gS := [.inl (8, [4, 6, 11, 16, 21, 32, 43, 46, 47, 49, 51, 53, 54, 56, 0, 0, 1]), .inl (6, [0, 5, 0]), .inr (1, 400, 0), .inl (5, [0, 0, 0, 7, 8, 9, 10]), .inr (0, 4, 0), .inr (0, 4, 0), .inr (0, 12, 0), .inr (0, 48, 0), .inl (5, [0, 0, 0, 12, 13, 14, 15]), .inr (0, 4, 0), .inr (0, 4, 0), .inr (0, 12, 0), .inr (0, 48, 0), .inl (5, [0, 0, 0, 17, 18, 19, 20]), .inr (0, 4, 0), .inr (0, 4, 0), .inr (0, 12, 0), .inr (0, 48, 0), .inl (1, [0, 0, 0, 22, 23, 24, 25, 26, 27, 28, 29, 30, 31]), .inr (0, 4, 0), .inr (0, 4, 0), .inr (0, 20736, 0), .inr (0, 5, 0), .inr (0, 48, 0), .inr (0, 3, 0), .inr (0, 16, 0), .inr (0, 16, 0), .inr (0, 16, 0), .inr (0, 16, 0), .inl (1, [0, 0, 0, 33, 34, 35, 36, 37, 38, 39, 40, 41, 42]), .inr (0, 4, 0), .inr (0, 4, 0), .inr (0, 20736, 0), .inr (0, 5, 0), .inr (0, 48, 0), .inr (0, 3, 0), .inr (0, 16, 0), .inr (0, 16, 0), .inr (0, 16, 0), .inr (0, 16, 0), .inl (0, [44, 45]), .inr (0, 100, 0), .inr (0, 100, 0), .inl (7, [0, 0, 0, 0]), .inl (2, [48, 0, 0]), .inr (0, 300, 0), .inl (2, [50, 0, 0]), .inr (0, 300, 0), .inl (3, [0, 52, 0]), .inr (0, 120, 0), .inr (4, 4, 439), .inl (4, [0, 55]), .inr (0, 60, 0), .inr (0, 4, 0), .inl (4, [0, 58]), .inr (0, 60, 0), .inl (4, [0, 60]), .inr (0, 60, 0), .inl (4, [0, 62]), .inr (0, 60, 0), .inl (4, [0, 64]), .inr (0, 60, 0), .inl (9, [0, 66, 0, 0, 0, 67, 68, 69, 70, 0, 71, 72, 0, 73, 74, 75, 2, 0, 2, 0, 2, 2, 2, 2, 2, 2, 0, 0, 2, 0, 1, 0, 0, 0, 2, 2, 2, 2, 2, 2, 2, 2, 0]), .inr (0, 400, 0), .inr (0, 4, 0), .inr (0, 12, 0), .inr (0, 4, 0), .inr (0, 144, 0), .inr (0, 300, 0), .inr (0, 5, 0), .inr (0, 331, 0), .inr (0, 4, 0), .inr (0, 4, 0)]
def U144 : List gS := [.inl (8, [4, 6, 11, 16, 21, 32, 43, 46, 47, 49, 51, 53, 54, 56, 0, 0, 1]), .inl (6, [0, 5, 0]), .inr (1, 400, 0), .inl (5, [0, 0, 0, 7, 8, 9, 10]), .inr (0, 4, 0), .inr (0, 4, 0), .inr (0, 12, 0), .inr (0, 48, 0), .inl (5, [0, 0, 0, 12, 13, 14, 15]), .inr (0, 4, 0), .inr (0, 4, 0), .inr (0, 12, 0), .inr (0, 48, 0), .inl (5, [0, 0, 0, 17, 18, 19, 20]), .inr (0, 4, 0), .inr (0, 4, 0), .inr (0, 12, 0), .inr (0, 48, 0), .inl (1, [0, 0, 0, 22, 23, 24, 25, 26, 27, 28, 29, 30, 31]), .inr (0, 4, 0), .inr (0, 4, 0), .inr (0, 20736, 0), .inr (0, 5, 0), .inr (0, 48, 0), .inr (0, 3, 0), .inr (0, 16, 0), .inr (0, 16, 0), .inr (0, 16, 0), .inr (0, 16, 0), .inl (1, [0, 0, 0, 33, 34, 35, 36, 37, 38, 39, 40, 41, 42]), .inr (0, 4, 0), .inr (0, 4, 0), .inr (0, 20736, 0), .inr (0, 5, 0), .inr (0, 48, 0), .inr (0, 3, 0), .inr (0, 16, 0), .inr (0, 16, 0), .inr (0, 16, 0), .inr (0, 16, 0), .inl (0, [44, 45]), .inr (0, 100, 0), .inr (0, 100, 0), .inl (7, [0, 0, 0, 0]), .inl (2, [48, 0, 0]), .inr (0, 300, 0), .inl (2, [50, 0, 0]), .inr (0, 300, 0), .inl (3, [0, 52, 0]), .inr (0, 120, 0), .inr (4, 4, 439), .inl (4, [0, 55]), .inr (0, 60, 0), .inr (0, 4, 0), .inl (4, [0, 58]), .inr (0, 60, 0), .inl (4, [0, 60]), .inr (0, 60, 0), .inl (4, [0, 62]), .inr (0, 60, 0), .inl (4, [0, 64]), .inr (0, 60, 0), .inl (9, [0, 66, 0, 0, 0, 67, 68, 69, 70, 0, 71, 72, 0, 73, 74, 75, 2, 0, 2, 0, 2, 2, 2, 2, 2, 2, 0, 0, 2, 0, 1, 0, 0, 0, 2, 2, 2, 2, 2, 2, 2, 2, 0]), .inr (0, 400, 0), .inr (0, 4, 0), .inr (0, 12, 0), .inr (0, 4, 0), .inr (0, 144, 0), .inr (0, 300, 0), .inr (0, 5, 0), .inr (0, 331, 0), .inr (0, 4, 0), .inr (0, 4, 0), .inr (0, 12, 0)]
def U145 : List gS := [.inl (8, [4, 6, 11, 16, 21, 32, 43, 46, 47, 49, 51, 53, 54, 56, 0, 0, 1]), .inl (6, [0, 5, 0]), .inr (1, 400, 0), .inl (5, [0, 0, 0, 7, 8, 9, 10]), .inr (0, 4, 0), .inr (0, 4, 0), .inr (0, 12, 0), .inr (0, 48, 0), .inl (5, [0, 0, 0, 12, 13, 14, 15]), .inr (0, 4, 0), .inr (0, 4, 0), .inr (0, 12, 0), .inr (0, 48, 0), .inl (5, [0, 0, 0, 17, 18, 19, 20]), .inr (0, 4, 0), .inr (0, 4, 0), .inr (0, 12, 0), .inr (0, 48, 0), .inl (1, [0, 0, 0, 22, 23, 24, 25, 26, 27, 28, 29, 30, 31]), .inr (0, 4, 0), .inr (0, 4, 0), .inr (0, 20736, 0), .inr (0, 5, 0), .inr (0, 48, 0), .inr (0, 3, 0), .inr (0, 16, 0), .inr (0, 16, 0), .inr (0, 16, 0), .inr (0, 16, 0), .inl (1, [0, 0, 0, 33, 34, 35, 36, 37, 38, 39, 40, 41, 42]), .inr (0, 4, 0), .inr (0, 4, 0), .inr (0, 20736, 0), .inr (0, 5, 0), .inr (0, 48, 0), .inr (0, 3, 0), .inr (0, 16, 0), .inr (0, 16, 0), .inr (0, 16, 0), .inr (0, 16, 0), .inl (0, [44, 45]), .inr (0, 100, 0), .inr (0, 100, 0), .inl (7, [0, 0, 0, 0]), .inl (2, [48, 0, 0]), .inr (0, 300, 0), .inl (2, [50, 0, 0]), .inr (0, 300, 0), .inl (3, [0, 52, 0]), .inr (0, 120, 0), .inr (4, 4, 439), .inl (4, [0, 55]), .inr (0, 60, 0), .inr (0, 4, 0), .inl (4, [0, 58]), .inr (0, 60, 0), .inl (4, [0, 60]), .inr (0, 60, 0), .inl (4, [0, 62]), .inr (0, 60, 0), .inl (4, [0, 64]), .inr (0, 60, 0), .inl (9, [0, 66, 0, 0, 0, 67, 68, 69, 70, 0, 71, 72, 0, 73, 74, 75, 76, 0, 2, 0, 2, 2, 2, 2, 2, 2, 0, 0, 2, 0, 1, 0, 0, 0, 2, 2, 2, 2, 2, 2, 2, 2, 0]), .inr (0, 400, 0), .inr (0, 4, 0), .inr (0, 12, 0), .inr (0, 4, 0), .inr (0, 144, 0), .inr (0, 300, 0), .inr (0, 5, 0), .inr (0, 331, 0), .inr (0, 4, 0), .inr (0, 4, 0), .inr (0, 12, 0)]
def U146 : List gS := [.inl (8, [4, 6, 11, 16, 21, 32, 43, 46, 47, 49, 51, 53, 54, 56, 0, 0, 1]), .inl (6, [0, 5, 0]), .inr (1, 400, 0), .inl (5, [0, 0, 0, 7, 8, 9, 10]), .inr (0, 4, 0), .inr (0, 4, 0), .inr (0, 12, 0), .inr (0, 48, 0), .inl (5, [0, 0, 0, 12, 13, 14, 15]), .inr (0, 4, 0), .inr (0, 4, 0), .inr (0, 12, 0), .inr (0, 48, 0), .inl (5, [0, 0, 0, 17, 18, 19, 20]), .inr (0, 4, 0), .inr (0, 4, 0), .inr (0, 12, 0), .inr (0, 48, 0), .inl (1, [0, 0, 0, 22, 23, 24, 25, 26, 27, 28, 29, 30, 31]), .inr (0, 4, 0), .inr (0, 4, 0), .inr (0, 20736, 0), .inr (0, 5, 0), .inr (0, 48, 0), .inr (0, 3, 0), .inr (0, 16, 0), .inr (0, 16, 0), .inr (0, 16, 0), .inr (0, 16, 0), .inl (1, [0, 0, 0, 33, 34, 35, 36, 37, 38, 39, 40, 41, 42]), .inr (0, 4, 0), .inr (0, 4, 0), .inr (0, 20736, 0), .inr (0, 5, 0), .inr (0, 48, 0), .inr (0, 3, 0), .inr (0, 16, 0), .inr (0, 16, 0), .inr (0, 16, 0), .inr (0, 16, 0), .inl (0, [44, 45]), .inr (0, 100, 0), .inr (0, 100, 0), .inl (7, [0, 0, 0, 0]), .inl (2, [48, 0, 0]), .inr (0, 300, 0), .inl (2, [50, 0, 0]), .inr (0, 300, 0), .inl (3, [0, 52, 0]), .inr (0, 120, 0), .inr (4, 4, 439), .inl (4, [0, 55]), .inr (0, 60, 0), .inr (0, 4, 0), .inl (4, [0, 58]), .inr (0, 60, 0), .inl (4, [0, 60]), .inr (0, 60, 0), .inl (4, [0, 62]), .inr (0, 60, 0), .inl (4, [0, 64]), .inr (0, 60, 0), .inl (9, [0, 66, 0, 0, 0, 67, 68, 69, 70, 0, 71, 72, 0, 73, 74, 75, 76, 0, 2, 0, 2, 2, 2, 2, 2, 2, 0, 0, 2, 0, 1, 0, 0, 0, 2, 2, 2, 2, 2, 2, 2, 2, 0]), .inr (0, 400, 0), .inr (0, 4, 0), .inr (0, 12, 0), .inr (0, 4, 0), .inr (0, 144, 0), .inr (0, 300, 0), .inr (0, 5, 0), .inr (0, 331, 0), .inr (0, 4, 0), .inr (0, 4, 0), .inr (0, 12, 0), .inr (0, 4, 0)]
def U147 : List gS := [.inl (8, [4, 6, 11, 16, 21, 32, 43, 46, 47, 49, 51, 53, 54, 56, 0, 0, 1]), .inl (6, [0, 5, 0]), .inr (1, 400, 0), .inl (5, [0, 0, 0, 7, 8, 9, 10]), .inr (0, 4, 0), .inr (0, 4, 0), .inr (0, 12, 0), .inr (0, 48, 0), .inl (5, [0, 0, 0, 12, 13, 14, 15]), .inr (0, 4, 0), .inr (0, 4, 0), .inr (0, 12, 0), .inr (0, 48, 0), .inl (5, [0, 0, 0, 17, 18, 19, 20]), .inr (0, 4, 0), .inr (0, 4, 0), .inr (0, 12, 0), .inr (0, 48, 0), .inl (1, [0, 0, 0, 22, 23, 24, 25, 26, 27, 28, 29, 30, 31]), .inr (0, 4, 0), .inr (0, 4, 0), .inr (0, 20736, 0), .inr (0, 5, 0), .inr (0, 48, 0), .inr (0, 3, 0), .inr (0, 16, 0), .inr (0, 16, 0), .inr (0, 16, 0), .inr (0, 16, 0), .inl (1, [0, 0, 0, 33, 34, 35, 36, 37, 38, 39, 40, 41, 42]), .inr (0, 4, 0), .inr (0, 4, 0), .inr (0, 20736, 0), .inr (0, 5, 0), .inr (0, 48, 0), .inr (0, 3, 0), .inr (0, 16, 0), .inr (0, 16, 0), .inr (0, 16, 0), .inr (0, 16, 0), .inl (0, [44, 45]), .inr (0, 100, 0), .inr (0, 100, 0), .inl (7, [0, 0, 0, 0]), .inl (2, [48, 0, 0]), .inr (0, 300, 0), .inl (2, [50, 0, 0]), .inr (0, 300, 0), .inl (3, [0, 52, 0]), .inr (0, 120, 0), .inr (4, 4, 439), .inl (4, [0, 55]), .inr (0, 60, 0), .inr (0, 4, 0), .inl (4, [0, 58]), .inr (0, 60, 0), .inl (4, [0, 60]), .inr (0, 60, 0), .inl (4, [0, 62]), .inr (0, 60, 0), .inl (4, [0, 64]), .inr (0, 60, 0), .inl (9, [0, 66, 0, 0, 0, 67, 68, 69, 70, 0, 71, 72, 0, 73, 74, 75, 76, 0, 77, 0, 2, 2, 2, 2, 2, 2, 0, 0, 2, 0, 1, 0, 0, 0, 2, 2, 2, 2, 2, 2, 2, 2, 0]), .inr (0, 400, 0), .inr (0, 4, 0), .inr (0, 12, 0), .inr (0, 4, 0), .inr (0, 144, 0), .inr (0, 300, 0), .inr (0, 5, 0), .inr (0, 331, 0), .inr (0, 4, 0), .inr (0, 4, 0), .inr (0, 12, 0), .inr (0, 4, 0)]
def U148 : List gS := [.inl (8, [4, 6, 11, 16, 21, 32, 43, 46, 47, 49, 51, 53, 54, 56, 0, 0, 1]), .inl (6, [0, 5, 0]), .inr (1, 400, 0), .inl (5, [0, 0, 0, 7, 8, 9, 10]), .inr (0, 4, 0), .inr (0, 4, 0), .inr (0, 12, 0), .inr (0, 48, 0), .inl (5, [0, 0, 0, 12, 13, 14, 15]), .inr (0, 4, 0), .inr (0, 4, 0), .inr (0, 12, 0), .inr (0, 48, 0), .inl (5, [0, 0, 0, 17, 18, 19, 20]), .inr (0, 4, 0), .inr (0, 4, 0), .inr (0, 12, 0), .inr (0, 48, 0), .inl (1, [0, 0, 0, 22, 23, 24, 25, 26, 27, 28, 29, 30, 31]), .inr (0, 4, 0), .inr (0, 4, 0), .inr (0, 20736, 0), .inr (0, 5, 0), .inr (0, 48, 0), .inr (0, 3, 0), .inr (0, 16, 0), .inr (0, 16, 0), .inr (0, 16, 0), .inr (0, 16, 0), .inl (1, [0, 0, 0, 33, 34, 35, 36, 37, 38, 39, 40, 41, 42]), .inr (0, 4, 0), .inr (0, 4, 0), .inr (0, 20736, 0), .inr (0, 5, 0), .inr (0, 48, 0), .inr (0, 3, 0), .inr (0, 16, 0), .inr (0, 16, 0), .inr (0, 16, 0), .inr (0, 16, 0), .inl (0, [44, 45]), .inr (0, 100, 0), .inr (0, 100, 0), .inl (7, [0, 0, 0, 0]), .inl (2, [48, 0, 0]), .inr (0, 300, 0), .inl (2, [50, 0, 0]), .inr (0, 300, 0), .inl (3, [0, 52, 0]), .inr (0, 120, 0), .inr (4, 4, 439), .inl (4, [0, 55]), .inr (0, 60, 0), .inr (0, 4, 0), .inl (4, [0, 58]), .inr (0, 60, 0), .inl (4, [0, 60]), .inr (0, 60, 0), .inl (4, [0, 62]), .inr (0, 60, 0), .inl (4, [0, 64]), .inr (0, 60, 0), .inl (9, [0, 66, 0, 0, 0, 67, 68, 69, 70, 0, 71, 72, 0, 73, 74, 75, 76, 0, 77, 0, 2, 2, 2, 2, 2, 2, 0, 0, 2, 0, 1, 0, 0, 0, 2, 2, 2, 2, 2, 2, 2, 2, 0]), .inr (0, 400, 0), .inr (0, 4, 0), .inr (0, 12, 0), .inr (0, 4, 0), .inr (0, 144, 0), .inr (0, 300, 0), .inr (0, 5, 0), .inr (0, 331, 0), .inr (0, 4, 0), .inr (0, 4, 0), .inr (0, 12, 0), .inr (0, 4, 0), .inr (0, 4, 0)]
def U149 : List gS := [.inl (8, [4, 6, 11, 16, 21, 32, 43, 46, 47, 49, 51, 53, 54, 56, 0, 0, 1]), .inl (6, [0, 5, 0]), .inr (1, 400, 0), .inl (5, [0, 0, 0, 7, 8, 9, 10]), .inr (0, 4, 0), .inr (0, 4, 0), .inr (0, 12, 0), .inr (0, 48, 0), .inl (5, [0, 0, 0, 12, 13, 14, 15]), .inr (0, 4, 0), .inr (0, 4, 0), .inr (0, 12, 0), .inr (0, 48, 0), .inl (5, [0, 0, 0, 17, 18, 19, 20]), .inr (0, 4, 0), .inr (0, 4, 0), .inr (0, 12, 0), .inr (0, 48, 0), .inl (1, [0, 0, 0, 22, 23, 24, 25, 26, 27, 28, 29, 30, 31]), .inr (0, 4, 0), .inr (0, 4, 0), .inr (0, 20736, 0), .inr (0, 5, 0), .inr (0, 48, 0), .inr (0, 3, 0), .inr (0, 16, 0), .inr (0, 16, 0), .inr (0, 16, 0), .inr (0, 16, 0), .inl (1, [0, 0, 0, 33, 34, 35, 36, 37, 38, 39, 40, 41, 42]), .inr (0, 4, 0), .inr (0, 4, 0), .inr (0, 20736, 0), .inr (0, 5, 0), .inr (0, 48, 0), .inr (0, 3, 0), .inr (0, 16, 0), .inr (0, 16, 0), .inr (0, 16, 0), .inr (0, 16, 0), .inl (0, [44, 45]), .inr (0, 100, 0), .inr (0, 100, 0), .inl (7, [0, 0, 0, 0]), .inl (2, [48, 0, 0]), .inr (0, 300, 0), .inl (2, [50, 0, 0]), .inr (0, 300, 0), .inl (3, [0, 52, 0]), .inr (0, 120, 0), .inr (4, 4, 439), .inl (4, [0, 55]), .inr (0, 60, 0), .inr (0, 4, 0), .inl (4, [0, 58]), .inr (0, 60, 0), .inl (4, [0, 60]), .inr (0, 60, 0), .inl (4, [0, 62]), .inr (0, 60, 0), .inl (4, [0, 64]), .inr (0, 60, 0), .inl (9, [0, 66, 0, 0, 0, 67, 68, 69, 70, 0, 71, 72, 0, 73, 74, 75, 76, 0, 77, 0, 78, 2, 2, 2, 2, 2, 0, 0, 2, 0, 1, 0, 0, 0, 2, 2, 2, 2, 2, 2, 2, 2, 0]), .inr (0, 400, 0), .inr (0, 4, 0), .inr (0, 12, 0), .inr (0, 4, 0), .inr (0, 144, 0), .inr (0, 300, 0), .inr (0, 5, 0), .inr (0, 331, 0), .inr (0, 4, 0), .inr (0, 4, 0), .inr (0, 12, 0), .inr (0, 4, 0), .inr (0, 4, 0)]
def U150 : List gS := [.inl (8, [4, 6, 11, 16, 21, 32, 43, 46, 47, 49, 51, 53, 54, 56, 0, 0, 1]), .inl (6, [0, 5, 0]), .inr (1, 400, 0), .inl (5, [0, 0, 0, 7, 8, 9, 10]), .inr (0, 4, 0), .inr (0, 4, 0), .inr (0, 12, 0), .inr (0, 48, 0), .inl (5, [0, 0, 0, 12, 13, 14, 15]), .inr (0, 4, 0), .inr (0, 4, 0), .inr (0, 12, 0), .inr (0, 48, 0), .inl (5, [0, 0, 0, 17, 18, 19, 20]), .inr (0, 4, 0), .inr (0, 4, 0), .inr (0, 12, 0), .inr (0, 48, 0), .inl (1, [0, 0, 0, 22, 23, 24, 25, 26, 27, 28, 29, 30, 31]), .inr (0, 4, 0), .inr (0, 4, 0), .inr (0, 20736, 0), .inr (0, 5, 0), .inr (0, 48, 0), .inr (0, 3, 0), .inr (0, 16, 0), .inr (0, 16, 0), .inr (0, 16, 0), .inr (0, 16, 0), .inl (1, [0, 0, 0, 33, 34, 35, 36, 37, 38, 39, 40, 41, 42]), .inr (0, 4, 0), .inr (0, 4, 0), .inr (0, 20736, 0), .inr (0, 5, 0), .inr (0, 48, 0), .inr (0, 3, 0), .inr (0, 16, 0), .inr (0, 16, 0), .inr (0, 16, 0), .inr (0, 16, 0), .inl (0, [44, 45]), .inr (0, 100, 0), .inr (0, 100, 0), .inl (7, [0, 0, 0, 0]), .inl (2, [48, 0, 0]), .inr (0, 300, 0), .inl (2, [50, 0, 0]), .inr (0, 300, 0), .inl (3, [0, 52, 0]), .inr (0, 120, 0), .inr (4, 4, 439), .inl (4, [0, 55]), .inr (0, 60, 0), .inr (0, 4, 0), .inl (4, [0, 58]), .inr (0, 60, 0), .inl (4, [0, 60]), .inr (0, 60, 0), .inl (4, [0, 62]), .inr (0, 60, 0), .inl (4, [0, 64]), .inr (0, 60, 0), .inl (9, [0, 66, 0, 0, 0, 67, 68, 69, 70, 0, 71, 72, 0, 73, 74, 75, 76, 0, 77, 0, 78, 2, 2, 2, 2, 2, 0, 0, 2, 0, 1, 0, 0, 0, 2, 2, 2, 2, 2, 2, 2, 2, 0]), .inr (0, 400, 0), .inr (0, 4, 0), .inr (0, 12, 0), .inr (0, 4, 0), .inr (0, 144, 0), .inr (0, 300, 0), .inr (0, 5, 0), .inr (0, 331, 0), .inr (0, 4, 0), .inr (0, 4, 0), .inr (0, 12, 0), .inr (0, 4, 0), .inr (0, 4, 0), .inr (0, 192, 0)]
def U151 : List gS := [.inl (8, [4, 6, 11, 16, 21, 32, 43, 46, 47, 49, 51, 53, 54, 56, 0, 0, 1]), .inl (6, [0, 5, 0]), .inr (1, 400, 0), .inl (5, [0, 0, 0, 7, 8, 9, 10]), .inr (0, 4, 0), .inr (0, 4, 0), .inr (0, 12, 0), .inr (0, 48, 0), .inl (5, [0, 0, 0, 12, 13, 14, 15]), .inr (0, 4, 0), .inr (0, 4, 0), .inr (0, 12, 0), .inr (0, 48, 0), .inl (5, [0, 0, 0, 17, 18, 19, 20]), .inr (0, 4, 0), .inr (0, 4, 0), .inr (0, 12, 0), .inr (0, 48, 0), .inl (1, [0, 0, 0, 22, 23, 24, 25, 26, 27, 28, 29, 30, 31]), .inr (0, 4, 0), .inr (0, 4, 0), .inr (0, 20736, 0), .inr (0, 5, 0), .inr (0, 48, 0), .inr (0, 3, 0), .inr (0, 16, 0), .inr (0, 16, 0), .inr (0, 16, 0), .inr (0, 16, 0), .inl (1, [0, 0, 0, 33, 34, 35, 36, 37, 38, 39, 40, 41, 42]), .inr (0, 4, 0), .inr (0, 4, 0), .inr (0, 20736, 0), .inr (0, 5, 0), .inr (0, 48, 0), .inr (0, 3, 0), .inr (0, 16, 0), .inr (0, 16, 0), .inr (0, 16, 0), .inr (0, 16, 0), .inl (0, [44, 45]), .inr (0, 100, 0), .inr (0, 100, 0), .inl (7, [0, 0, 0, 0]), .inl (2, [48, 0, 0]), .inr (0, 300, 0), .inl (2, [50, 0, 0]), .inr (0, 300, 0), .inl (3, [0, 52, 0]), .inr (0, 120, 0), .inr (4, 4, 439), .inl (4, [0, 55]), .inr (0, 60, 0), .inr (0, 4, 0), .inl (4, [0, 58]), .inr (0, 60, 0), .inl (4, [0, 60]), .inr (0, 60, 0), .inl (4, [0, 62]), .inr (0, 60, 0), .inl (4, [0, 64]), .inr (0, 60, 0), .inl (9, [0, 66, 0, 0, 0, 67, 68, 69, 70, 0, 71, 72, 0, 73, 74, 75, 76, 0, 77, 0, 78, 79, 2, 2, 2, 2, 0, 0, 2, 0, 1, 0, 0, 0, 2, 2, 2, 2, 2, 2, 2, 2, 0]), .inr (0, 400, 0), .inr (0, 4, 0), .inr (0, 12, 0), .inr (0, 4, 0), .inr (0, 144, 0), .inr (0, 300, 0), .inr (0, 5, 0), .inr (0, 331, 0), .inr (0, 4, 0), .inr (0, 4, 0), .inr (0, 12, 0), .inr (0, 4, 0), .inr (0, 4, 0), .inr (0, 192, 0)]
def U152 : List gS := [.inl (8, [4, 6, 11, 16, 21, 32, 43, 46, 47, 49, 51, 53, 54, 56, 0, 0, 1]), .inl (6, [0, 5, 0]), .inr (1, 400, 0), .inl (5, [0, 0, 0, 7, 8, 9, 10]), .inr (0, 4, 0), .inr (0, 4, 0), .inr (0, 12, 0), .inr (0, 48, 0), .inl (5, [0, 0, 0, 12, 13, 14, 15]), .inr (0, 4, 0), .inr (0, 4, 0), .inr (0, 12, 0), .inr (0, 48, 0), .inl (5, [0, 0, 0, 17, 18, 19, 20]), .inr (0, 4, 0), .inr (0, 4, 0), .inr (0, 12, 0), .inr (0, 48, 0), .inl (1, [0, 0, 0, 22, 23, 24, 25, 26, 27, 28, 29, 30, 31]), .inr (0, 4, 0), .inr (0, 4, 0), .inr (0, 20736, 0), .inr (0, 5, 0), .inr (0, 48, 0), .inr (0, 3, 0), .inr (0, 16, 0), .inr (0, 16, 0), .inr (0, 16, 0), .inr (0, 16, 0), .inl (1, [0, 0, 0, 33, 34, 35, 36, 37, 38, 39, 40, 41, 42]), .inr (0, 4, 0), .inr (0, 4, 0), .inr (0, 20736, 0), .inr (0, 5, 0), .inr (0, 48, 0), .inr (0, 3, 0), .inr (0, 16, 0), .inr (0, 16, 0), .inr (0, 16, 0), .inr (0, 16, 0), .inl (0, [44, 45]), .inr (0, 100, 0), .inr (0, 100, 0), .inl (7, [0, 0, 0, 0]), .inl (2, [48, 0, 0]), .inr (0, 300, 0), .inl (2, [50, 0, 0]), .inr (0, 300, 0), .inl (3, [0, 52, 0]), .inr (0, 120, 0), .inr (4, 4, 439), .inl (4, [0, 55]), .inr (0, 60, 0), .inr (0, 4, 0), .inl (4, [0, 58]), .inr (0, 60, 0), .inl (4, [0, 60]), .inr (0, 60, 0), .inl (4, [0, 62]), .inr (0, 60, 0), .inl (4, [0, 64]), .inr (0, 60, 0), .inl (9, [0, 66, 0, 0, 0, 67, 68, 69, 70, 0, 71, 72, 0, 73, 74, 75, 76, 0, 77, 0, 78, 79, 2, 2, 2, 2, 0, 0, 2, 0, 1, 0, 0, 0, 2, 2, 2, 2, 2, 2, 2, 2, 0]), .inr (0, 400, 0), .inr (0, 4, 0), .inr (0, 12, 0), .inr (0, 4, 0), .inr (0, 144, 0), .inr (0, 300, 0), .inr (0, 5, 0), .inr (0, 331, 0), .inr (0, 4, 0), .inr (0, 4, 0), .inr (0, 12, 0), .inr (0, 4, 0), .inr (0, 4, 0), .inr (0, 192, 0), .inr (0, 16, 0)]
def U153 : List gS := [.inl (8, [4, 6, 11, 16, 21, 32, 43, 46, 47, 49, 51, 53, 54, 56, 0, 0, 1]), .inl (6, [0, 5, 0]), .inr (1, 400, 0), .inl (5, [0, 0, 0, 7, 8, 9, 10]), .inr (0, 4, 0), .inr (0, 4, 0), .inr (0, 12, 0), .inr (0, 48, 0), .inl (5, [0, 0, 0, 12, 13, 14, 15]), .inr (0, 4, 0), .inr (0, 4, 0), .inr (0, 12, 0), .inr (0, 48, 0), .inl (5, [0, 0, 0, 17, 18, 19, 20]), .inr (0, 4, 0), .inr (0, 4, 0), .inr (0, 12, 0), .inr (0, 48, 0), .inl (1, [0, 0, 0, 22, 23, 24, 25, 26, 27, 28, 29, 30, 31]), .inr (0, 4, 0), .inr (0, 4, 0), .inr (0, 20736, 0), .inr (0, 5, 0), .inr (0, 48, 0), .inr (0, 3, 0), .inr (0, 16, 0), .inr (0, 16, 0), .inr (0, 16, 0), .inr (0, 16, 0), .inl (1, [0, 0, 0, 33, 34, 35, 36, 37, 38, 39, 40, 41, 42]), .inr (0, 4, 0), .inr (0, 4, 0), .inr (0, 20736, 0), .inr (0, 5, 0), .inr (0, 48, 0), .inr (0, 3, 0), .inr (0, 16, 0), .inr (0, 16, 0), .inr (0, 16, 0), .inr (0, 16, 0), .inl (0, [44, 45]), .inr (0, 100, 0), .inr (0, 100, 0), .inl (7, [0, 0, 0, 0]), .inl (2, [48, 0, 0]), .inr (0, 300, 0), .inl (2, [50, 0, 0]), .inr (0, 300, 0), .inl (3, [0, 52, 0]), .inr (0, 120, 0), .inr (4, 4, 439), .inl (4, [0, 55]), .inr (0, 60, 0), .inr (0, 4, 0), .inl (4, [0, 58]), .inr (0, 60, 0), .inl (4, [0, 60]), .inr (0, 60, 0), .inl (4, [0, 62]), .inr (0, 60, 0), .inl (4, [0, 64]), .inr (0, 60, 0), .inl (9, [0, 66, 0, 0, 0, 67, 68, 69, 70, 0, 71, 72, 0, 73, 74, 75, 76, 0, 77, 0, 78, 79, 80, 2, 2, 2, 0, 0, 2, 0, 1, 0, 0, 0, 2, 2, 2, 2, 2, 2, 2, 2, 0]), .inr (0, 400, 0), .inr (0, 4, 0), .inr (0, 12, 0), .inr (0, 4, 0), .inr (0, 144, 0), .inr (0, 300, 0), .inr (0, 5, 0), .inr (0, 331, 0), .inr (0, 4, 0), .inr (0, 4, 0), .inr (0, 12, 0), .inr (0, 4, 0), .inr (0, 4, 0), .inr (0, 192, 0), .inr (0, 16, 0)]
def U154 : List gS := [.inl (8, [4, 6, 11, 16, 21, 32, 43, 46, 47, 49, 51, 53, 54, 56, 0, 0, 1]), .inl (6, [0, 5, 0]), .inr (1, 400, 0), .inl (5, [0, 0, 0, 7, 8, 9, 10]), .inr (0, 4, 0), .inr (0, 4, 0), .inr (0, 12, 0), .inr (0, 48, 0), .inl (5, [0, 0, 0, 12, 13, 14, 15]), .inr (0, 4, 0), .inr (0, 4, 0), .inr (0, 12, 0), .inr (0, 48, 0), .inl (5, [0, 0, 0, 17, 18, 19, 20]), .inr (0, 4, 0), .inr (0, 4, 0), .inr (0, 12, 0), .inr (0, 48, 0), .inl (1, [0, 0, 0, 22, 23, 24, 25, 26, 27, 28, 29, 30, 31]), .inr (0, 4, 0), .inr (0, 4, 0), .inr (0, 20736, 0), .inr (0, 5, 0), .inr (0, 48, 0), .inr (0, 3, 0), .inr (0, 16, 0), .inr (0, 16, 0), .inr (0, 16, 0), .inr (0, 16, 0), .inl (1, [0, 0, 0, 33, 34, 35, 36, 37, 38, 39, 40, 41, 42]), .inr (0, 4, 0), .inr (0, 4, 0), .inr (0, 20736, 0), .inr (0, 5, 0), .inr (0, 48, 0), .inr (0, 3, 0), .inr (0, 16, 0), .inr (0, 16, 0), .inr (0, 16, 0), .inr (0, 16, 0), .inl (0, [44, 45]), .inr (0, 100, 0), .inr (0, 100, 0), .inl (7, [0, 0, 0, 0]), .inl (2, [48, 0, 0]), .inr (0, 300, 0), .inl (2, [50, 0, 0]), .inr (0, 300, 0), .inl (3, [0, 52, 0]), .inr (0, 120, 0), .inr (4, 4, 439), .inl (4, [0, 55]), .inr (0, 60, 0), .inr (0, 4, 0), .inl (4, [0, 58]), .inr (0, 60, 0), .inl (4, [0, 60]), .inr (0, 60, 0), .inl (4, [0, 62]), .inr (0, 60, 0), .inl (4, [0, 64]), .inr (0, 60, 0), .inl (9, [0, 66, 0, 0, 0, 67, 68, 69, 70, 0, 71, 72, 0, 73, 74, 75, 76, 0, 77, 0, 78, 79, 80, 2, 2, 2, 0, 0, 2, 0, 1, 0, 0, 0, 2, 2, 2, 2, 2, 2, 2, 2, 0]), .inr (0, 400, 0), .inr (0, 4, 0), .inr (0, 12, 0), .inr (0, 4, 0), .inr (0, 144, 0), .inr (0, 300, 0), .inr (0, 5, 0), .inr (0, 331, 0), .inr (0, 4, 0), .inr (0, 4, 0), .inr (0, 12, 0), .inr (0, 4, 0), .inr (0, 4, 0), .inr (0, 192, 0), .inr (0, 16, 0), .inr (0, 16, 0)]
def U155 : List gS := [.inl (8, [4, 6, 11, 16, 21, 32, 43, 46, 47, 49, 51, 53, 54, 56, 0, 0, 1]), .inl (6, [0, 5, 0]), .inr (1, 400, 0), .inl (5, [0, 0, 0, 7, 8, 9, 10]), .inr (0, 4, 0), .inr (0, 4, 0), .inr (0, 12, 0), .inr (0, 48, 0), .inl (5, [0, 0, 0, 12, 13, 14, 15]), .inr (0, 4, 0), .inr (0, 4, 0), .inr (0, 12, 0), .inr (0, 48, 0), .inl (5, [0, 0, 0, 17, 18, 19, 20]), .inr (0, 4, 0), .inr (0, 4, 0), .inr (0, 12, 0), .inr (0, 48, 0), .inl (1, [0, 0, 0, 22, 23, 24, 25, 26, 27, 28, 29, 30, 31]), .inr (0, 4, 0), .inr (0, 4, 0), .inr (0, 20736, 0), .inr (0, 5, 0), .inr (0, 48, 0), .inr (0, 3, 0), .inr (0, 16, 0), .inr (0, 16, 0), .inr (0, 16, 0), .inr (0, 16, 0), .inl (1, [0, 0, 0, 33, 34, 35, 36, 37, 38, 39, 40, 41, 42]), .inr (0, 4, 0), .inr (0, 4, 0), .inr (0, 20736, 0), .inr (0, 5, 0), .inr (0, 48, 0), .inr (0, 3, 0), .inr (0, 16, 0), .inr (0, 16, 0), .inr (0, 16, 0), .inr (0, 16, 0), .inl (0, [44, 45]), .inr (0, 100, 0), .inr (0, 100, 0), .inl (7, [0, 0, 0, 0]), .inl (2, [48, 0, 0]), .inr (0, 300, 0), .inl (2, [50, 0, 0]), .inr (0, 300, 0), .inl (3, [0, 52, 0]), .inr (0, 120, 0), .inr (4, 4, 439), .inl (4, [0, 55]), .inr (0, 60, 0), .inr (0, 4, 0), .inl (4, [0, 58]), .inr (0, 60, 0), .inl (4, [0, 60]), .inr (0, 60, 0), .inl (4, [0, 62]), .inr (0, 60, 0), .inl (4, [0, 64]), .inr (0, 60, 0), .inl (9, [0, 66, 0, 0, 0, 67, 68, 69, 70, 0, 71, 72, 0, 73, 74, 75, 76, 0, 77, 0, 78, 79, 80, 81, 2, 2, 0, 0, 2, 0, 1, 0, 0, 0, 2, 2, 2, 2, 2, 2, 2, 2, 0]), .inr (0, 400, 0), .inr (0, 4, 0), .inr (0, 12, 0), .inr (0, 4, 0), .inr (0, 144, 0), .inr (0, 300, 0), .inr (0, 5, 0), .inr (0, 331, 0), .inr (0, 4, 0), .inr (0, 4, 0), .inr (0, 12, 0), .inr (0, 4, 0), .inr (0, 4, 0), .inr (0, 192, 0), .inr (0, 16, 0), .inr (0, 16, 0)]
def U156 : List gS := [.inl (8, [4, 6, 11, 16, 21, 32, 43, 46, 47, 49, 51, 53, 54, 56, 0, 0, 1]), .inl (6, [0, 5, 0]), .inr (1, 400, 0), .inl (5, [0, 0, 0, 7, 8, 9, 10]), .inr (0, 4, 0), .inr (0, 4, 0), .inr (0, 12, 0), .inr (0, 48, 0), .inl (5, [0, 0, 0, 12, 13, 14, 15]), .inr (0, 4, 0), .inr (0, 4, 0), .inr (0, 12, 0), .inr (0, 48, 0), .inl (5, [0, 0, 0, 17, 18, 19, 20]), .inr (0, 4, 0), .inr (0, 4, 0), .inr (0, 12, 0), .inr (0, 48, 0), .inl (1, [0, 0, 0, 22, 23, 24, 25, 26, 27, 28, 29, 30, 31]), .inr (0, 4, 0), .inr (0, 4, 0), .inr (0, 20736, 0), .inr (0, 5, 0), .inr (0, 48, 0), .inr (0, 3, 0), .inr (0, 16, 0), .inr (0, 16, 0), .inr (0, 16, 0), .inr (0, 16, 0), .inl (1, [0, 0, 0, 33, 34, 35, 36, 37, 38, 39, 40, 41, 42]), .inr (0, 4, 0), .inr (0, 4, 0), .inr (0, 20736, 0), .inr (0, 5, 0), .inr (0, 48, 0), .inr (0, 3, 0), .inr (0, 16, 0), .inr (0, 16, 0), .inr (0, 16, 0), .inr (0, 16, 0), .inl (0, [44, 45]), .inr (0, 100, 0), .inr (0, 100, 0), .inl (7, [0, 0, 0, 0]), .inl (2, [48, 0, 0]), .inr (0, 300, 0), .inl (2, [50, 0, 0]), .inr (0, 300, 0), .inl (3, [0, 52, 0]), .inr (0, 120, 0), .inr (4, 4, 439), .inl (4, [0, 55]), .inr (0, 60, 0), .inr (0, 4, 0), .inl (4, [0, 58]), .inr (0, 60, 0), .inl (4, [0, 60]), .inr (0, 60, 0), .inl (4, [0, 62]), .inr (0, 60, 0), .inl (4, [0, 64]), .inr (0, 60, 0), .inl (9, [0, 66, 0, 0, 0, 67, 68, 69, 70, 0, 71, 72, 0, 73, 74, 75, 76, 0, 77, 0, 78, 79, 80, 81, 2, 2, 0, 0, 2, 0, 1, 0, 0, 0, 2, 2, 2, 2, 2, 2, 2, 2, 0]), .inr (0, 400, 0), .inr (0, 4, 0), .inr (0, 12, 0), .inr (0, 4, 0), .inr (0, 144, 0), .inr (0, 300, 0), .inr (0, 5, 0), .inr (0, 331, 0), .inr (0, 4, 0), .inr (0, 4, 0), .inr (0, 12, 0), .inr (0, 4, 0), .inr (0, 4, 0), .inr (0, 192, 0), .inr (0, 16, 0), .inr (0, 16, 0), .inr (0, 5, 0)]
def U157 : List gS := [.inl (8, [4, 6, 11, 16, 21, 32, 43, 46, 47, 49, 51, 53, 54, 56, 0, 0, 1]), .inl (6, [0, 5, 0]), .inr (1, 400, 0), .inl (5, [0, 0, 0, 7, 8, 9, 10]), .inr (0, 4, 0), .inr (0, 4, 0), .inr (0, 12, 0), .inr (0, 48, 0), .inl (5, [0, 0, 0, 12, 13, 14, 15]), .inr (0, 4, 0), .inr (0, 4, 0), .inr (0, 12, 0), .inr (0, 48, 0), .inl (5, [0, 0, 0, 17, 18, 19, 20]), .inr (0, 4, 0), .inr (0, 4, 0), .inr (0, 12, 0), .inr (0, 48, 0), .inl (1, [0, 0, 0, 22, 23, 24, 25, 26, 27, 28, 29, 30, 31]), .inr (0, 4, 0), .inr (0, 4, 0), .inr (0, 20736, 0), .inr (0, 5, 0), .inr (0, 48, 0), .inr (0, 3, 0), .inr (0, 16, 0), .inr (0, 16, 0), .inr (0, 16, 0), .inr (0, 16, 0), .inl (1, [0, 0, 0, 33, 34, 35, 36, 37, 38, 39, 40, 41, 42]), .inr (0, 4, 0), .inr (0, 4, 0), .inr (0, 20736, 0), .inr (0, 5, 0), .inr (0, 48, 0), .inr (0, 3, 0), .inr (0, 16, 0), .inr (0, 16, 0), .inr (0, 16, 0), .inr (0, 16, 0), .inl (0, [44, 45]), .inr (0, 100, 0), .inr (0, 100, 0), .inl (7, [0, 0, 0, 0]), .inl (2, [48, 0, 0]), .inr (0, 300, 0), .inl (2, [50, 0, 0]), .inr (0, 300, 0), .inl (3, [0, 52, 0]), .inr (0, 120, 0), .inr (4, 4, 439), .inl (4, [0, 55]), .inr (0, 60, 0), .inr (0, 4, 0), .inl (4, [0, 58]), .inr (0, 60, 0), .inl (4, [0, 60]), .inr (0, 60, 0), .inl (4, [0, 62]), .inr (0, 60, 0), .inl (4, [0, 64]), .inr (0, 60, 0), .inl (9, [0, 66, 0, 0, 0, 67, 68, 69, 70, 0, 71, 72, 0, 73, 74, 75, 76, 0, 77, 0, 78, 79, 80, 81, 82, 2, 0, 0, 2, 0, 1, 0, 0, 0, 2, 2, 2, 2, 2, 2, 2, 2, 0]), .inr (0, 400, 0), .inr (0, 4, 0), .inr (0, 12, 0), .inr (0, 4, 0), .inr (0, 144, 0), .inr (0, 300, 0), .inr (0, 5, 0), .inr (0, 331, 0), .inr (0, 4, 0), .inr (0, 4, 0), .inr (0, 12, 0), .inr (0, 4, 0), .inr (0, 4, 0), .inr (0, 192, 0), .inr (0, 16, 0), .inr (0, 16, 0), .inr (0, 5, 0)]
def U158 : List gS := [.inl (8, [4, 6, 11, 16, 21, 32, 43, 46, 47, 49, 51, 53, 54, 56, 0, 0, 1]), .inl (6, [0, 5, 0]), .inr (1, 400, 0), .inl (5, [0, 0, 0, 7, 8, 9, 10]), .inr (0, 4, 0), .inr (0, 4, 0), .inr (0, 12, 0), .inr (0, 48, 0), .inl (5, [0, 0, 0, 12, 13, 14, 15]), .inr (0, 4, 0), .inr (0, 4, 0), .inr (0, 12, 0), .inr (0, 48, 0), .inl (5, [0, 0, 0, 17, 18, 19, 20]), .inr (0, 4, 0), .inr (0, 4, 0), .inr (0, 12, 0), .inr (0, 48, 0), .inl (1, [0, 0, 0, 22, 23, 24, 25, 26, 27, 28, 29, 30, 31]), .inr (0, 4, 0), .inr (0, 4, 0), .inr (0, 20736, 0), .inr (0, 5, 0), .inr (0, 48, 0), .inr (0, 3, 0), .inr (0, 16, 0), .inr (0, 16, 0), .inr (0, 16, 0), .inr (0, 16, 0), .inl (1, [0, 0, 0, 33, 34, 35, 36, 37, 38, 39, 40, 41, 42]), .inr (0, 4, 0), .inr (0, 4, 0), .inr (0, 20736, 0), .inr (0, 5, 0), .inr (0, 48, 0), .inr (0, 3, 0), .inr (0, 16, 0), .inr (0, 16, 0), .inr (0, 16, 0), .inr (0, 16, 0), .inl (0, [44, 45]), .inr (0, 100, 0), .inr (0, 100, 0), .inl (7, [0, 0, 0, 0]), .inl (2, [48, 0, 0]), .inr (0, 300, 0), .inl (2, [50, 0, 0]), .inr (0, 300, 0), .inl (3, [0, 52, 0]), .inr (0, 120, 0), .inr (4, 4, 439), .inl (4, [0, 55]), .inr (0, 60, 0), .inr (0, 4, 0), .inl (4, [0, 58]), .inr (0, 60, 0), .inl (4, [0, 60]), .inr (0, 60, 0), .inl (4, [0, 62]), .inr (0, 60, 0), .inl (4, [0, 64]), .inr (0, 60, 0), .inl (9, [0, 66, 0, 0, 0, 67, 68, 69, 70, 0, 71, 72, 0, 73, 74, 75, 76, 0, 77, 0, 78, 79, 80, 81, 82, 2, 0, 0, 2, 0, 1, 0, 0, 0, 2, 2, 2, 2, 2, 2, 2, 2, 0]), .inr (0, 400, 0), .inr (0, 4, 0), .inr (0, 12, 0), .inr (0, 4, 0), .inr (0, 144, 0), .inr (0, 300, 0), .inr (0, 5, 0), .inr (0, 331, 0), .inr (0, 4, 0), .inr (0, 4, 0), .inr (0, 12, 0), .inr (0, 4, 0), .inr (0, 4, 0), .inr (0, 192, 0), .inr (0, 16, 0), .inr (0, 16, 0), .inr (0, 5, 0), .inr (0, 82944, 0)]
def U159 : List gS := [.inl (8, [4, 6, 11, 16, 21, 32, 43, 46, 47, 49, 51, 53, 54, 56, 0, 0, 1]), .inl (6, [0, 5, 0]), .inr (1, 400, 0), .inl (5, [0, 0, 0, 7, 8, 9, 10]), .inr (0, 4, 0), .inr (0, 4, 0), .inr (0, 12, 0), .inr (0, 48, 0), .inl (5, [0, 0, 0, 12, 13, 14, 15]), .inr (0, 4, 0), .inr (0, 4, 0), .inr (0, 12, 0), .inr (0, 48, 0), .inl (5, [0, 0, 0, 17, 18, 19, 20]), .inr (0, 4, 0), .inr (0, 4, 0), .inr (0, 12, 0), .inr (0, 48, 0), .inl (1, [0, 0, 0, 22, 23, 24, 25, 26, 27, 28, 29, 30, 31]), .inr (0, 4, 0), .inr (0, 4, 0), .inr (0, 20736, 0), .inr (0, 5, 0), .inr (0, 48, 0), .inr (0, 3, 0), .inr (0, 16, 0), .inr (0, 16, 0), .inr (0, 16, 0), .inr (0, 16, 0), .inl (1, [0, 0, 0, 33, 34, 35, 36, 37, 38, 39, 40, 41, 42]), .inr (0, 4, 0), .inr (0, 4, 0), .inr (0, 20736, 0), .inr (0, 5, 0), .inr (0, 48, 0), .inr (0, 3, 0), .inr (0, 16, 0), .inr (0, 16, 0), .inr (0, 16, 0), .inr (0, 16, 0), .inl (0, [44, 45]), .inr (0, 100, 0), .inr (0, 100, 0), .inl (7, [0, 0, 0, 0]), .inl (2, [48, 0, 0]), .inr (0, 300, 0), .inl (2, [50, 0, 0]), .inr (0, 300, 0), .inl (3, [0, 52, 0]), .inr (0, 120, 0), .inr (4, 4, 439), .inl (4, [0, 55]), .inr (0, 60, 0), .inr (0, 4, 0), .inl (4, [0, 58]), .inr (0, 60, 0), .inl (4, [0, 60]), .inr (0, 60, 0), .inl (4, [0, 62]), .inr (0, 60, 0), .inl (4, [0, 64]), .inr (0, 60, 0), .inl (9, [0, 66, 0, 0, 0, 67, 68, 69, 70, 0, 71, 72, 0, 73, 74, 75, 76, 0, 77, 0, 78, 79, 80, 81, 82, 83, 0, 0, 2, 0, 1, 0, 0, 0, 2, 2, 2, 2, 2, 2, 2, 2, 0]), .inr (0, 400, 0), .inr (0, 4, 0), .inr (0, 12, 0), .inr (0, 4, 0), .inr (0, 144, 0), .inr (0, 300, 0), .inr (0, 5, 0), .inr (0, 331, 0), .inr (0, 4, 0), .inr (0, 4, 0), .inr (0, 12, 0), .inr (0, 4, 0), .inr (0, 4, 0), .inr (0, 192, 0), .inr (0, 16, 0), .inr (0, 16, 0), .inr (0, 5, 0), .inr (0, 82944, 0)]
def U160 : List gS := [.inl (8, [4, 6, 11, 16, 21, 32, 43, 46, 47, 49, 51, 53, 54, 56, 0, 0, 1]), .inl (6, [0, 5, 0]), .inr (1, 400, 0), .inl (5, [0, 0, 0, 7, 8, 9, 10]), .inr (0, 4, 0), .inr (0, 4, 0), .inr (0, 12, 0), .inr (0, 48, 0), .inl (5, [0, 0, 0, 12, 13, 14, 15]), .inr (0, 4, 0), .inr (0, 4, 0), .inr (0, 12, 0), .inr (0, 48, 0), .inl (5, [0, 0, 0, 17, 18, 19, 20]), .inr (0, 4, 0), .inr (0, 4, 0), .inr (0, 12, 0), .inr (0, 48, 0), .inl (1, [0, 0, 0, 22, 23, 24, 25, 26, 27, 28, 29, 30, 31]), .inr (0, 4, 0), .inr (0, 4, 0), .inr (0, 20736, 0), .inr (0, 5, 0), .inr (0, 48, 0), .inr (0, 3, 0), .inr (0, 16, 0), .inr (0, 16, 0), .inr (0, 16, 0), .inr (0, 16, 0), .inl (1, [0, 0, 0, 33, 34, 35, 36, 37, 38, 39, 40, 41, 42]), .inr (0, 4, 0), .inr (0, 4, 0), .inr (0, 20736, 0), .inr (0, 5, 0), .inr (0, 48, 0), .inr (0, 3, 0), .inr (0, 16, 0), .inr (0, 16, 0), .inr (0, 16, 0), .inr (0, 16, 0), .inl (0, [44, 45]), .inr (0, 100, 0), .inr (0, 100, 0), .inl (7, [0, 0, 0, 0]), .inl (2, [48, 0, 0]), .inr (0, 300, 0), .inl (2, [50, 0, 0]), .inr (0, 300, 0), .inl (3, [0, 52, 0]), .inr (0, 120, 0), .inr (4, 4, 439), .inl (4, [0, 55]), .inr (0, 60, 0), .inr (0, 4, 0), .inl (4, [0, 58]), .inr (0, 60, 0), .inl (4, [0, 60]), .inr (0, 60, 0), .inl (4, [0, 62]), .inr (0, 60, 0), .inl (4, [0, 64]), .inr (0, 60, 0), .inl (9, [0, 66, 0, 0, 0, 67, 68, 69, 70, 0, 71, 72, 0, 73, 74, 75, 76, 0, 77, 0, 78, 79, 80, 81, 82, 83, 0, 0, 2, 0, 1, 0, 0, 0, 2, 2, 2, 2, 2, 2, 2, 2, 0]), .inr (0, 400, 0), .inr (0, 4, 0), .inr (0, 12, 0), .inr (0, 4, 0), .inr (0, 144, 0), .inr (0, 300, 0), .inr (0, 5, 0), .inr (0, 331, 0), .inr (0, 4, 0), .inr (0, 4, 0), .inr (0, 12, 0), .inr (0, 4, 0), .inr (0, 4, 0), .inr (0, 192, 0), .inr (0, 16, 0), .inr (0, 16, 0), .inr (0, 5, 0), .inr (0, 82944, 0), .inr (0, 13240, 0)]
def U161 : List gS := [.inl (8, [4, 6, 11, 16, 21, 32, 43, 46, 47, 49, 51, 53, 54, 56, 0, 0, 1]), .inl (6, [0, 5, 0]), .inr (1, 400, 0), .inl (5, [0, 0, 0, 7, 8, 9, 10]), .inr (0, 4, 0), .inr (0, 4, 0), .inr (0, 12, 0), .inr (0, 48, 0), .inl (5, [0, 0, 0, 12, 13, 14, 15]), .inr (0, 4, 0), .inr (0, 4, 0), .inr (0, 12, 0), .inr (0, 48, 0), .inl (5, [0, 0, 0, 17, 18, 19, 20]), .inr (0, 4, 0), .inr (0, 4, 0), .inr (0, 12, 0), .inr (0, 48, 0), .inl (1, [0, 0, 0, 22, 23, 24, 25, 26, 27, 28, 29, 30, 31]), .inr (0, 4, 0), .inr (0, 4, 0), .inr (0, 20736, 0), .inr (0, 5, 0), .inr (0, 48, 0), .inr (0, 3, 0), .inr (0, 16, 0), .inr (0, 16, 0), .inr (0, 16, 0), .inr (0, 16, 0), .inl (1, [0, 0, 0, 33, 34, 35, 36, 37, 38, 39, 40, 41, 42]), .inr (0, 4, 0), .inr (0, 4, 0), .inr (0, 20736, 0), .inr (0, 5, 0), .inr (0, 48, 0), .inr (0, 3, 0), .inr (0, 16, 0), .inr (0, 16, 0), .inr (0, 16, 0), .inr (0, 16, 0), .inl (0, [44, 45]), .inr (0, 100, 0), .inr (0, 100, 0), .inl (7, [0, 0, 0, 0]), .inl (2, [48, 0, 0]), .inr (0, 300, 0), .inl (2, [50, 0, 0]), .inr (0, 300, 0), .inl (3, [0, 52, 0]), .inr (0, 120, 0), .inr (4, 4, 439), .inl (4, [0, 55]), .inr (0, 60, 0), .inr (0, 4, 0), .inl (4, [0, 58]), .inr (0, 60, 0), .inl (4, [0, 60]), .inr (0, 60, 0), .inl (4, [0, 62]), .inr (0, 60, 0), .inl (4, [0, 64]), .inr (0, 60, 0), .inl (9, [0, 66, 0, 0, 0, 67, 68, 69, 70, 0, 71, 72, 0, 73, 74, 75, 76, 0, 77, 0, 78, 79, 80, 81, 82, 83, 0, 0, 84, 0, 1, 0, 0, 0, 2, 2, 2, 2, 2, 2, 2, 2, 0]), .inr (0, 400, 0), .inr (0, 4, 0), .inr (0, 12, 0), .inr (0, 4, 0), .inr (0, 144, 0), .inr (0, 300, 0), .inr (0, 5, 0), .inr (0, 331, 0), .inr (0, 4, 0), .inr (0, 4, 0), .inr (0, 12, 0), .inr (0, 4, 0), .inr (0, 4, 0), .inr (0, 192, 0), .inr (0, 16, 0), .inr (0, 16, 0), .inr (0, 5, 0), .inr (0, 82944, 0), .inr (0, 13240, 0)]
def U162 : List gS := [.inl (8, [4, 6, 11, 16, 21, 32, 43, 46, 47, 49, 51, 53, 54, 56, 0, 0, 1]), .inl (6, [0, 5, 0]), .inr (1, 400, 0), .inl (5, [0, 0, 0, 7, 8, 9, 10]), .inr (0, 4, 0), .inr (0, 4, 0), .inr (0, 12, 0), .inr (0, 48, 0), .inl (5, [0, 0, 0, 12, 13, 14, 15]), .inr (0, 4, 0), .inr (0, 4, 0), .inr (0, 12, 0), .inr (0, 48, 0), .inl (5, [0, 0, 0, 17, 18, 19, 20]), .inr (0, 4, 0), .inr (0, 4, 0), .inr (0, 12, 0), .inr (0, 48, 0), .inl (1, [0, 0, 0, 22, 23, 24, 25, 26, 27, 28, 29, 30, 31]), .inr (0, 4, 0), .inr (0, 4, 0), .inr (0, 20736, 0), .inr (0, 5, 0), .inr (0, 48, 0), .inr (0, 3, 0), .inr (0, 16, 0), .inr (0, 16, 0), .inr (0, 16, 0), .inr (0, 16, 0), .inl (1, [0, 0, 0, 33, 34, 35, 36, 37, 38, 39, 40, 41, 42]), .inr (0, 4, 0), .inr (0, 4, 0), .inr (0, 20736, 0), .inr (0, 5, 0), .inr (0, 48, 0), .inr (0, 3, 0), .inr (0, 16, 0), .inr (0, 16, 0), .inr (0, 16, 0), .inr (0, 16, 0), .inl (0, [44, 45]), .inr (0, 100, 0), .inr (0, 100, 0), .inl (7, [0, 0, 0, 0]), .inl (2, [48, 0, 0]), .inr (0, 300, 0), .inl (2, [50, 0, 0]), .inr (0, 300, 0), .inl (3, [0, 52, 0]), .inr (0, 120, 0), .inr (4, 4, 439), .inl (4, [0, 55]), .inr (0, 60, 0), .inr (0, 4, 0), .inl (4, [0, 58]), .inr (0, 60, 0), .inl (4, [0, 60]), .inr (0, 60, 0), .inl (4, [0, 62]), .inr (0, 60, 0), .inl (4, [0, 64]), .inr (0, 60, 0), .inl (9, [0, 66, 0, 0, 0, 67, 68, 69, 70, 0, 71, 72, 0, 73, 74, 75, 76, 0, 77, 0, 78, 79, 80, 81, 82, 83, 0, 0, 84, 0, 1, 0, 0, 0, 2, 2, 2, 2, 2, 2, 2, 2, 0]), .inr (0, 400, 0), .inr (0, 4, 0), .inr (0, 12, 0), .inr (0, 4, 0), .inr (0, 144, 0), .inr (0, 300, 0), .inr (0, 5, 0), .inr (0, 331, 0), .inr (0, 4, 0), .inr (0, 4, 0), .inr (0, 12, 0), .inr (0, 4, 0), .inr (0, 4, 0), .inr (0, 192, 0), .inr (0, 16, 0), .inr (0, 16, 0), .inr (0, 5, 0), .inr (0, 82944, 0), .inr (0, 13240, 0), .inr (0, 400, 0)]
def U163 : List gS := [.inl (8, [4, 6, 11, 16, 21, 32, 43, 46, 47, 49, 51, 53, 54, 56, 0, 0, 1]), .inl (6, [0, 5, 0]), .inr (1, 400, 0), .inl (5, [0, 0, 0, 7, 8, 9, 10]), .inr (0, 4, 0), .inr (0, 4, 0), .inr (0, 12, 0), .inr (0, 48, 0), .inl (5, [0, 0, 0, 12, 13, 14, 15]), .inr (0, 4, 0), .inr (0, 4, 0), .inr (0, 12, 0), .inr (0, 48, 0), .inl (5, [0, 0, 0, 17, 18, 19, 20]), .inr (0, 4, 0), .inr (0, 4, 0), .inr (0, 12, 0), .inr (0, 48, 0), .inl (1, [0, 0, 0, 22, 23, 24, 25, 26, 27, 28, 29, 30, 31]), .inr (0, 4, 0), .inr (0, 4, 0), .inr (0, 20736, 0), .inr (0, 5, 0), .inr (0, 48, 0), .inr (0, 3, 0), .inr (0, 16, 0), .inr (0, 16, 0), .inr (0, 16, 0), .inr (0, 16, 0), .inl (1, [0, 0, 0, 33, 34, 35, 36, 37, 38, 39, 40, 41, 42]), .inr (0, 4, 0), .inr (0, 4, 0), .inr (0, 20736, 0), .inr (0, 5, 0), .inr (0, 48, 0), .inr (0, 3, 0), .inr (0, 16, 0), .inr (0, 16, 0), .inr (0, 16, 0), .inr (0, 16, 0), .inl (0, [44, 45]), .inr (0, 100, 0), .inr (0, 100, 0), .inl (7, [0, 0, 0, 0]), .inl (2, [48, 0, 0]), .inr (0, 300, 0), .inl (2, [50, 0, 0]), .inr (0, 300, 0), .inl (3, [0, 52, 0]), .inr (0, 120, 0), .inr (4, 4, 439), .inl (4, [0, 55]), .inr (0, 60, 0), .inr (0, 4, 0), .inl (4, [0, 58]), .inr (0, 60, 0), .inl (4, [0, 60]), .inr (0, 60, 0), .inl (4, [0, 62]), .inr (0, 60, 0), .inl (4, [0, 64]), .inr (0, 60, 0), .inl (9, [0, 66, 0, 0, 0, 67, 68, 69, 70, 0, 71, 72, 0, 73, 74, 75, 76, 0, 77, 0, 78, 79, 80, 81, 82, 83, 0, 0, 84, 0, 1, 0, 0, 0, 85, 2, 2, 2, 2, 2, 2, 2, 0]), .inr (0, 400, 0), .inr (0, 4, 0), .inr (0, 12, 0), .inr (0, 4, 0), .inr (0, 144, 0), .inr (0, 300, 0), .inr (0, 5, 0), .inr (0, 331, 0), .inr (0, 4, 0), .inr (0, 4, 0), .inr (0, 12, 0), .inr (0, 4, 0), .inr (0, 4, 0), .inr (0, 192, 0), .inr (0, 16, 0), .inr (0, 16, 0), .inr (0, 5, 0), .inr (0, 82944, 0), .inr (0, 13240, 0), .inr (0, 400, 0)]
def U164 : List gS := [.inl (8, [4, 6, 11, 16, 21, 32, 43, 46, 47, 49, 51, 53, 54, 56, 0, 0, 1]), .inl (6, [0, 5, 0]), .inr (1, 400, 0), .inl (5, [0, 0, 0, 7, 8, 9, 10]), .inr (0, 4, 0), .inr (0, 4, 0), .inr (0, 12, 0), .inr (0, 48, 0), .inl (5, [0, 0, 0, 12, 13, 14, 15]), .inr (0, 4, 0), .inr (0, 4, 0), .inr (0, 12, 0), .inr (0, 48, 0), .inl (5, [0, 0, 0, 17, 18, 19, 20]), .inr (0, 4, 0), .inr (0, 4, 0), .inr (0, 12, 0), .inr (0, 48, 0), .inl (1, [0, 0, 0, 22, 23, 24, 25, 26, 27, 28, 29, 30, 31]), .inr (0, 4, 0), .inr (0, 4, 0), .inr (0, 20736, 0), .inr (0, 5, 0), .inr (0, 48, 0), .inr (0, 3, 0), .inr (0, 16, 0), .inr (0, 16, 0), .inr (0, 16, 0), .inr (0, 16, 0), .inl (1, [0, 0, 0, 33, 34, 35, 36, 37, 38, 39, 40, 41, 42]), .inr (0, 4, 0), .inr (0, 4, 0), .inr (0, 20736, 0), .inr (0, 5, 0), .inr (0, 48, 0), .inr (0, 3, 0), .inr (0, 16, 0), .inr (0, 16, 0), .inr (0, 16, 0), .inr (0, 16, 0), .inl (0, [44, 45]), .inr (0, 100, 0), .inr (0, 100, 0), .inl (7, [0, 0, 0, 0]), .inl (2, [48, 0, 0]), .inr (0, 300, 0), .inl (2, [50, 0, 0]), .inr (0, 300, 0), .inl (3, [0, 52, 0]), .inr (0, 120, 0), .inr (4, 4, 439), .inl (4, [0, 55]), .inr (0, 60, 0), .inr (0, 4, 0), .inl (4, [0, 58]), .inr (0, 60, 0), .inl (4, [0, 60]), .inr (0, 60, 0), .inl (4, [0, 62]), .inr (0, 60, 0), .inl (4, [0, 64]), .inr (0, 60, 0), .inl (9, [0, 66, 0, 0, 0, 67, 68, 69, 70, 0, 71, 72, 0, 73, 74, 75, 76, 0, 77, 0, 78, 79, 80, 81, 82, 83, 0, 0, 84, 0, 1, 0, 0, 0, 85, 2, 2, 2, 2, 2, 2, 2, 0]), .inr (0, 400, 0), .inr (0, 4, 0), .inr (0, 12, 0), .inr (0, 4, 0), .inr (0, 144, 0), .inr (0, 300, 0), .inr (0, 5, 0), .inr (0, 331, 0), .inr (0, 4, 0), .inr (0, 4, 0), .inr (0, 12, 0), .inr (0, 4, 0), .inr (0, 4, 0), .inr (0, 192, 0), .inr (0, 16, 0), .inr (0, 16, 0), .inr (0, 5, 0), .inr (0, 82944, 0), .inr (0, 13240, 0), .inr (0, 400, 0), .inr (0, 400, 0)]
def U165 : List gS := [.inl (8, [4, 6, 11, 16, 21, 32, 43, 46, 47, 49, 51, 53, 54, 56, 0, 0, 1]), .inl (6, [0, 5, 0]), .inr (1, 400, 0), .inl (5, [0, 0, 0, 7, 8, 9, 10]), .inr (0, 4, 0), .inr (0, 4, 0), .inr (0, 12, 0), .inr (0, 48, 0), .inl (5, [0, 0, 0, 12, 13, 14, 15]), .inr (0, 4, 0), .inr (0, 4, 0), .inr (0, 12, 0), .inr (0, 48, 0), .inl (5, [0, 0, 0, 17, 18, 19, 20]), .inr (0, 4, 0), .inr (0, 4, 0), .inr (0, 12, 0), .inr (0, 48, 0), .inl (1, [0, 0, 0, 22, 23, 24, 25, 26, 27, 28, 29, 30, 31]), .inr (0, 4, 0), .inr (0, 4, 0), .inr (0, 20736, 0), .inr (0, 5, 0), .inr (0, 48, 0), .inr (0, 3, 0), .inr (0, 16, 0), .inr (0, 16, 0), .inr (0, 16, 0), .inr (0, 16, 0), .inl (1, [0, 0, 0, 33, 34, 35, 36, 37, 38, 39, 40, 41, 42]), .inr (0, 4, 0), .inr (0, 4, 0), .inr (0, 20736, 0), .inr (0, 5, 0), .inr (0, 48, 0), .inr (0, 3, 0), .inr (0, 16, 0), .inr (0, 16, 0), .inr (0, 16, 0), .inr (0, 16, 0), .inl (0, [44, 45]), .inr (0, 100, 0), .inr (0, 100, 0), .inl (7, [0, 0, 0, 0]), .inl (2, [48, 0, 0]), .inr (0, 300, 0), .inl (2, [50, 0, 0]), .inr (0, 300, 0), .inl (3, [0, 52, 0]), .inr (0, 120, 0), .inr (4, 4, 439), .inl (4, [0, 55]), .inr (0, 60, 0), .inr (0, 4, 0), .inl (4, [0, 58]), .inr (0, 60, 0), .inl (4, [0, 60]), .inr (0, 60, 0), .inl (4, [0, 62]), .inr (0, 60, 0), .inl (4, [0, 64]), .inr (0, 60, 0), .inl (9, [0, 66, 0, 0, 0, 67, 68, 69, 70, 0, 71, 72, 0, 73, 74, 75, 76, 0, 77, 0, 78, 79, 80, 81, 82, 83, 0, 0, 84, 0, 1, 0, 0, 0, 85, 86, 2, 2, 2, 2, 2, 2, 0]), .inr (0, 400, 0), .inr (0, 4, 0), .inr (0, 12, 0), .inr (0, 4, 0), .inr (0, 144, 0), .inr (0, 300, 0), .inr (0, 5, 0), .inr (0, 331, 0), .inr (0, 4, 0), .inr (0, 4, 0), .inr (0, 12, 0), .inr (0, 4, 0), .inr (0, 4, 0), .inr (0, 192, 0), .inr (0, 16, 0), .inr (0, 16, 0), .inr (0, 5, 0), .inr (0, 82944, 0), .inr (0, 13240, 0), .inr (0, 400, 0), .inr (0, 400, 0)]
def U166 : List gS := [.inl (8, [4, 6, 11, 16, 21, 32, 43, 46, 47, 49, 51, 53, 54, 56, 0, 0, 1]), .inl (6, [0, 5, 0]), .inr (1, 400, 0), .inl (5, [0, 0, 0, 7, 8, 9, 10]), .inr (0, 4, 0), .inr (0, 4, 0), .inr (0, 12, 0), .inr (0, 48, 0), .inl (5, [0, 0, 0, 12, 13, 14, 15]), .inr (0, 4, 0), .inr (0, 4, 0), .inr (0, 12, 0), .inr (0, 48, 0), .inl (5, [0, 0, 0, 17, 18, 19, 20]), .inr (0, 4, 0), .inr (0, 4, 0), .inr (0, 12, 0), .inr (0, 48, 0), .inl (1, [0, 0, 0, 22, 23, 24, 25, 26, 27, 28, 29, 30, 31]), .inr (0, 4, 0), .inr (0, 4, 0), .inr (0, 20736, 0), .inr (0, 5, 0), .inr (0, 48, 0), .inr (0, 3, 0), .inr (0, 16, 0), .inr (0, 16, 0), .inr (0, 16, 0), .inr (0, 16, 0), .inl (1, [0, 0, 0, 33, 34, 35, 36, 37, 38, 39, 40, 41, 42]), .inr (0, 4, 0), .inr (0, 4, 0), .inr (0, 20736, 0), .inr (0, 5, 0), .inr (0, 48, 0), .inr (0, 3, 0), .inr (0, 16, 0), .inr (0, 16, 0), .inr (0, 16, 0), .inr (0, 16, 0), .inl (0, [44, 45]), .inr (0, 100, 0), .inr (0, 100, 0), .inl (7, [0, 0, 0, 0]), .inl (2, [48, 0, 0]), .inr (0, 300, 0), .inl (2, [50, 0, 0]), .inr (0, 300, 0), .inl (3, [0, 52, 0]), .inr (0, 120, 0), .inr (4, 4, 439), .inl (4, [0, 55]), .inr (0, 60, 0), .inr (0, 4, 0), .inl (4, [0, 58]), .inr (0, 60, 0), .inl (4, [0, 60]), .inr (0, 60, 0), .inl (4, [0, 62]), .inr (0, 60, 0), .inl (4, [0, 64]), .inr (0, 60, 0), .inl (9, [0, 66, 0, 0, 0, 67, 68, 69, 70, 0, 71, 72, 0, 73, 74, 75, 76, 0, 77, 0, 78, 79, 80, 81, 82, 83, 0, 0, 84, 0, 1, 0, 0, 0, 85, 86, 2, 2, 2, 2, 2, 2, 0]), .inr (0, 400, 0), .inr (0, 4, 0), .inr (0, 12, 0), .inr (0, 4, 0), .inr (0, 144, 0), .inr (0, 300, 0), .inr (0, 5, 0), .inr (0, 331, 0), .inr (0, 4, 0), .inr (0, 4, 0), .inr (0, 12, 0), .inr (0, 4, 0), .inr (0, 4, 0), .inr (0, 192, 0), .inr (0, 16, 0), .inr (0, 16, 0), .inr (0, 5, 0), .inr (0, 82944, 0), .inr (0, 13240, 0), .inr (0, 400, 0), .inr (0, 400, 0), .inr (0, 4, 0)]
def U167 : List gS := [.inl (8, [4, 6, 11, 16, 21, 32, 43, 46, 47, 49, 51, 53, 54, 56, 0, 0, 1]), .inl (6, [0, 5, 0]), .inr (1, 400, 0), .inl (5, [0, 0, 0, 7, 8, 9, 10]), .inr (0, 4, 0), .inr (0, 4, 0), .inr (0, 12, 0), .inr (0, 48, 0), .inl (5, [0, 0, 0, 12, 13, 14, 15]), .inr (0, 4, 0), .inr (0, 4, 0), .inr (0, 12, 0), .inr (0, 48, 0), .inl (5, [0, 0, 0, 17, 18, 19, 20]), .inr (0, 4, 0), .inr (0, 4, 0), .inr (0, 12, 0), .inr (0, 48, 0), .inl (1, [0, 0, 0, 22, 23, 24, 25, 26, 27, 28, 29, 30, 31]), .inr (0, 4, 0), .inr (0, 4, 0), .inr (0, 20736, 0), .inr (0, 5, 0), .inr (0, 48, 0), .inr (0, 3, 0), .inr (0, 16, 0), .inr (0, 16, 0), .inr (0, 16, 0), .inr (0, 16, 0), .inl (1, [0, 0, 0, 33, 34, 35, 36, 37, 38, 39, 40, 41, 42]), .inr (0, 4, 0), .inr (0, 4, 0), .inr (0, 20736, 0), .inr (0, 5, 0), .inr (0, 48, 0), .inr (0, 3, 0), .inr (0, 16, 0), .inr (0, 16, 0), .inr (0, 16, 0), .inr (0, 16, 0), .inl (0, [44, 45]), .inr (0, 100, 0), .inr (0, 100, 0), .inl (7, [0, 0, 0, 0]), .inl (2, [48, 0, 0]), .inr (0, 300, 0), .inl (2, [50, 0, 0]), .inr (0, 300, 0), .inl (3, [0, 52, 0]), .inr (0, 120, 0), .inr (4, 4, 439), .inl (4, [0, 55]), .inr (0, 60, 0), .inr (0, 4, 0), .inl (4, [0, 58]), .inr (0, 60, 0), .inl (4, [0, 60]), .inr (0, 60, 0), .inl (4, [0, 62]), .inr (0, 60, 0), .inl (4, [0, 64]), .inr (0, 60, 0), .inl (9, [0, 66, 0, 0, 0, 67, 68, 69, 70, 0, 71, 72, 0, 73, 74, 75, 76, 0, 77, 0, 78, 79, 80, 81, 82, 83, 0, 0, 84, 0, 1, 0, 0, 0, 85, 86, 87, 2, 2, 2, 2, 2, 0]), .inr (0, 400, 0), .inr (0, 4, 0), .inr (0, 12, 0), .inr (0, 4, 0), .inr (0, 144, 0), .inr (0, 300, 0), .inr (0, 5, 0), .inr (0, 331, 0), .inr (0, 4, 0), .inr (0, 4, 0), .inr (0, 12, 0), .inr (0, 4, 0), .inr (0, 4, 0), .inr (0, 192, 0), .inr (0, 16, 0), .inr (0, 16, 0), .inr (0, 5, 0), .inr (0, 82944, 0), .inr (0, 13240, 0), .inr (0, 400, 0), .inr (0, 400, 0), .inr (0, 4, 0)]
def U168 : List gS := [.inl (8, [4, 6, 11, 16, 21, 32, 43, 46, 47, 49, 51, 53, 54, 56, 0, 0, 1]), .inl (6, [0, 5, 0]), .inr (1, 400, 0), .inl (5, [0, 0, 0, 7, 8, 9, 10]), .inr (0, 4, 0), .inr (0, 4, 0), .inr (0, 12, 0), .inr (0, 48, 0), .inl (5, [0, 0, 0, 12, 13, 14, 15]), .inr (0, 4, 0), .inr (0, 4, 0), .inr (0, 12, 0), .inr (0, 48, 0), .inl (5, [0, 0, 0, 17, 18, 19, 20]), .inr (0, 4, 0), .inr (0, 4, 0), .inr (0, 12, 0), .inr (0, 48, 0), .inl (1, [0, 0, 0, 22, 23, 24, 25, 26, 27, 28, 29, 30, 31]), .inr (0, 4, 0), .inr (0, 4, 0), .inr (0, 20736, 0), .inr (0, 5, 0), .inr (0, 48, 0), .inr (0, 3, 0), .inr (0, 16, 0), .inr (0, 16, 0), .inr (0, 16, 0), .inr (0, 16, 0), .inl (1, [0, 0, 0, 33, 34, 35, 36, 37, 38, 39, 40, 41, 42]), .inr (0, 4, 0), .inr (0, 4, 0), .inr (0, 20736, 0), .inr (0, 5, 0), .inr (0, 48, 0), .inr (0, 3, 0), .inr (0, 16, 0), .inr (0, 16, 0), .inr (0, 16, 0), .inr (0, 16, 0), .inl (0, [44, 45]), .inr (0, 100, 0), .inr (0, 100, 0), .inl (7, [0, 0, 0, 0]), .inl (2, [48, 0, 0]), .inr (0, 300, 0), .inl (2, [50, 0, 0]), .inr (0, 300, 0), .inl (3, [0, 52, 0]), .inr (0, 120, 0), .inr (4, 4, 439), .inl (4, [0, 55]), .inr (0, 60, 0), .inr (0, 4, 0), .inl (4, [0, 58]), .inr (0, 60, 0), .inl (4, [0, 60]), .inr (0, 60, 0), .inl (4, [0, 62]), .inr (0, 60, 0), .inl (4, [0, 64]), .inr (0, 60, 0), .inl (9, [0, 66, 0, 0, 0, 67, 68, 69, 70, 0, 71, 72, 0, 73, 74, 75, 76, 0, 77, 0, 78, 79, 80, 81, 82, 83, 0, 0, 84, 0, 1, 0, 0, 0, 85, 86, 87, 2, 2, 2, 2, 2, 0]), .inr (0, 400, 0), .inr (0, 4, 0), .inr (0, 12, 0), .inr (0, 4, 0), .inr (0, 144, 0), .inr (0, 300, 0), .inr (0, 5, 0), .inr (0, 331, 0), .inr (0, 4, 0), .inr (0, 4, 0), .inr (0, 12, 0), .inr (0, 4, 0), .inr (0, 4, 0), .inr (0, 192, 0), .inr (0, 16, 0), .inr (0, 16, 0), .inr (0, 5, 0), .inr (0, 82944, 0), .inr (0, 13240, 0), .inr (0, 400, 0), .inr (0, 400, 0), .inr (0, 4, 0), .inr (2, 20736, 0)]
def U169 : List gS := [.inl (8, [4, 6, 11, 16, 21, 32, 43, 46, 47, 49, 51, 53, 54, 56, 0, 0, 1]), .inl (6, [0, 5, 0]), .inr (1, 400, 0), .inl (5, [0, 0, 0, 7, 8, 9, 10]), .inr (0, 4, 0), .inr (0, 4, 0), .inr (0, 12, 0), .inr (0, 48, 0), .inl (5, [0, 0, 0, 12, 13, 14, 15]), .inr (0, 4, 0), .inr (0, 4, 0), .inr (0, 12, 0), .inr (0, 48, 0), .inl (5, [0, 0, 0, 17, 18, 19, 20]), .inr (0, 4, 0), .inr (0, 4, 0), .inr (0, 12, 0), .inr (0, 48, 0), .inl (1, [0, 0, 0, 22, 23, 24, 25, 26, 27, 28, 29, 30, 31]), .inr (0, 4, 0), .inr (0, 4, 0), .inr (0, 20736, 0), .inr (0, 5, 0), .inr (0, 48, 0), .inr (0, 3, 0), .inr (0, 16, 0), .inr (0, 16, 0), .inr (0, 16, 0), .inr (0, 16, 0), .inl (1, [0, 0, 0, 33, 34, 35, 36, 37, 38, 39, 40, 41, 42]), .inr (0, 4, 0), .inr (0, 4, 0), .inr (0, 20736, 0), .inr (0, 5, 0), .inr (0, 48, 0), .inr (0, 3, 0), .inr (0, 16, 0), .inr (0, 16, 0), .inr (0, 16, 0), .inr (0, 16, 0), .inl (0, [44, 45]), .inr (0, 100, 0), .inr (0, 100, 0), .inl (7, [0, 0, 0, 0]), .inl (2, [48, 0, 0]), .inr (0, 300, 0), .inl (2, [50, 0, 0]), .inr (0, 300, 0), .inl (3, [0, 52, 0]), .inr (0, 120, 0), .inr (4, 4, 439), .inl (4, [0, 55]), .inr (0, 60, 0), .inr (0, 4, 0), .inl (4, [0, 58]), .inr (0, 60, 0), .inl (4, [0, 60]), .inr (0, 60, 0), .inl (4, [0, 62]), .inr (0, 60, 0), .inl (4, [0, 64]), .inr (0, 60, 0), .inl (9, [0, 66, 0, 0, 0, 67, 68, 69, 70, 0, 71, 72, 0, 73, 74, 75, 76, 0, 77, 0, 78, 79, 80, 81, 82, 83, 0, 0, 84, 0, 1, 0, 0, 0, 85, 86, 87, 88, 2, 2, 2, 2, 0]), .inr (0, 400, 0), .inr (0, 4, 0), .inr (0, 12, 0), .inr (0, 4, 0), .inr (0, 144, 0), .inr (0, 300, 0), .inr (0, 5, 0), .inr (0, 331, 0), .inr (0, 4, 0), .inr (0, 4, 0), .inr (0, 12, 0), .inr (0, 4, 0), .inr (0, 4, 0), .inr (0, 192, 0), .inr (0, 16, 0), .inr (0, 16, 0), .inr (0, 5, 0), .inr (0, 82944, 0), .inr (0, 13240, 0), .inr (0, 400, 0), .inr (0, 400, 0), .inr (0, 4, 0), .inr (2, 20736, 0)]
def U170 : List gS := [.inl (8, [4, 6, 11, 16, 21, 32, 43, 46, 47, 49, 51, 53, 54, 56, 0, 0, 1]), .inl (6, [0, 5, 0]), .inr (1, 400, 0), .inl (5, [0, 0, 0, 7, 8, 9, 10]), .inr (0, 4, 0), .inr (0, 4, 0), .inr (0, 12, 0), .inr (0, 48, 0), .inl (5, [0, 0, 0, 12, 13, 14, 15]), .inr (0, 4, 0), .inr (0, 4, 0), .inr (0, 12, 0), .inr (0, 48, 0), .inl (5, [0, 0, 0, 17, 18, 19, 20]), .inr (0, 4, 0), .inr (0, 4, 0), .inr (0, 12, 0), .inr (0, 48, 0), .inl (1, [0, 0, 0, 22, 23, 24, 25, 26, 27, 28, 29, 30, 31]), .inr (0, 4, 0), .inr (0, 4, 0), .inr (0, 20736, 0), .inr (0, 5, 0), .inr (0, 48, 0), .inr (0, 3, 0), .inr (0, 16, 0), .inr (0, 16, 0), .inr (0, 16, 0), .inr (0, 16, 0), .inl (1, [0, 0, 0, 33, 34, 35, 36, 37, 38, 39, 40, 41, 42]), .inr (0, 4, 0), .inr (0, 4, 0), .inr (0, 20736, 0), .inr (0, 5, 0), .inr (0, 48, 0), .inr (0, 3, 0), .inr (0, 16, 0), .inr (0, 16, 0), .inr (0, 16, 0), .inr (0, 16, 0), .inl (0, [44, 45]), .inr (0, 100, 0), .inr (0, 100, 0), .inl (7, [0, 0, 0, 0]), .inl (2, [48, 0, 0]), .inr (0, 300, 0), .inl (2, [50, 0, 0]), .inr (0, 300, 0), .inl (3, [0, 52, 0]), .inr (0, 120, 0), .inr (4, 4, 439), .inl (4, [0, 55]), .inr (0, 60, 0), .inr (0, 4, 0), .inl (4, [0, 58]), .inr (0, 60, 0), .inl (4, [0, 60]), .inr (0, 60, 0), .inl (4, [0, 62]), .inr (0, 60, 0), .inl (4, [0, 64]), .inr (0, 60, 0), .inl (9, [0, 66, 0, 0, 0, 67, 68, 69, 70, 0, 71, 72, 0, 73, 74, 75, 76, 0, 77, 0, 78, 79, 80, 81, 82, 83, 0, 0, 84, 0, 1, 0, 0, 0, 85, 86, 87, 88, 2, 2, 2, 2, 0]), .inr (0, 400, 0), .inr (0, 4, 0), .inr (0, 12, 0), .inr (0, 4, 0), .inr (0, 144, 0), .inr (0, 300, 0), .inr (0, 5, 0), .inr (0, 331, 0), .inr (0, 4, 0), .inr (0, 4, 0), .inr (0, 12, 0), .inr (0, 4, 0), .inr (0, 4, 0), .inr (0, 192, 0), .inr (0, 16, 0), .inr (0, 16, 0), .inr (0, 5, 0), .inr (0, 82944, 0), .inr (0, 13240, 0), .inr (0, 400, 0), .inr (0, 400, 0), .inr (0, 4, 0), .inr (2, 20736, 0), .inr (0, 100, 0)]
def U171 : List gS := [.inl (8, [4, 6, 11, 16, 21, 32, 43, 46, 47, 49, 51, 53, 54, 56, 0, 0, 1]), .inl (6, [0, 5, 0]), .inr (1, 400, 0), .inl (5, [0, 0, 0, 7, 8, 9, 10]), .inr (0, 4, 0), .inr (0, 4, 0), .inr (0, 12, 0), .inr (0, 48, 0), .inl (5, [0, 0, 0, 12, 13, 14, 15]), .inr (0, 4, 0), .inr (0, 4, 0), .inr (0, 12, 0), .inr (0, 48, 0), .inl (5, [0, 0, 0, 17, 18, 19, 20]), .inr (0, 4, 0), .inr (0, 4, 0), .inr (0, 12, 0), .inr (0, 48, 0), .inl (1, [0, 0, 0, 22, 23, 24, 25, 26, 27, 28, 29, 30, 31]), .inr (0, 4, 0), .inr (0, 4, 0), .inr (0, 20736, 0), .inr (0, 5, 0), .inr (0, 48, 0), .inr (0, 3, 0), .inr (0, 16, 0), .inr (0, 16, 0), .inr (0, 16, 0), .inr (0, 16, 0), .inl (1, [0, 0, 0, 33, 34, 35, 36, 37, 38, 39, 40, 41, 42]), .inr (0, 4, 0), .inr (0, 4, 0), .inr (0, 20736, 0), .inr (0, 5, 0), .inr (0, 48, 0), .inr (0, 3, 0), .inr (0, 16, 0), .inr (0, 16, 0), .inr (0, 16, 0), .inr (0, 16, 0), .inl (0, [44, 45]), .inr (0, 100, 0), .inr (0, 100, 0), .inl (7, [0, 0, 0, 0]), .inl (2, [48, 0, 0]), .inr (0, 300, 0), .inl (2, [50, 0, 0]), .inr (0, 300, 0), .inl (3, [0, 52, 0]), .inr (0, 120, 0), .inr (4, 4, 439), .inl (4, [0, 55]), .inr (0, 60, 0), .inr (0, 4, 0), .inl (4, [0, 58]), .inr (0, 60, 0), .inl (4, [0, 60]), .inr (0, 60, 0), .inl (4, [0, 62]), .inr (0, 60, 0), .inl (4, [0, 64]), .inr (0, 60, 0), .inl (9, [0, 66, 0, 0, 0, 67, 68, 69, 70, 0, 71, 72, 0, 73, 74, 75, 76, 0, 77, 0, 78, 79, 80, 81, 82, 83, 0, 0, 84, 0, 1, 0, 0, 0, 85, 86, 87, 88, 89, 2, 2, 2, 0]), .inr (0, 400, 0), .inr (0, 4, 0), .inr (0, 12, 0), .inr (0, 4, 0), .inr (0, 144, 0), .inr (0, 300, 0), .inr (0, 5, 0), .inr (0, 331, 0), .inr (0, 4, 0), .inr (0, 4, 0), .inr (0, 12, 0), .inr (0, 4, 0), .inr (0, 4, 0), .inr (0, 192, 0), .inr (0, 16, 0), .inr (0, 16, 0), .inr (0, 5, 0), .inr (0, 82944, 0), .inr (0, 13240, 0), .inr (0, 400, 0), .inr (0, 400, 0), .inr (0, 4, 0), .inr (2, 20736, 0), .inr (0, 100, 0)]
def U172 : List gS := [.inl (8, [4, 6, 11, 16, 21, 32, 43, 46, 47, 49, 51, 53, 54, 56, 0, 0, 1]), .inl (6, [0, 5, 0]), .inr (1, 400, 0), .inl (5, [0, 0, 0, 7, 8, 9, 10]), .inr (0, 4, 0), .inr (0, 4, 0), .inr (0, 12, 0), .inr (0, 48, 0), .inl (5, [0, 0, 0, 12, 13, 14, 15]), .inr (0, 4, 0), .inr (0, 4, 0), .inr (0, 12, 0), .inr (0, 48, 0), .inl (5, [0, 0, 0, 17, 18, 19, 20]), .inr (0, 4, 0), .inr (0, 4, 0), .inr (0, 12, 0), .inr (0, 48, 0), .inl (1, [0, 0, 0, 22, 23, 24, 25, 26, 27, 28, 29, 30, 31]), .inr (0, 4, 0), .inr (0, 4, 0), .inr (0, 20736, 0), .inr (0, 5, 0), .inr (0, 48, 0), .inr (0, 3, 0), .inr (0, 16, 0), .inr (0, 16, 0), .inr (0, 16, 0), .inr (0, 16, 0), .inl (1, [0, 0, 0, 33, 34, 35, 36, 37, 38, 39, 40, 41, 42]), .inr (0, 4, 0), .inr (0, 4, 0), .inr (0, 20736, 0), .inr (0, 5, 0), .inr (0, 48, 0), .inr (0, 3, 0), .inr (0, 16, 0), .inr (0, 16, 0), .inr (0, 16, 0), .inr (0, 16, 0), .inl (0, [44, 45]), .inr (0, 100, 0), .inr (0, 100, 0), .inl (7, [0, 0, 0, 0]), .inl (2, [48, 0, 0]), .inr (0, 300, 0), .inl (2, [50, 0, 0]), .inr (0, 300, 0), .inl (3, [0, 52, 0]), .inr (0, 120, 0), .inr (4, 4, 439), .inl (4, [0, 55]), .inr (0, 60, 0), .inr (0, 4, 0), .inl (4, [0, 58]), .inr (0, 60, 0), .inl (4, [0, 60]), .inr (0, 60, 0), .inl (4, [0, 62]), .inr (0, 60, 0), .inl (4, [0, 64]), .inr (0, 60, 0), .inl (9, [0, 66, 0, 0, 0, 67, 68, 69, 70, 0, 71, 72, 0, 73, 74, 75, 76, 0, 77, 0, 78, 79, 80, 81, 82, 83, 0, 0, 84, 0, 1, 0, 0, 0, 85, 86, 87, 88, 89, 2, 2, 2, 0]), .inr (0, 400, 0), .inr (0, 4, 0), .inr (0, 12, 0), .inr (0, 4, 0), .inr (0, 144, 0), .inr (0, 300, 0), .inr (0, 5, 0), .inr (0, 331, 0), .inr (0, 4, 0), .inr (0, 4, 0), .inr (0, 12, 0), .inr (0, 4, 0), .inr (0, 4, 0), .inr (0, 192, 0), .inr (0, 16, 0), .inr (0, 16, 0), .inr (0, 5, 0), .inr (0, 82944, 0), .inr (0, 13240, 0), .inr (0, 400, 0), .inr (0, 400, 0), .inr (0, 4, 0), .inr (2, 20736, 0), .inr (0, 100, 0), .inr (0, 4, 0)]
def U173 : List gS := [.inl (8, [4, 6, 11, 16, 21, 32, 43, 46, 47, 49, 51, 53, 54, 56, 0, 0, 1]), .inl (6, [0, 5, 0]), .inr (1, 400, 0), .inl (5, [0, 0, 0, 7, 8, 9, 10]), .inr (0, 4, 0), .inr (0, 4, 0), .inr (0, 12, 0), .inr (0, 48, 0), .inl (5, [0, 0, 0, 12, 13, 14, 15]), .inr (0, 4, 0), .inr (0, 4, 0), .inr (0, 12, 0), .inr (0, 48, 0), .inl (5, [0, 0, 0, 17, 18, 19, 20]), .inr (0, 4, 0), .inr (0, 4, 0), .inr (0, 12, 0), .inr (0, 48, 0), .inl (1, [0, 0, 0, 22, 23, 24, 25, 26, 27, 28, 29, 30, 31]), .inr (0, 4, 0), .inr (0, 4, 0), .inr (0, 20736, 0), .inr (0, 5, 0), .inr (0, 48, 0), .inr (0, 3, 0), .inr (0, 16, 0), .inr (0, 16, 0), .inr (0, 16, 0), .inr (0, 16, 0), .inl (1, [0, 0, 0, 33, 34, 35, 36, 37, 38, 39, 40, 41, 42]), .inr (0, 4, 0), .inr (0, 4, 0), .inr (0, 20736, 0), .inr (0, 5, 0), .inr (0, 48, 0), .inr (0, 3, 0), .inr (0, 16, 0), .inr (0, 16, 0), .inr (0, 16, 0), .inr (0, 16, 0), .inl (0, [44, 45]), .inr (0, 100, 0), .inr (0, 100, 0), .inl (7, [0, 0, 0, 0]), .inl (2, [48, 0, 0]), .inr (0, 300, 0), .inl (2, [50, 0, 0]), .inr (0, 300, 0), .inl (3, [0, 52, 0]), .inr (0, 120, 0), .inr (4, 4, 439), .inl (4, [0, 55]), .inr (0, 60, 0), .inr (0, 4, 0), .inl (4, [0, 58]), .inr (0, 60, 0), .inl (4, [0, 60]), .inr (0, 60, 0), .inl (4, [0, 62]), .inr (0, 60, 0), .inl (4, [0, 64]), .inr (0, 60, 0), .inl (9, [0, 66, 0, 0, 0, 67, 68, 69, 70, 0, 71, 72, 0, 73, 74, 75, 76, 0, 77, 0, 78, 79, 80, 81, 82, 83, 0, 0, 84, 0, 1, 0, 0, 0, 85, 86, 87, 88, 89, 90, 2, 2, 0]), .inr (0, 400, 0), .inr (0, 4, 0), .inr (0, 12, 0), .inr (0, 4, 0), .inr (0, 144, 0), .inr (0, 300, 0), .inr (0, 5, 0), .inr (0, 331, 0), .inr (0, 4, 0), .inr (0, 4, 0), .inr (0, 12, 0), .inr (0, 4, 0), .inr (0, 4, 0), .inr (0, 192, 0), .inr (0, 16, 0), .inr (0, 16, 0), .inr (0, 5, 0), .inr (0, 82944, 0), .inr (0, 13240, 0), .inr (0, 400, 0), .inr (0, 400, 0), .inr (0, 4, 0), .inr (2, 20736, 0), .inr (0, 100, 0), .inr (0, 4, 0)]
def U174 : List gS := [.inl (8, [4, 6, 11, 16, 21, 32, 43, 46, 47, 49, 51, 53, 54, 56, 0, 0, 1]), .inl (6, [0, 5, 0]), .inr (1, 400, 0), .inl (5, [0, 0, 0, 7, 8, 9, 10]), .inr (0, 4, 0), .inr (0, 4, 0), .inr (0, 12, 0), .inr (0, 48, 0), .inl (5, [0, 0, 0, 12, 13, 14, 15]), .inr (0, 4, 0), .inr (0, 4, 0), .inr (0, 12, 0), .inr (0, 48, 0), .inl (5, [0, 0, 0, 17, 18, 19, 20]), .inr (0, 4, 0), .inr (0, 4, 0), .inr (0, 12, 0), .inr (0, 48, 0), .inl (1, [0, 0, 0, 22, 23, 24, 25, 26, 27, 28, 29, 30, 31]), .inr (0, 4, 0), .inr (0, 4, 0), .inr (0, 20736, 0), .inr (0, 5, 0), .inr (0, 48, 0), .inr (0, 3, 0), .inr (0, 16, 0), .inr (0, 16, 0), .inr (0, 16, 0), .inr (0, 16, 0), .inl (1, [0, 0, 0, 33, 34, 35, 36, 37, 38, 39, 40, 41, 42]), .inr (0, 4, 0), .inr (0, 4, 0), .inr (0, 20736, 0), .inr (0, 5, 0), .inr (0, 48, 0), .inr (0, 3, 0), .inr (0, 16, 0), .inr (0, 16, 0), .inr (0, 16, 0), .inr (0, 16, 0), .inl (0, [44, 45]), .inr (0, 100, 0), .inr (0, 100, 0), .inl (7, [0, 0, 0, 0]), .inl (2, [48, 0, 0]), .inr (0, 300, 0), .inl (2, [50, 0, 0]), .inr (0, 300, 0), .inl (3, [0, 52, 0]), .inr (0, 120, 0), .inr (4, 4, 439), .inl (4, [0, 55]), .inr (0, 60, 0), .inr (0, 4, 0), .inl (4, [0, 58]), .inr (0, 60, 0), .inl (4, [0, 60]), .inr (0, 60, 0), .inl (4, [0, 62]), .inr (0, 60, 0), .inl (4, [0, 64]), .inr (0, 60, 0), .inl (9, [0, 66, 0, 0, 0, 67, 68, 69, 70, 0, 71, 72, 0, 73, 74, 75, 76, 0, 77, 0, 78, 79, 80, 81, 82, 83, 0, 0, 84, 0, 1, 0, 0, 0, 85, 86, 87, 88, 89, 90, 2, 2, 0]), .inr (0, 400, 0), .inr (0, 4, 0), .inr (0, 12, 0), .inr (0, 4, 0), .inr (0, 144, 0), .inr (0, 300, 0), .inr (0, 5, 0), .inr (0, 331, 0), .inr (0, 4, 0), .inr (0, 4, 0), .inr (0, 12, 0), .inr (0, 4, 0), .inr (0, 4, 0), .inr (0, 192, 0), .inr (0, 16, 0), .inr (0, 16, 0), .inr (0, 5, 0), .inr (0, 82944, 0), .inr (0, 13240, 0), .inr (0, 400, 0), .inr (0, 400, 0), .inr (0, 4, 0), .inr (2, 20736, 0), .inr (0, 100, 0), .inr (0, 4, 0), .inr (0, 150, 0)]
def U175 : List gS := [.inl (8, [4, 6, 11, 16, 21, 32, 43, 46, 47, 49, 51, 53, 54, 56, 0, 0, 1]), .inl (6, [0, 5, 0]), .inr (1, 400, 0), .inl (5, [0, 0, 0, 7, 8, 9, 10]), .inr (0, 4, 0), .inr (0, 4, 0), .inr (0, 12, 0), .inr (0, 48, 0), .inl (5, [0, 0, 0, 12, 13, 14, 15]), .inr (0, 4, 0), .inr (0, 4, 0), .inr (0, 12, 0), .inr (0, 48, 0), .inl (5, [0, 0, 0, 17, 18, 19, 20]), .inr (0, 4, 0), .inr (0, 4, 0), .inr (0, 12, 0), .inr (0, 48, 0), .inl (1, [0, 0, 0, 22, 23, 24, 25, 26, 27, 28, 29, 30, 31]), .inr (0, 4, 0), .inr (0, 4, 0), .inr (0, 20736, 0), .inr (0, 5, 0), .inr (0, 48, 0), .inr (0, 3, 0), .inr (0, 16, 0), .inr (0, 16, 0), .inr (0, 16, 0), .inr (0, 16, 0), .inl (1, [0, 0, 0, 33, 34, 35, 36, 37, 38, 39, 40, 41, 42]), .inr (0, 4, 0), .inr (0, 4, 0), .inr (0, 20736, 0), .inr (0, 5, 0), .inr (0, 48, 0), .inr (0, 3, 0), .inr (0, 16, 0), .inr (0, 16, 0), .inr (0, 16, 0), .inr (0, 16, 0), .inl (0, [44, 45]), .inr (0, 100, 0), .inr (0, 100, 0), .inl (7, [0, 0, 0, 0]), .inl (2, [48, 0, 0]), .inr (0, 300, 0), .inl (2, [50, 0, 0]), .inr (0, 300, 0), .inl (3, [0, 52, 0]), .inr (0, 120, 0), .inr (4, 4, 439), .inl (4, [0, 55]), .inr (0, 60, 0), .inr (0, 4, 0), .inl (4, [0, 58]), .inr (0, 60, 0), .inl (4, [0, 60]), .inr (0, 60, 0), .inl (4, [0, 62]), .inr (0, 60, 0), .inl (4, [0, 64]), .inr (0, 60, 0), .inl (9, [0, 66, 0, 0, 0, 67, 68, 69, 70, 0, 71, 72, 0, 73, 74, 75, 76, 0, 77, 0, 78, 79, 80, 81, 82, 83, 0, 0, 84, 0, 1, 0, 0, 0, 85, 86, 87, 88, 89, 90, 91, 2, 0]), .inr (0, 400, 0), .inr (0, 4, 0), .inr (0, 12, 0), .inr (0, 4, 0), .inr (0, 144, 0), .inr (0, 300, 0), .inr (0, 5, 0), .inr (0, 331, 0), .inr (0, 4, 0), .inr (0, 4, 0), .inr (0, 12, 0), .inr (0, 4, 0), .inr (0, 4, 0), .inr (0, 192, 0), .inr (0, 16, 0), .inr (0, 16, 0), .inr (0, 5, 0), .inr (0, 82944, 0), .inr (0, 13240, 0), .inr (0, 400, 0), .inr (0, 400, 0), .inr (0, 4, 0), .inr (2, 20736, 0), .inr (0, 100, 0), .inr (0, 4, 0), .inr (0, 150, 0)]
def U176 : List gS := [.inl (8, [4, 6, 11, 16, 21, 32, 43, 46, 47, 49, 51, 53, 54, 56, 0, 0, 1]), .inl (6, [0, 5, 0]), .inr (1, 400, 0), .inl (5, [0, 0, 0, 7, 8, 9, 10]), .inr (0, 4, 0), .inr (0, 4, 0), .inr (0, 12, 0), .inr (0, 48, 0), .inl (5, [0, 0, 0, 12, 13, 14, 15]), .inr (0, 4, 0), .inr (0, 4, 0), .inr (0, 12, 0), .inr (0, 48, 0), .inl (5, [0, 0, 0, 17, 18, 19, 20]), .inr (0, 4, 0), .inr (0, 4, 0), .inr (0, 12, 0), .inr (0, 48, 0), .inl (1, [0, 0, 0, 22, 23, 24, 25, 26, 27, 28, 29, 30, 31]), .inr (0, 4, 0), .inr (0, 4, 0), .inr (0, 20736, 0), .inr (0, 5, 0), .inr (0, 48, 0), .inr (0, 3, 0), .inr (0, 16, 0), .inr (0, 16, 0), .inr (0, 16, 0), .inr (0, 16, 0), .inl (1, [0, 0, 0, 33, 34, 35, 36, 37, 38, 39, 40, 41, 42]), .inr (0, 4, 0), .inr (0, 4, 0), .inr (0, 20736, 0), .inr (0, 5, 0), .inr (0, 48, 0), .inr (0, 3, 0), .inr (0, 16, 0), .inr (0, 16, 0), .inr (0, 16, 0), .inr (0, 16, 0), .inl (0, [44, 45]), .inr (0, 100, 0), .inr (0, 100, 0), .inl (7, [0, 0, 0, 0]), .inl (2, [48, 0, 0]), .inr (0, 300, 0), .inl (2, [50, 0, 0]), .inr (0, 300, 0), .inl (3, [0, 52, 0]), .inr (0, 120, 0), .inr (4, 4, 439), .inl (4, [0, 55]), .inr (0, 60, 0), .inr (0, 4, 0), .inl (4, [0, 58]), .inr (0, 60, 0), .inl (4, [0, 60]), .inr (0, 60, 0), .inl (4, [0, 62]), .inr (0, 60, 0), .inl (4, [0, 64]), .inr (0, 60, 0), .inl (9, [0, 66, 0, 0, 0, 67, 68, 69, 70, 0, 71, 72, 0, 73, 74, 75, 76, 0, 77, 0, 78, 79, 80, 81, 82, 83, 0, 0, 84, 0, 1, 0, 0, 0, 85, 86, 87, 88, 89, 90, 91, 2, 0]), .inr (0, 400, 0), .inr (0, 4, 0), .inr (0, 12, 0), .inr (0, 4, 0), .inr (0, 144, 0), .inr (0, 300, 0), .inr (0, 5, 0), .inr (0, 331, 0), .inr (0, 4, 0), .inr (0, 4, 0), .inr (0, 12, 0), .inr (0, 4, 0), .inr (0, 4, 0), .inr (0, 192, 0), .inr (0, 16, 0), .inr (0, 16, 0), .inr (0, 5, 0), .inr (0, 82944, 0), .inr (0, 13240, 0), .inr (0, 400, 0), .inr (0, 400, 0), .inr (0, 4, 0), .inr (2, 20736, 0), .inr (0, 100, 0), .inr (0, 4, 0), .inr (0, 150, 0), .inr (0, 331, 0)]
def U177 : List gS := [.inl (8, [4, 6, 11, 16, 21, 32, 43, 46, 47, 49, 51, 53, 54, 56, 0, 0, 1]), .inl (6, [0, 5, 0]), .inr (1, 400, 0), .inl (5, [0, 0, 0, 7, 8, 9, 10]), .inr (0, 4, 0), .inr (0, 4, 0), .inr (0, 12, 0), .inr (0, 48, 0), .inl (5, [0, 0, 0, 12, 13, 14, 15]), .inr (0, 4, 0), .inr (0, 4, 0), .inr (0, 12, 0), .inr (0, 48, 0), .inl (5, [0, 0, 0, 17, 18, 19, 20]), .inr (0, 4, 0), .inr (0, 4, 0), .inr (0, 12, 0), .inr (0, 48, 0), .inl (1, [0, 0, 0, 22, 23, 24, 25, 26, 27, 28, 29, 30, 31]), .inr (0, 4, 0), .inr (0, 4, 0), .inr (0, 20736, 0), .inr (0, 5, 0), .inr (0, 48, 0), .inr (0, 3, 0), .inr (0, 16, 0), .inr (0, 16, 0), .inr (0, 16, 0), .inr (0, 16, 0), .inl (1, [0, 0, 0, 33, 34, 35, 36, 37, 38, 39, 40, 41, 42]), .inr (0, 4, 0), .inr (0, 4, 0), .inr (0, 20736, 0), .inr (0, 5, 0), .inr (0, 48, 0), .inr (0, 3, 0), .inr (0, 16, 0), .inr (0, 16, 0), .inr (0, 16, 0), .inr (0, 16, 0), .inl (0, [44, 45]), .inr (0, 100, 0), .inr (0, 100, 0), .inl (7, [0, 0, 0, 0]), .inl (2, [48, 0, 0]), .inr (0, 300, 0), .inl (2, [50, 0, 0]), .inr (0, 300, 0), .inl (3, [0, 52, 0]), .inr (0, 120, 0), .inr (4, 4, 439), .inl (4, [0, 55]), .inr (0, 60, 0), .inr (0, 4, 0), .inl (4, [0, 58]), .inr (0, 60, 0), .inl (4, [0, 60]), .inr (0, 60, 0), .inl (4, [0, 62]), .inr (0, 60, 0), .inl (4, [0, 64]), .inr (0, 60, 0), .inl (9, [0, 66, 0, 0, 0, 67, 68, 69, 70, 0, 71, 72, 0, 73, 74, 75, 76, 0, 77, 0, 78, 79, 80, 81, 82, 83, 0, 0, 84, 0, 1, 0, 0, 0, 85, 86, 87, 88, 89, 90, 91, 92, 0]), .inr (0, 400, 0), .inr (0, 4, 0), .inr (0, 12, 0), .inr (0, 4, 0), .inr (0, 144, 0), .inr (0, 300, 0), .inr (0, 5, 0), .inr (0, 331, 0), .inr (0, 4, 0), .inr (0, 4, 0), .inr (0, 12, 0), .inr (0, 4, 0), .inr (0, 4, 0), .inr (0, 192, 0), .inr (0, 16, 0), .inr (0, 16, 0), .inr (0, 5, 0), .inr (0, 82944, 0), .inr (0, 13240, 0), .inr (0, 400, 0), .inr (0, 400, 0), .inr (0, 4, 0), .inr (2, 20736, 0), .inr (0, 100, 0), .inr (0, 4, 0), .inr (0, 150, 0), .inr (0, 331, 0)]
def U178 : List gS := []
def U179 : List gS := [.inl (8, [4, 6, 11, 16, 21, 32, 43, 46, 47, 49, 51, 53, 54, 56, 0, 0, 1]), .inl (6, [0, 5, 0]), .inr (1, 400, 0), .inl (5, [0, 0, 0, 7, 8, 9, 10]), .inr (0, 4, 0), .inr (0, 4, 0), .inr (0, 12, 0), .inr (0, 48, 0), .inl (5, [0, 0, 0, 12, 13, 14, 15]), .inr (0, 4, 0), .inr (0, 4, 0), .inr (0, 12, 0), .inr (0, 48, 0), .inl (5, [0, 0, 0, 17, 18, 19, 20]), .inr (0, 4, 0), .inr (0, 4, 0), .inr (0, 12, 0), .inr (0, 48, 0), .inl (1, [0, 0, 0, 22, 23, 24, 25, 26, 27, 28, 29, 30, 31]), .inr (0, 4, 0), .inr (0, 4, 0), .inr (0, 20736, 0), .inr (0, 5, 0), .inr (0, 48, 0), .inr (0, 3, 0), .inr (0, 16, 0), .inr (0, 16, 0), .inr (0, 16, 0), .inr (0, 16, 0), .inl (1, [0, 0, 0, 33, 34, 35, 36, 37, 38, 39, 40, 41, 42]), .inr (0, 4, 0), .inr (0, 4, 0), .inr (0, 20736, 0), .inr (0, 5, 0), .inr (0, 48, 0), .inr (0, 3, 0), .inr (0, 16, 0), .inr (0, 16, 0), .inr (0, 16, 0), .inr (0, 16, 0), .inl (0, [44, 45]), .inr (0, 100, 0), .inr (0, 100, 0), .inl (7, [0, 0, 0, 0]), .inl (2, [48, 0, 0]), .inr (0, 300, 0), .inl (2, [50, 0, 0]), .inr (0, 300, 0), .inl (3, [0, 52, 0]), .inr (0, 120, 0), .inr (4, 4, 439), .inl (4, [0, 55]), .inr (0, 60, 0), .inr (0, 4, 0), .inl (4, [0, 58]), .inr (0, 60, 0), .inl (4, [0, 60]), .inr (0, 60, 0), .inl (4, [0, 62]), .inr (0, 60, 0), .inl (4, [0, 64]), .inr (0, 60, 0), .inl (9, [0, 66, 0, 0, 0, 67, 68, 69, 70, 0, 71, 72, 0, 73, 74, 75, 76, 0, 77, 0, 78, 79, 80, 81, 82, 83, 0, 0, 84, 0, 1, 0, 0, 0, 85, 86, 87, 88, 89, 90, 91, 92, 0]), .inr (0, 400, 0), .inr (0, 4, 0), .inr (0, 12, 0), .inr (0, 4, 0), .inr (0, 144, 0), .inr (0, 300, 0), .inr (0, 5, 0), .inr (0, 331, 0), .inr (0, 4, 0), .inr (0, 4, 0), .inr (0, 12, 0), .inr (0, 4, 0), .inr (0, 4, 0), .inr (0, 192, 0), .inr (0, 16, 0), .inr (0, 16, 0), .inr (0, 5, 0), .inr (0, 82944, 0), .inr (0, 13240, 0), .inr (0, 400, 0), .inr (0, 400, 0), .inr (0, 4, 0), .inr (2, 20736, 0), .inr (0, 100, 0), .inr (0, 4, 0), .inr (0, 150, 0), .inr (0, 331, 0), .inr (3, 1, 1)]
def nd0 (f : Nat) : Value := match f with
  | 0 => .int 0
  | 1 => .long 0
  | _ => .null
theorem nd_map (ad : Nat → Nat) {N : Nat} (l : List Nat) (h : l.all (fun f => Nat.blt f 3) = true) : l.mapIdx (fun j f => g_fv ad (g0 N) (h0 N) j f) = l.map nd0 := by
  apply List.ext_getElem?
  intro i
  simp only [List.getElem?_mapIdx, List.getElem?_map]
  cases hx : l[i]? with
  | none => rfl
  | some f =>
    have hf : f < 3 := by
      have h1 := List.all_eq_true.mp h f (List.mem_of_getElem? hx)
      simpa [Nat.blt_eq] using h1
    match f, hf with
    | 0, _ => rfl
    | 1, _ => rfl
    | 2, _ => rfl
theorem ndX0 (ad : Nat → Nat) {N : Nat} : ∀ j, j < 2 → defaultValue (tyX0 j) = vp_V (([2, 2] : List Nat).mapIdx (fun j f => g_fv ad (g0 N) (h0 N) j f)) j := by
  rw [nd_map ad _ (by decide)]
  exact (by decide +kernel : ∀ j, j < 2 → defaultValue (tyX0 j) = vp_V (([2, 2] : List Nat).map nd0) j)
theorem ndX1 (ad : Nat → Nat) {N : Nat} : ∀ j, j < 13 → defaultValue (tyX1 j) = vp_V (([0, 0, 0, 2, 2, 2, 2, 2, 2, 2, 2, 2, 2] : List Nat).mapIdx (fun j f => g_fv ad (g0 N) (h0 N) j f)) j := by
  rw [nd_map ad _ (by decide)]
  exact (by decide +kernel : ∀ j, j < 13 → defaultValue (tyX1 j) = vp_V (([0, 0, 0, 2, 2, 2, 2, 2, 2, 2, 2, 2, 2] : List Nat).map nd0) j)
theorem ndX2 (ad : Nat → Nat) {N : Nat} : ∀ j, j < 3 → defaultValue (tyX2 j) = vp_V (([2, 0, 0] : List Nat).mapIdx (fun j f => g_fv ad (g0 N) (h0 N) j f)) j := by
  rw [nd_map ad _ (by decide)]
  exact (by decide +kernel : ∀ j, j < 3 → defaultValue (tyX2 j) = vp_V (([2, 0, 0] : List Nat).map nd0) j)
theorem ndX3 (ad : Nat → Nat) {N : Nat} : ∀ j, j < 3 → defaultValue (tyX3 j) = vp_V (([0, 2, 0] : List Nat).mapIdx (fun j f => g_fv ad (g0 N) (h0 N) j f)) j := by
  rw [nd_map ad _ (by decide)]
  exact (by decide +kernel : ∀ j, j < 3 → defaultValue (tyX3 j) = vp_V (([0, 2, 0] : List Nat).map nd0) j)
theorem ndX4 (ad : Nat → Nat) {N : Nat} : ∀ j, j < 2 → defaultValue (tyX4 j) = vp_V (([0, 2] : List Nat).mapIdx (fun j f => g_fv ad (g0 N) (h0 N) j f)) j := by
  rw [nd_map ad _ (by decide)]
  exact (by decide +kernel : ∀ j, j < 2 → defaultValue (tyX4 j) = vp_V (([0, 2] : List Nat).map nd0) j)
theorem ndX5 (ad : Nat → Nat) {N : Nat} : ∀ j, j < 7 → defaultValue (tyX5 j) = vp_V (([0, 0, 0, 2, 2, 2, 2] : List Nat).mapIdx (fun j f => g_fv ad (g0 N) (h0 N) j f)) j := by
  rw [nd_map ad _ (by decide)]
  exact (by decide +kernel : ∀ j, j < 7 → defaultValue (tyX5 j) = vp_V (([0, 0, 0, 2, 2, 2, 2] : List Nat).map nd0) j)
theorem ndX6 (ad : Nat → Nat) {N : Nat} : ∀ j, j < 3 → defaultValue (tyX6 j) = vp_V (([0, 2, 0] : List Nat).mapIdx (fun j f => g_fv ad (g0 N) (h0 N) j f)) j := by
  rw [nd_map ad _ (by decide)]
  exact (by decide +kernel : ∀ j, j < 3 → defaultValue (tyX6 j) = vp_V (([0, 2, 0] : List Nat).map nd0) j)
theorem ndX7 (ad : Nat → Nat) {N : Nat} : ∀ j, j < 4 → defaultValue (tyX7 j) = vp_V (([0, 0, 0, 0] : List Nat).mapIdx (fun j f => g_fv ad (g0 N) (h0 N) j f)) j := by
  rw [nd_map ad _ (by decide)]
  exact (by decide +kernel : ∀ j, j < 4 → defaultValue (tyX7 j) = vp_V (([0, 0, 0, 0] : List Nat).map nd0) j)
theorem ndX8 (ad : Nat → Nat) {N : Nat} : ∀ j, j < 17 → defaultValue (tyX8 j) = vp_V (([2, 2, 2, 2, 2, 2, 2, 2, 2, 2, 2, 2, 2, 2, 0, 0, 1] : List Nat).mapIdx (fun j f => g_fv ad (g0 N) (h0 N) j f)) j := by
  rw [nd_map ad _ (by decide)]
  exact (by decide +kernel : ∀ j, j < 17 → defaultValue (tyX8 j) = vp_V (([2, 2, 2, 2, 2, 2, 2, 2, 2, 2, 2, 2, 2, 2, 0, 0, 1] : List Nat).map nd0) j)
theorem ndX9 (ad : Nat → Nat) {N : Nat} : ∀ j, j < 43 → defaultValue (tyX9 j) = vp_V (([0, 2, 0, 0, 0, 2, 2, 2, 2, 0, 2, 2, 0, 2, 2, 2, 2, 0, 2, 0, 2, 2, 2, 2, 2, 2, 0, 0, 2, 0, 1, 0, 0, 0, 2, 2, 2, 2, 2, 2, 2, 2, 0] : List Nat).mapIdx (fun j f => g_fv ad (g0 N) (h0 N) j f)) j := by
  rw [nd_map ad _ (by decide)]
  exact (by decide +kernel : ∀ j, j < 43 → defaultValue (tyX9 j) = vp_V (([0, 2, 0, 0, 0, 2, 2, 2, 2, 0, 2, 2, 0, 2, 2, 2, 2, 0, 2, 0, 2, 2, 2, 2, 2, 2, 0, 0, 2, 0, 1, 0, 0, 0, 2, 2, 2, 2, 2, 2, 2, 2, 0] : List Nat).map nd0) j)
def exX8 (U : State) : Prop := va_Nw (.methodLinkNest RX8 11 yX6_init RX8) U ∧ va_Nw (.methodLinkNest RX8 18 yX5_init RX8) U ∧ va_Nw (.methodLinkNest RX8 31 yX1_init RX8) U ∧ va_Nw (.methodLinkNest RX8 41 yX0_init RX8) U ∧ va_Nw (.methodLinkNest RX8 48 yX7_init RX8) U ∧ va_Nw (.methodLinkNest RX8 55 yX2_init RX8) U ∧ va_Nw (.methodLinkNest RX8 65 yX3_init RX8) U ∧ va_Nw (.methodLinkNest RX8 76 yX4_init RX8) U ∧ va_AO "LeapJoin$Script" U
theorem exX8_blind (a : Array Value) (U : State) (g : JFrame) (mk : MethodId) (h : exX8 U) : exX8 (U.calling g mk a) := by
  obtain ⟨h1, h2, h3, h4, h5, h6, h7, h8, h9⟩ := h
  exact ⟨va_Nw.same rfl (u := U) rfl h1, va_Nw.same rfl (u := U) rfl h2, va_Nw.same rfl (u := U) rfl h3, va_Nw.same rfl (u := U) rfl h4, va_Nw.same rfl (u := U) rfl h5, va_Nw.same rfl (u := U) rfl h6, va_Nw.same rfl (u := U) rfl h7, va_Nw.same rfl (u := U) rfl h8, va_AO.moved (u := U) (Vm.Alike.refl U.vm) h9⟩
theorem exX8_warm {s U : State} (hW : s.WarmedH U.vm) (h : exX8 s) : exX8 U := by
  obtain ⟨h1, h2, h3, h4, h5, h6, h7, h8, h9⟩ := h
  exact ⟨va_Nw.warmM hW h1, va_Nw.warmM hW h2, va_Nw.warmM hW h3, va_Nw.warmM hW h4, va_Nw.warmM hW h5, va_Nw.warmM hW h6, va_Nw.warmM hW h7, va_Nw.warmM hW h8, va_AO.moved hW.alike h9⟩
end
section
theorem gc_cellI {cA : ClassId} {len N : Nat} {ad : Nat → Nat} {ty : FieldType} (h : defaultValue ty = .int 0) : vp_cell cA (len, g_av ad (g0 N) (h0 N) 0) = arrV cA len (fun _ => defaultValue ty) := by
  rw [h]
  rfl
theorem gc_cellL {cA : ClassId} {len N : Nat} {ad : Nat → Nat} {ty : FieldType} (h : defaultValue ty = .long 0) : vp_cell cA (len, g_av ad (g0 N) (h0 N) 1) = arrV cA len (fun _ => defaultValue ty) := by
  rw [h]
  rfl
set_option maxRecDepth 100000 in
set_option maxHeartbeats 4000000 in
theorem iX6_init (l : Launch) (D : va_G) (tA : Nat → ClassId) : CtI l D tA U1 U3 1 yX6_init cX6_init 1 ({ frames := 1, cells := 1, slots := 400, locals := 64 }) 1 400 (fun _ => True) := by
  refine CtI.of "LeapJoin$Tape" rfl rfl (by decide) (by decide) (fun z ad F hin e hl hEx => ?_)
  subst hl
  refine gc_aload_n F 0 dX6_init_0 rfl rfl ?_
  refine gc_objInit F q34 q28 q29 rfl (Nat.le_of_ble_eq_true rfl) (Nat.le_of_ble_eq_true rfl) dX6_init_1 ?_
  refine gc_aload_n F 0 dX6_init_4 rfl rfl ?_
  refine gc_iconst (v := 0) F dX6_init_5 (by decide) ?_
  refine gc_puti (i := 1) (j := 0) (ci := 6) (fds := [0, 2, 0]) F rfl (by decide +kernel) (by decide +kernel) rfl uX6 (by decide) q35 tyX6_ok nmX6 rfl rfl rfl dX6_init_6 ?_
  refine gc_aload_n F 0 dX6_init_9 rfl rfl ?_
  refine gc_sipush (v := 400) F dX6_init_10 (by decide) ?_
  refine gc_newa (at_ := .byte) (ty := .byte) (v := 400) (S1 := U2) (N := 2) (t := 1) (so := 0) (len := 400) F rfl q42 rfl (fun _ => rfl) (fun _ => gc_cellI rfl) (by decide +kernel) (by decide +kernel) (Nat.le_of_ble_eq_true rfl) (Nat.le_of_ble_eq_true rfl) (Nat.le_of_ble_eq_true rfl) (by decide +kernel) (by decide +kernel) (by decide +kernel) dX6_init_13 (fun q2 => ?_)
  refine gc_putr (i := 1) (j := 1) (m := 2) (S1 := U3) (ci := 6) (fds := [0, 2, 0]) F hin rfl rfl (by decide +kernel) (by decide +kernel) (by decide +kernel) rfl uX6 (by decide) q37 tyX6_ok nmX6 rfl rfl (fun _ => rfl) (fun _ => rfl) dX6_init_15 ?_
  refine gc_aload_n F 0 dX6_init_18 rfl rfl ?_
  refine gc_iconst (v := 0) F dX6_init_19 (by decide) ?_
  refine gc_puti (i := 1) (j := 2) (ci := 6) (fds := [0, 5, 0]) F rfl (by decide +kernel) (by decide +kernel) rfl uX6 (by decide) q38 tyX6_ok nmX6 rfl rfl rfl dX6_init_20 ?_
  exact gc_vret F e (fun i hi => by have hi : i < 2 := hi; rw [va_up_ne _ _ (by omega)]) dX6_init_23
set_option maxRecDepth 100000 in
set_option maxHeartbeats 4000000 in
theorem iX5_init (l : Launch) (D : va_G) (tA : Nat → ClassId) : CtI l D tA U5 U13 3 yX5_init cX5_init 1 ({ frames := 1, cells := 4, slots := 68, locals := 64 }) 4 68 (fun _ => True) := by
  refine CtI.of "LeapJoin$Tables" rfl rfl (by decide) (by decide) (fun z ad F hin e hl hEx => ?_)
  subst hl
  refine gc_aload_n F 0 dX5_init_0 rfl rfl ?_
  refine gc_objInit F q47 q28 q29 rfl (Nat.le_of_ble_eq_true rfl) (Nat.le_of_ble_eq_true rfl) dX5_init_1 ?_
  refine gc_aload_n F 0 dX5_init_4 rfl rfl ?_
  refine gc_iconst (v := 0) F dX5_init_5 (by decide) ?_
  refine gc_puti (i := 3) (j := 0) (ci := 5) (fds := [0, 0, 0, 2, 2, 2, 2]) F rfl (by decide +kernel) (by decide +kernel) rfl uX5 (by decide) q48 tyX5_ok nmX5 rfl rfl rfl dX5_init_6 ?_
  refine gc_aload_n F 0 dX5_init_9 rfl rfl ?_
  refine gc_iconst (v := 0) F dX5_init_10 (by decide) ?_
  refine gc_puti (i := 3) (j := 1) (ci := 5) (fds := [0, 0, 0, 2, 2, 2, 2]) F rfl (by decide +kernel) (by decide +kernel) rfl uX5 (by decide) q51 tyX5_ok nmX5 rfl rfl rfl dX5_init_11 ?_
  refine gc_aload_n F 0 dX5_init_14 rfl rfl ?_
  refine gc_iconst (v := 0) F dX5_init_15 (by decide) ?_
  refine gc_puti (i := 3) (j := 2) (ci := 5) (fds := [0, 0, 0, 2, 2, 2, 2]) F rfl (by decide +kernel) (by decide +kernel) rfl uX5 (by decide) q53 tyX5_ok nmX5 rfl rfl rfl dX5_init_16 ?_
  refine gc_aload_n F 0 dX5_init_19 rfl rfl ?_
  refine gc_iconst (v := 4) F dX5_init_20 (by decide) ?_
  refine gc_newa (at_ := .int) (ty := .int) (v := 4) (S1 := U6) (N := 4) (t := 0) (so := 0) (len := 4) F rfl q71 rfl (fun _ => rfl) (fun _ => gc_cellI rfl) (by decide +kernel) (by decide +kernel) (Nat.le_of_ble_eq_true rfl) (Nat.le_of_ble_eq_true rfl) (Nat.le_of_ble_eq_true rfl) (by decide +kernel) (by decide +kernel) (by decide +kernel) dX5_init_21 (fun q4 => ?_)
  refine gc_putr (i := 3) (j := 3) (m := 4) (S1 := U7) (ci := 5) (fds := [0, 0, 0, 2, 2, 2, 2]) F hin rfl rfl (by decide +kernel) (by decide +kernel) (by decide +kernel) rfl uX5 (by decide) q55 tyX5_ok nmX5 rfl rfl (fun _ => rfl) (fun _ => rfl) dX5_init_23 ?_
  refine gc_aload_n F 0 dX5_init_26 rfl rfl ?_
  refine gc_iconst (v := 4) F dX5_init_27 (by decide) ?_
  refine gc_newa (at_ := .int) (ty := .int) (v := 4) (S1 := U8) (N := 5) (t := 0) (so := 0) (len := 4) F rfl q71 rfl (fun _ => rfl) (fun _ => gc_cellI rfl) (by decide +kernel) (by decide +kernel) (Nat.le_of_ble_eq_true rfl) (Nat.le_of_ble_eq_true rfl) (Nat.le_of_ble_eq_true rfl) (by decide +kernel) (by decide +kernel) (by decide +kernel) dX5_init_28 (fun q5 => ?_)
  refine gc_putr (i := 3) (j := 4) (m := 5) (S1 := U9) (ci := 5) (fds := [0, 0, 0, 7, 2, 2, 2]) F hin rfl rfl (by decide +kernel) (by decide +kernel) (by decide +kernel) rfl uX5 (by decide) q58 tyX5_ok nmX5 rfl rfl (fun _ => rfl) (fun _ => rfl) dX5_init_30 ?_
  refine gc_aload_n F 0 dX5_init_33 rfl rfl ?_
  refine gc_bipush (v := 12) F dX5_init_34 (by decide) ?_
  refine gc_newa (at_ := .int) (ty := .int) (v := 12) (S1 := U10) (N := 6) (t := 0) (so := 0) (len := 12) F rfl q71 rfl (fun _ => rfl) (fun _ => gc_cellI rfl) (by decide +kernel) (by decide +kernel) (Nat.le_of_ble_eq_true rfl) (Nat.le_of_ble_eq_true rfl) (Nat.le_of_ble_eq_true rfl) (by decide +kernel) (by decide +kernel) (by decide +kernel) dX5_init_36 (fun q6 => ?_)
  refine gc_putr (i := 3) (j := 5) (m := 6) (S1 := U11) (ci := 5) (fds := [0, 0, 0, 7, 8, 2, 2]) F hin rfl rfl (by decide +kernel) (by decide +kernel) (by decide +kernel) rfl uX5 (by decide) q62 tyX5_ok nmX5 rfl rfl (fun _ => rfl) (fun _ => rfl) dX5_init_38 ?_
  refine gc_aload_n F 0 dX5_init_41 rfl rfl ?_
  refine gc_bipush (v := 48) F dX5_init_42 (by decide) ?_
  refine gc_newa (at_ := .int) (ty := .int) (v := 48) (S1 := U12) (N := 7) (t := 0) (so := 0) (len := 48) F rfl q71 rfl (fun _ => rfl) (fun _ => gc_cellI rfl) (by decide +kernel) (by decide +kernel) (Nat.le_of_ble_eq_true rfl) (Nat.le_of_ble_eq_true rfl) (Nat.le_of_ble_eq_true rfl) (by decide +kernel) (by decide +kernel) (by decide +kernel) dX5_init_44 (fun q7 => ?_)
  refine gc_putr (i := 3) (j := 6) (m := 7) (S1 := U13) (ci := 5) (fds := [0, 0, 0, 7, 8, 9, 2]) F hin rfl rfl (by decide +kernel) (by decide +kernel) (by decide +kernel) rfl uX5 (by decide) q63 tyX5_ok nmX5 rfl rfl (fun _ => rfl) (fun _ => rfl) dX5_init_46 ?_
  exact gc_vret F e (fun i hi => by have hi : i < 4 := hi; rw [va_up_ne _ _ (by omega), va_up_ne _ _ (by omega), va_up_ne _ _ (by omega), va_up_ne _ _ (by omega)]) dX5_init_49
set_option maxRecDepth 100000 in
set_option maxHeartbeats 4000000 in
theorem iX5_init_8 (l : Launch) (D : va_G) (tA : Nat → ClassId) : CtI l D tA U15 U23 8 yX5_init cX5_init 1 ({ frames := 1, cells := 4, slots := 68, locals := 64 }) 4 68 (fun _ => True) := by
  refine CtI.of "LeapJoin$Tables" rfl rfl (by decide) (by decide) (fun z ad F hin e hl hEx => ?_)
  subst hl
  refine gc_aload_n F 0 dX5_init_0 rfl rfl ?_
  refine gc_objInit F q47 q28 q29 rfl (Nat.le_of_ble_eq_true rfl) (Nat.le_of_ble_eq_true rfl) dX5_init_1 ?_
  refine gc_aload_n F 0 dX5_init_4 rfl rfl ?_
  refine gc_iconst (v := 0) F dX5_init_5 (by decide) ?_
  refine gc_puti (i := 8) (j := 0) (ci := 5) (fds := [0, 0, 0, 2, 2, 2, 2]) F rfl (by decide +kernel) (by decide +kernel) rfl uX5 (by decide) q48 tyX5_ok nmX5 rfl rfl rfl dX5_init_6 ?_
  refine gc_aload_n F 0 dX5_init_9 rfl rfl ?_
  refine gc_iconst (v := 0) F dX5_init_10 (by decide) ?_
  refine gc_puti (i := 8) (j := 1) (ci := 5) (fds := [0, 0, 0, 2, 2, 2, 2]) F rfl (by decide +kernel) (by decide +kernel) rfl uX5 (by decide) q51 tyX5_ok nmX5 rfl rfl rfl dX5_init_11 ?_
  refine gc_aload_n F 0 dX5_init_14 rfl rfl ?_
  refine gc_iconst (v := 0) F dX5_init_15 (by decide) ?_
  refine gc_puti (i := 8) (j := 2) (ci := 5) (fds := [0, 0, 0, 2, 2, 2, 2]) F rfl (by decide +kernel) (by decide +kernel) rfl uX5 (by decide) q53 tyX5_ok nmX5 rfl rfl rfl dX5_init_16 ?_
  refine gc_aload_n F 0 dX5_init_19 rfl rfl ?_
  refine gc_iconst (v := 4) F dX5_init_20 (by decide) ?_
  refine gc_newa (at_ := .int) (ty := .int) (v := 4) (S1 := U16) (N := 9) (t := 0) (so := 0) (len := 4) F rfl q71 rfl (fun _ => rfl) (fun _ => gc_cellI rfl) (by decide +kernel) (by decide +kernel) (Nat.le_of_ble_eq_true rfl) (Nat.le_of_ble_eq_true rfl) (Nat.le_of_ble_eq_true rfl) (by decide +kernel) (by decide +kernel) (by decide +kernel) dX5_init_21 (fun q9 => ?_)
  refine gc_putr (i := 8) (j := 3) (m := 9) (S1 := U17) (ci := 5) (fds := [0, 0, 0, 2, 2, 2, 2]) F hin rfl rfl (by decide +kernel) (by decide +kernel) (by decide +kernel) rfl uX5 (by decide) q55 tyX5_ok nmX5 rfl rfl (fun _ => rfl) (fun _ => rfl) dX5_init_23 ?_
  refine gc_aload_n F 0 dX5_init_26 rfl rfl ?_
  refine gc_iconst (v := 4) F dX5_init_27 (by decide) ?_
  refine gc_newa (at_ := .int) (ty := .int) (v := 4) (S1 := U18) (N := 10) (t := 0) (so := 0) (len := 4) F rfl q71 rfl (fun _ => rfl) (fun _ => gc_cellI rfl) (by decide +kernel) (by decide +kernel) (Nat.le_of_ble_eq_true rfl) (Nat.le_of_ble_eq_true rfl) (Nat.le_of_ble_eq_true rfl) (by decide +kernel) (by decide +kernel) (by decide +kernel) dX5_init_28 (fun q10 => ?_)
  refine gc_putr (i := 8) (j := 4) (m := 10) (S1 := U19) (ci := 5) (fds := [0, 0, 0, 12, 2, 2, 2]) F hin rfl rfl (by decide +kernel) (by decide +kernel) (by decide +kernel) rfl uX5 (by decide) q58 tyX5_ok nmX5 rfl rfl (fun _ => rfl) (fun _ => rfl) dX5_init_30 ?_
  refine gc_aload_n F 0 dX5_init_33 rfl rfl ?_
  refine gc_bipush (v := 12) F dX5_init_34 (by decide) ?_
  refine gc_newa (at_ := .int) (ty := .int) (v := 12) (S1 := U20) (N := 11) (t := 0) (so := 0) (len := 12) F rfl q71 rfl (fun _ => rfl) (fun _ => gc_cellI rfl) (by decide +kernel) (by decide +kernel) (Nat.le_of_ble_eq_true rfl) (Nat.le_of_ble_eq_true rfl) (Nat.le_of_ble_eq_true rfl) (by decide +kernel) (by decide +kernel) (by decide +kernel) dX5_init_36 (fun q11 => ?_)
  refine gc_putr (i := 8) (j := 5) (m := 11) (S1 := U21) (ci := 5) (fds := [0, 0, 0, 12, 13, 2, 2]) F hin rfl rfl (by decide +kernel) (by decide +kernel) (by decide +kernel) rfl uX5 (by decide) q62 tyX5_ok nmX5 rfl rfl (fun _ => rfl) (fun _ => rfl) dX5_init_38 ?_
  refine gc_aload_n F 0 dX5_init_41 rfl rfl ?_
  refine gc_bipush (v := 48) F dX5_init_42 (by decide) ?_
  refine gc_newa (at_ := .int) (ty := .int) (v := 48) (S1 := U22) (N := 12) (t := 0) (so := 0) (len := 48) F rfl q71 rfl (fun _ => rfl) (fun _ => gc_cellI rfl) (by decide +kernel) (by decide +kernel) (Nat.le_of_ble_eq_true rfl) (Nat.le_of_ble_eq_true rfl) (Nat.le_of_ble_eq_true rfl) (by decide +kernel) (by decide +kernel) (by decide +kernel) dX5_init_44 (fun q12 => ?_)
  refine gc_putr (i := 8) (j := 6) (m := 12) (S1 := U23) (ci := 5) (fds := [0, 0, 0, 12, 13, 14, 2]) F hin rfl rfl (by decide +kernel) (by decide +kernel) (by decide +kernel) rfl uX5 (by decide) q63 tyX5_ok nmX5 rfl rfl (fun _ => rfl) (fun _ => rfl) dX5_init_46 ?_
  exact gc_vret F e (fun i hi => by have hi : i < 9 := hi; rw [va_up_ne _ _ (by omega), va_up_ne _ _ (by omega), va_up_ne _ _ (by omega), va_up_ne _ _ (by omega)]) dX5_init_49
set_option maxRecDepth 100000 in
set_option maxHeartbeats 4000000 in
theorem iX5_init_13 (l : Launch) (D : va_G) (tA : Nat → ClassId) : CtI l D tA U25 U33 13 yX5_init cX5_init 1 ({ frames := 1, cells := 4, slots := 68, locals := 64 }) 4 68 (fun _ => True) := by
  refine CtI.of "LeapJoin$Tables" rfl rfl (by decide) (by decide) (fun z ad F hin e hl hEx => ?_)
  subst hl
  refine gc_aload_n F 0 dX5_init_0 rfl rfl ?_
  refine gc_objInit F q47 q28 q29 rfl (Nat.le_of_ble_eq_true rfl) (Nat.le_of_ble_eq_true rfl) dX5_init_1 ?_
  refine gc_aload_n F 0 dX5_init_4 rfl rfl ?_
  refine gc_iconst (v := 0) F dX5_init_5 (by decide) ?_
  refine gc_puti (i := 13) (j := 0) (ci := 5) (fds := [0, 0, 0, 2, 2, 2, 2]) F rfl (by decide +kernel) (by decide +kernel) rfl uX5 (by decide) q48 tyX5_ok nmX5 rfl rfl rfl dX5_init_6 ?_
  refine gc_aload_n F 0 dX5_init_9 rfl rfl ?_
  refine gc_iconst (v := 0) F dX5_init_10 (by decide) ?_
  refine gc_puti (i := 13) (j := 1) (ci := 5) (fds := [0, 0, 0, 2, 2, 2, 2]) F rfl (by decide +kernel) (by decide +kernel) rfl uX5 (by decide) q51 tyX5_ok nmX5 rfl rfl rfl dX5_init_11 ?_
  refine gc_aload_n F 0 dX5_init_14 rfl rfl ?_
  refine gc_iconst (v := 0) F dX5_init_15 (by decide) ?_
  refine gc_puti (i := 13) (j := 2) (ci := 5) (fds := [0, 0, 0, 2, 2, 2, 2]) F rfl (by decide +kernel) (by decide +kernel) rfl uX5 (by decide) q53 tyX5_ok nmX5 rfl rfl rfl dX5_init_16 ?_
  refine gc_aload_n F 0 dX5_init_19 rfl rfl ?_
  refine gc_iconst (v := 4) F dX5_init_20 (by decide) ?_
  refine gc_newa (at_ := .int) (ty := .int) (v := 4) (S1 := U26) (N := 14) (t := 0) (so := 0) (len := 4) F rfl q71 rfl (fun _ => rfl) (fun _ => gc_cellI rfl) (by decide +kernel) (by decide +kernel) (Nat.le_of_ble_eq_true rfl) (Nat.le_of_ble_eq_true rfl) (Nat.le_of_ble_eq_true rfl) (by decide +kernel) (by decide +kernel) (by decide +kernel) dX5_init_21 (fun q14 => ?_)
  refine gc_putr (i := 13) (j := 3) (m := 14) (S1 := U27) (ci := 5) (fds := [0, 0, 0, 2, 2, 2, 2]) F hin rfl rfl (by decide +kernel) (by decide +kernel) (by decide +kernel) rfl uX5 (by decide) q55 tyX5_ok nmX5 rfl rfl (fun _ => rfl) (fun _ => rfl) dX5_init_23 ?_
  refine gc_aload_n F 0 dX5_init_26 rfl rfl ?_
  refine gc_iconst (v := 4) F dX5_init_27 (by decide) ?_
  refine gc_newa (at_ := .int) (ty := .int) (v := 4) (S1 := U28) (N := 15) (t := 0) (so := 0) (len := 4) F rfl q71 rfl (fun _ => rfl) (fun _ => gc_cellI rfl) (by decide +kernel) (by decide +kernel) (Nat.le_of_ble_eq_true rfl) (Nat.le_of_ble_eq_true rfl) (Nat.le_of_ble_eq_true rfl) (by decide +kernel) (by decide +kernel) (by decide +kernel) dX5_init_28 (fun q15 => ?_)
  refine gc_putr (i := 13) (j := 4) (m := 15) (S1 := U29) (ci := 5) (fds := [0, 0, 0, 17, 2, 2, 2]) F hin rfl rfl (by decide +kernel) (by decide +kernel) (by decide +kernel) rfl uX5 (by decide) q58 tyX5_ok nmX5 rfl rfl (fun _ => rfl) (fun _ => rfl) dX5_init_30 ?_
  refine gc_aload_n F 0 dX5_init_33 rfl rfl ?_
  refine gc_bipush (v := 12) F dX5_init_34 (by decide) ?_
  refine gc_newa (at_ := .int) (ty := .int) (v := 12) (S1 := U30) (N := 16) (t := 0) (so := 0) (len := 12) F rfl q71 rfl (fun _ => rfl) (fun _ => gc_cellI rfl) (by decide +kernel) (by decide +kernel) (Nat.le_of_ble_eq_true rfl) (Nat.le_of_ble_eq_true rfl) (Nat.le_of_ble_eq_true rfl) (by decide +kernel) (by decide +kernel) (by decide +kernel) dX5_init_36 (fun q16 => ?_)
  refine gc_putr (i := 13) (j := 5) (m := 16) (S1 := U31) (ci := 5) (fds := [0, 0, 0, 17, 18, 2, 2]) F hin rfl rfl (by decide +kernel) (by decide +kernel) (by decide +kernel) rfl uX5 (by decide) q62 tyX5_ok nmX5 rfl rfl (fun _ => rfl) (fun _ => rfl) dX5_init_38 ?_
  refine gc_aload_n F 0 dX5_init_41 rfl rfl ?_
  refine gc_bipush (v := 48) F dX5_init_42 (by decide) ?_
  refine gc_newa (at_ := .int) (ty := .int) (v := 48) (S1 := U32) (N := 17) (t := 0) (so := 0) (len := 48) F rfl q71 rfl (fun _ => rfl) (fun _ => gc_cellI rfl) (by decide +kernel) (by decide +kernel) (Nat.le_of_ble_eq_true rfl) (Nat.le_of_ble_eq_true rfl) (Nat.le_of_ble_eq_true rfl) (by decide +kernel) (by decide +kernel) (by decide +kernel) dX5_init_44 (fun q17 => ?_)
  refine gc_putr (i := 13) (j := 6) (m := 17) (S1 := U33) (ci := 5) (fds := [0, 0, 0, 17, 18, 19, 2]) F hin rfl rfl (by decide +kernel) (by decide +kernel) (by decide +kernel) rfl uX5 (by decide) q63 tyX5_ok nmX5 rfl rfl (fun _ => rfl) (fun _ => rfl) dX5_init_46 ?_
  exact gc_vret F e (fun i hi => by have hi : i < 14 := hi; rw [va_up_ne _ _ (by omega), va_up_ne _ _ (by omega), va_up_ne _ _ (by omega), va_up_ne _ _ (by omega)]) dX5_init_49
set_option maxRecDepth 100000 in
set_option maxHeartbeats 4000000 in
theorem iX1_init (l : Launch) (D : va_G) (tA : Nat → ClassId) : CtI l D tA U35 U55 18 yX1_init cX1_init 1 ({ frames := 1, cells := 10, slots := 20864, locals := 64 }) 10 20864 (fun _ => True) := by
  refine CtI.of "LeapJoin$Join" rfl rfl (by decide) (by decide) (fun z ad F hin e hl hEx => ?_)
  subst hl
  refine gc_aload_n F 0 dX1_init_0 rfl rfl ?_
  refine gc_objInit F q76 q28 q29 rfl (Nat.le_of_ble_eq_true rfl) (Nat.le_of_ble_eq_true rfl) dX1_init_1 ?_
  refine gc_aload_n F 0 dX1_init_4 rfl rfl ?_
  refine gc_iconst (v := 0) F dX1_init_5 (by decide) ?_
  refine gc_puti (i := 18) (j := 0) (ci := 1) (fds := [0, 0, 0, 2, 2, 2, 2, 2, 2, 2, 2, 2, 2]) F rfl (by decide +kernel) (by decide +kernel) rfl uX1 (by decide) q77 tyX1_ok nmX1 rfl rfl rfl dX1_init_6 ?_
  refine gc_aload_n F 0 dX1_init_9 rfl rfl ?_
  refine gc_iconst (v := 0) F dX1_init_10 (by decide) ?_
  refine gc_puti (i := 18) (j := 1) (ci := 1) (fds := [0, 0, 0, 2, 2, 2, 2, 2, 2, 2, 2, 2, 2]) F rfl (by decide +kernel) (by decide +kernel) rfl uX1 (by decide) q80 tyX1_ok nmX1 rfl rfl rfl dX1_init_11 ?_
  refine gc_aload_n F 0 dX1_init_14 rfl rfl ?_
  refine gc_iconst (v := 0) F dX1_init_15 (by decide) ?_
  refine gc_puti (i := 18) (j := 2) (ci := 1) (fds := [0, 0, 0, 2, 2, 2, 2, 2, 2, 2, 2, 2, 2]) F rfl (by decide +kernel) (by decide +kernel) rfl uX1 (by decide) q83 tyX1_ok nmX1 rfl rfl rfl dX1_init_16 ?_
  refine gc_aload_n F 0 dX1_init_19 rfl rfl ?_
  refine gc_iconst (v := 4) F dX1_init_20 (by decide) ?_
  refine gc_newa (at_ := .int) (ty := .int) (v := 4) (S1 := U36) (N := 19) (t := 0) (so := 0) (len := 4) F rfl q71 rfl (fun _ => rfl) (fun _ => gc_cellI rfl) (by decide +kernel) (by decide +kernel) (Nat.le_of_ble_eq_true rfl) (Nat.le_of_ble_eq_true rfl) (Nat.le_of_ble_eq_true rfl) (by decide +kernel) (by decide +kernel) (by decide +kernel) dX1_init_21 (fun q19 => ?_)
  refine gc_putr (i := 18) (j := 3) (m := 19) (S1 := U37) (ci := 1) (fds := [0, 0, 0, 2, 2, 2, 2, 2, 2, 2, 2, 2, 2]) F hin rfl rfl (by decide +kernel) (by decide +kernel) (by decide +kernel) rfl uX1 (by decide) q85 tyX1_ok nmX1 rfl rfl (fun _ => rfl) (fun _ => rfl) dX1_init_23 ?_
  refine gc_aload_n F 0 dX1_init_26 rfl rfl ?_
  refine gc_iconst (v := 4) F dX1_init_27 (by decide) ?_
  refine gc_newa (at_ := .int) (ty := .int) (v := 4) (S1 := U38) (N := 20) (t := 0) (so := 0) (len := 4) F rfl q71 rfl (fun _ => rfl) (fun _ => gc_cellI rfl) (by decide +kernel) (by decide +kernel) (Nat.le_of_ble_eq_true rfl) (Nat.le_of_ble_eq_true rfl) (Nat.le_of_ble_eq_true rfl) (by decide +kernel) (by decide +kernel) (by decide +kernel) dX1_init_28 (fun q20 => ?_)
  refine gc_putr (i := 18) (j := 4) (m := 20) (S1 := U39) (ci := 1) (fds := [0, 0, 0, 22, 2, 2, 2, 2, 2, 2, 2, 2, 2]) F hin rfl rfl (by decide +kernel) (by decide +kernel) (by decide +kernel) rfl uX1 (by decide) q87 tyX1_ok nmX1 rfl rfl (fun _ => rfl) (fun _ => rfl) dX1_init_30 ?_
  refine gc_aload_n F 0 dX1_init_33 rfl rfl ?_
  refine gc_sipush (v := 20736) F dX1_init_34 (by decide) ?_
  refine gc_newa (at_ := .int) (ty := .int) (v := 20736) (S1 := U40) (N := 21) (t := 0) (so := 0) (len := 20736) F rfl q71 rfl (fun _ => rfl) (fun _ => gc_cellI rfl) (by decide +kernel) (by decide +kernel) (Nat.le_of_ble_eq_true rfl) (Nat.le_of_ble_eq_true rfl) (Nat.le_of_ble_eq_true rfl) (by decide +kernel) (by decide +kernel) (by decide +kernel) dX1_init_37 (fun q21 => ?_)
  refine gc_putr (i := 18) (j := 5) (m := 21) (S1 := U41) (ci := 1) (fds := [0, 0, 0, 22, 23, 2, 2, 2, 2, 2, 2, 2, 2]) F hin rfl rfl (by decide +kernel) (by decide +kernel) (by decide +kernel) rfl uX1 (by decide) q88 tyX1_ok nmX1 rfl rfl (fun _ => rfl) (fun _ => rfl) dX1_init_39 ?_
  refine gc_aload_n F 0 dX1_init_42 rfl rfl ?_
  refine gc_iconst (v := 5) F dX1_init_43 (by decide) ?_
  refine gc_newa (at_ := .int) (ty := .int) (v := 5) (S1 := U42) (N := 22) (t := 0) (so := 0) (len := 5) F rfl q71 rfl (fun _ => rfl) (fun _ => gc_cellI rfl) (by decide +kernel) (by decide +kernel) (Nat.le_of_ble_eq_true rfl) (Nat.le_of_ble_eq_true rfl) (Nat.le_of_ble_eq_true rfl) (by decide +kernel) (by decide +kernel) (by decide +kernel) dX1_init_44 (fun q22 => ?_)
  refine gc_putr (i := 18) (j := 6) (m := 22) (S1 := U43) (ci := 1) (fds := [0, 0, 0, 22, 23, 24, 2, 2, 2, 2, 2, 2, 2]) F hin rfl rfl (by decide +kernel) (by decide +kernel) (by decide +kernel) rfl uX1 (by decide) q89 tyX1_ok nmX1 rfl rfl (fun _ => rfl) (fun _ => rfl) dX1_init_46 ?_
  refine gc_aload_n F 0 dX1_init_49 rfl rfl ?_
  refine gc_bipush (v := 48) F dX1_init_50 (by decide) ?_
  refine gc_newa (at_ := .int) (ty := .int) (v := 48) (S1 := U44) (N := 23) (t := 0) (so := 0) (len := 48) F rfl q71 rfl (fun _ => rfl) (fun _ => gc_cellI rfl) (by decide +kernel) (by decide +kernel) (Nat.le_of_ble_eq_true rfl) (Nat.le_of_ble_eq_true rfl) (Nat.le_of_ble_eq_true rfl) (by decide +kernel) (by decide +kernel) (by decide +kernel) dX1_init_52 (fun q23 => ?_)
  refine gc_putr (i := 18) (j := 7) (m := 23) (S1 := U45) (ci := 1) (fds := [0, 0, 0, 22, 23, 24, 25, 2, 2, 2, 2, 2, 2]) F hin rfl rfl (by decide +kernel) (by decide +kernel) (by decide +kernel) rfl uX1 (by decide) q90 tyX1_ok nmX1 rfl rfl (fun _ => rfl) (fun _ => rfl) dX1_init_54 ?_
  refine gc_aload_n F 0 dX1_init_57 rfl rfl ?_
  refine gc_iconst (v := 3) F dX1_init_58 (by decide) ?_
  refine gc_newa (at_ := .int) (ty := .int) (v := 3) (S1 := U46) (N := 24) (t := 0) (so := 0) (len := 3) F rfl q71 rfl (fun _ => rfl) (fun _ => gc_cellI rfl) (by decide +kernel) (by decide +kernel) (Nat.le_of_ble_eq_true rfl) (Nat.le_of_ble_eq_true rfl) (Nat.le_of_ble_eq_true rfl) (by decide +kernel) (by decide +kernel) (by decide +kernel) dX1_init_59 (fun q24 => ?_)
  refine gc_putr (i := 18) (j := 8) (m := 24) (S1 := U47) (ci := 1) (fds := [0, 0, 0, 22, 23, 24, 25, 26, 2, 2, 2, 2, 2]) F hin rfl rfl (by decide +kernel) (by decide +kernel) (by decide +kernel) rfl uX1 (by decide) q91 tyX1_ok nmX1 rfl rfl (fun _ => rfl) (fun _ => rfl) dX1_init_61 ?_
  refine gc_aload_n F 0 dX1_init_64 rfl rfl ?_
  refine gc_bipush (v := 16) F dX1_init_65 (by decide) ?_
  refine gc_newa (at_ := .int) (ty := .int) (v := 16) (S1 := U48) (N := 25) (t := 0) (so := 0) (len := 16) F rfl q71 rfl (fun _ => rfl) (fun _ => gc_cellI rfl) (by decide +kernel) (by decide +kernel) (Nat.le_of_ble_eq_true rfl) (Nat.le_of_ble_eq_true rfl) (Nat.le_of_ble_eq_true rfl) (by decide +kernel) (by decide +kernel) (by decide +kernel) dX1_init_67 (fun q25 => ?_)
  refine gc_putr (i := 18) (j := 9) (m := 25) (S1 := U49) (ci := 1) (fds := [0, 0, 0, 22, 23, 24, 25, 26, 27, 2, 2, 2, 2]) F hin rfl rfl (by decide +kernel) (by decide +kernel) (by decide +kernel) rfl uX1 (by decide) q92 tyX1_ok nmX1 rfl rfl (fun _ => rfl) (fun _ => rfl) dX1_init_69 ?_
  refine gc_aload_n F 0 dX1_init_72 rfl rfl ?_
  refine gc_bipush (v := 16) F dX1_init_73 (by decide) ?_
  refine gc_newa (at_ := .int) (ty := .int) (v := 16) (S1 := U50) (N := 26) (t := 0) (so := 0) (len := 16) F rfl q71 rfl (fun _ => rfl) (fun _ => gc_cellI rfl) (by decide +kernel) (by decide +kernel) (Nat.le_of_ble_eq_true rfl) (Nat.le_of_ble_eq_true rfl) (Nat.le_of_ble_eq_true rfl) (by decide +kernel) (by decide +kernel) (by decide +kernel) dX1_init_75 (fun q26 => ?_)
  refine gc_putr (i := 18) (j := 10) (m := 26) (S1 := U51) (ci := 1) (fds := [0, 0, 0, 22, 23, 24, 25, 26, 27, 28, 2, 2, 2]) F hin rfl rfl (by decide +kernel) (by decide +kernel) (by decide +kernel) rfl uX1 (by decide) q93 tyX1_ok nmX1 rfl rfl (fun _ => rfl) (fun _ => rfl) dX1_init_77 ?_
  refine gc_aload_n F 0 dX1_init_80 rfl rfl ?_
  refine gc_bipush (v := 16) F dX1_init_81 (by decide) ?_
  refine gc_newa (at_ := .int) (ty := .int) (v := 16) (S1 := U52) (N := 27) (t := 0) (so := 0) (len := 16) F rfl q71 rfl (fun _ => rfl) (fun _ => gc_cellI rfl) (by decide +kernel) (by decide +kernel) (Nat.le_of_ble_eq_true rfl) (Nat.le_of_ble_eq_true rfl) (Nat.le_of_ble_eq_true rfl) (by decide +kernel) (by decide +kernel) (by decide +kernel) dX1_init_83 (fun q27 => ?_)
  refine gc_putr (i := 18) (j := 11) (m := 27) (S1 := U53) (ci := 1) (fds := [0, 0, 0, 22, 23, 24, 25, 26, 27, 28, 29, 2, 2]) F hin rfl rfl (by decide +kernel) (by decide +kernel) (by decide +kernel) rfl uX1 (by decide) q94 tyX1_ok nmX1 rfl rfl (fun _ => rfl) (fun _ => rfl) dX1_init_85 ?_
  refine gc_aload_n F 0 dX1_init_88 rfl rfl ?_
  refine gc_bipush (v := 16) F dX1_init_89 (by decide) ?_
  refine gc_newa (at_ := .int) (ty := .int) (v := 16) (S1 := U54) (N := 28) (t := 0) (so := 0) (len := 16) F rfl q71 rfl (fun _ => rfl) (fun _ => gc_cellI rfl) (by decide +kernel) (by decide +kernel) (Nat.le_of_ble_eq_true rfl) (Nat.le_of_ble_eq_true rfl) (Nat.le_of_ble_eq_true rfl) (by decide +kernel) (by decide +kernel) (by decide +kernel) dX1_init_91 (fun q28 => ?_)
  refine gc_putr (i := 18) (j := 12) (m := 28) (S1 := U55) (ci := 1) (fds := [0, 0, 0, 22, 23, 24, 25, 26, 27, 28, 29, 30, 2]) F hin rfl rfl (by decide +kernel) (by decide +kernel) (by decide +kernel) rfl uX1 (by decide) q95 tyX1_ok nmX1 rfl rfl (fun _ => rfl) (fun _ => rfl) dX1_init_93 ?_
  exact gc_vret F e (fun i hi => by have hi : i < 19 := hi; rw [va_up_ne _ _ (by omega), va_up_ne _ _ (by omega), va_up_ne _ _ (by omega), va_up_ne _ _ (by omega), va_up_ne _ _ (by omega), va_up_ne _ _ (by omega), va_up_ne _ _ (by omega), va_up_ne _ _ (by omega), va_up_ne _ _ (by omega), va_up_ne _ _ (by omega)]) dX1_init_96
set_option maxRecDepth 100000 in
set_option maxHeartbeats 4000000 in
theorem iX1_init_29 (l : Launch) (D : va_G) (tA : Nat → ClassId) : CtI l D tA U57 U77 29 yX1_init cX1_init 1 ({ frames := 1, cells := 10, slots := 20864, locals := 64 }) 10 20864 (fun _ => True) := by
  refine CtI.of "LeapJoin$Join" rfl rfl (by decide) (by decide) (fun z ad F hin e hl hEx => ?_)
  subst hl
  refine gc_aload_n F 0 dX1_init_0 rfl rfl ?_
  refine gc_objInit F q76 q28 q29 rfl (Nat.le_of_ble_eq_true rfl) (Nat.le_of_ble_eq_true rfl) dX1_init_1 ?_
  refine gc_aload_n F 0 dX1_init_4 rfl rfl ?_
  refine gc_iconst (v := 0) F dX1_init_5 (by decide) ?_
  refine gc_puti (i := 29) (j := 0) (ci := 1) (fds := [0, 0, 0, 2, 2, 2, 2, 2, 2, 2, 2, 2, 2]) F rfl (by decide +kernel) (by decide +kernel) rfl uX1 (by decide) q77 tyX1_ok nmX1 rfl rfl rfl dX1_init_6 ?_
  refine gc_aload_n F 0 dX1_init_9 rfl rfl ?_
  refine gc_iconst (v := 0) F dX1_init_10 (by decide) ?_
  refine gc_puti (i := 29) (j := 1) (ci := 1) (fds := [0, 0, 0, 2, 2, 2, 2, 2, 2, 2, 2, 2, 2]) F rfl (by decide +kernel) (by decide +kernel) rfl uX1 (by decide) q80 tyX1_ok nmX1 rfl rfl rfl dX1_init_11 ?_
  refine gc_aload_n F 0 dX1_init_14 rfl rfl ?_
  refine gc_iconst (v := 0) F dX1_init_15 (by decide) ?_
  refine gc_puti (i := 29) (j := 2) (ci := 1) (fds := [0, 0, 0, 2, 2, 2, 2, 2, 2, 2, 2, 2, 2]) F rfl (by decide +kernel) (by decide +kernel) rfl uX1 (by decide) q83 tyX1_ok nmX1 rfl rfl rfl dX1_init_16 ?_
  refine gc_aload_n F 0 dX1_init_19 rfl rfl ?_
  refine gc_iconst (v := 4) F dX1_init_20 (by decide) ?_
  refine gc_newa (at_ := .int) (ty := .int) (v := 4) (S1 := U58) (N := 30) (t := 0) (so := 0) (len := 4) F rfl q71 rfl (fun _ => rfl) (fun _ => gc_cellI rfl) (by decide +kernel) (by decide +kernel) (Nat.le_of_ble_eq_true rfl) (Nat.le_of_ble_eq_true rfl) (Nat.le_of_ble_eq_true rfl) (by decide +kernel) (by decide +kernel) (by decide +kernel) dX1_init_21 (fun q30 => ?_)
  refine gc_putr (i := 29) (j := 3) (m := 30) (S1 := U59) (ci := 1) (fds := [0, 0, 0, 2, 2, 2, 2, 2, 2, 2, 2, 2, 2]) F hin rfl rfl (by decide +kernel) (by decide +kernel) (by decide +kernel) rfl uX1 (by decide) q85 tyX1_ok nmX1 rfl rfl (fun _ => rfl) (fun _ => rfl) dX1_init_23 ?_
  refine gc_aload_n F 0 dX1_init_26 rfl rfl ?_
  refine gc_iconst (v := 4) F dX1_init_27 (by decide) ?_
  refine gc_newa (at_ := .int) (ty := .int) (v := 4) (S1 := U60) (N := 31) (t := 0) (so := 0) (len := 4) F rfl q71 rfl (fun _ => rfl) (fun _ => gc_cellI rfl) (by decide +kernel) (by decide +kernel) (Nat.le_of_ble_eq_true rfl) (Nat.le_of_ble_eq_true rfl) (Nat.le_of_ble_eq_true rfl) (by decide +kernel) (by decide +kernel) (by decide +kernel) dX1_init_28 (fun q31 => ?_)
  refine gc_putr (i := 29) (j := 4) (m := 31) (S1 := U61) (ci := 1) (fds := [0, 0, 0, 33, 2, 2, 2, 2, 2, 2, 2, 2, 2]) F hin rfl rfl (by decide +kernel) (by decide +kernel) (by decide +kernel) rfl uX1 (by decide) q87 tyX1_ok nmX1 rfl rfl (fun _ => rfl) (fun _ => rfl) dX1_init_30 ?_
  refine gc_aload_n F 0 dX1_init_33 rfl rfl ?_
  refine gc_sipush (v := 20736) F dX1_init_34 (by decide) ?_
  refine gc_newa (at_ := .int) (ty := .int) (v := 20736) (S1 := U62) (N := 32) (t := 0) (so := 0) (len := 20736) F rfl q71 rfl (fun _ => rfl) (fun _ => gc_cellI rfl) (by decide +kernel) (by decide +kernel) (Nat.le_of_ble_eq_true rfl) (Nat.le_of_ble_eq_true rfl) (Nat.le_of_ble_eq_true rfl) (by decide +kernel) (by decide +kernel) (by decide +kernel) dX1_init_37 (fun q32 => ?_)
  refine gc_putr (i := 29) (j := 5) (m := 32) (S1 := U63) (ci := 1) (fds := [0, 0, 0, 33, 34, 2, 2, 2, 2, 2, 2, 2, 2]) F hin rfl rfl (by decide +kernel) (by decide +kernel) (by decide +kernel) rfl uX1 (by decide) q88 tyX1_ok nmX1 rfl rfl (fun _ => rfl) (fun _ => rfl) dX1_init_39 ?_
  refine gc_aload_n F 0 dX1_init_42 rfl rfl ?_
  refine gc_iconst (v := 5) F dX1_init_43 (by decide) ?_
  refine gc_newa (at_ := .int) (ty := .int) (v := 5) (S1 := U64) (N := 33) (t := 0) (so := 0) (len := 5) F rfl q71 rfl (fun _ => rfl) (fun _ => gc_cellI rfl) (by decide +kernel) (by decide +kernel) (Nat.le_of_ble_eq_true rfl) (Nat.le_of_ble_eq_true rfl) (Nat.le_of_ble_eq_true rfl) (by decide +kernel) (by decide +kernel) (by decide +kernel) dX1_init_44 (fun q33 => ?_)
  refine gc_putr (i := 29) (j := 6) (m := 33) (S1 := U65) (ci := 1) (fds := [0, 0, 0, 33, 34, 35, 2, 2, 2, 2, 2, 2, 2]) F hin rfl rfl (by decide +kernel) (by decide +kernel) (by decide +kernel) rfl uX1 (by decide) q89 tyX1_ok nmX1 rfl rfl (fun _ => rfl) (fun _ => rfl) dX1_init_46 ?_
  refine gc_aload_n F 0 dX1_init_49 rfl rfl ?_
  refine gc_bipush (v := 48) F dX1_init_50 (by decide) ?_
  refine gc_newa (at_ := .int) (ty := .int) (v := 48) (S1 := U66) (N := 34) (t := 0) (so := 0) (len := 48) F rfl q71 rfl (fun _ => rfl) (fun _ => gc_cellI rfl) (by decide +kernel) (by decide +kernel) (Nat.le_of_ble_eq_true rfl) (Nat.le_of_ble_eq_true rfl) (Nat.le_of_ble_eq_true rfl) (by decide +kernel) (by decide +kernel) (by decide +kernel) dX1_init_52 (fun q34 => ?_)
  refine gc_putr (i := 29) (j := 7) (m := 34) (S1 := U67) (ci := 1) (fds := [0, 0, 0, 33, 34, 35, 36, 2, 2, 2, 2, 2, 2]) F hin rfl rfl (by decide +kernel) (by decide +kernel) (by decide +kernel) rfl uX1 (by decide) q90 tyX1_ok nmX1 rfl rfl (fun _ => rfl) (fun _ => rfl) dX1_init_54 ?_
  refine gc_aload_n F 0 dX1_init_57 rfl rfl ?_
  refine gc_iconst (v := 3) F dX1_init_58 (by decide) ?_
  refine gc_newa (at_ := .int) (ty := .int) (v := 3) (S1 := U68) (N := 35) (t := 0) (so := 0) (len := 3) F rfl q71 rfl (fun _ => rfl) (fun _ => gc_cellI rfl) (by decide +kernel) (by decide +kernel) (Nat.le_of_ble_eq_true rfl) (Nat.le_of_ble_eq_true rfl) (Nat.le_of_ble_eq_true rfl) (by decide +kernel) (by decide +kernel) (by decide +kernel) dX1_init_59 (fun q35 => ?_)
  refine gc_putr (i := 29) (j := 8) (m := 35) (S1 := U69) (ci := 1) (fds := [0, 0, 0, 33, 34, 35, 36, 37, 2, 2, 2, 2, 2]) F hin rfl rfl (by decide +kernel) (by decide +kernel) (by decide +kernel) rfl uX1 (by decide) q91 tyX1_ok nmX1 rfl rfl (fun _ => rfl) (fun _ => rfl) dX1_init_61 ?_
  refine gc_aload_n F 0 dX1_init_64 rfl rfl ?_
  refine gc_bipush (v := 16) F dX1_init_65 (by decide) ?_
  refine gc_newa (at_ := .int) (ty := .int) (v := 16) (S1 := U70) (N := 36) (t := 0) (so := 0) (len := 16) F rfl q71 rfl (fun _ => rfl) (fun _ => gc_cellI rfl) (by decide +kernel) (by decide +kernel) (Nat.le_of_ble_eq_true rfl) (Nat.le_of_ble_eq_true rfl) (Nat.le_of_ble_eq_true rfl) (by decide +kernel) (by decide +kernel) (by decide +kernel) dX1_init_67 (fun q36 => ?_)
  refine gc_putr (i := 29) (j := 9) (m := 36) (S1 := U71) (ci := 1) (fds := [0, 0, 0, 33, 34, 35, 36, 37, 38, 2, 2, 2, 2]) F hin rfl rfl (by decide +kernel) (by decide +kernel) (by decide +kernel) rfl uX1 (by decide) q92 tyX1_ok nmX1 rfl rfl (fun _ => rfl) (fun _ => rfl) dX1_init_69 ?_
  refine gc_aload_n F 0 dX1_init_72 rfl rfl ?_
  refine gc_bipush (v := 16) F dX1_init_73 (by decide) ?_
  refine gc_newa (at_ := .int) (ty := .int) (v := 16) (S1 := U72) (N := 37) (t := 0) (so := 0) (len := 16) F rfl q71 rfl (fun _ => rfl) (fun _ => gc_cellI rfl) (by decide +kernel) (by decide +kernel) (Nat.le_of_ble_eq_true rfl) (Nat.le_of_ble_eq_true rfl) (Nat.le_of_ble_eq_true rfl) (by decide +kernel) (by decide +kernel) (by decide +kernel) dX1_init_75 (fun q37 => ?_)
  refine gc_putr (i := 29) (j := 10) (m := 37) (S1 := U73) (ci := 1) (fds := [0, 0, 0, 33, 34, 35, 36, 37, 38, 39, 2, 2, 2]) F hin rfl rfl (by decide +kernel) (by decide +kernel) (by decide +kernel) rfl uX1 (by decide) q93 tyX1_ok nmX1 rfl rfl (fun _ => rfl) (fun _ => rfl) dX1_init_77 ?_
  refine gc_aload_n F 0 dX1_init_80 rfl rfl ?_
  refine gc_bipush (v := 16) F dX1_init_81 (by decide) ?_
  refine gc_newa (at_ := .int) (ty := .int) (v := 16) (S1 := U74) (N := 38) (t := 0) (so := 0) (len := 16) F rfl q71 rfl (fun _ => rfl) (fun _ => gc_cellI rfl) (by decide +kernel) (by decide +kernel) (Nat.le_of_ble_eq_true rfl) (Nat.le_of_ble_eq_true rfl) (Nat.le_of_ble_eq_true rfl) (by decide +kernel) (by decide +kernel) (by decide +kernel) dX1_init_83 (fun q38 => ?_)
  refine gc_putr (i := 29) (j := 11) (m := 38) (S1 := U75) (ci := 1) (fds := [0, 0, 0, 33, 34, 35, 36, 37, 38, 39, 40, 2, 2]) F hin rfl rfl (by decide +kernel) (by decide +kernel) (by decide +kernel) rfl uX1 (by decide) q94 tyX1_ok nmX1 rfl rfl (fun _ => rfl) (fun _ => rfl) dX1_init_85 ?_
  refine gc_aload_n F 0 dX1_init_88 rfl rfl ?_
  refine gc_bipush (v := 16) F dX1_init_89 (by decide) ?_
  refine gc_newa (at_ := .int) (ty := .int) (v := 16) (S1 := U76) (N := 39) (t := 0) (so := 0) (len := 16) F rfl q71 rfl (fun _ => rfl) (fun _ => gc_cellI rfl) (by decide +kernel) (by decide +kernel) (Nat.le_of_ble_eq_true rfl) (Nat.le_of_ble_eq_true rfl) (Nat.le_of_ble_eq_true rfl) (by decide +kernel) (by decide +kernel) (by decide +kernel) dX1_init_91 (fun q39 => ?_)
  refine gc_putr (i := 29) (j := 12) (m := 39) (S1 := U77) (ci := 1) (fds := [0, 0, 0, 33, 34, 35, 36, 37, 38, 39, 40, 41, 2]) F hin rfl rfl (by decide +kernel) (by decide +kernel) (by decide +kernel) rfl uX1 (by decide) q95 tyX1_ok nmX1 rfl rfl (fun _ => rfl) (fun _ => rfl) dX1_init_93 ?_
  exact gc_vret F e (fun i hi => by have hi : i < 30 := hi; rw [va_up_ne _ _ (by omega), va_up_ne _ _ (by omega), va_up_ne _ _ (by omega), va_up_ne _ _ (by omega), va_up_ne _ _ (by omega), va_up_ne _ _ (by omega), va_up_ne _ _ (by omega), va_up_ne _ _ (by omega), va_up_ne _ _ (by omega), va_up_ne _ _ (by omega)]) dX1_init_96
set_option maxRecDepth 100000 in
set_option maxHeartbeats 4000000 in
theorem iX0_init (l : Launch) (D : va_G) (tA : Nat → ClassId) : CtI l D tA U79 U83 40 yX0_init cX0_init 1 ({ frames := 1, cells := 2, slots := 200, locals := 64 }) 2 200 (fun _ => True) := by
  refine CtI.of "LeapJoin$Figures" rfl rfl (by decide) (by decide) (fun z ad F hin e hl hEx => ?_)
  subst hl
  refine gc_aload_n F 0 dX0_init_0 rfl rfl ?_
  refine gc_objInit F q113 q28 q29 rfl (Nat.le_of_ble_eq_true rfl) (Nat.le_of_ble_eq_true rfl) dX0_init_1 ?_
  refine gc_aload_n F 0 dX0_init_4 rfl rfl ?_
  refine gc_bipush (v := 100) F dX0_init_5 (by decide) ?_
  refine gc_newa (at_ := .int) (ty := .int) (v := 100) (S1 := U80) (N := 41) (t := 0) (so := 0) (len := 100) F rfl q71 rfl (fun _ => rfl) (fun _ => gc_cellI rfl) (by decide +kernel) (by decide +kernel) (Nat.le_of_ble_eq_true rfl) (Nat.le_of_ble_eq_true rfl) (Nat.le_of_ble_eq_true rfl) (by decide +kernel) (by decide +kernel) (by decide +kernel) dX0_init_7 (fun q41 => ?_)
  refine gc_putr (i := 40) (j := 0) (m := 41) (S1 := U81) (ci := 0) (fds := [2, 2]) F hin rfl rfl (by decide +kernel) (by decide +kernel) (by decide +kernel) rfl uX0 (by decide) q114 tyX0_ok nmX0 rfl rfl (fun _ => rfl) (fun _ => rfl) dX0_init_9 ?_
  refine gc_aload_n F 0 dX0_init_12 rfl rfl ?_
  refine gc_bipush (v := 100) F dX0_init_13 (by decide) ?_
  refine gc_newa (at_ := .int) (ty := .int) (v := 100) (S1 := U82) (N := 42) (t := 0) (so := 0) (len := 100) F rfl q71 rfl (fun _ => rfl) (fun _ => gc_cellI rfl) (by decide +kernel) (by decide +kernel) (Nat.le_of_ble_eq_true rfl) (Nat.le_of_ble_eq_true rfl) (Nat.le_of_ble_eq_true rfl) (by decide +kernel) (by decide +kernel) (by decide +kernel) dX0_init_15 (fun q42 => ?_)
  refine gc_putr (i := 40) (j := 1) (m := 42) (S1 := U83) (ci := 0) (fds := [44, 2]) F hin rfl rfl (by decide +kernel) (by decide +kernel) (by decide +kernel) rfl uX0 (by decide) q116 tyX0_ok nmX0 rfl rfl (fun _ => rfl) (fun _ => rfl) dX0_init_17 ?_
  exact gc_vret F e (fun i hi => by have hi : i < 41 := hi; rw [va_up_ne _ _ (by omega), va_up_ne _ _ (by omega)]) dX0_init_20
set_option maxRecDepth 100000 in
set_option maxHeartbeats 4000000 in
theorem iX7_init (l : Launch) (D : va_G) (tA : Nat → ClassId) : CtI l D tA U85 U85 43 yX7_init cX7_init 1 ({ frames := 1, cells := 0, slots := 0, locals := 64 }) 0 0 (fun _ => True) := by
  refine CtI.of "LeapJoin$Weights" rfl rfl (by decide) (by decide) (fun z ad F hin e hl hEx => ?_)
  subst hl
  refine gc_aload_n F 0 dX7_init_0 rfl rfl ?_
  refine gc_objInit F q123 q28 q29 rfl (Nat.le_of_ble_eq_true rfl) (Nat.le_of_ble_eq_true rfl) dX7_init_1 ?_
  refine gc_aload_n F 0 dX7_init_4 rfl rfl ?_
  refine gc_iconst (v := 0) F dX7_init_5 (by decide) ?_
  refine gc_puti (i := 43) (j := 0) (ci := 7) (fds := [0, 0, 0, 0]) F rfl (by decide +kernel) (by decide +kernel) rfl uX7 (by decide) q124 tyX7_ok nmX7 rfl rfl rfl dX7_init_6 ?_
  refine gc_aload_n F 0 dX7_init_9 rfl rfl ?_
  refine gc_iconst (v := 0) F dX7_init_10 (by decide) ?_
  refine gc_puti (i := 43) (j := 1) (ci := 7) (fds := [0, 0, 0, 0]) F rfl (by decide +kernel) (by decide +kernel) rfl uX7 (by decide) q126 tyX7_ok nmX7 rfl rfl rfl dX7_init_11 ?_
  refine gc_aload_n F 0 dX7_init_14 rfl rfl ?_
  refine gc_iconst (v := 0) F dX7_init_15 (by decide) ?_
  refine gc_puti (i := 43) (j := 2) (ci := 7) (fds := [0, 0, 0, 0]) F rfl (by decide +kernel) (by decide +kernel) rfl uX7 (by decide) q128 tyX7_ok nmX7 rfl rfl rfl dX7_init_16 ?_
  refine gc_aload_n F 0 dX7_init_19 rfl rfl ?_
  refine gc_iconst (v := 0) F dX7_init_20 (by decide) ?_
  refine gc_puti (i := 43) (j := 3) (ci := 7) (fds := [0, 0, 0, 0]) F rfl (by decide +kernel) (by decide +kernel) rfl uX7 (by decide) q130 tyX7_ok nmX7 rfl rfl rfl dX7_init_21 ?_
  exact gc_vret F e (fun _ _ => rfl) dX7_init_24
set_option maxRecDepth 100000 in
set_option maxHeartbeats 4000000 in
theorem iX2_init (l : Launch) (D : va_G) (tA : Nat → ClassId) : CtI l D tA U87 U89 44 yX2_init cX2_init 1 ({ frames := 1, cells := 1, slots := 300, locals := 64 }) 1 300 (fun _ => True) := by
  refine CtI.of "LeapJoin$Log" rfl rfl (by decide) (by decide) (fun z ad F hin e hl hEx => ?_)
  subst hl
  refine gc_aload_n F 0 dX2_init_0 rfl rfl ?_
  refine gc_objInit F q140 q28 q29 rfl (Nat.le_of_ble_eq_true rfl) (Nat.le_of_ble_eq_true rfl) dX2_init_1 ?_
  refine gc_aload_n F 0 dX2_init_4 rfl rfl ?_
  refine gc_sipush (v := 300) F dX2_init_5 (by decide) ?_
  refine gc_newa (at_ := .int) (ty := .int) (v := 300) (S1 := U88) (N := 45) (t := 0) (so := 0) (len := 300) F rfl q71 rfl (fun _ => rfl) (fun _ => gc_cellI rfl) (by decide +kernel) (by decide +kernel) (Nat.le_of_ble_eq_true rfl) (Nat.le_of_ble_eq_true rfl) (Nat.le_of_ble_eq_true rfl) (by decide +kernel) (by decide +kernel) (by decide +kernel) dX2_init_8 (fun q45 => ?_)
  refine gc_putr (i := 44) (j := 0) (m := 45) (S1 := U89) (ci := 2) (fds := [2, 0, 0]) F hin rfl rfl (by decide +kernel) (by decide +kernel) (by decide +kernel) rfl uX2 (by decide) q141 tyX2_ok nmX2 rfl rfl (fun _ => rfl) (fun _ => rfl) dX2_init_10 ?_
  refine gc_aload_n F 0 dX2_init_13 rfl rfl ?_
  refine gc_iconst (v := 0) F dX2_init_14 (by decide) ?_
  refine gc_puti (i := 44) (j := 1) (ci := 2) (fds := [48, 0, 0]) F rfl (by decide +kernel) (by decide +kernel) rfl uX2 (by decide) q142 tyX2_ok nmX2 rfl rfl rfl dX2_init_15 ?_
  refine gc_aload_n F 0 dX2_init_18 rfl rfl ?_
  refine gc_iconst (v := 0) F dX2_init_19 (by decide) ?_
  refine gc_puti (i := 44) (j := 2) (ci := 2) (fds := [48, 0, 0]) F rfl (by decide +kernel) (by decide +kernel) rfl uX2 (by decide) q143 tyX2_ok nmX2 rfl rfl rfl dX2_init_20 ?_
  exact gc_vret F e (fun i hi => by have hi : i < 45 := hi; rw [va_up_ne _ _ (by omega)]) dX2_init_23
set_option maxRecDepth 100000 in
set_option maxHeartbeats 4000000 in
theorem iX2_init_46 (l : Launch) (D : va_G) (tA : Nat → ClassId) : CtI l D tA U91 U93 46 yX2_init cX2_init 1 ({ frames := 1, cells := 1, slots := 300, locals := 64 }) 1 300 (fun _ => True) := by
  refine CtI.of "LeapJoin$Log" rfl rfl (by decide) (by decide) (fun z ad F hin e hl hEx => ?_)
  subst hl
  refine gc_aload_n F 0 dX2_init_0 rfl rfl ?_
  refine gc_objInit F q140 q28 q29 rfl (Nat.le_of_ble_eq_true rfl) (Nat.le_of_ble_eq_true rfl) dX2_init_1 ?_
  refine gc_aload_n F 0 dX2_init_4 rfl rfl ?_
  refine gc_sipush (v := 300) F dX2_init_5 (by decide) ?_
  refine gc_newa (at_ := .int) (ty := .int) (v := 300) (S1 := U92) (N := 47) (t := 0) (so := 0) (len := 300) F rfl q71 rfl (fun _ => rfl) (fun _ => gc_cellI rfl) (by decide +kernel) (by decide +kernel) (Nat.le_of_ble_eq_true rfl) (Nat.le_of_ble_eq_true rfl) (Nat.le_of_ble_eq_true rfl) (by decide +kernel) (by decide +kernel) (by decide +kernel) dX2_init_8 (fun q47 => ?_)
  refine gc_putr (i := 46) (j := 0) (m := 47) (S1 := U93) (ci := 2) (fds := [2, 0, 0]) F hin rfl rfl (by decide +kernel) (by decide +kernel) (by decide +kernel) rfl uX2 (by decide) q141 tyX2_ok nmX2 rfl rfl (fun _ => rfl) (fun _ => rfl) dX2_init_10 ?_
  refine gc_aload_n F 0 dX2_init_13 rfl rfl ?_
  refine gc_iconst (v := 0) F dX2_init_14 (by decide) ?_
  refine gc_puti (i := 46) (j := 1) (ci := 2) (fds := [50, 0, 0]) F rfl (by decide +kernel) (by decide +kernel) rfl uX2 (by decide) q142 tyX2_ok nmX2 rfl rfl rfl dX2_init_15 ?_
  refine gc_aload_n F 0 dX2_init_18 rfl rfl ?_
  refine gc_iconst (v := 0) F dX2_init_19 (by decide) ?_
  refine gc_puti (i := 46) (j := 2) (ci := 2) (fds := [50, 0, 0]) F rfl (by decide +kernel) (by decide +kernel) rfl uX2 (by decide) q143 tyX2_ok nmX2 rfl rfl rfl dX2_init_20 ?_
  exact gc_vret F e (fun i hi => by have hi : i < 47 := hi; rw [va_up_ne _ _ (by omega)]) dX2_init_23
set_option maxRecDepth 100000 in
set_option maxHeartbeats 4000000 in
theorem iX3_init (l : Launch) (D : va_G) (tA : Nat → ClassId) : CtI l D tA U95 U97 48 yX3_init cX3_init 1 ({ frames := 1, cells := 1, slots := 120, locals := 64 }) 1 120 (fun _ => True) := by
  refine CtI.of "LeapJoin$Past" rfl rfl (by decide) (by decide) (fun z ad F hin e hl hEx => ?_)
  subst hl
  refine gc_aload_n F 0 dX3_init_0 rfl rfl ?_
  refine gc_objInit F q151 q28 q29 rfl (Nat.le_of_ble_eq_true rfl) (Nat.le_of_ble_eq_true rfl) dX3_init_1 ?_
  refine gc_aload_n F 0 dX3_init_4 rfl rfl ?_
  refine gc_iconst (v := 0) F dX3_init_5 (by decide) ?_
  refine gc_puti (i := 48) (j := 0) (ci := 3) (fds := [0, 2, 0]) F rfl (by decide +kernel) (by decide +kernel) rfl uX3 (by decide) q152 tyX3_ok nmX3 rfl rfl rfl dX3_init_6 ?_
  refine gc_aload_n F 0 dX3_init_9 rfl rfl ?_
  refine gc_bipush (v := 120) F dX3_init_10 (by decide) ?_
  refine gc_newa (at_ := .int) (ty := .int) (v := 120) (S1 := U96) (N := 49) (t := 0) (so := 0) (len := 120) F rfl q71 rfl (fun _ => rfl) (fun _ => gc_cellI rfl) (by decide +kernel) (by decide +kernel) (Nat.le_of_ble_eq_true rfl) (Nat.le_of_ble_eq_true rfl) (Nat.le_of_ble_eq_true rfl) (by decide +kernel) (by decide +kernel) (by decide +kernel) dX3_init_12 (fun q49 => ?_)
  refine gc_putr (i := 48) (j := 1) (m := 49) (S1 := U97) (ci := 3) (fds := [0, 2, 0]) F hin rfl rfl (by decide +kernel) (by decide +kernel) (by decide +kernel) rfl uX3 (by decide) q154 tyX3_ok nmX3 rfl rfl (fun _ => rfl) (fun _ => rfl) dX3_init_14 ?_
  refine gc_aload_n F 0 dX3_init_17 rfl rfl ?_
  refine gc_iconst (v := 0) F dX3_init_18 (by decide) ?_
  refine gc_puti (i := 48) (j := 2) (ci := 3) (fds := [0, 52, 0]) F rfl (by decide +kernel) (by decide +kernel) rfl uX3 (by decide) q155 tyX3_ok nmX3 rfl rfl rfl dX3_init_19 ?_
  exact gc_vret F e (fun i hi => by have hi : i < 49 := hi; rw [va_up_ne _ _ (by omega)]) dX3_init_22
set_option maxRecDepth 100000 in
set_option maxHeartbeats 4000000 in
theorem iX4_init (l : Launch) (D : va_G) (tA : Nat → ClassId) : CtI l D tA U101 U103 51 yX4_init cX4_init 1 ({ frames := 1, cells := 1, slots := 60, locals := 64 }) 1 60 (fun _ => True) := by
  refine CtI.of "LeapJoin$Script" rfl rfl (by decide) (by decide) (fun z ad F hin e hl hEx => ?_)
  subst hl
  refine gc_aload_n F 0 dX4_init_0 rfl rfl ?_
  refine gc_objInit F q163 q28 q29 rfl (Nat.le_of_ble_eq_true rfl) (Nat.le_of_ble_eq_true rfl) dX4_init_1 ?_
  refine gc_aload_n F 0 dX4_init_4 rfl rfl ?_
  refine gc_iconst (v := 0) F dX4_init_5 (by decide) ?_
  refine gc_puti (i := 51) (j := 0) (ci := 4) (fds := [0, 2]) F rfl (by decide +kernel) (by decide +kernel) rfl uX4 (by decide) q164 tyX4_ok nmX4 rfl rfl rfl dX4_init_6 ?_
  refine gc_aload_n F 0 dX4_init_9 rfl rfl ?_
  refine gc_bipush (v := 60) F dX4_init_10 (by decide) ?_
  refine gc_newa (at_ := .int) (ty := .int) (v := 60) (S1 := U102) (N := 52) (t := 0) (so := 0) (len := 60) F rfl q71 rfl (fun _ => rfl) (fun _ => gc_cellI rfl) (by decide +kernel) (by decide +kernel) (Nat.le_of_ble_eq_true rfl) (Nat.le_of_ble_eq_true rfl) (Nat.le_of_ble_eq_true rfl) (by decide +kernel) (by decide +kernel) (by decide +kernel) dX4_init_12 (fun q52 => ?_)
  refine gc_putr (i := 51) (j := 1) (m := 52) (S1 := U103) (ci := 4) (fds := [0, 2]) F hin rfl rfl (by decide +kernel) (by decide +kernel) (by decide +kernel) rfl uX4 (by decide) q166 tyX4_ok nmX4 rfl rfl (fun _ => rfl) (fun _ => rfl) dX4_init_14 ?_
  exact gc_vret F e (fun i hi => by have hi : i < 52 := hi; rw [va_up_ne _ _ (by omega)]) dX4_init_17
set_option maxRecDepth 100000 in
set_option maxHeartbeats 4000000 in
theorem iX4_init_54 (l : Launch) (D : va_G) (tA : Nat → ClassId) : CtI l D tA U107 U109 54 yX4_init cX4_init 1 ({ frames := 1, cells := 1, slots := 60, locals := 64 }) 1 60 (fun _ => True) := by
  refine CtI.of "LeapJoin$Script" rfl rfl (by decide) (by decide) (fun z ad F hin e hl hEx => ?_)
  subst hl
  refine gc_aload_n F 0 dX4_init_0 rfl rfl ?_
  refine gc_objInit F q163 q28 q29 rfl (Nat.le_of_ble_eq_true rfl) (Nat.le_of_ble_eq_true rfl) dX4_init_1 ?_
  refine gc_aload_n F 0 dX4_init_4 rfl rfl ?_
  refine gc_iconst (v := 0) F dX4_init_5 (by decide) ?_
  refine gc_puti (i := 54) (j := 0) (ci := 4) (fds := [0, 2]) F rfl (by decide +kernel) (by decide +kernel) rfl uX4 (by decide) q164 tyX4_ok nmX4 rfl rfl rfl dX4_init_6 ?_
  refine gc_aload_n F 0 dX4_init_9 rfl rfl ?_
  refine gc_bipush (v := 60) F dX4_init_10 (by decide) ?_
  refine gc_newa (at_ := .int) (ty := .int) (v := 60) (S1 := U108) (N := 55) (t := 0) (so := 0) (len := 60) F rfl q71 rfl (fun _ => rfl) (fun _ => gc_cellI rfl) (by decide +kernel) (by decide +kernel) (Nat.le_of_ble_eq_true rfl) (Nat.le_of_ble_eq_true rfl) (Nat.le_of_ble_eq_true rfl) (by decide +kernel) (by decide +kernel) (by decide +kernel) dX4_init_12 (fun q55 => ?_)
  refine gc_putr (i := 54) (j := 1) (m := 55) (S1 := U109) (ci := 4) (fds := [0, 2]) F hin rfl rfl (by decide +kernel) (by decide +kernel) (by decide +kernel) rfl uX4 (by decide) q166 tyX4_ok nmX4 rfl rfl (fun _ => rfl) (fun _ => rfl) dX4_init_14 ?_
  exact gc_vret F e (fun i hi => by have hi : i < 55 := hi; rw [va_up_ne _ _ (by omega)]) dX4_init_17
set_option maxRecDepth 100000 in
set_option maxHeartbeats 4000000 in
theorem iX4_init_56 (l : Launch) (D : va_G) (tA : Nat → ClassId) : CtI l D tA U111 U113 56 yX4_init cX4_init 1 ({ frames := 1, cells := 1, slots := 60, locals := 64 }) 1 60 (fun _ => True) := by
  refine CtI.of "LeapJoin$Script" rfl rfl (by decide) (by decide) (fun z ad F hin e hl hEx => ?_)
  subst hl
  refine gc_aload_n F 0 dX4_init_0 rfl rfl ?_
  refine gc_objInit F q163 q28 q29 rfl (Nat.le_of_ble_eq_true rfl) (Nat.le_of_ble_eq_true rfl) dX4_init_1 ?_
  refine gc_aload_n F 0 dX4_init_4 rfl rfl ?_
  refine gc_iconst (v := 0) F dX4_init_5 (by decide) ?_
  refine gc_puti (i := 56) (j := 0) (ci := 4) (fds := [0, 2]) F rfl (by decide +kernel) (by decide +kernel) rfl uX4 (by decide) q164 tyX4_ok nmX4 rfl rfl rfl dX4_init_6 ?_
  refine gc_aload_n F 0 dX4_init_9 rfl rfl ?_
  refine gc_bipush (v := 60) F dX4_init_10 (by decide) ?_
  refine gc_newa (at_ := .int) (ty := .int) (v := 60) (S1 := U112) (N := 57) (t := 0) (so := 0) (len := 60) F rfl q71 rfl (fun _ => rfl) (fun _ => gc_cellI rfl) (by decide +kernel) (by decide +kernel) (Nat.le_of_ble_eq_true rfl) (Nat.le_of_ble_eq_true rfl) (Nat.le_of_ble_eq_true rfl) (by decide +kernel) (by decide +kernel) (by decide +kernel) dX4_init_12 (fun q57 => ?_)
  refine gc_putr (i := 56) (j := 1) (m := 57) (S1 := U113) (ci := 4) (fds := [0, 2]) F hin rfl rfl (by decide +kernel) (by decide +kernel) (by decide +kernel) rfl uX4 (by decide) q166 tyX4_ok nmX4 rfl rfl (fun _ => rfl) (fun _ => rfl) dX4_init_14 ?_
  exact gc_vret F e (fun i hi => by have hi : i < 57 := hi; rw [va_up_ne _ _ (by omega)]) dX4_init_17
set_option maxRecDepth 100000 in
set_option maxHeartbeats 4000000 in
theorem iX4_init_58 (l : Launch) (D : va_G) (tA : Nat → ClassId) : CtI l D tA U115 U117 58 yX4_init cX4_init 1 ({ frames := 1, cells := 1, slots := 60, locals := 64 }) 1 60 (fun _ => True) := by
  refine CtI.of "LeapJoin$Script" rfl rfl (by decide) (by decide) (fun z ad F hin e hl hEx => ?_)
  subst hl
  refine gc_aload_n F 0 dX4_init_0 rfl rfl ?_
  refine gc_objInit F q163 q28 q29 rfl (Nat.le_of_ble_eq_true rfl) (Nat.le_of_ble_eq_true rfl) dX4_init_1 ?_
  refine gc_aload_n F 0 dX4_init_4 rfl rfl ?_
  refine gc_iconst (v := 0) F dX4_init_5 (by decide) ?_
  refine gc_puti (i := 58) (j := 0) (ci := 4) (fds := [0, 2]) F rfl (by decide +kernel) (by decide +kernel) rfl uX4 (by decide) q164 tyX4_ok nmX4 rfl rfl rfl dX4_init_6 ?_
  refine gc_aload_n F 0 dX4_init_9 rfl rfl ?_
  refine gc_bipush (v := 60) F dX4_init_10 (by decide) ?_
  refine gc_newa (at_ := .int) (ty := .int) (v := 60) (S1 := U116) (N := 59) (t := 0) (so := 0) (len := 60) F rfl q71 rfl (fun _ => rfl) (fun _ => gc_cellI rfl) (by decide +kernel) (by decide +kernel) (Nat.le_of_ble_eq_true rfl) (Nat.le_of_ble_eq_true rfl) (Nat.le_of_ble_eq_true rfl) (by decide +kernel) (by decide +kernel) (by decide +kernel) dX4_init_12 (fun q59 => ?_)
  refine gc_putr (i := 58) (j := 1) (m := 59) (S1 := U117) (ci := 4) (fds := [0, 2]) F hin rfl rfl (by decide +kernel) (by decide +kernel) (by decide +kernel) rfl uX4 (by decide) q166 tyX4_ok nmX4 rfl rfl (fun _ => rfl) (fun _ => rfl) dX4_init_14 ?_
  exact gc_vret F e (fun i hi => by have hi : i < 59 := hi; rw [va_up_ne _ _ (by omega)]) dX4_init_17
set_option maxRecDepth 100000 in
set_option maxHeartbeats 4000000 in
theorem iX4_init_60 (l : Launch) (D : va_G) (tA : Nat → ClassId) : CtI l D tA U119 U121 60 yX4_init cX4_init 1 ({ frames := 1, cells := 1, slots := 60, locals := 64 }) 1 60 (fun _ => True) := by
  refine CtI.of "LeapJoin$Script" rfl rfl (by decide) (by decide) (fun z ad F hin e hl hEx => ?_)
  subst hl
  refine gc_aload_n F 0 dX4_init_0 rfl rfl ?_
  refine gc_objInit F q163 q28 q29 rfl (Nat.le_of_ble_eq_true rfl) (Nat.le_of_ble_eq_true rfl) dX4_init_1 ?_
  refine gc_aload_n F 0 dX4_init_4 rfl rfl ?_
  refine gc_iconst (v := 0) F dX4_init_5 (by decide) ?_
  refine gc_puti (i := 60) (j := 0) (ci := 4) (fds := [0, 2]) F rfl (by decide +kernel) (by decide +kernel) rfl uX4 (by decide) q164 tyX4_ok nmX4 rfl rfl rfl dX4_init_6 ?_
  refine gc_aload_n F 0 dX4_init_9 rfl rfl ?_
  refine gc_bipush (v := 60) F dX4_init_10 (by decide) ?_
  refine gc_newa (at_ := .int) (ty := .int) (v := 60) (S1 := U120) (N := 61) (t := 0) (so := 0) (len := 60) F rfl q71 rfl (fun _ => rfl) (fun _ => gc_cellI rfl) (by decide +kernel) (by decide +kernel) (Nat.le_of_ble_eq_true rfl) (Nat.le_of_ble_eq_true rfl) (Nat.le_of_ble_eq_true rfl) (by decide +kernel) (by decide +kernel) (by decide +kernel) dX4_init_12 (fun q61 => ?_)
  refine gc_putr (i := 60) (j := 1) (m := 61) (S1 := U121) (ci := 4) (fds := [0, 2]) F hin rfl rfl (by decide +kernel) (by decide +kernel) (by decide +kernel) rfl uX4 (by decide) q166 tyX4_ok nmX4 rfl rfl (fun _ => rfl) (fun _ => rfl) dX4_init_14 ?_
  exact gc_vret F e (fun i hi => by have hi : i < 61 := hi; rw [va_up_ne _ _ (by omega)]) dX4_init_17
end
