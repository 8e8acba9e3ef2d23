section
/-- a private method of a class that the tables say can be made, by its rows of tables_1 -/
def lw_okq (q : MethodName × Nat) : Prop := (q.1.cls ≠ "java/lang/invoke/MethodHandle" ∧ q.1.cls ≠ "java/lang/invoke/VarHandle") ∧ Cond.instantiable q.1.cls q.2 ∈ tables_1 ∧ Cond.privateMethod q.1 ∈ tables_1 ∧ Cond.instanceMethod q.1 ∈ tables_1
theorem lw_p0 : lw_okq (⟨"ThreesAtTable", "learnFirstText", "()V"⟩, 15) := ⟨⟨by decide +kernel, by decide +kernel⟩, List.mem_of_getElem? (i := 23) (by decide +kernel), List.mem_of_getElem? (i := 257) (by decide +kernel), List.mem_of_getElem? (i := 258) (by decide +kernel)⟩
theorem lw_p1 : lw_okq (⟨"ThreesAtTable$Reader", "advance", "()V"⟩, 9) := ⟨⟨by decide +kernel, by decide +kernel⟩, List.mem_of_getElem? (i := 199) (by decide +kernel), List.mem_of_getElem? (i := 318) (by decide +kernel), List.mem_of_getElem? (i := 319) (by decide +kernel)⟩
theorem lw_p2 : lw_okq (⟨"ThreesAtTable$Reader", "wordToken", "()I"⟩, 9) := ⟨⟨by decide +kernel, by decide +kernel⟩, List.mem_of_getElem? (i := 199) (by decide +kernel), List.mem_of_getElem? (i := 325) (by decide +kernel), List.mem_of_getElem? (i := 326) (by decide +kernel)⟩
theorem lw_p3 : lw_okq (⟨"ThreesAtTable$Reader", "spells", "(Ljava/lang/String;)Z"⟩, 9) := ⟨⟨by decide +kernel, by decide +kernel⟩, List.mem_of_getElem? (i := 199) (by decide +kernel), List.mem_of_getElem? (i := 345) (by decide +kernel), List.mem_of_getElem? (i := 346) (by decide +kernel)⟩
theorem lw_p4 : lw_okq (⟨"ThreesAtTable$Reader", "numberToken", "()I"⟩, 9) := ⟨⟨by decide +kernel, by decide +kernel⟩, List.mem_of_getElem? (i := 199) (by decide +kernel), List.mem_of_getElem? (i := 354) (by decide +kernel), List.mem_of_getElem? (i := 355) (by decide +kernel)⟩
theorem lw_p5 : lw_okq (⟨"ThreesAtTable$Reader", "takes", "(I)Z"⟩, 9) := ⟨⟨by decide +kernel, by decide +kernel⟩, List.mem_of_getElem? (i := 199) (by decide +kernel), List.mem_of_getElem? (i := 361) (by decide +kernel), List.mem_of_getElem? (i := 362) (by decide +kernel)⟩
theorem lw_p6 : lw_okq (⟨"ThreesAtTable$Reader", "readEither", "(I)Z"⟩, 9) := ⟨⟨by decide +kernel, by decide +kernel⟩, List.mem_of_getElem? (i := 199) (by decide +kernel), List.mem_of_getElem? (i := 365) (by decide +kernel), List.mem_of_getElem? (i := 366) (by decide +kernel)⟩
theorem lw_p7 : lw_okq (⟨"ThreesAtTable$Reader", "readBoth", "(I)Z"⟩, 9) := ⟨⟨by decide +kernel, by decide +kernel⟩, List.mem_of_getElem? (i := 199) (by decide +kernel), List.mem_of_getElem? (i := 369) (by decide +kernel), List.mem_of_getElem? (i := 370) (by decide +kernel)⟩
theorem lw_p8 : lw_okq (⟨"ThreesAtTable$Reader", "readNot", "(I)Z"⟩, 9) := ⟨⟨by decide +kernel, by decide +kernel⟩, List.mem_of_getElem? (i := 199) (by decide +kernel), List.mem_of_getElem? (i := 373) (by decide +kernel), List.mem_of_getElem? (i := 374) (by decide +kernel)⟩
theorem lw_p9 : lw_okq (⟨"ThreesAtTable$Reader", "readCompared", "(I)Z"⟩, 9) := ⟨⟨by decide +kernel, by decide +kernel⟩, List.mem_of_getElem? (i := 199) (by decide +kernel), List.mem_of_getElem? (i := 377) (by decide +kernel), List.mem_of_getElem? (i := 378) (by decide +kernel)⟩
theorem lw_p10 : lw_okq (⟨"ThreesAtTable$Reader", "readSum", "(I)Z"⟩, 9) := ⟨⟨by decide +kernel, by decide +kernel⟩, List.mem_of_getElem? (i := 199) (by decide +kernel), List.mem_of_getElem? (i := 381) (by decide +kernel), List.mem_of_getElem? (i := 382) (by decide +kernel)⟩
theorem lw_p11 : lw_okq (⟨"ThreesAtTable$Reader", "readTerm", "(I)Z"⟩, 9) := ⟨⟨by decide +kernel, by decide +kernel⟩, List.mem_of_getElem? (i := 199) (by decide +kernel), List.mem_of_getElem? (i := 385) (by decide +kernel), List.mem_of_getElem? (i := 386) (by decide +kernel)⟩
theorem lw_p12 : lw_okq (⟨"ThreesAtTable$Reader", "readOne", "(I)Z"⟩, 9) := ⟨⟨by decide +kernel, by decide +kernel⟩, List.mem_of_getElem? (i := 199) (by decide +kernel), List.mem_of_getElem? (i := 389) (by decide +kernel), List.mem_of_getElem? (i := 390) (by decide +kernel)⟩
theorem lw_p13 : lw_okq (⟨"ThreesAtTable$Reader", "readPlain", "(I)Z"⟩, 9) := ⟨⟨by decide +kernel, by decide +kernel⟩, List.mem_of_getElem? (i := 199) (by decide +kernel), List.mem_of_getElem? (i := 393) (by decide +kernel), List.mem_of_getElem? (i := 394) (by decide +kernel)⟩
theorem lw_p14 : lw_okq (⟨"ThreesAtTable$Reader", "write", "(I)V"⟩, 9) := ⟨⟨by decide +kernel, by decide +kernel⟩, List.mem_of_getElem? (i := 199) (by decide +kernel), List.mem_of_getElem? (i := 397) (by decide +kernel), List.mem_of_getElem? (i := 398) (by decide +kernel)⟩
theorem lw_p15 : lw_okq (⟨"ThreesAtTable", "keepText", "()I"⟩, 15) := ⟨⟨by decide +kernel, by decide +kernel⟩, List.mem_of_getElem? (i := 23) (by decide +kernel), List.mem_of_getElem? (i := 401) (by decide +kernel), List.mem_of_getElem? (i := 402) (by decide +kernel)⟩
def lw_privs_1 : List (MethodName × Nat) := [(⟨"ThreesAtTable", "learnFirstText", "()V"⟩, 15), (⟨"ThreesAtTable$Reader", "advance", "()V"⟩, 9), (⟨"ThreesAtTable$Reader", "wordToken", "()I"⟩, 9), (⟨"ThreesAtTable$Reader", "spells", "(Ljava/lang/String;)Z"⟩, 9), (⟨"ThreesAtTable$Reader", "numberToken", "()I"⟩, 9), (⟨"ThreesAtTable$Reader", "takes", "(I)Z"⟩, 9), (⟨"ThreesAtTable$Reader", "readEither", "(I)Z"⟩, 9), (⟨"ThreesAtTable$Reader", "readBoth", "(I)Z"⟩, 9), (⟨"ThreesAtTable$Reader", "readNot", "(I)Z"⟩, 9), (⟨"ThreesAtTable$Reader", "readCompared", "(I)Z"⟩, 9), (⟨"ThreesAtTable$Reader", "readSum", "(I)Z"⟩, 9), (⟨"ThreesAtTable$Reader", "readTerm", "(I)Z"⟩, 9), (⟨"ThreesAtTable$Reader", "readOne", "(I)Z"⟩, 9), (⟨"ThreesAtTable$Reader", "readPlain", "(I)Z"⟩, 9), (⟨"ThreesAtTable$Reader", "write", "(I)V"⟩, 9), (⟨"ThreesAtTable", "keepText", "()I"⟩, 15)]
theorem lw_r1 : ∀ q ∈ lw_privs_1, lw_okq q := List.forall_mem_cons.mpr ⟨lw_p0, List.forall_mem_cons.mpr ⟨lw_p1, List.forall_mem_cons.mpr ⟨lw_p2, List.forall_mem_cons.mpr ⟨lw_p3, List.forall_mem_cons.mpr ⟨lw_p4, List.forall_mem_cons.mpr ⟨lw_p5, List.forall_mem_cons.mpr ⟨lw_p6, List.forall_mem_cons.mpr ⟨lw_p7, List.forall_mem_cons.mpr ⟨lw_p8, List.forall_mem_cons.mpr ⟨lw_p9, List.forall_mem_cons.mpr ⟨lw_p10, List.forall_mem_cons.mpr ⟨lw_p11, List.forall_mem_cons.mpr ⟨lw_p12, List.forall_mem_cons.mpr ⟨lw_p13, List.forall_mem_cons.mpr ⟨lw_p14, List.forall_mem_cons.mpr ⟨lw_p15, fun _ h => absurd h List.not_mem_nil⟩⟩⟩⟩⟩⟩⟩⟩⟩⟩⟩⟩⟩⟩⟩⟩
theorem lw_p16 : lw_okq (⟨"ThreesAtTable", "useText", "(I)V"⟩, 15) := ⟨⟨by decide +kernel, by decide +kernel⟩, List.mem_of_getElem? (i := 23) (by decide +kernel), List.mem_of_getElem? (i := 463) (by decide +kernel), List.mem_of_getElem? (i := 464) (by decide +kernel)⟩
theorem lw_p17 : lw_okq (⟨"ThreesAtTable$Standing", "weighThree", "(LThreesAtTable$Rule;III)V"⟩, 4) := ⟨⟨by decide +kernel, by decide +kernel⟩, List.mem_of_getElem? (i := 124) (by decide +kernel), List.mem_of_getElem? (i := 478) (by decide +kernel), List.mem_of_getElem? (i := 479) (by decide +kernel)⟩
theorem lw_p18 : lw_okq (⟨"ThreesAtTable$Rule", "name", "(IIIII)V"⟩, 6) := ⟨⟨by decide +kernel, by decide +kernel⟩, List.mem_of_getElem? (i := 99) (by decide +kernel), List.mem_of_getElem? (i := 486) (by decide +kernel), List.mem_of_getElem? (i := 487) (by decide +kernel)⟩
theorem lw_p19 : lw_okq (⟨"ThreesAtTable$Rule", "answer", "(I)I"⟩, 6) := ⟨⟨by decide +kernel, by decide +kernel⟩, List.mem_of_getElem? (i := 99) (by decide +kernel), List.mem_of_getElem? (i := 490) (by decide +kernel), List.mem_of_getElem? (i := 491) (by decide +kernel)⟩
theorem lw_p20 : lw_okq (⟨"ThreesAtTable$Rule", "step", "(I)V"⟩, 6) := ⟨⟨by decide +kernel, by decide +kernel⟩, List.mem_of_getElem? (i := 99) (by decide +kernel), List.mem_of_getElem? (i := 507) (by decide +kernel), List.mem_of_getElem? (i := 508) (by decide +kernel)⟩
theorem lw_p21 : lw_okq (⟨"ThreesAtTable$Rule", "push", "(I)V"⟩, 6) := ⟨⟨by decide +kernel, by decide +kernel⟩, List.mem_of_getElem? (i := 99) (by decide +kernel), List.mem_of_getElem? (i := 511) (by decide +kernel), List.mem_of_getElem? (i := 512) (by decide +kernel)⟩
theorem lw_p22 : lw_okq (⟨"ThreesAtTable$Rule", "pop", "()I"⟩, 6) := ⟨⟨by decide +kernel, by decide +kernel⟩, List.mem_of_getElem? (i := 99) (by decide +kernel), List.mem_of_getElem? (i := 515) (by decide +kernel), List.mem_of_getElem? (i := 516) (by decide +kernel)⟩
theorem lw_p23 : lw_okq (⟨"ThreesAtTable", "pairNumber", "(II)I"⟩, 15) := ⟨⟨by decide +kernel, by decide +kernel⟩, List.mem_of_getElem? (i := 23) (by decide +kernel), List.mem_of_getElem? (i := 576) (by decide +kernel), List.mem_of_getElem? (i := 577) (by decide +kernel)⟩
theorem lw_p24 : lw_okq (⟨"ThreesAtTable", "isGuest", "(I)Z"⟩, 15) := ⟨⟨by decide +kernel, by decide +kernel⟩, List.mem_of_getElem? (i := 23) (by decide +kernel), List.mem_of_getElem? (i := 580) (by decide +kernel), List.mem_of_getElem? (i := 581) (by decide +kernel)⟩
theorem lw_p25 : lw_okq (⟨"ThreesAtTable", "townAt", "(I)LThreesAtTable$Town;"⟩, 15) := ⟨⟨by decide +kernel, by decide +kernel⟩, List.mem_of_getElem? (i := 23) (by decide +kernel), List.mem_of_getElem? (i := 618) (by decide +kernel), List.mem_of_getElem? (i := 619) (by decide +kernel)⟩
theorem lw_p26 : lw_okq (⟨"ThreesAtTable", "friendsIn", "(LThreesAtTable$Town;)I"⟩, 15) := ⟨⟨by decide +kernel, by decide +kernel⟩, List.mem_of_getElem? (i := 23) (by decide +kernel), List.mem_of_getElem? (i := 622) (by decide +kernel), List.mem_of_getElem? (i := 623) (by decide +kernel)⟩
theorem lw_p27 : lw_okq (⟨"ThreesAtTable$Town", "areNextInRing", "(III)Z"⟩, 2) := ⟨⟨by decide +kernel, by decide +kernel⟩, List.mem_of_getElem? (i := 600) (by decide +kernel), List.mem_of_getElem? (i := 633) (by decide +kernel), List.mem_of_getElem? (i := 634) (by decide +kernel)⟩
theorem lw_p28 : lw_okq (⟨"ThreesAtTable", "threesNow", "()I"⟩, 15) := ⟨⟨by decide +kernel, by decide +kernel⟩, List.mem_of_getElem? (i := 23) (by decide +kernel), List.mem_of_getElem? (i := 685) (by decide +kernel), List.mem_of_getElem? (i := 686) (by decide +kernel)⟩
theorem lw_p29 : lw_okq (⟨"ThreesAtTable", "firstThree", "()I"⟩, 15) := ⟨⟨by decide +kernel, by decide +kernel⟩, List.mem_of_getElem? (i := 23) (by decide +kernel), List.mem_of_getElem? (i := 689) (by decide +kernel), List.mem_of_getElem? (i := 690) (by decide +kernel)⟩
theorem lw_p30 : lw_okq (⟨"ThreesAtTable", "byDegrees", "()I"⟩, 15) := ⟨⟨by decide +kernel, by decide +kernel⟩, List.mem_of_getElem? (i := 23) (by decide +kernel), List.mem_of_getElem? (i := 694) (by decide +kernel), List.mem_of_getElem? (i := 695) (by decide +kernel)⟩
theorem lw_p31 : lw_okq (⟨"ThreesAtTable", "threesOf", "(I)I"⟩, 15) := ⟨⟨by decide +kernel, by decide +kernel⟩, List.mem_of_getElem? (i := 23) (by decide +kernel), List.mem_of_getElem? (i := 708) (by decide +kernel), List.mem_of_getElem? (i := 709) (by decide +kernel)⟩
def lw_privs_2 : List (MethodName × Nat) := [(⟨"ThreesAtTable", "useText", "(I)V"⟩, 15), (⟨"ThreesAtTable$Standing", "weighThree", "(LThreesAtTable$Rule;III)V"⟩, 4), (⟨"ThreesAtTable$Rule", "name", "(IIIII)V"⟩, 6), (⟨"ThreesAtTable$Rule", "answer", "(I)I"⟩, 6), (⟨"ThreesAtTable$Rule", "step", "(I)V"⟩, 6), (⟨"ThreesAtTable$Rule", "push", "(I)V"⟩, 6), (⟨"ThreesAtTable$Rule", "pop", "()I"⟩, 6), (⟨"ThreesAtTable", "pairNumber", "(II)I"⟩, 15), (⟨"ThreesAtTable", "isGuest", "(I)Z"⟩, 15), (⟨"ThreesAtTable", "townAt", "(I)LThreesAtTable$Town;"⟩, 15), (⟨"ThreesAtTable", "friendsIn", "(LThreesAtTable$Town;)I"⟩, 15), (⟨"ThreesAtTable$Town", "areNextInRing", "(III)Z"⟩, 2), (⟨"ThreesAtTable", "threesNow", "()I"⟩, 15), (⟨"ThreesAtTable", "firstThree", "()I"⟩, 15), (⟨"ThreesAtTable", "byDegrees", "()I"⟩, 15), (⟨"ThreesAtTable", "threesOf", "(I)I"⟩, 15)]
theorem lw_r2 : ∀ q ∈ lw_privs_2, lw_okq q := List.forall_mem_cons.mpr ⟨lw_p16, List.forall_mem_cons.mpr ⟨lw_p17, List.forall_mem_cons.mpr ⟨lw_p18, List.forall_mem_cons.mpr ⟨lw_p19, List.forall_mem_cons.mpr ⟨lw_p20, List.forall_mem_cons.mpr ⟨lw_p21, List.forall_mem_cons.mpr ⟨lw_p22, List.forall_mem_cons.mpr ⟨lw_p23, List.forall_mem_cons.mpr ⟨lw_p24, List.forall_mem_cons.mpr ⟨lw_p25, List.forall_mem_cons.mpr ⟨lw_p26, List.forall_mem_cons.mpr ⟨lw_p27, List.forall_mem_cons.mpr ⟨lw_p28, List.forall_mem_cons.mpr ⟨lw_p29, List.forall_mem_cons.mpr ⟨lw_p30, List.forall_mem_cons.mpr ⟨lw_p31, fun _ h => absurd h List.not_mem_nil⟩⟩⟩⟩⟩⟩⟩⟩⟩⟩⟩⟩⟩⟩⟩⟩
theorem lw_p32 : lw_okq (⟨"ThreesAtTable", "sentHome", "()I"⟩, 15) := ⟨⟨by decide +kernel, by decide +kernel⟩, List.mem_of_getElem? (i := 23) (by decide +kernel), List.mem_of_getElem? (i := 733) (by decide +kernel), List.mem_of_getElem? (i := 734) (by decide +kernel)⟩
theorem lw_p33 : lw_okq (⟨"ThreesAtTable", "leavesNone", "(I)Z"⟩, 15) := ⟨⟨by decide +kernel, by decide +kernel⟩, List.mem_of_getElem? (i := 23) (by decide +kernel), List.mem_of_getElem? (i := 737) (by decide +kernel), List.mem_of_getElem? (i := 738) (by decide +kernel)⟩
theorem lw_p34 : lw_okq (⟨"ThreesAtTable", "joyOf", "(I)I"⟩, 15) := ⟨⟨by decide +kernel, by decide +kernel⟩, List.mem_of_getElem? (i := 23) (by decide +kernel), List.mem_of_getElem? (i := 745) (by decide +kernel), List.mem_of_getElem? (i := 746) (by decide +kernel)⟩
theorem lw_p35 : lw_okq (⟨"ThreesAtTable", "bestChange", "()I"⟩, 15) := ⟨⟨by decide +kernel, by decide +kernel⟩, List.mem_of_getElem? (i := 23) (by decide +kernel), List.mem_of_getElem? (i := 753) (by decide +kernel), List.mem_of_getElem? (i := 754) (by decide +kernel)⟩
theorem lw_p36 : lw_okq (⟨"ThreesAtTable", "threesIfChanged", "(I)I"⟩, 15) := ⟨⟨by decide +kernel, by decide +kernel⟩, List.mem_of_getElem? (i := 23) (by decide +kernel), List.mem_of_getElem? (i := 758) (by decide +kernel), List.mem_of_getElem? (i := 759) (by decide +kernel)⟩
theorem lw_p37 : lw_okq (⟨"ThreesAtTable$Changes", "keepBest", "(I)V"⟩, 6) := ⟨⟨by decide +kernel, by decide +kernel⟩, List.mem_of_getElem? (i := 144) (by decide +kernel), List.mem_of_getElem? (i := 788) (by decide +kernel), List.mem_of_getElem? (i := 789) (by decide +kernel)⟩
theorem lw_p38 : lw_okq (⟨"ThreesAtTable", "friendsWithin", "(I)I"⟩, 15) := ⟨⟨by decide +kernel, by decide +kernel⟩, List.mem_of_getElem? (i := 23) (by decide +kernel), List.mem_of_getElem? (i := 801) (by decide +kernel), List.mem_of_getElem? (i := 802) (by decide +kernel)⟩
theorem lw_p39 : lw_okq (⟨"ThreesAtTable", "knownByBoth", "(II)I"⟩, 15) := ⟨⟨by decide +kernel, by decide +kernel⟩, List.mem_of_getElem? (i := 23) (by decide +kernel), List.mem_of_getElem? (i := 809) (by decide +kernel), List.mem_of_getElem? (i := 810) (by decide +kernel)⟩
theorem lw_p40 : lw_okq (⟨"ThreesAtTable", "whoKnowsAll", "()I"⟩, 15) := ⟨⟨by decide +kernel, by decide +kernel⟩, List.mem_of_getElem? (i := 23) (by decide +kernel), List.mem_of_getElem? (i := 817) (by decide +kernel), List.mem_of_getElem? (i := 818) (by decide +kernel)⟩
theorem lw_p41 : lw_okq (⟨"ThreesAtTable", "unseenPairs", "()I"⟩, 15) := ⟨⟨by decide +kernel, by decide +kernel⟩, List.mem_of_getElem? (i := 23) (by decide +kernel), List.mem_of_getElem? (i := 844) (by decide +kernel), List.mem_of_getElem? (i := 845) (by decide +kernel)⟩
theorem lw_p42 : lw_okq (⟨"ThreesAtTable", "sheetAt", "(I)LThreesAtTable$Sheet;"⟩, 15) := ⟨⟨by decide +kernel, by decide +kernel⟩, List.mem_of_getElem? (i := 23) (by decide +kernel), List.mem_of_getElem? (i := 892) (by decide +kernel), List.mem_of_getElem? (i := 893) (by decide +kernel)⟩
theorem lw_p43 : lw_okq (⟨"ThreesAtTable", "introduced", "(I)I"⟩, 15) := ⟨⟨by decide +kernel, by decide +kernel⟩, List.mem_of_getElem? (i := 23) (by decide +kernel), List.mem_of_getElem? (i := 904) (by decide +kernel), List.mem_of_getElem? (i := 905) (by decide +kernel)⟩
theorem lw_p44 : lw_okq (⟨"ThreesAtTableModel", "spell", "(IIIIIIIII)V"⟩, 45) := ⟨⟨by decide +kernel, by decide +kernel⟩, List.mem_of_getElem? (i := 978) (by decide +kernel), List.mem_of_getElem? (i := 984) (by decide +kernel), List.mem_of_getElem? (i := 985) (by decide +kernel)⟩
theorem lw_p45 : lw_okq (⟨"ThreesAtTableModel", "isPair", "(II)Z"⟩, 45) := ⟨⟨by decide +kernel, by decide +kernel⟩, List.mem_of_getElem? (i := 978) (by decide +kernel), List.mem_of_getElem? (i := 1138) (by decide +kernel), List.mem_of_getElem? (i := 1139) (by decide +kernel)⟩
theorem lw_p46 : lw_okq (⟨"ThreesAtTableModel", "isGuest", "(I)Z"⟩, 45) := ⟨⟨by decide +kernel, by decide +kernel⟩, List.mem_of_getElem? (i := 978) (by decide +kernel), List.mem_of_getElem? (i := 1142) (by decide +kernel), List.mem_of_getElem? (i := 1143) (by decide +kernel)⟩
theorem lw_p47 : lw_okq (⟨"ThreesAtTableModel", "pairAt", "(I)I"⟩, 45) := ⟨⟨by decide +kernel, by decide +kernel⟩, List.mem_of_getElem? (i := 978) (by decide +kernel), List.mem_of_getElem? (i := 1150) (by decide +kernel), List.mem_of_getElem? (i := 1151) (by decide +kernel)⟩
def lw_privs_3 : List (MethodName × Nat) := [(⟨"ThreesAtTable", "sentHome", "()I"⟩, 15), (⟨"ThreesAtTable", "leavesNone", "(I)Z"⟩, 15), (⟨"ThreesAtTable", "joyOf", "(I)I"⟩, 15), (⟨"ThreesAtTable", "bestChange", "()I"⟩, 15), (⟨"ThreesAtTable", "threesIfChanged", "(I)I"⟩, 15), (⟨"ThreesAtTable$Changes", "keepBest", "(I)V"⟩, 6), (⟨"ThreesAtTable", "friendsWithin", "(I)I"⟩, 15), (⟨"ThreesAtTable", "knownByBoth", "(II)I"⟩, 15), (⟨"ThreesAtTable", "whoKnowsAll", "()I"⟩, 15), (⟨"ThreesAtTable", "unseenPairs", "()I"⟩, 15), (⟨"ThreesAtTable", "sheetAt", "(I)LThreesAtTable$Sheet;"⟩, 15), (⟨"ThreesAtTable", "introduced", "(I)I"⟩, 15), (⟨"ThreesAtTableModel", "spell", "(IIIIIIIII)V"⟩, 45), (⟨"ThreesAtTableModel", "isPair", "(II)Z"⟩, 45), (⟨"ThreesAtTableModel", "isGuest", "(I)Z"⟩, 45), (⟨"ThreesAtTableModel", "pairAt", "(I)I"⟩, 45)]
theorem lw_r3 : ∀ q ∈ lw_privs_3, lw_okq q := List.forall_mem_cons.mpr ⟨lw_p32, List.forall_mem_cons.mpr ⟨lw_p33, List.forall_mem_cons.mpr ⟨lw_p34, List.forall_mem_cons.mpr ⟨lw_p35, List.forall_mem_cons.mpr ⟨lw_p36, List.forall_mem_cons.mpr ⟨lw_p37, List.forall_mem_cons.mpr ⟨lw_p38, List.forall_mem_cons.mpr ⟨lw_p39, List.forall_mem_cons.mpr ⟨lw_p40, List.forall_mem_cons.mpr ⟨lw_p41, List.forall_mem_cons.mpr ⟨lw_p42, List.forall_mem_cons.mpr ⟨lw_p43, List.forall_mem_cons.mpr ⟨lw_p44, List.forall_mem_cons.mpr ⟨lw_p45, List.forall_mem_cons.mpr ⟨lw_p46, List.forall_mem_cons.mpr ⟨lw_p47, fun _ h => absurd h List.not_mem_nil⟩⟩⟩⟩⟩⟩⟩⟩⟩⟩⟩⟩⟩⟩⟩⟩
theorem lw_p48 : lw_okq (⟨"ThreesAtTableModel", "isTown", "(I)Z"⟩, 45) := ⟨⟨by decide +kernel, by decide +kernel⟩, List.mem_of_getElem? (i := 978) (by decide +kernel), List.mem_of_getElem? (i := 1168) (by decide +kernel), List.mem_of_getElem? (i := 1169) (by decide +kernel)⟩
theorem lw_p49 : lw_okq (⟨"ThreesAtTableModel", "isSo", "(III)Z"⟩, 45) := ⟨⟨by decide +kernel, by decide +kernel⟩, List.mem_of_getElem? (i := 978) (by decide +kernel), List.mem_of_getElem? (i := 1172) (by decide +kernel), List.mem_of_getElem? (i := 1173) (by decide +kernel)⟩
theorem lw_p50 : lw_okq (⟨"ThreesAtTableModel", "price", "(III)I"⟩, 45) := ⟨⟨by decide +kernel, by decide +kernel⟩, List.mem_of_getElem? (i := 978) (by decide +kernel), List.mem_of_getElem? (i := 1183) (by decide +kernel), List.mem_of_getElem? (i := 1184) (by decide +kernel)⟩
theorem lw_p51 : lw_okq (⟨"ThreesAtTableModel", "read", "(II)I"⟩, 45) := ⟨⟨by decide +kernel, by decide +kernel⟩, List.mem_of_getElem? (i := 978) (by decide +kernel), List.mem_of_getElem? (i := 1200) (by decide +kernel), List.mem_of_getElem? (i := 1201) (by decide +kernel)⟩
theorem lw_p52 : lw_okq (⟨"ThreesAtTableModel", "next", "()V"⟩, 45) := ⟨⟨by decide +kernel, by decide +kernel⟩, List.mem_of_getElem? (i := 978) (by decide +kernel), List.mem_of_getElem? (i := 1204) (by decide +kernel), List.mem_of_getElem? (i := 1205) (by decide +kernel)⟩
theorem lw_p53 : lw_okq (⟨"ThreesAtTableModel", "byteAt", "(I)I"⟩, 45) := ⟨⟨by decide +kernel, by decide +kernel⟩, List.mem_of_getElem? (i := 978) (by decide +kernel), List.mem_of_getElem? (i := 1208) (by decide +kernel), List.mem_of_getElem? (i := 1209) (by decide +kernel)⟩
theorem lw_p54 : lw_okq (⟨"ThreesAtTableModel", "isWord", "(IIIIIIII)Z"⟩, 45) := ⟨⟨by decide +kernel, by decide +kernel⟩, List.mem_of_getElem? (i := 978) (by decide +kernel), List.mem_of_getElem? (i := 1217) (by decide +kernel), List.mem_of_getElem? (i := 1218) (by decide +kernel)⟩
theorem lw_p55 : lw_okq (⟨"ThreesAtTableModel", "isLetter", "(II)Z"⟩, 45) := ⟨⟨by decide +kernel, by decide +kernel⟩, List.mem_of_getElem? (i := 978) (by decide +kernel), List.mem_of_getElem? (i := 1221) (by decide +kernel), List.mem_of_getElem? (i := 1222) (by decide +kernel)⟩
theorem lw_p56 : lw_okq (⟨"ThreesAtTableModel", "part", "(Z)I"⟩, 45) := ⟨⟨by decide +kernel, by decide +kernel⟩, List.mem_of_getElem? (i := 978) (by decide +kernel), List.mem_of_getElem? (i := 1225) (by decide +kernel), List.mem_of_getElem? (i := 1226) (by decide +kernel)⟩
theorem lw_p57 : lw_okq (⟨"ThreesAtTableModel", "fail", "()V"⟩, 45) := ⟨⟨by decide +kernel, by decide +kernel⟩, List.mem_of_getElem? (i := 978) (by decide +kernel), List.mem_of_getElem? (i := 1229) (by decide +kernel), List.mem_of_getElem? (i := 1230) (by decide +kernel)⟩
theorem lw_p58 : lw_okq (⟨"ThreesAtTableModel", "either", "()I"⟩, 45) := ⟨⟨by decide +kernel, by decide +kernel⟩, List.mem_of_getElem? (i := 978) (by decide +kernel), List.mem_of_getElem? (i := 1233) (by decide +kernel), List.mem_of_getElem? (i := 1234) (by decide +kernel)⟩
theorem lw_p59 : lw_okq (⟨"ThreesAtTableModel", "both", "()I"⟩, 45) := ⟨⟨by decide +kernel, by decide +kernel⟩, List.mem_of_getElem? (i := 978) (by decide +kernel), List.mem_of_getElem? (i := 1237) (by decide +kernel), List.mem_of_getElem? (i := 1238) (by decide +kernel)⟩
theorem lw_p60 : lw_okq (⟨"ThreesAtTableModel", "not", "()I"⟩, 45) := ⟨⟨by decide +kernel, by decide +kernel⟩, List.mem_of_getElem? (i := 978) (by decide +kernel), List.mem_of_getElem? (i := 1241) (by decide +kernel), List.mem_of_getElem? (i := 1242) (by decide +kernel)⟩
theorem lw_p61 : lw_okq (⟨"ThreesAtTableModel", "opens", "()Z"⟩, 45) := ⟨⟨by decide +kernel, by decide +kernel⟩, List.mem_of_getElem? (i := 978) (by decide +kernel), List.mem_of_getElem? (i := 1245) (by decide +kernel), List.mem_of_getElem? (i := 1246) (by decide +kernel)⟩
theorem lw_p62 : lw_okq (⟨"ThreesAtTableModel", "added", "()I"⟩, 45) := ⟨⟨by decide +kernel, by decide +kernel⟩, List.mem_of_getElem? (i := 978) (by decide +kernel), List.mem_of_getElem? (i := 1249) (by decide +kernel), List.mem_of_getElem? (i := 1250) (by decide +kernel)⟩
theorem lw_p63 : lw_okq (⟨"ThreesAtTableModel", "term", "()I"⟩, 45) := ⟨⟨by decide +kernel, by decide +kernel⟩, List.mem_of_getElem? (i := 978) (by decide +kernel), List.mem_of_getElem? (i := 1253) (by decide +kernel), List.mem_of_getElem? (i := 1254) (by decide +kernel)⟩
def lw_privs_4 : List (MethodName × Nat) := [(⟨"ThreesAtTableModel", "isTown", "(I)Z"⟩, 45), (⟨"ThreesAtTableModel", "isSo", "(III)Z"⟩, 45), (⟨"ThreesAtTableModel", "price", "(III)I"⟩, 45), (⟨"ThreesAtTableModel", "read", "(II)I"⟩, 45), (⟨"ThreesAtTableModel", "next", "()V"⟩, 45), (⟨"ThreesAtTableModel", "byteAt", "(I)I"⟩, 45), (⟨"ThreesAtTableModel", "isWord", "(IIIIIIII)Z"⟩, 45), (⟨"ThreesAtTableModel", "isLetter", "(II)Z"⟩, 45), (⟨"ThreesAtTableModel", "part", "(Z)I"⟩, 45), (⟨"ThreesAtTableModel", "fail", "()V"⟩, 45), (⟨"ThreesAtTableModel", "either", "()I"⟩, 45), (⟨"ThreesAtTableModel", "both", "()I"⟩, 45), (⟨"ThreesAtTableModel", "not", "()I"⟩, 45), (⟨"ThreesAtTableModel", "opens", "()Z"⟩, 45), (⟨"ThreesAtTableModel", "added", "()I"⟩, 45), (⟨"ThreesAtTableModel", "term", "()I"⟩, 45)]
theorem lw_r4 : ∀ q ∈ lw_privs_4, lw_okq q := List.forall_mem_cons.mpr ⟨lw_p48, List.forall_mem_cons.mpr ⟨lw_p49, List.forall_mem_cons.mpr ⟨lw_p50, List.forall_mem_cons.mpr ⟨lw_p51, List.forall_mem_cons.mpr ⟨lw_p52, List.forall_mem_cons.mpr ⟨lw_p53, List.forall_mem_cons.mpr ⟨lw_p54, List.forall_mem_cons.mpr ⟨lw_p55, List.forall_mem_cons.mpr ⟨lw_p56, List.forall_mem_cons.mpr ⟨lw_p57, List.forall_mem_cons.mpr ⟨lw_p58, List.forall_mem_cons.mpr ⟨lw_p59, List.forall_mem_cons.mpr ⟨lw_p60, List.forall_mem_cons.mpr ⟨lw_p61, List.forall_mem_cons.mpr ⟨lw_p62, List.forall_mem_cons.mpr ⟨lw_p63, fun _ h => absurd h List.not_mem_nil⟩⟩⟩⟩⟩⟩⟩⟩⟩⟩⟩⟩⟩⟩⟩⟩
theorem lw_p64 : lw_okq (⟨"ThreesAtTableModel", "atom", "()I"⟩, 45) := ⟨⟨by decide +kernel, by decide +kernel⟩, List.mem_of_getElem? (i := 978) (by decide +kernel), List.mem_of_getElem? (i := 1257) (by decide +kernel), List.mem_of_getElem? (i := 1258) (by decide +kernel)⟩
theorem lw_p65 : lw_okq (⟨"ThreesAtTableModel", "isSign", "(I)Z"⟩, 45) := ⟨⟨by decide +kernel, by decide +kernel⟩, List.mem_of_getElem? (i := 978) (by decide +kernel), List.mem_of_getElem? (i := 1261) (by decide +kernel), List.mem_of_getElem? (i := 1262) (by decide +kernel)⟩
theorem lw_p66 : lw_okq (⟨"ThreesAtTableModel", "name", "()I"⟩, 45) := ⟨⟨by decide +kernel, by decide +kernel⟩, List.mem_of_getElem? (i := 978) (by decide +kernel), List.mem_of_getElem? (i := 1265) (by decide +kernel), List.mem_of_getElem? (i := 1266) (by decide +kernel)⟩
theorem lw_p67 : lw_okq (⟨"ThreesAtTableModel", "degree", "(I)I"⟩, 45) := ⟨⟨by decide +kernel, by decide +kernel⟩, List.mem_of_getElem? (i := 978) (by decide +kernel), List.mem_of_getElem? (i := 1280) (by decide +kernel), List.mem_of_getElem? (i := 1281) (by decide +kernel)⟩
theorem lw_p68 : lw_okq (⟨"ThreesAtTableModel", "know", "(II)Z"⟩, 45) := ⟨⟨by decide +kernel, by decide +kernel⟩, List.mem_of_getElem? (i := 978) (by decide +kernel), List.mem_of_getElem? (i := 1284) (by decide +kernel), List.mem_of_getElem? (i := 1285) (by decide +kernel)⟩
theorem lw_p69 : lw_okq (⟨"ThreesAtTableModel", "gathers", "()V"⟩, 45) := ⟨⟨by decide +kernel, by decide +kernel⟩, List.mem_of_getElem? (i := 978) (by decide +kernel), List.mem_of_getElem? (i := 1288) (by decide +kernel), List.mem_of_getElem? (i := 1289) (by decide +kernel)⟩
theorem lw_p70 : lw_okq (⟨"ThreesAtTableModel", "says", "(IIIIII)I"⟩, 45) := ⟨⟨by decide +kernel, by decide +kernel⟩, List.mem_of_getElem? (i := 978) (by decide +kernel), List.mem_of_getElem? (i := 1292) (by decide +kernel), List.mem_of_getElem? (i := 1293) (by decide +kernel)⟩
theorem lw_p71 : lw_okq (⟨"ThreesAtTableModel", "sortOf", "(III)I"⟩, 45) := ⟨⟨by decide +kernel, by decide +kernel⟩, List.mem_of_getElem? (i := 978) (by decide +kernel), List.mem_of_getElem? (i := 1296) (by decide +kernel), List.mem_of_getElem? (i := 1297) (by decide +kernel)⟩
theorem lw_p72 : lw_okq (⟨"ThreesAtTableModel", "joy", "(I)I"⟩, 45) := ⟨⟨by decide +kernel, by decide +kernel⟩, List.mem_of_getElem? (i := 978) (by decide +kernel), List.mem_of_getElem? (i := 1304) (by decide +kernel), List.mem_of_getElem? (i := 1305) (by decide +kernel)⟩
theorem lw_p73 : lw_okq (⟨"ThreesAtTableModel", "threesOf", "(I)I"⟩, 45) := ⟨⟨by decide +kernel, by decide +kernel⟩, List.mem_of_getElem? (i := 978) (by decide +kernel), List.mem_of_getElem? (i := 1311) (by decide +kernel), List.mem_of_getElem? (i := 1312) (by decide +kernel)⟩
theorem lw_p74 : lw_okq (⟨"ThreesAtTableModel", "meetsAll", "(I)Z"⟩, 45) := ⟨⟨by decide +kernel, by decide +kernel⟩, List.mem_of_getElem? (i := 978) (by decide +kernel), List.mem_of_getElem? (i := 1326) (by decide +kernel), List.mem_of_getElem? (i := 1327) (by decide +kernel)⟩
theorem lw_p75 : lw_okq (⟨"ThreesAtTableModel", "gathersCosts", "()V"⟩, 45) := ⟨⟨by decide +kernel, by decide +kernel⟩, List.mem_of_getElem? (i := 978) (by decide +kernel), List.mem_of_getElem? (i := 1334) (by decide +kernel), List.mem_of_getElem? (i := 1335) (by decide +kernel)⟩
theorem lw_p76 : lw_okq (⟨"ThreesAtTableModel", "allThrees", "(II)I"⟩, 45) := ⟨⟨by decide +kernel, by decide +kernel⟩, List.mem_of_getElem? (i := 978) (by decide +kernel), List.mem_of_getElem? (i := 1338) (by decide +kernel), List.mem_of_getElem? (i := 1339) (by decide +kernel)⟩
theorem lw_p77 : lw_okq (⟨"ThreesAtTableModel", "leaves", "(IIII)V"⟩, 45) := ⟨⟨by decide +kernel, by decide +kernel⟩, List.mem_of_getElem? (i := 978) (by decide +kernel), List.mem_of_getElem? (i := 1346) (by decide +kernel), List.mem_of_getElem? (i := 1347) (by decide +kernel)⟩
theorem lw_p78 : lw_okq (⟨"ThreesAtTableModel", "areAll", "(II)Z"⟩, 45) := ⟨⟨by decide +kernel, by decide +kernel⟩, List.mem_of_getElem? (i := 978) (by decide +kernel), List.mem_of_getElem? (i := 1354) (by decide +kernel), List.mem_of_getElem? (i := 1355) (by decide +kernel)⟩
theorem lw_p79 : lw_okq (⟨"ThreesAtTableModel", "ring", "(IIII)I"⟩, 45) := ⟨⟨by decide +kernel, by decide +kernel⟩, List.mem_of_getElem? (i := 978) (by decide +kernel), List.mem_of_getElem? (i := 1366) (by decide +kernel), List.mem_of_getElem? (i := 1367) (by decide +kernel)⟩
def lw_privs_5 : List (MethodName × Nat) := [(⟨"ThreesAtTableModel", "atom", "()I"⟩, 45), (⟨"ThreesAtTableModel", "isSign", "(I)Z"⟩, 45), (⟨"ThreesAtTableModel", "name", "()I"⟩, 45), (⟨"ThreesAtTableModel", "degree", "(I)I"⟩, 45), (⟨"ThreesAtTableModel", "know", "(II)Z"⟩, 45), (⟨"ThreesAtTableModel", "gathers", "()V"⟩, 45), (⟨"ThreesAtTableModel", "says", "(IIIIII)I"⟩, 45), (⟨"ThreesAtTableModel", "sortOf", "(III)I"⟩, 45), (⟨"ThreesAtTableModel", "joy", "(I)I"⟩, 45), (⟨"ThreesAtTableModel", "threesOf", "(I)I"⟩, 45), (⟨"ThreesAtTableModel", "meetsAll", "(I)Z"⟩, 45), (⟨"ThreesAtTableModel", "gathersCosts", "()V"⟩, 45), (⟨"ThreesAtTableModel", "allThrees", "(II)I"⟩, 45), (⟨"ThreesAtTableModel", "leaves", "(IIII)V"⟩, 45), (⟨"ThreesAtTableModel", "areAll", "(II)Z"⟩, 45), (⟨"ThreesAtTableModel", "ring", "(IIII)I"⟩, 45)]
theorem lw_r5 : ∀ q ∈ lw_privs_5, lw_okq q := List.forall_mem_cons.mpr ⟨lw_p64, List.forall_mem_cons.mpr ⟨lw_p65, List.forall_mem_cons.mpr ⟨lw_p66, List.forall_mem_cons.mpr ⟨lw_p67, List.forall_mem_cons.mpr ⟨lw_p68, List.forall_mem_cons.mpr ⟨lw_p69, List.forall_mem_cons.mpr ⟨lw_p70, List.forall_mem_cons.mpr ⟨lw_p71, List.forall_mem_cons.mpr ⟨lw_p72, List.forall_mem_cons.mpr ⟨lw_p73, List.forall_mem_cons.mpr ⟨lw_p74, List.forall_mem_cons.mpr ⟨lw_p75, List.forall_mem_cons.mpr ⟨lw_p76, List.forall_mem_cons.mpr ⟨lw_p77, List.forall_mem_cons.mpr ⟨lw_p78, List.forall_mem_cons.mpr ⟨lw_p79, fun _ h => absurd h List.not_mem_nil⟩⟩⟩⟩⟩⟩⟩⟩⟩⟩⟩⟩⟩⟩⟩⟩
theorem lw_p80 : lw_okq (⟨"ThreesAtTableModel", "unseen", "()I"⟩, 45) := ⟨⟨by decide +kernel, by decide +kernel⟩, List.mem_of_getElem? (i := 978) (by decide +kernel), List.mem_of_getElem? (i := 1382) (by decide +kernel), List.mem_of_getElem? (i := 1383) (by decide +kernel)⟩
theorem lw_p81 : lw_okq (⟨"ThreesAtTableModel", "waysWithout", "()I"⟩, 45) := ⟨⟨by decide +kernel, by decide +kernel⟩, List.mem_of_getElem? (i := 978) (by decide +kernel), List.mem_of_getElem? (i := 1386) (by decide +kernel), List.mem_of_getElem? (i := 1387) (by decide +kernel)⟩
theorem lw_p82 : lw_okq (⟨"ThreesAtTableModel", "value", "(III)I"⟩, 45) := ⟨⟨by decide +kernel, by decide +kernel⟩, List.mem_of_getElem? (i := 978) (by decide +kernel), List.mem_of_getElem? (i := 1399) (by decide +kernel), List.mem_of_getElem? (i := 1400) (by decide +kernel)⟩
theorem lw_p83 : lw_okq (⟨"ThreesAtTableModel", "turn", "(IIII)I"⟩, 45) := ⟨⟨by decide +kernel, by decide +kernel⟩, List.mem_of_getElem? (i := 978) (by decide +kernel), List.mem_of_getElem? (i := 1403) (by decide +kernel), List.mem_of_getElem? (i := 1404) (by decide +kernel)⟩
theorem lw_p84 : lw_okq (⟨"ThreesAtTableModel", "hasThree", "(IIII)Z"⟩, 45) := ⟨⟨by decide +kernel, by decide +kernel⟩, List.mem_of_getElem? (i := 978) (by decide +kernel), List.mem_of_getElem? (i := 1407) (by decide +kernel), List.mem_of_getElem? (i := 1408) (by decide +kernel)⟩
def lw_privs_6 : List (MethodName × Nat) := [(⟨"ThreesAtTableModel", "unseen", "()I"⟩, 45), (⟨"ThreesAtTableModel", "waysWithout", "()I"⟩, 45), (⟨"ThreesAtTableModel", "value", "(III)I"⟩, 45), (⟨"ThreesAtTableModel", "turn", "(IIII)I"⟩, 45), (⟨"ThreesAtTableModel", "hasThree", "(IIII)Z"⟩, 45)]
theorem lw_r6 : ∀ q ∈ lw_privs_6, lw_okq q := List.forall_mem_cons.mpr ⟨lw_p80, List.forall_mem_cons.mpr ⟨lw_p81, List.forall_mem_cons.mpr ⟨lw_p82, List.forall_mem_cons.mpr ⟨lw_p83, List.forall_mem_cons.mpr ⟨lw_p84, fun _ h => absurd h List.not_mem_nil⟩⟩⟩⟩⟩
def lw_privs : List (MethodName × Nat) := lw_privs_1 ++ (lw_privs_2 ++ (lw_privs_3 ++ (lw_privs_4 ++ (lw_privs_5 ++ (lw_privs_6)))))
def lw_tbl : List Cond := k2_sels lw_privs ++ tables_1
theorem lw_privs_ok : ∀ q ∈ lw_privs, lw_okq q := by
  show ∀ q ∈ lw_privs_1 ++ (lw_privs_2 ++ (lw_privs_3 ++ (lw_privs_4 ++ (lw_privs_5 ++ (lw_privs_6))))), lw_okq q
  exact List.forall_mem_append.mpr ⟨lw_r1, List.forall_mem_append.mpr ⟨lw_r2, List.forall_mem_append.mpr ⟨lw_r3, List.forall_mem_append.mpr ⟨lw_r4, List.forall_mem_append.mpr ⟨lw_r5, lw_r6⟩⟩⟩⟩⟩
end
section
def xR_Ch : String := "ThreesAtTable$Changes"
def xR_Ga : String := "ThreesAtTable$Game"
def xR_Re : String := "ThreesAtTable$Reader"
def xR_Ru : String := "ThreesAtTable$Rule"
def xR_Se : String := "ThreesAtTable$Seats"
def xR_Sh : String := "ThreesAtTable$Sheet"
def xR_St : String := "ThreesAtTable$Standing"
def xR_Ta : String := "ThreesAtTable$Table"
def xR_Te : String := "ThreesAtTable$Text"
def xR_To : String := "ThreesAtTable$Town"
def xR_Wa : String := "ThreesAtTable$Ways"
def xR_Ma : String := "ThreesAtTable"
def xR_Mo : String := "ThreesAtTableModel"
def xR_In : String := "java/lang/Integer"
def xR_Mt : String := "java/lang/Math"
def xR_Sg : String := "java/lang/String"
def xR_Sl : String := "java/lang/StringLatin1"
def xR_Su : String := "java/lang/StringUTF16"
def xR_Ar : String := "java/util/Arrays"
def xR_Pc : String := "jdk/internal/util/Preconditions"
def xR_La : String := "ThreesAtTableLaw"
def xT_Ch : u_T := fun k => match k with
  | 0 => ("ThreesAtTable$Changes", "seats", "LThreesAtTable$Seats;", true)
  | 1 => ("ThreesAtTable$Changes", "standing", "LThreesAtTable$Standing;", true)
  | 2 => ("ThreesAtTable$Changes", "costs", "[I", true)
  | 3 => ("ThreesAtTable$Changes", "found", "Z", false)
  | 4 => ("ThreesAtTable$Changes", "best", "I", false)
  | _ => ("ThreesAtTable$Changes", "leastCosts", "I", false)
def xY_Ch : Nat → FieldType := fun k => match k with
  | 0 => .object "ThreesAtTable$Seats"
  | 1 => .object "ThreesAtTable$Standing"
  | 2 => .array .int
  | 3 => .boolean
  | 4 => .int
  | _ => .int
def xT_Re : u_T := fun k => match k with
  | 0 => ("ThreesAtTable$Reader", "tape", "[I", true)
  | 1 => ("ThreesAtTable$Reader", "size", "I", false)
  | 2 => ("ThreesAtTable$Reader", "start", "I", false)
  | 3 => ("ThreesAtTable$Reader", "next", "I", false)
  | 4 => ("ThreesAtTable$Reader", "token", "I", false)
  | 5 => ("ThreesAtTable$Reader", "number", "I", false)
  | 6 => ("ThreesAtTable$Reader", "codes", "[I", true)
  | 7 => ("ThreesAtTable$Reader", "codeCount", "I", false)
  | _ => ("ThreesAtTable$Reader", "ends", "[I", true)
def xY_Re : Nat → FieldType := fun k => match k with
  | 0 => .array .int
  | 1 => .int
  | 2 => .int
  | 3 => .int
  | 4 => .int
  | 5 => .int
  | 6 => .array .int
  | 7 => .int
  | _ => .array .int
def xT_Ru : u_T := fun k => match k with
  | 0 => ("ThreesAtTable$Rule", "seats", "LThreesAtTable$Seats;", true)
  | 1 => ("ThreesAtTable$Rule", "table", "LThreesAtTable$Table;", true)
  | 2 => ("ThreesAtTable$Rule", "names", "[I", true)
  | 3 => ("ThreesAtTable$Rule", "stack", "[I", true)
  | 4 => ("ThreesAtTable$Rule", "height", "I", false)
  | _ => ("ThreesAtTable$Rule", "text", "LThreesAtTable$Text;", false)
def xY_Ru : Nat → FieldType := fun k => match k with
  | 0 => .object "ThreesAtTable$Seats"
  | 1 => .object "ThreesAtTable$Table"
  | 2 => .array .int
  | 3 => .array .int
  | 4 => .int
  | _ => .object "ThreesAtTable$Text"
def xT_Se : u_T := fun k => match k with
  | 0 => ("ThreesAtTable$Seats", "within", "[I", true)
  | 1 => ("ThreesAtTable$Seats", "lower", "[I", true)
  | 2 => ("ThreesAtTable$Seats", "higher", "[I", true)
  | _ => ("ThreesAtTable$Seats", "threes", "[I", true)
def xY_Se : Nat → FieldType := fun k => match k with
  | 0 => .array .int
  | 1 => .array .int
  | 2 => .array .int
  | _ => .array .int
def xT_Sh : u_T := fun k => match k with
  | 0 => ("ThreesAtTable$Sheet", "sort", "I", false)
  | 1 => ("ThreesAtTable$Sheet", "size", "I", false)
  | _ => ("ThreesAtTable$Sheet", "items", "[I", true)
def xY_Sh : Nat → FieldType := fun k => match k with
  | 0 => .int
  | 1 => .int
  | _ => .array .int
def xT_St : u_T := fun k => match k with
  | 0 => ("ThreesAtTable$Standing", "seats", "LThreesAtTable$Seats;", true)
  | 1 => ("ThreesAtTable$Standing", "friendsCount", "[Z", true)
  | 2 => ("ThreesAtTable$Standing", "strangersCount", "[Z", true)
  | _ => ("ThreesAtTable$Standing", "threes", "I", false)
def xY_St : Nat → FieldType := fun k => match k with
  | 0 => .object "ThreesAtTable$Seats"
  | 1 => .array .boolean
  | 2 => .array .boolean
  | _ => .int
def xT_Ta : u_T := fun k => match k with
  | 0 => ("ThreesAtTable$Table", "seats", "LThreesAtTable$Seats;", true)
  | 1 => ("ThreesAtTable$Table", "guests", "I", false)
  | 2 => ("ThreesAtTable$Table", "friends", "I", false)
  | _ => ("ThreesAtTable$Table", "strangers", "I", false)
def xY_Ta : Nat → FieldType := fun k => match k with
  | 0 => .object "ThreesAtTable$Seats"
  | 1 => .int
  | 2 => .int
  | _ => .int
def xT_Te : u_T := fun k => match k with
  | 0 => ("ThreesAtTable$Text", "codes", "[I", true)
  | _ => ("ThreesAtTable$Text", "ends", "[I", true)
def xY_Te : Nat → FieldType := fun k => match k with
  | 0 => .array .int
  | _ => .array .int
def xT_To : u_T := fun k => match k with
  | 0 => ("ThreesAtTable$Town", "kind", "I", true)
  | _ => ("ThreesAtTable$Town", "number", "I", true)
def xY_To : Nat → FieldType := fun k => match k with
  | 0 => .int
  | _ => .int
def xT_Wa : u_T := fun k => match k with
  | 0 => ("ThreesAtTable$Ways", "seats", "LThreesAtTable$Seats;", true)
  | 1 => ("ThreesAtTable$Ways", "standing", "LThreesAtTable$Standing;", true)
  | 2 => ("ThreesAtTable$Ways", "pairs", "I", false)
  | 3 => ("ThreesAtTable$Ways", "without", "I", false)
  | 4 => ("ThreesAtTable$Ways", "mostThrees", "I", false)
  | _ => ("ThreesAtTable$Ways", "least", "I", false)
def xY_Wa : Nat → FieldType := fun k => match k with
  | 0 => .object "ThreesAtTable$Seats"
  | 1 => .object "ThreesAtTable$Standing"
  | 2 => .int
  | 3 => .int
  | 4 => .int
  | _ => .int
def xT_Ma : u_T := fun k => match k with
  | 0 => ("ThreesAtTable", "seats", "LThreesAtTable$Seats;", true)
  | 1 => ("ThreesAtTable", "table", "LThreesAtTable$Table;", true)
  | 2 => ("ThreesAtTable", "rule", "LThreesAtTable$Rule;", true)
  | 3 => ("ThreesAtTable", "standing", "LThreesAtTable$Standing;", true)
  | 4 => ("ThreesAtTable", "changes", "LThreesAtTable$Changes;", true)
  | 5 => ("ThreesAtTable", "ways", "LThreesAtTable$Ways;", true)
  | 6 => ("ThreesAtTable", "reader", "LThreesAtTable$Reader;", true)
  | 7 => ("ThreesAtTable", "texts", "[LThreesAtTable$Text;", true)
  | 8 => ("ThreesAtTable", "towns", "[LThreesAtTable$Town;", true)
  | 9 => ("ThreesAtTable", "sheets", "[LThreesAtTable$Sheet;", true)
  | 10 => ("ThreesAtTable", "kept", "LThreesAtTable$Table;", true)
  | 11 => ("ThreesAtTable", "textCount", "I", false)
  | 12 => ("ThreesAtTable", "townCount", "I", false)
  | 13 => ("ThreesAtTable", "ruleNumber", "I", false)
  | _ => ("ThreesAtTable", "keptRule", "I", false)
def xY_Ma : Nat → FieldType := fun k => match k with
  | 0 => .object "ThreesAtTable$Seats"
  | 1 => .object "ThreesAtTable$Table"
  | 2 => .object "ThreesAtTable$Rule"
  | 3 => .object "ThreesAtTable$Standing"
  | 4 => .object "ThreesAtTable$Changes"
  | 5 => .object "ThreesAtTable$Ways"
  | 6 => .object "ThreesAtTable$Reader"
  | 7 => .array (.object "ThreesAtTable$Text")
  | 8 => .array (.object "ThreesAtTable$Town")
  | 9 => .array (.object "ThreesAtTable$Sheet")
  | 10 => .object "ThreesAtTable$Table"
  | 11 => .int
  | 12 => .int
  | 13 => .int
  | _ => .int
def xT_Mo : u_T := fun k => match k with
  | 0 => ("ThreesAtTableModel", "thrown", "I", false)
  | 1 => ("ThreesAtTableModel", "texts", "[I", true)
  | 2 => ("ThreesAtTableModel", "textSize", "[I", true)
  | 3 => ("ThreesAtTableModel", "textCount", "I", false)
  | 4 => ("ThreesAtTableModel", "rule", "I", false)
  | 5 => ("ThreesAtTableModel", "tape", "[I", true)
  | 6 => ("ThreesAtTableModel", "taped", "I", false)
  | 7 => ("ThreesAtTableModel", "n", "I", false)
  | 8 => ("ThreesAtTableModel", "knows", "I", false)
  | 9 => ("ThreesAtTableModel", "seen", "I", false)
  | 10 => ("ThreesAtTableModel", "kinds", "[I", true)
  | 11 => ("ThreesAtTableModel", "numbers", "[I", true)
  | 12 => ("ThreesAtTableModel", "towns", "I", false)
  | 13 => ("ThreesAtTableModel", "ofOne", "I", false)
  | 14 => ("ThreesAtTableModel", "ofOther", "I", false)
  | 15 => ("ThreesAtTableModel", "ofThird", "I", false)
  | 16 => ("ThreesAtTableModel", "ofKnow", "I", false)
  | 17 => ("ThreesAtTableModel", "ofSeen", "I", false)
  | 18 => ("ThreesAtTableModel", "ofMany", "I", false)
  | 19 => ("ThreesAtTableModel", "from", "I", false)
  | 20 => ("ThreesAtTableModel", "size", "I", false)
  | 21 => ("ThreesAtTableModel", "here", "I", false)
  | 22 => ("ThreesAtTableModel", "token", "I", false)
  | 23 => ("ThreesAtTableModel", "tokenAt", "I", false)
  | 24 => ("ThreesAtTableModel", "tokenWorth", "J", false)
  | 25 => ("ThreesAtTableModel", "open", "I", false)
  | 26 => ("ThreesAtTableModel", "bad", "Z", false)
  | 27 => ("ThreesAtTableModel", "fault", "I", false)
  | 28 => ("ThreesAtTableModel", "three", "[I", true)
  | 29 => ("ThreesAtTableModel", "threeWho", "[I", true)
  | 30 => ("ThreesAtTableModel", "asFriends", "[Z", true)
  | 31 => ("ThreesAtTableModel", "asStrangers", "[Z", true)
  | 32 => ("ThreesAtTableModel", "threeMany", "I", false)
  | 33 => ("ThreesAtTableModel", "costs", "[I", true)
  | 34 => ("ThreesAtTableModel", "bestSet", "I", false)
  | 35 => ("ThreesAtTableModel", "bestCost", "I", false)
  | 36 => ("ThreesAtTableModel", "mostThrees", "I", false)
  | 37 => ("ThreesAtTableModel", "nKept", "I", false)
  | 38 => ("ThreesAtTableModel", "knowsKept", "I", false)
  | 39 => ("ThreesAtTableModel", "seenKept", "I", false)
  | 40 => ("ThreesAtTableModel", "ruleKept", "I", false)
  | 41 => ("ThreesAtTableModel", "isThere", "[Z", true)
  | 42 => ("ThreesAtTableModel", "sorts", "[I", true)
  | 43 => ("ThreesAtTableModel", "sheetSize", "[I", true)
  | _ => ("ThreesAtTableModel", "items", "[I", true)
def xY_Mo : Nat → FieldType := fun k => match k with
  | 0 => .int
  | 1 => .array .int
  | 2 => .array .int
  | 3 => .int
  | 4 => .int
  | 5 => .array .int
  | 6 => .int
  | 7 => .int
  | 8 => .int
  | 9 => .int
  | 10 => .array .int
  | 11 => .array .int
  | 12 => .int
  | 13 => .int
  | 14 => .int
  | 15 => .int
  | 16 => .int
  | 17 => .int
  | 18 => .int
  | 19 => .int
  | 20 => .int
  | 21 => .int
  | 22 => .int
  | 23 => .int
  | 24 => .long
  | 25 => .int
  | 26 => .boolean
  | 27 => .int
  | 28 => .array .int
  | 29 => .array .int
  | 30 => .array .boolean
  | 31 => .array .boolean
  | 32 => .int
  | 33 => .array .int
  | 34 => .int
  | 35 => .int
  | 36 => .int
  | 37 => .int
  | 38 => .int
  | 39 => .int
  | 40 => .int
  | 41 => .array .boolean
  | 42 => .array .int
  | 43 => .array .int
  | _ => .array .int
/-- the kinds of objects: name, fields, how many; what type each field has -/
def xcl : List (vw_C × (Nat → FieldType)) := [((xR_Ch, xT_Ch, 6), xY_Ch), ((xR_Re, xT_Re, 9), xY_Re), ((xR_Ru, xT_Ru, 6), xY_Ru), ((xR_Se, xT_Se, 4), xY_Se), ((xR_Sh, xT_Sh, 3), xY_Sh), ((xR_St, xT_St, 4), xY_St), ((xR_Ta, xT_Ta, 4), xY_Ta), ((xR_Te, xT_Te, 2), xY_Te), ((xR_To, xT_To, 2), xY_To), ((xR_Wa, xT_Wa, 6), xY_Wa), ((xR_Ma, xT_Ma, 15), xY_Ma), ((xR_Mo, xT_Mo, 45), xY_Mo)]
def xC : List vw_C := xcl.map (fun q => q.1)
theorem x_sub {big ws : List Cond} (ps : List Nat) (hp : ws = ps.filterMap (fun i => big[i]?)) : ∀ w ∈ ws, w ∈ big := by
  intro w hw
  rw [hp] at hw
  obtain ⟨i, -, hi⟩ := List.mem_filterMap.mp hw
  exact List.mem_of_getElem? hi
def xTB : List Cond := lw_tbl.filter goodWord
theorem x_in {w : Cond} (i : Nat) (h : tables_1[i]? = some w) (g : goodWord w = true) : w ∈ xTB := List.mem_filter.mpr ⟨List.mem_append_right _ (List.mem_of_getElem? h), g⟩
theorem x_inp {w : Cond} (i : Nat) (h : (k2_sels lw_privs)[i]? = some w) (g : goodWord w = true) : w ∈ xTB := List.mem_filter.mpr ⟨List.mem_append_left _ (List.mem_of_getElem? h), g⟩
theorem x_subT {ws : List Cond} (ps : List Nat) (hp : ws = ps.filterMap (fun i => tables_1[i]?)) (hg : ws.all goodWord = true) : ∀ w ∈ ws, w ∈ xTB := fun w hw => List.mem_filter.mpr ⟨List.mem_append_right _ (x_sub ps hp w hw), List.all_eq_true.mp hg w hw⟩
theorem xl_Ch : ∀ w ∈ u_ws xR_Ch xT_Ch 6, w ∈ xTB := x_subT [157, 159, 161, 163, 165, 167] (by decide +kernel) (by decide +kernel)
theorem xn_Ch : ∀ a, a < 6 → ∀ b, b < 6 → a ≠ b → (xT_Ch a).2.1 ≠ (xT_Ch b).2.1 := by decide +kernel
theorem xy_Ch : ∀ k, k < 6 → parseFieldDescriptor (xT_Ch k).2.2.1 = some (xY_Ch k) ∧ (xT_Ch k).1 = xR_Ch := by decide +kernel
theorem xl_Re : ∀ w ∈ u_ws xR_Re xT_Re 9, w ∈ xTB := x_subT [213, 215, 217, 219, 221, 223, 225, 227, 229] (by decide +kernel) (by decide +kernel)
theorem xn_Re : ∀ a, a < 9 → ∀ b, b < 9 → a ≠ b → (xT_Re a).2.1 ≠ (xT_Re b).2.1 := by decide +kernel
theorem xy_Re : ∀ k, k < 9 → parseFieldDescriptor (xT_Re k).2.2.1 = some (xY_Re k) ∧ (xT_Re k).1 = xR_Re := by decide +kernel
theorem xl_Ru : ∀ w ∈ u_ws xR_Ru xT_Ru 6, w ∈ xTB := x_subT [110, 112, 114, 116, 118, 120] (by decide +kernel) (by decide +kernel)
theorem xn_Ru : ∀ a, a < 6 → ∀ b, b < 6 → a ≠ b → (xT_Ru a).2.1 ≠ (xT_Ru b).2.1 := by decide +kernel
theorem xy_Ru : ∀ k, k < 6 → parseFieldDescriptor (xT_Ru k).2.2.1 = some (xY_Ru k) ∧ (xT_Ru k).1 = xR_Ru := by decide +kernel
theorem xl_Se : ∀ w ∈ u_ws xR_Se xT_Se 4, w ∈ xTB := x_subT [58, 60, 62, 64] (by decide +kernel) (by decide +kernel)
theorem xn_Se : ∀ a, a < 4 → ∀ b, b < 4 → a ≠ b → (xT_Se a).2.1 ≠ (xT_Se b).2.1 := by decide +kernel
theorem xy_Se : ∀ k, k < 4 → parseFieldDescriptor (xT_Se k).2.2.1 = some (xY_Se k) ∧ (xT_Se k).1 = xR_Se := by decide +kernel
theorem xl_Sh : ∀ w ∈ u_ws xR_Sh xT_Sh 3, w ∈ xTB := x_subT [249, 251, 253] (by decide +kernel) (by decide +kernel)
theorem xn_Sh : ∀ a, a < 3 → ∀ b, b < 3 → a ≠ b → (xT_Sh a).2.1 ≠ (xT_Sh b).2.1 := by decide +kernel
theorem xy_Sh : ∀ k, k < 3 → parseFieldDescriptor (xT_Sh k).2.2.1 = some (xY_Sh k) ∧ (xT_Sh k).1 = xR_Sh := by decide +kernel
theorem xl_St : ∀ w ∈ u_ws xR_St xT_St 4, w ∈ xTB := x_subT [133, 135, 137, 139] (by decide +kernel) (by decide +kernel)
theorem xn_St : ∀ a, a < 4 → ∀ b, b < 4 → a ≠ b → (xT_St a).2.1 ≠ (xT_St b).2.1 := by decide +kernel
theorem xy_St : ∀ k, k < 4 → parseFieldDescriptor (xT_St k).2.2.1 = some (xY_St k) ∧ (xT_St k).1 = xR_St := by decide +kernel
theorem xl_Ta : ∀ w ∈ u_ws xR_Ta xT_Ta 4, w ∈ xTB := x_subT [89, 91, 93, 95] (by decide +kernel) (by decide +kernel)
theorem xn_Ta : ∀ a, a < 4 → ∀ b, b < 4 → a ≠ b → (xT_Ta a).2.1 ≠ (xT_Ta b).2.1 := by decide +kernel
theorem xy_Ta : ∀ k, k < 4 → parseFieldDescriptor (xT_Ta k).2.2.1 = some (xY_Ta k) ∧ (xT_Ta k).1 = xR_Ta := by decide +kernel
theorem xl_Te : ∀ w ∈ u_ws xR_Te xT_Te 2, w ∈ xTB := x_subT [432, 434] (by decide +kernel) (by decide +kernel)
theorem xn_Te : ∀ a, a < 2 → ∀ b, b < 2 → a ≠ b → (xT_Te a).2.1 ≠ (xT_Te b).2.1 := by decide +kernel
theorem xy_Te : ∀ k, k < 2 → parseFieldDescriptor (xT_Te k).2.2.1 = some (xY_Te k) ∧ (xT_Te k).1 = xR_Te := by decide +kernel
theorem xl_To : ∀ w ∈ u_ws xR_To xT_To 2, w ∈ xTB := x_subT [608, 610] (by decide +kernel) (by decide +kernel)
theorem xn_To : ∀ a, a < 2 → ∀ b, b < 2 → a ≠ b → (xT_To a).2.1 ≠ (xT_To b).2.1 := by decide +kernel
theorem xy_To : ∀ k, k < 2 → parseFieldDescriptor (xT_To k).2.2.1 = some (xY_To k) ∧ (xT_To k).1 = xR_To := by decide +kernel
theorem xl_Wa : ∀ w ∈ u_ws xR_Wa xT_Wa 6, w ∈ xTB := x_subT [185, 187, 189, 191, 193, 195] (by decide +kernel) (by decide +kernel)
theorem xn_Wa : ∀ a, a < 6 → ∀ b, b < 6 → a ≠ b → (xT_Wa a).2.1 ≠ (xT_Wa b).2.1 := by decide +kernel
theorem xy_Wa : ∀ k, k < 6 → parseFieldDescriptor (xT_Wa k).2.2.1 = some (xY_Wa k) ∧ (xT_Wa k).1 = xR_Wa := by decide +kernel
theorem xl_Ma : ∀ w ∈ u_ws xR_Ma xT_Ma 15, w ∈ xTB := x_subT [536, 538, 540, 542, 544, 546, 548, 550, 552, 554, 556, 558, 560, 562, 564] (by decide +kernel) (by decide +kernel)
theorem xn_Ma : ∀ a, a < 15 → ∀ b, b < 15 → a ≠ b → (xT_Ma a).2.1 ≠ (xT_Ma b).2.1 := by decide +kernel
theorem xy_Ma : ∀ k, k < 15 → parseFieldDescriptor (xT_Ma k).2.2.1 = some (xY_Ma k) ∧ (xT_Ma k).1 = xR_Ma := by decide +kernel
theorem xl_Mo : ∀ w ∈ u_ws xR_Mo xT_Mo 45, w ∈ xTB := x_subT [1031, 1033, 1035, 1037, 1039, 1041, 1043, 1045, 1047, 1049, 1051, 1053, 1055, 1057, 1059, 1061, 1063, 1065, 1067, 1069, 1071, 1073, 1075, 1077, 1079, 1081, 1083, 1085, 1087, 1089, 1091, 1093, 1095, 1097, 1099, 1101, 1103, 1105, 1107, 1109, 1111, 1113, 1115, 1117, 1119] (by decide +kernel) (by decide +kernel)
theorem xn_Mo : ∀ a, a < 45 → ∀ b, b < 45 → a ≠ b → (xT_Mo a).2.1 ≠ (xT_Mo b).2.1 := by decide +kernel
theorem xy_Mo : ∀ k, k < 45 → parseFieldDescriptor (xT_Mo k).2.2.1 = some (xY_Mo k) ∧ (xT_Mo k).1 = xR_Mo := by decide +kernel
abbrev xM : Type := MethodName × ByteArray × Nat × Option FieldType
def M_Ch_init : xM := (⟨xR_Ch, "<init>", "(LThreesAtTable$Seats;LThreesAtTable$Standing;)V"⟩, prog_2_method_1_code, 3, none)
def M_Ch_seek : xM := (⟨xR_Ch, "seek", "(LThreesAtTable$Table;LThreesAtTable$Rule;)Z"⟩, prog_2_method_2_code, 4, (some .boolean))
def M_Ch_tryChanges : xM := (⟨xR_Ch, "tryChanges", "(LThreesAtTable$Changes;IIII)V"⟩, prog_2_method_3_code, 9, none)
def M_Ch_keepBest : xM := (⟨xR_Ch, "keepBest", "(I)V"⟩, prog_2_method_4_code, 4, none)
def M_Ga_value : xM := (⟨xR_Ga, "value", "(LThreesAtTable$Seats;LThreesAtTable$Table;)I"⟩, prog_3_method_2_code, 2, (some .int))
def M_Ga_pair : xM := (⟨xR_Ga, "pair", "(LThreesAtTable$Seats;LThreesAtTable$Table;)I"⟩, prog_3_method_3_code, 6, (some .int))
def M_Ga_worth : xM := (⟨xR_Ga, "worth", "(LThreesAtTable$Seats;IIII)I"⟩, prog_3_method_4_code, 8, (some .int))
def M_Ga_worthOfTurn : xM := (⟨xR_Ga, "worthOfTurn", "(LThreesAtTable$Seats;IIIII)I"⟩, prog_3_method_5_code, 6, (some .int))
def M_Re_init : xM := (⟨xR_Re, "<init>", "()V"⟩, prog_4_method_1_code, 1, none)
def M_Re_size : xM := (⟨xR_Re, "size", "()I"⟩, prog_4_method_2_code, 1, (some .int))
def M_Re_empty : xM := (⟨xR_Re, "empty", "()V"⟩, prog_4_method_3_code, 1, none)
def M_Re_put : xM := (⟨xR_Re, "put", "(I)Z"⟩, prog_4_method_4_code, 2, (some .boolean))
def M_Re_written : xM := (⟨xR_Re, "written", "()LThreesAtTable$Text;"⟩, prog_4_method_5_code, 1, (some (.object "ThreesAtTable$Text")))
def M_Re_read : xM := (⟨xR_Re, "read", "()I"⟩, prog_4_method_6_code, 2, (some .int))
def M_Re_takes : xM := (⟨xR_Re, "takes", "(I)Z"⟩, prog_4_method_7_code, 2, (some .boolean))
def M_Re_readEither : xM := (⟨xR_Re, "readEither", "(I)Z"⟩, prog_4_method_8_code, 3, (some .boolean))
def M_Re_readBoth : xM := (⟨xR_Re, "readBoth", "(I)Z"⟩, prog_4_method_9_code, 3, (some .boolean))
def M_Re_readNot : xM := (⟨xR_Re, "readNot", "(I)Z"⟩, prog_4_method_10_code, 4, (some .boolean))
def M_Re_readCompared : xM := (⟨xR_Re, "readCompared", "(I)Z"⟩, prog_4_method_11_code, 3, (some .boolean))
def M_Re_readSum : xM := (⟨xR_Re, "readSum", "(I)Z"⟩, prog_4_method_12_code, 4, (some .boolean))
def M_Re_readTerm : xM := (⟨xR_Re, "readTerm", "(I)Z"⟩, prog_4_method_13_code, 3, (some .boolean))
def M_Re_readOne : xM := (⟨xR_Re, "readOne", "(I)Z"⟩, prog_4_method_14_code, 4, (some .boolean))
def M_Re_readPlain : xM := (⟨xR_Re, "readPlain", "(I)Z"⟩, prog_4_method_15_code, 2, (some .boolean))
def M_Re_write : xM := (⟨xR_Re, "write", "(I)V"⟩, prog_4_method_16_code, 2, none)
def M_Re_advance : xM := (⟨xR_Re, "advance", "()V"⟩, prog_4_method_17_code, 1, none)
def M_Re_isLetter : xM := (⟨xR_Re, "isLetter", "(I)Z"⟩, prog_4_method_18_code, 1, (some .boolean))
def M_Re_isDigit : xM := (⟨xR_Re, "isDigit", "(I)Z"⟩, prog_4_method_19_code, 1, (some .boolean))
def M_Re_isSign : xM := (⟨xR_Re, "isSign", "(I)Z"⟩, prog_4_method_20_code, 1, (some .boolean))
def M_Re_wordToken : xM := (⟨xR_Re, "wordToken", "()I"⟩, prog_4_method_21_code, 2, (some .int))
def M_Re_numberToken : xM := (⟨xR_Re, "numberToken", "()I"⟩, prog_4_method_22_code, 1, (some .int))
def M_Re_spells : xM := (⟨xR_Re, "spells", "(Ljava/lang/String;)Z"⟩, prog_4_method_23_code, 3, (some .boolean))
def M_Re_wordOf : xM := (⟨xR_Re, "wordOf", "(I)Ljava/lang/String;"⟩, prog_4_method_24_code, 1, (some (.object "java/lang/String")))
def M_Ru_init : xM := (⟨xR_Ru, "<init>", "(LThreesAtTable$Seats;LThreesAtTable$Table;)V"⟩, prog_5_method_1_code, 3, none)
def M_Ru_follow : xM := (⟨xR_Ru, "follow", "(LThreesAtTable$Text;)V"⟩, prog_5_method_2_code, 2, none)
def M_Ru_counts : xM := (⟨xR_Ru, "counts", "(IIII)Z"⟩, prog_5_method_3_code, 5, (some .boolean))
def M_Ru_costs : xM := (⟨xR_Ru, "costs", "(I)I"⟩, prog_5_method_4_code, 3, (some .int))
def M_Ru_joy : xM := (⟨xR_Ru, "joy", "(I)I"⟩, prog_5_method_5_code, 2, (some .int))
def M_Ru_bounded : xM := (⟨xR_Ru, "bounded", "(I)I"⟩, prog_5_method_6_code, 1, (some .int))
def M_Ru_name : xM := (⟨xR_Ru, "name", "(IIIII)V"⟩, prog_5_method_7_code, 6, none)
def M_Ru_answer : xM := (⟨xR_Ru, "answer", "(I)I"⟩, prog_5_method_8_code, 3, (some .int))
def M_Ru_step : xM := (⟨xR_Ru, "step", "(I)V"⟩, prog_5_method_9_code, 3, none)
def M_Ru_joined : xM := (⟨xR_Ru, "joined", "(III)I"⟩, prog_5_method_10_code, 3, (some .int))
def M_Ru_push : xM := (⟨xR_Ru, "push", "(I)V"⟩, prog_5_method_11_code, 2, none)
def M_Ru_pop : xM := (⟨xR_Ru, "pop", "()I"⟩, prog_5_method_12_code, 1, (some .int))
def M_Se_init : xM := (⟨xR_Se, "<init>", "()V"⟩, prog_6_method_1_code, 5, none)
def M_Se_pairsAmong : xM := (⟨xR_Se, "pairsAmong", "(I)I"⟩, prog_6_method_2_code, 1, (some .int))
def M_Se_threesAmong : xM := (⟨xR_Se, "threesAmong", "(I)I"⟩, prog_6_method_3_code, 1, (some .int))
def M_Se_pairOf : xM := (⟨xR_Se, "pairOf", "(II)I"⟩, prog_6_method_4_code, 2, (some .int))
def M_Se_lower : xM := (⟨xR_Se, "lower", "(I)I"⟩, prog_6_method_5_code, 2, (some .int))
def M_Se_higher : xM := (⟨xR_Se, "higher", "(I)I"⟩, prog_6_method_6_code, 2, (some .int))
def M_Se_within : xM := (⟨xR_Se, "within", "(I)I"⟩, prog_6_method_7_code, 2, (some .int))
def M_Se_three : xM := (⟨xR_Se, "three", "(I)I"⟩, prog_6_method_8_code, 2, (some .int))
def M_Se_closes : xM := (⟨xR_Se, "closes", "(II)Z"⟩, prog_6_method_9_code, 6, (some .boolean))
def M_Sh_init : xM := (⟨xR_Sh, "<init>", "()V"⟩, prog_7_method_1_code, 1, none)
def M_Sh_isMissing : xM := (⟨xR_Sh, "isMissing", "()Z"⟩, prog_7_method_2_code, 1, (some .boolean))
def M_Sh_become : xM := (⟨xR_Sh, "become", "(II)V"⟩, prog_7_method_3_code, 3, none)
def M_Sh_hasRun : xM := (⟨xR_Sh, "hasRun", "(II)Z"⟩, prog_7_method_4_code, 3, (some .boolean))
def M_Sh_item : xM := (⟨xR_Sh, "item", "(I)I"⟩, prog_7_method_5_code, 2, (some .int))
def M_Sh_write : xM := (⟨xR_Sh, "write", "(II)Z"⟩, prog_7_method_6_code, 3, (some .boolean))
def M_St_init : xM := (⟨xR_St, "<init>", "(LThreesAtTable$Seats;)V"⟩, prog_8_method_1_code, 2, none)
def M_St_weigh : xM := (⟨xR_St, "weigh", "(LThreesAtTable$Rule;I)V"⟩, prog_8_method_2_code, 6, none)
def M_St_weighThree : xM := (⟨xR_St, "weighThree", "(LThreesAtTable$Rule;III)V"⟩, prog_8_method_3_code, 6, none)
def M_St_stands : xM := (⟨xR_St, "stands", "(III)Z"⟩, prog_8_method_4_code, 5, (some .boolean))
def M_St_howMany : xM := (⟨xR_St, "howMany", "(II)I"⟩, prog_8_method_5_code, 5, (some .int))
def M_St_anyThree : xM := (⟨xR_St, "anyThree", "(II)I"⟩, prog_8_method_6_code, 5, (some .int))
def M_St_howManyWith : xM := (⟨xR_St, "howManyWith", "(III)I"⟩, prog_8_method_7_code, 7, (some .int))
def M_Ta_init : xM := (⟨xR_Ta, "<init>", "(LThreesAtTable$Seats;)V"⟩, prog_9_method_1_code, 2, none)
def M_Ta_lay : xM := (⟨xR_Ta, "lay", "(I)V"⟩, prog_9_method_2_code, 2, none)
def M_Ta_layBits : xM := (⟨xR_Ta, "layBits", "(II)V"⟩, prog_9_method_3_code, 3, none)
def M_Ta_layAs : xM := (⟨xR_Ta, "layAs", "(LThreesAtTable$Table;)V"⟩, prog_9_method_4_code, 2, none)
def M_Ta_everyone : xM := (⟨xR_Ta, "everyone", "()I"⟩, prog_9_method_5_code, 1, (some .int))
def M_Ta_everyPair : xM := (⟨xR_Ta, "everyPair", "()I"⟩, prog_9_method_6_code, 1, (some .int))
def M_Ta_look : xM := (⟨xR_Ta, "look", "(I)I"⟩, prog_9_method_7_code, 2, (some .int))
def M_Ta_put : xM := (⟨xR_Ta, "put", "(II)V"⟩, prog_9_method_8_code, 4, none)
def M_Ta_knownBy : xM := (⟨xR_Ta, "knownBy", "(I)I"⟩, prog_9_method_9_code, 4, (some .int))
def M_Te_init : xM := (⟨xR_Te, "<init>", "([I[I)V"⟩, prog_10_method_1_code, 3, none)
def M_Te_begin : xM := (⟨xR_Te, "begin", "(I)I"⟩, prog_10_method_2_code, 2, (some .int))
def M_Te_end : xM := (⟨xR_Te, "end", "(I)I"⟩, prog_10_method_3_code, 2, (some .int))
def M_Te_code : xM := (⟨xR_Te, "code", "(I)I"⟩, prog_10_method_4_code, 2, (some .int))
def M_To_init : xM := (⟨xR_To, "<init>", "(II)V"⟩, prog_11_method_1_code, 3, none)
def M_To_isOf : xM := (⟨xR_To, "isOf", "(I)Z"⟩, prog_11_method_2_code, 4, (some .boolean))
def M_To_knows : xM := (⟨xR_To, "knows", "(III)Z"⟩, prog_11_method_3_code, 4, (some .boolean))
def M_To_price : xM := (⟨xR_To, "price", "(II)I"⟩, prog_11_method_4_code, 3, (some .int))
def M_To_areUnlike : xM := (⟨xR_To, "areUnlike", "(III)Z"⟩, prog_11_method_5_code, 3, (some .boolean))
def M_To_areNextInRing : xM := (⟨xR_To, "areNextInRing", "(III)Z"⟩, prog_11_method_6_code, 5, (some .boolean))
def M_Wa_init : xM := (⟨xR_Wa, "<init>", "(LThreesAtTable$Seats;LThreesAtTable$Standing;)V"⟩, prog_12_method_1_code, 3, none)
def M_Wa_fillAll : xM := (⟨xR_Wa, "fillAll", "(LThreesAtTable$Table;)V"⟩, prog_12_method_2_code, 3, none)
def M_Wa_fillFrom : xM := (⟨xR_Wa, "fillFrom", "(LThreesAtTable$Ways;IIII)V"⟩, prog_12_method_3_code, 8, none)
def M_Wa_drawAll : xM := (⟨xR_Wa, "drawAll", "(I)V"⟩, prog_12_method_4_code, 2, none)
def M_Wa_drawFrom : xM := (⟨xR_Wa, "drawFrom", "(LThreesAtTable$Ways;III)V"⟩, prog_12_method_5_code, 6, none)
def M_Ma_init : xM := (⟨xR_Ma, "<init>", "()V"⟩, prog_1_method_1_code, 2, none)
def M_Ma_sit : xM := (⟨xR_Ma, "sit", "(I)I"⟩, prog_1_method_2_code, 3, (some .int))
def M_Ma_meet : xM := (⟨xR_Ma, "meet", "(III)I"⟩, prog_1_method_3_code, 6, (some .int))
def M_Ma_told : xM := (⟨xR_Ma, "told", "(II)I"⟩, prog_1_method_4_code, 4, (some .int))
def M_Ma_town : xM := (⟨xR_Ma, "town", "(II)I"⟩, prog_1_method_5_code, 3, (some .int))
def M_Ma_asIn : xM := (⟨xR_Ma, "asIn", "(I)I"⟩, prog_1_method_6_code, 4, (some .int))
def M_Ma_tells : xM := (⟨xR_Ma, "tells", "(IIII)I"⟩, prog_1_method_7_code, 6, (some .int))
def M_Ma_isGuest : xM := (⟨xR_Ma, "isGuest", "(I)Z"⟩, prog_1_method_8_code, 2, (some .boolean))
def M_Ma_isWithin : xM := (⟨xR_Ma, "isWithin", "(II)Z"⟩, prog_1_method_9_code, 2, (some .boolean))
def M_Ma_pairNumber : xM := (⟨xR_Ma, "pairNumber", "(II)I"⟩, prog_1_method_10_code, 3, (some .int))
def M_Ma_townAt : xM := (⟨xR_Ma, "townAt", "(I)LThreesAtTable$Town;"⟩, prog_1_method_11_code, 2, (some (.object "ThreesAtTable$Town")))
def M_Ma_friendsIn : xM := (⟨xR_Ma, "friendsIn", "(LThreesAtTable$Town;)I"⟩, prog_1_method_12_code, 5, (some .int))
def M_Ma_feed : xM := (⟨xR_Ma, "feed", "(I)I"⟩, prog_1_method_13_code, 2, (some .int))
def M_Ma_text : xM := (⟨xR_Ma, "text", "()I"⟩, prog_1_method_14_code, 2, (some .int))
def M_Ma_force : xM := (⟨xR_Ma, "force", "(I)I"⟩, prog_1_method_15_code, 3, (some .int))
def M_Ma_keepText : xM := (⟨xR_Ma, "keepText", "()I"⟩, prog_1_method_16_code, 1, (some .int))
def M_Ma_learnFirstText : xM := (⟨xR_Ma, "learnFirstText", "()V"⟩, prog_1_method_17_code, 2, none)
def M_Ma_useText : xM := (⟨xR_Ma, "useText", "(I)V"⟩, prog_1_method_18_code, 2, none)
def M_Ma_threes : xM := (⟨xR_Ma, "threes", "(I)I"⟩, prog_1_method_19_code, 2, (some .int))
def M_Ma_guest : xM := (⟨xR_Ma, "guest", "(II)I"⟩, prog_1_method_20_code, 3, (some .int))
def M_Ma_most : xM := (⟨xR_Ma, "most", "()I"⟩, prog_1_method_21_code, 5, (some .int))
def M_Ma_threesNow : xM := (⟨xR_Ma, "threesNow", "()I"⟩, prog_1_method_22_code, 1, (some .int))
def M_Ma_firstThree : xM := (⟨xR_Ma, "firstThree", "()I"⟩, prog_1_method_23_code, 5, (some .int))
def M_Ma_byDegrees : xM := (⟨xR_Ma, "byDegrees", "()I"⟩, prog_1_method_24_code, 4, (some .int))
def M_Ma_threesOf : xM := (⟨xR_Ma, "threesOf", "(I)I"⟩, prog_1_method_25_code, 3, (some .int))
def M_Ma_home : xM := (⟨xR_Ma, "home", "(I)I"⟩, prog_1_method_26_code, 3, (some .int))
def M_Ma_change : xM := (⟨xR_Ma, "change", "(I)I"⟩, prog_1_method_27_code, 3, (some .int))
def M_Ma_noneLeft : xM := (⟨xR_Ma, "noneLeft", "(I)I"⟩, prog_1_method_28_code, 2, (some .int))
def M_Ma_sentHome : xM := (⟨xR_Ma, "sentHome", "()I"⟩, prog_1_method_29_code, 3, (some .int))
def M_Ma_leavesNone : xM := (⟨xR_Ma, "leavesNone", "(I)Z"⟩, prog_1_method_30_code, 3, (some .boolean))
def M_Ma_joyOf : xM := (⟨xR_Ma, "joyOf", "(I)I"⟩, prog_1_method_31_code, 4, (some .int))
def M_Ma_bestChange : xM := (⟨xR_Ma, "bestChange", "()I"⟩, prog_1_method_32_code, 6, (some .int))
def M_Ma_threesIfChanged : xM := (⟨xR_Ma, "threesIfChanged", "(I)I"⟩, prog_1_method_33_code, 2, (some .int))
def M_Ma_all : xM := (⟨xR_Ma, "all", "(II)I"⟩, prog_1_method_34_code, 7, (some .int))
def M_Ma_halved : xM := (⟨xR_Ma, "halved", "(I)I"⟩, prog_1_method_35_code, 6, (some .int))
def M_Ma_fours : xM := (⟨xR_Ma, "fours", "()I"⟩, prog_1_method_36_code, 5, (some .int))
def M_Ma_common : xM := (⟨xR_Ma, "common", "(I)I"⟩, prog_1_method_37_code, 4, (some .int))
def M_Ma_friendsWithin : xM := (⟨xR_Ma, "friendsWithin", "(I)I"⟩, prog_1_method_38_code, 2, (some .int))
def M_Ma_knownByBoth : xM := (⟨xR_Ma, "knownByBoth", "(II)I"⟩, prog_1_method_39_code, 3, (some .int))
def M_Ma_whoKnowsAll : xM := (⟨xR_Ma, "whoKnowsAll", "()I"⟩, prog_1_method_40_code, 2, (some .int))
def M_Ma_without : xM := (⟨xR_Ma, "without", "(II)I"⟩, prog_1_method_41_code, 3, (some .int))
def M_Ma_half : xM := (⟨xR_Ma, "half", "(I)I"⟩, prog_1_method_42_code, 2, (some .int))
def M_Ma_chance : xM := (⟨xR_Ma, "chance", "(I)J"⟩, prog_1_method_43_code, 5, (some .long))
def M_Ma_game : xM := (⟨xR_Ma, "game", "(I)I"⟩, prog_1_method_44_code, 2, (some .int))
def M_Ma_judge : xM := (⟨xR_Ma, "judge", "(II)I"⟩, prog_1_method_45_code, 8, (some .int))
def M_Ma_drawn : xM := (⟨xR_Ma, "drawn", "(I)I"⟩, prog_1_method_46_code, 5, (some .int))
def M_Ma_like : xM := (⟨xR_Ma, "like", "(I)I"⟩, prog_1_method_47_code, 6, (some .int))
def M_Ma_image : xM := (⟨xR_Ma, "image", "()I"⟩, prog_1_method_48_code, 1, (some .int))
def M_Ma_back : xM := (⟨xR_Ma, "back", "()I"⟩, prog_1_method_49_code, 1, (some .int))
def M_Ma_count : xM := (⟨xR_Ma, "count", "(I)I"⟩, prog_1_method_50_code, 2, (some .int))
def M_Ma_unseenPairs : xM := (⟨xR_Ma, "unseenPairs", "()I"⟩, prog_1_method_51_code, 1, (some .int))
def M_Ma_introduced : xM := (⟨xR_Ma, "introduced", "(I)I"⟩, prog_1_method_52_code, 2, (some .int))
def M_Ma_sheet : xM := (⟨xR_Ma, "sheet", "(III)I"⟩, prog_1_method_53_code, 5, (some .int))
def M_Ma_cell : xM := (⟨xR_Ma, "cell", "(III)I"⟩, prog_1_method_54_code, 5, (some .int))
def M_Ma_copy : xM := (⟨xR_Ma, "copy", "(IIIII)I"⟩, prog_1_method_55_code, 8, (some .int))
def M_Ma_pairs : xM := (⟨xR_Ma, "pairs", "(IIII)I"⟩, prog_1_method_56_code, 9, (some .int))
def M_Ma_taken : xM := (⟨xR_Ma, "taken", "(II)I"⟩, prog_1_method_57_code, 4, (some .int))
def M_Ma_sheetAt : xM := (⟨xR_Ma, "sheetAt", "(I)LThreesAtTable$Sheet;"⟩, prog_1_method_58_code, 2, (some (.object "ThreesAtTable$Sheet")))
def M_Mo_in : xM := (⟨xR_Mo, "in", "(JJJ)Z"⟩, prog_14_method_2_code, 6, (some .boolean))
def M_Mo_within : xM := (⟨xR_Mo, "within", "(III)I"⟩, prog_14_method_3_code, 3, (some .int))
def M_Mo_bitsOf : xM := (⟨xR_Mo, "bitsOf", "(I)I"⟩, prog_14_method_4_code, 3, (some .int))
def M_Mo_init : xM := (⟨xR_Mo, "<init>", "()V"⟩, prog_14_method_5_code, 1, none)
def M_Mo_spell : xM := (⟨xR_Mo, "spell", "(IIIIIIIII)V"⟩, prog_14_method_6_code, 10, none)
def M_Mo_isGuest : xM := (⟨xR_Mo, "isGuest", "(I)Z"⟩, prog_14_method_7_code, 2, (some .boolean))
def M_Mo_seat : xM := (⟨xR_Mo, "seat", "(II)I"⟩, prog_14_method_8_code, 2, (some .int))
def M_Mo_allOf : xM := (⟨xR_Mo, "allOf", "(I)I"⟩, prog_14_method_9_code, 1, (some .int))
def M_Mo_know : xM := (⟨xR_Mo, "know", "(II)Z"⟩, prog_14_method_10_code, 3, (some .boolean))
def M_Mo_isPair : xM := (⟨xR_Mo, "isPair", "(II)Z"⟩, prog_14_method_11_code, 3, (some .boolean))
def M_Mo_sit : xM := (⟨xR_Mo, "sit", "(I)I"⟩, prog_14_method_12_code, 3, (some .int))
def M_Mo_pairAt : xM := (⟨xR_Mo, "pairAt", "(I)I"⟩, prog_14_method_13_code, 2, (some .int))
def M_Mo_meet : xM := (⟨xR_Mo, "meet", "(III)I"⟩, prog_14_method_14_code, 6, (some .int))
def M_Mo_told : xM := (⟨xR_Mo, "told", "(II)I"⟩, prog_14_method_15_code, 3, (some .int))
def M_Mo_isTown : xM := (⟨xR_Mo, "isTown", "(I)Z"⟩, prog_14_method_16_code, 2, (some .boolean))
def M_Mo_town : xM := (⟨xR_Mo, "town", "(II)I"⟩, prog_14_method_17_code, 3, (some .int))
def M_Mo_isSo : xM := (⟨xR_Mo, "isSo", "(III)Z"⟩, prog_14_method_18_code, 8, (some .boolean))
def M_Mo_price : xM := (⟨xR_Mo, "price", "(III)I"⟩, prog_14_method_19_code, 7, (some .int))
def M_Mo_asIn : xM := (⟨xR_Mo, "asIn", "(I)I"⟩, prog_14_method_20_code, 4, (some .int))
def M_Mo_tells : xM := (⟨xR_Mo, "tells", "(IIII)I"⟩, prog_14_method_21_code, 5, (some .int))
def M_Mo_like : xM := (⟨xR_Mo, "like", "(I)I"⟩, prog_14_method_22_code, 6, (some .int))
def M_Mo_feed : xM := (⟨xR_Mo, "feed", "(I)I"⟩, prog_14_method_23_code, 2, (some .int))
def M_Mo_byteAt : xM := (⟨xR_Mo, "byteAt", "(I)I"⟩, prog_14_method_24_code, 2, (some .int))
def M_Mo_next : xM := (⟨xR_Mo, "next", "()V"⟩, prog_14_method_25_code, 3, none)
def M_Mo_fail : xM := (⟨xR_Mo, "fail", "()V"⟩, prog_14_method_26_code, 1, none)
def M_Mo_isLetter : xM := (⟨xR_Mo, "isLetter", "(II)Z"⟩, prog_14_method_27_code, 3, (some .boolean))
def M_Mo_isWord : xM := (⟨xR_Mo, "isWord", "(IIIIIIII)Z"⟩, prog_14_method_28_code, 9, (some .boolean))
def M_Mo_isSign : xM := (⟨xR_Mo, "isSign", "(I)Z"⟩, prog_14_method_29_code, 2, (some .boolean))
def M_Mo_opens : xM := (⟨xR_Mo, "opens", "()Z"⟩, prog_14_method_30_code, 1, (some .boolean))
def M_Mo_name : xM := (⟨xR_Mo, "name", "()I"⟩, prog_14_method_31_code, 1, (some .int))
def M_Mo_atom : xM := (⟨xR_Mo, "atom", "()I"⟩, prog_14_method_32_code, 2, (some .int))
def M_Mo_term : xM := (⟨xR_Mo, "term", "()I"⟩, prog_14_method_33_code, 2, (some .int))
def M_Mo_added : xM := (⟨xR_Mo, "added", "()I"⟩, prog_14_method_34_code, 4, (some .int))
def M_Mo_not : xM := (⟨xR_Mo, "not", "()I"⟩, prog_14_method_35_code, 4, (some .int))
def M_Mo_both : xM := (⟨xR_Mo, "both", "()I"⟩, prog_14_method_36_code, 3, (some .int))
def M_Mo_either : xM := (⟨xR_Mo, "either", "()I"⟩, prog_14_method_37_code, 3, (some .int))
def M_Mo_part : xM := (⟨xR_Mo, "part", "(Z)I"⟩, prog_14_method_38_code, 3, (some .int))
def M_Mo_read : xM := (⟨xR_Mo, "read", "(II)I"⟩, prog_14_method_39_code, 6, (some .int))
def M_Mo_text : xM := (⟨xR_Mo, "text", "()I"⟩, prog_14_method_40_code, 2, (some .int))
def M_Mo_force : xM := (⟨xR_Mo, "force", "(I)I"⟩, prog_14_method_41_code, 3, (some .int))
def M_Mo_says : xM := (⟨xR_Mo, "says", "(IIIIII)I"⟩, prog_14_method_42_code, 7, (some .int))
def M_Mo_gathers : xM := (⟨xR_Mo, "gathers", "()V"⟩, prog_14_method_43_code, 4, none)
def M_Mo_sortOf : xM := (⟨xR_Mo, "sortOf", "(III)I"⟩, prog_14_method_44_code, 4, (some .int))
def M_Mo_allThrees : xM := (⟨xR_Mo, "allThrees", "(II)I"⟩, prog_14_method_45_code, 5, (some .int))
def M_Mo_degree : xM := (⟨xR_Mo, "degree", "(I)I"⟩, prog_14_method_46_code, 4, (some .int))
def M_Mo_threes : xM := (⟨xR_Mo, "threes", "(I)I"⟩, prog_14_method_47_code, 7, (some .int))
def M_Mo_isIn : xM := (⟨xR_Mo, "isIn", "(II)Z"⟩, prog_14_method_48_code, 2, (some .boolean))
def M_Mo_threesOf : xM := (⟨xR_Mo, "threesOf", "(I)I"⟩, prog_14_method_49_code, 4, (some .int))
def M_Mo_joy : xM := (⟨xR_Mo, "joy", "(I)I"⟩, prog_14_method_50_code, 2, (some .int))
def M_Mo_guest : xM := (⟨xR_Mo, "guest", "(II)I"⟩, prog_14_method_51_code, 3, (some .int))
def M_Mo_most : xM := (⟨xR_Mo, "most", "()I"⟩, prog_14_method_52_code, 5, (some .int))
def M_Mo_meetsAll : xM := (⟨xR_Mo, "meetsAll", "(I)Z"⟩, prog_14_method_53_code, 5, (some .boolean))
def M_Mo_home : xM := (⟨xR_Mo, "home", "(I)I"⟩, prog_14_method_54_code, 5, (some .int))
def M_Mo_gathersCosts : xM := (⟨xR_Mo, "gathersCosts", "()V"⟩, prog_14_method_55_code, 4, none)
def M_Mo_change : xM := (⟨xR_Mo, "change", "(I)I"⟩, prog_14_method_56_code, 6, (some .int))
def M_Mo_leaves : xM := (⟨xR_Mo, "leaves", "(IIII)V"⟩, prog_14_method_57_code, 6, none)
def M_Mo_noneLeft : xM := (⟨xR_Mo, "noneLeft", "(I)I"⟩, prog_14_method_58_code, 3, (some .int))
def M_Mo_areAll : xM := (⟨xR_Mo, "areAll", "(II)Z"⟩, prog_14_method_59_code, 5, (some .boolean))
def M_Mo_all : xM := (⟨xR_Mo, "all", "(II)I"⟩, prog_14_method_60_code, 5, (some .int))
def M_Mo_halved : xM := (⟨xR_Mo, "halved", "(I)I"⟩, prog_14_method_61_code, 8, (some .int))
def M_Mo_ring : xM := (⟨xR_Mo, "ring", "(IIII)I"⟩, prog_14_method_62_code, 5, (some .int))
def M_Mo_fours : xM := (⟨xR_Mo, "fours", "()I"⟩, prog_14_method_63_code, 6, (some .int))
def M_Mo_common : xM := (⟨xR_Mo, "common", "(I)I"⟩, prog_14_method_64_code, 6, (some .int))
def M_Mo_without : xM := (⟨xR_Mo, "without", "(II)I"⟩, prog_14_method_65_code, 11, (some .int))
def M_Mo_unseen : xM := (⟨xR_Mo, "unseen", "()I"⟩, prog_14_method_66_code, 1, (some .int))
def M_Mo_waysWithout : xM := (⟨xR_Mo, "waysWithout", "()I"⟩, prog_14_method_67_code, 6, (some .int))
def M_Mo_half : xM := (⟨xR_Mo, "half", "(I)I"⟩, prog_14_method_68_code, 3, (some .int))
def M_Mo_chance : xM := (⟨xR_Mo, "chance", "(I)J"⟩, prog_14_method_69_code, 12, (some .long))
def M_Mo_hasThree : xM := (⟨xR_Mo, "hasThree", "(IIII)Z"⟩, prog_14_method_70_code, 7, (some .boolean))
def M_Mo_turn : xM := (⟨xR_Mo, "turn", "(IIII)I"⟩, prog_14_method_71_code, 7, (some .int))
def M_Mo_value : xM := (⟨xR_Mo, "value", "(III)I"⟩, prog_14_method_72_code, 7, (some .int))
def M_Mo_game : xM := (⟨xR_Mo, "game", "(I)I"⟩, prog_14_method_73_code, 4, (some .int))
def M_Mo_judge : xM := (⟨xR_Mo, "judge", "(II)I"⟩, prog_14_method_74_code, 10, (some .int))
def M_Mo_drawn : xM := (⟨xR_Mo, "drawn", "(I)I"⟩, prog_14_method_75_code, 5, (some .int))
def M_Mo_image : xM := (⟨xR_Mo, "image", "()I"⟩, prog_14_method_76_code, 1, (some .int))
def M_Mo_back : xM := (⟨xR_Mo, "back", "()I"⟩, prog_14_method_77_code, 1, (some .int))
def M_Mo_count : xM := (⟨xR_Mo, "count", "(I)I"⟩, prog_14_method_78_code, 2, (some .int))
def M_Mo_isSheet : xM := (⟨xR_Mo, "isSheet", "(I)Z"⟩, prog_14_method_79_code, 1, (some .boolean))
def M_Mo_sheet : xM := (⟨xR_Mo, "sheet", "(III)I"⟩, prog_14_method_80_code, 5, (some .int))
def M_Mo_cell : xM := (⟨xR_Mo, "cell", "(III)I"⟩, prog_14_method_81_code, 4, (some .int))
def M_Mo_copy : xM := (⟨xR_Mo, "copy", "(IIIII)I"⟩, prog_14_method_82_code, 9, (some .int))
def M_Mo_pairs : xM := (⟨xR_Mo, "pairs", "(IIII)I"⟩, prog_14_method_83_code, 8, (some .int))
def M_Mo_over : xM := (⟨xR_Mo, "over", "(I)I"⟩, prog_14_method_84_code, 1, (some .int))
def M_Mo_taken : xM := (⟨xR_Mo, "taken", "(II)I"⟩, prog_14_method_85_code, 4, (some .int))
def M_In_bitCount : xM := (⟨xR_In, "bitCount", "(I)I"⟩, prog_16_method_49_code, 1, (some .int))
def M_Mt_max : xM := (⟨xR_Mt, "max", "(II)I"⟩, prog_17_method_65_code, 2, (some .int))
def M_Mt_min : xM := (⟨xR_Mt, "min", "(II)I"⟩, prog_17_method_69_code, 2, (some .int))
def M_Sg_length : xM := (⟨xR_Sg, "length", "()I"⟩, prog_18_method_54_code, 1, (some .int))
def M_Sg_charAt : xM := (⟨xR_Sg, "charAt", "(I)C"⟩, prog_18_method_56_code, 2, (some .char))
def M_Sg_coder : xM := (⟨xR_Sg, "coder", "()B"⟩, prog_18_method_152_code, 1, (some .byte))
def M_Sg_isLatin1 : xM := (⟨xR_Sg, "isLatin1", "()Z"⟩, prog_18_method_154_code, 1, (some .boolean))
def M_Sg_checkIndex : xM := (⟨xR_Sg, "checkIndex", "(II)V"⟩, prog_18_method_155_code, 2, none)
def M_Sl_charAt : xM := (⟨xR_Sl, "charAt", "([BI)C"⟩, prog_19_method_2_code, 2, (some .char))
def M_Su_getChar : xM := (⟨xR_Su, "getChar", "([BI)C"⟩, prog_20_method_5_code, 2, (some .char))
def M_Su_length : xM := (⟨xR_Su, "length", "([B)I"⟩, prog_20_method_6_code, 1, (some .int))
def M_Su_charAt : xM := (⟨xR_Su, "charAt", "([BI)C"⟩, prog_20_method_83_code, 2, (some .char))
def M_Su_checkIndex : xM := (⟨xR_Su, "checkIndex", "(I[B)V"⟩, prog_20_method_91_code, 2, none)
def M_Ar_fill : xM := (⟨xR_Ar, "fill", "([II)V"⟩, prog_22_method_103_code, 4, none)
def M_Ar_copyOf : xM := (⟨xR_Ar, "copyOf", "([II)[I"⟩, prog_22_method_123_code, 3, (some (.array .int)))
def M_Pc_checkIndex : xM := (⟨xR_Pc, "checkIndex", "(IILjava/util/function/BiFunction;)I"⟩, prog_23_method_11_code, 3, (some .int))
def M_La_law : xM := (⟨xR_La, "law", "([I)Z"⟩, code, 4, some .boolean)
end
section
/-! a pure machine: values (ints, longs, places of the heap with 0 for null, things outside), and a heap of numbered places -/
abbrev xV : Type := Int32 ⊕ (Int64 ⊕ (Nat ⊕ Nat))
abbrev xI (v : Int32) : xV := Sum.inl v
abbrev xJ (v : Int64) : xV := Sum.inr (Sum.inl v)
abbrev xR (v : Nat) : xV := Sum.inr (Sum.inr (Sum.inl v))
abbrev xS (v : Nat) : xV := Sum.inr (Sum.inr (Sum.inr v))
abbrev xH : Type := Nat × (Nat → Nat) × (Nat → Nat) × (Nat → Nat → Int32) × (Nat → Nat → Nat)
def hN (h : xH) : Nat := h.1
def hK (h : xH) (p : Nat) : Nat := h.2.1 p
def hL (h : xH) (p : Nat) : Nat := h.2.2.1 p
def hI (h : xH) (p k : Nat) : Int32 := h.2.2.2.1 p k
def hR (h : xH) (p k : Nat) : Nat := h.2.2.2.2 p k
def hIu (h : xH) (p k : Nat) (v : Int32) : xH := (h.1, h.2.1, h.2.2.1, (fun q j => if q = p ∧ j = k then v else h.2.2.2.1 q j), h.2.2.2.2)
def hRu (h : xH) (p k v : Nat) : xH := (h.1, h.2.1, h.2.2.1, h.2.2.2.1, fun q j => if q = p ∧ j = k then v else h.2.2.2.2 q j)
def hIr (h : xH) (p : Nat) (f : Nat → Int32) : xH := (h.1, h.2.1, h.2.2.1, (fun q j => if q = p then f j else h.2.2.2.1 q j), h.2.2.2.2)
def hNw (h : xH) (kd ln : Nat) : xH := (h.1 + 1, (fun q => if q = h.1 then kd else h.2.1 q), (fun q => if q = h.1 then ln else h.2.2.1 q), (fun q j => if q = h.1 then 0 else h.2.2.2.1 q j), fun q j => if q = h.1 then 0 else h.2.2.2.2 q j)
/-- what outside things are: 0..13 texts, 14 the script, 15 the row ABOVE, 16..29 the texts' bytes, 31 the formatter -/
def x_ab (j : Nat) : Int32 := ([-1, 0, 0, 1, 2, 2] : List Int32).getD j 0
def x_len : List Nat := [35, 3, 5, 5, 4, 4, 4, 6, 5, 3, 2, 3, 3, 0]
def x_byt : List (List Int32) := [[99, 111, 117, 110, 116, 115, 32, 49, 32, 59, 32, 99, 111, 115, 116, 115, 32, 49, 32, 59, 32, 106, 111, 121, 32, 53, 32, 45, 32, 107, 110, 111, 119, 32, 59], [111, 110, 101], [111, 116, 104, 101, 114], [116, 104, 105, 114, 100], [107, 110, 111, 119], [115, 101, 101, 110], [109, 97, 110, 121], [99, 111, 117, 110, 116, 115], [99, 111, 115, 116, 115], [106, 111, 121], [111, 114], [97, 110, 100], [110, 111, 116], []]
def x_sl : List (String × Nat × String) := [("ThreesAtTable", 186, "counts 1 ; costs 1 ; joy 5 - know ;"), ("ThreesAtTable$Reader", 124, "one"), ("ThreesAtTable$Reader", 126, "other"), ("ThreesAtTable$Reader", 128, "third"), ("ThreesAtTable$Reader", 130, "know"), ("ThreesAtTable$Reader", 132, "seen"), ("ThreesAtTable$Reader", 134, "many"), ("ThreesAtTable$Reader", 136, "counts"), ("ThreesAtTable$Reader", 138, "costs"), ("ThreesAtTable$Reader", 140, "joy"), ("ThreesAtTable$Reader", 142, "or"), ("ThreesAtTable$Reader", 144, "and"), ("ThreesAtTable$Reader", 146, "not"), ("ThreesAtTable$Reader", 148, "")]
def x_nest : List (String × Nat × MethodName × String) := [("ThreesAtTable", 59, ⟨"ThreesAtTable$Reader", "<init>", "()V"⟩, "ThreesAtTable"), ("ThreesAtTable", 82, ⟨"ThreesAtTable$Sheet", "<init>", "()V"⟩, "ThreesAtTable")]
def x_ao : List String := ["ThreesAtTable$Text", "ThreesAtTable$Town", "ThreesAtTable$Sheet"]
abbrev xK : Type := (Nat → Nat) × Option Nat
def x_r (al : Nat → Nat) (p : Nat) : Option Nat := if p = 0 then none else some (al p)
def x_t (al : Nat → Nat) (ka : xK) (v : xV) : Value := match v with
  | .inl v => .int v
  | .inr (.inl v) => .long v
  | .inr (.inr (.inl p)) => va_rf (x_r al p)
  | .inr (.inr (.inr k)) => if k = 31 then va_rf ka.2 else .ref (ka.1 k)
def x_fv (al : Nat → Nat) (h : xH) (p : Nat) (t : FieldType) (k : Nat) : Value := match t with
  | .int => .int (hI h p k)
  | .boolean => .int (hI h p k)
  | .long => .long (hI h p k).toInt64
  | _ => va_rf (x_r al (hR h p k))
def x_fs (al : Nat → Nat) (h : xH) (p n : Nat) (t : Nat → FieldType) : List Value := (List.range n).map (fun k => x_fv al h p (t k) k)
def x_g (cA : Nat → ClassId) (al : Nat → Nat) (h : xH) (p : Nat) : va_E := match xcl[hK h p]? with
  | some q => .inr (hK h p, x_fs al h p q.1.2.2 q.2)
  | none => if hK h p = 12 ∨ hK h p = 13 then .inl (cA (hK h p), (hL h p, .inl (hI h p))) else .inl (cA (hK h p), (hL h p, .inr (.inr (.inr (.inr (fun j => x_r al (hR h p j)))))))
def x_w (cA : Nat → ClassId) (al : Nat → Nat) (h : xH) : va_W := (List.range (hN h - 1)).map (fun i => (al (i + 1), x_g cA al h (i + 1)))
def x_tys (cA : Nat → ClassId) : List (ClassId × FieldType) := [(cA 12, .int), (cA 13, .boolean), (cA 14, .object "ThreesAtTable$Text"), (cA 15, .object "ThreesAtTable$Town"), (cA 16, .object "ThreesAtTable$Sheet")]
def x_ok (h : xH) : Prop := 1 ≤ hN h ∧ (∀ p k, hR h p k < hN h) ∧ ∀ p, (p = 0 ∨ hN h ≤ p) → hK h p = 99
def x_vo (n : Nat) (v : xV) : Prop := match v with
  | .inr (.inr (.inl p)) => p < n
  | _ => True
abbrev xZ : Type := Nat × (Nat → Int32)
def x_Str (ka : xK) (z : xZ) (A : Nat → Prop) (s : State) : Prop :=
  vk_S 14 x_len x_byt ka.1 (fun i => ka.1 (16 + i)) A s s.heap ∧ (∀ (i : Nat) (q : String × Nat × String), x_sl[i]? = some q → vk_R q.1 q.2.1 q.2.2 (ka.1 i) s) ∧
  va_Z "java/lang/String" "COMPACT_STRINGS" "Z" (.int 1) A s s.heap ∧ va_Z "jdk/internal/util/Preconditions" "SIOOBE_FORMATTER" "Ljava/util/function/BiFunction;" (va_rf ka.2) A s s.heap ∧
  va_Z "ThreesAtTable$Town" "ABOVE" "[I" (.ref (ka.1 15)) A s s.heap ∧ va_T .int (ka.1 15) 6 (fun j => .int (x_ab j)) A s s.heap ∧
  va_X (ka.1 14) z.1 z.2 s s.heap ∧ ka.1 14 < s.heap.size ∧ ¬ A (ka.1 14) ∧ (∀ C ∈ x_ao, va_AO C s) ∧ va_Nw (.castable "[I" "java/lang/Cloneable") s ∧ ∀ q ∈ x_nest, va_Nw (.methodLinkNest q.1 q.2.1 q.2.2.1 q.2.2.2) s
theorem x_Str.same {ka : xK} {z : xZ} {A : Nat → Prop} {u U : State} (hv : U.vm = u.vm) (hh : U.heap = u.heap) (h : x_Str ka z A u) : x_Str ka z A U := by
  have hal : u.vm.Alike U.vm := by rw [hv]; exact Vm.Alike.refl u.vm
  obtain ⟨a1, a2, a3, a4, a5, a6, a7, a8, a9, a10⟩ := h
  unfold x_Str
  rw [hh]
  exact ⟨a1.moved hal, fun i q hq => (a2 i q hq).same hv, a3.moved hal, a4.moved hal, a5.moved hal, a6.moved hal, a7.moved hal, a8, a9, fun C hC => (a10.1 C hC).moved hal, va_tabs rfl hv.symm a10.2.1, fun q hq => va_tabs rfl hv.symm (a10.2.2 q hq)⟩
theorem x_Str.call {ka : xK} {z : xZ} {A B : Nat → Prop} {s U : State} {locs : List Loc} (h : x_Str ka z A s) (hW : s.WarmedH U.vm) (hS : va_S A s.heap U.heap locs) (hAB : ∀ q, B q → A q) : x_Str ka z B U := by
  obtain ⟨a1, a2, a3, a4, a5, a6, a7, a8, a9, a10⟩ := h
  have hal := hW.alike
  refine ⟨((a1.moved hal).kept hS.2.1).narrow hAB, fun i q hq => (a2 i q hq).warm hW, ((a3.moved hal).kept hS.2.1).narrow hAB, ((a4.moved hal).kept hS.2.1).narrow hAB, ((a5.moved hal).kept hS.2.1).narrow hAB, ((a6.moved hal).kept hS.2.1).narrow hAB, (a7.moved hal).kept (hS.2.1 _ a8 a9), Nat.lt_of_lt_of_le a8 hS.1, fun q => a9 (hAB _ q), fun C hC => (a10.1 C hC).moved hal, va_Nw.warmC hW a10.2.1, fun q hq => va_Nw.warmM hW (a10.2.2 q hq)⟩
/-! worlds of the pure heap -/
theorem x_w_at {cA : Nat → ClassId} {al : Nat → Nat} {h : xH} {p : Nat} (h0 : 0 < p) (h1 : p < hN h) : (x_w cA al h)[p - 1]? = some (al p, x_g cA al h p) := by
  unfold x_w
  rw [List.getElem?_map, List.getElem?_range (by omega)]
  show some (al (p - 1 + 1), x_g cA al h (p - 1 + 1)) = _
  rw [show p - 1 + 1 = p by omega]
theorem x_w_of {cA : Nat → ClassId} {al : Nat → Nat} {h : xH} {k : Nat} {q : Nat × va_E} (hk : (x_w cA al h)[k]? = some q) : k + 1 < hN h ∧ q = (al (k + 1), x_g cA al h (k + 1)) := by
  unfold x_w at hk
  rw [List.getElem?_map] at hk
  by_cases hl : k < hN h - 1
  · rw [List.getElem?_range hl] at hk
    exact ⟨by omega, (Option.some.inj hk).symm⟩
  · rw [List.getElem?_eq_none (by simp; omega)] at hk
    cases hk
theorem x_w_len {cA : Nat → ClassId} {al : Nat → Nat} {h : xH} : (x_w cA al h).length = hN h - 1 := by simp [x_w]
theorem x_w_set {cA : Nat → ClassId} {al : Nat → Nat} {h h2 : xH} {p : Nat} (hn : hN h2 = hN h) (h0 : 0 < p) (hq : ∀ q, q ≠ p → x_g cA al h2 q = x_g cA al h q) : (x_w cA al h).set (p - 1) (al p, x_g cA al h2 p) = x_w cA al h2 := by
  apply List.ext_getElem?
  intro k
  by_cases hk : k + 1 < hN h
  · rw [List.getElem?_set]
    have e2 : (x_w cA al h2)[k]? = some (al (k + 1), x_g cA al h2 (k + 1)) := x_w_at (p := k + 1) (by omega) (by omega)
    have e1 : (x_w cA al h)[k]? = some (al (k + 1), x_g cA al h (k + 1)) := x_w_at (p := k + 1) (by omega) hk
    rw [e2, e1]
    by_cases he : p - 1 = k
    · rw [if_pos he, if_pos (by rw [x_w_len]; omega), show k + 1 = p by omega]
    · rw [if_neg he, hq (k + 1) (by omega)]
  · rw [List.getElem?_eq_none (by rw [List.length_set, x_w_len]; omega), List.getElem?_eq_none (by rw [x_w_len]; omega)]
theorem x_w_push {cA : Nat → ClassId} {al : Nat → Nat} {h h2 : xH} {a : Nat} (hp : 1 ≤ hN h) (hn : hN h2 = hN h + 1) (hq : ∀ q, q < hN h → x_g cA (va_up al (hN h) a) h2 q = x_g cA al h q) : x_w cA al h ++ [(a, x_g cA (va_up al (hN h) a) h2 (hN h))] = x_w cA (va_up al (hN h) a) h2 := by
  apply List.ext_getElem?
  intro k
  by_cases hk : k + 1 < hN h
  · rw [List.getElem?_append_left (by rw [x_w_len]; omega)]
    have e2 : (x_w cA (va_up al (hN h) a) h2)[k]? = some (va_up al (hN h) a (k + 1), x_g cA (va_up al (hN h) a) h2 (k + 1)) := x_w_at (p := k + 1) (by omega) (by omega)
    have e1 : (x_w cA al h)[k]? = some (al (k + 1), x_g cA al h (k + 1)) := x_w_at (p := k + 1) (by omega) hk
    rw [e2, e1, hq _ hk]
    simp only [va_up, if_neg (show ¬ k + 1 = hN h by omega)]
  · by_cases hk2 : k + 1 = hN h
    · have e2 : (x_w cA (va_up al (hN h) a) h2)[k]? = some (va_up al (hN h) a (k + 1), x_g cA (va_up al (hN h) a) h2 (k + 1)) := x_w_at (p := k + 1) (by omega) (by omega)
      rw [e2, List.getElem?_append_right (by rw [x_w_len]; omega), x_w_len, show k - (hN h - 1) = 0 by omega, hk2]
      simp [va_up]
    · rw [List.getElem?_eq_none (by rw [List.length_append, x_w_len]; simp; omega), List.getElem?_eq_none (by rw [x_w_len]; omega)]
theorem x_ok.pos {h : xH} (ho : x_ok h) {p ci : Nat} (hk : hK h p = ci) (hc : ci < 99) : 0 < p ∧ p < hN h := by
  refine ⟨?_, ?_⟩
  · rcases Nat.eq_zero_or_pos p with q | q
    · have := ho.2.2 p (Or.inl q); omega
    · exact q
  · rcases Nat.lt_or_ge p (hN h) with q | q
    · exact q
    · have := ho.2.2 p (Or.inr q); omega
theorem x_C_at {ci : Nat} {q : vw_C × (Nat → FieldType)} (h : xcl[ci]? = some q) : xC[ci]? = some q.1 := by
  unfold xC
  rw [List.getElem?_map, h]
  rfl
theorem x_g_obj {cA : Nat → ClassId} {al : Nat → Nat} {h : xH} {p ci : Nat} {q : vw_C × (Nat → FieldType)} (hk : hK h p = ci) (hc : xcl[ci]? = some q) : x_g cA al h p = .inr (ci, x_fs al h p q.1.2.2 q.2) := by
  unfold x_g
  rw [hk, hc]
theorem x_g_int {cA : Nat → ClassId} {al : Nat → Nat} {h : xH} {p ci : Nat} (hk : hK h p = ci) (hc : ci = 12 ∨ ci = 13) : x_g cA al h p = .inl (cA ci, (hL h p, .inl (hI h p))) := by
  unfold x_g
  rw [hk]
  rcases hc with rfl | rfl <;> rfl
theorem x_g_ref {cA : Nat → ClassId} {al : Nat → Nat} {h : xH} {p ci : Nat} (hk : hK h p = ci) (hc : 14 ≤ ci ∧ ci ≤ 16) : x_g cA al h p = .inl (cA ci, (hL h p, .inr (.inr (.inr (.inr (fun j => x_r al (hR h p j))))))) := by
  unfold x_g
  rw [hk]
  have : ci = 14 ∨ ci = 15 ∨ ci = 16 := by omega
  rcases this with rfl | rfl | rfl <;> rfl
theorem x_fs_at {al : Nat → Nat} {h : xH} {p n k : Nat} {t : Nat → FieldType} (hk : k < n) : (x_fs al h p n t)[k]? = some (x_fv al h p (t k) k) := by
  unfold x_fs
  rw [List.getElem?_map, List.getElem?_range hk]
  rfl
theorem x_fs_len {al : Nat → Nat} {h : xH} {p n : Nat} {t : Nat → FieldType} : (x_fs al h p n t).length = n := by simp [x_fs]
theorem x_fs_set {al : Nat → Nat} {h h2 : xH} {p n k : Nat} {t : Nat → FieldType} (hj : ∀ j, j ≠ k → x_fv al h2 p (t j) j = x_fv al h p (t j) j) : (x_fs al h p n t).set k (x_fv al h2 p (t k) k) = x_fs al h2 p n t := by
  apply List.ext_getElem?
  intro j
  by_cases hl : j < n
  · rw [List.getElem?_set, x_fs_at hl, x_fs_at hl]
    by_cases he : k = j
    · subst he
      rw [if_pos rfl, if_pos (by rw [x_fs_len]; exact hl)]
    · rw [if_neg he, hj j (Ne.symm he)]
  · rw [List.getElem?_eq_none (by rw [List.length_set, x_fs_len]; omega), List.getElem?_eq_none (by rw [x_fs_len]; omega)]
/-! the judgement -/
def x_ws (M : xM) : List Cond := Cond.code M.1 M.2.1 M.2.2.1 M.2.2.2 :: xTB
def x_rm (d mc ms : Nat) : Room := { frames := d, cells := mc, slots := ms, locals := 40 * d }
def x_C (M : xM) (z : xZ) (p : Program) (s : State) (m : MethodId) (args : Array Value) (meth : Method) (c : Code) (D : va_G) (cA : Nat → ClassId) (ka : xK) (A : Nat → Prop) : Prop :=
  p.tables.exec = Jvm.exec ∧ c.code = M.2.1 ∧ c.maxLocals = M.2.2.1 ∧ meth.sig.returnType = M.2.2.2 ∧ s.vm.findClass M.1.cls = some m.cls ∧ (∀ w ∈ xTB, w.before args s = true) ∧ va_K D xC (x_tys cA) s ∧ meth.locks = false ∧
  (M.1.name = "<init>" → meth.name = "<init>") ∧ (∀ q, s.heap.size ≤ q → A q) ∧ x_Str ka z A s
def x_B (D : va_G) (cA : Nat → ClassId) (al : Nat → Nat) (A : Nat → Prop) (s : State) (h : xH) (H : Heap) (locs : List Loc) : Prop :=
  va_P D xC (x_w cA al h) H ∧ va_D A (x_w cA al h) ∧ va_S A s.heap H locs ∧ x_ok h
def x_L (al : Nat → Nat) (ka : xK) (np n : Nat) (lc : List (Option xV)) (ls : Array Slot) : Prop :=
  ls.size = n ∧ lv_wf ls ∧ ∀ (i : Nat) (v : xV), lc[i]? = some (some v) → ls[i]? = some (.val (x_t al ka v)) ∧ x_vo np v
/-- how a method ends: the instruction, the stack that it wants, the answer -/
def x_rr (ret : Option FieldType) (i : Instr) (st : List xV) (r : Option xV) : Prop := match ret with
  | none => i = .return_ ∧ st = [] ∧ r = none
  | some .long => i = .lreturn ∧ ∃ v, st = [xJ v] ∧ r = some (xJ v)
  | some (.object _) => i = .areturn ∧ ∃ v, st = [Sum.inr (Sum.inr v)] ∧ r = some (Sum.inr (Sum.inr v))
  | some (.array _) => i = .areturn ∧ ∃ v, st = [Sum.inr (Sum.inr v)] ∧ r = some (Sum.inr (Sum.inr v))
  | some .float => False
  | some .double => False
  | some t => i = .ireturn ∧ ∃ v v0, st = [xI v0] ∧ r = some (xI v) ∧ narrow t (.int v0) = .int v
def x_E (l : Launch) (M : xM) (p : Program) (e : Env) (R : Room) (s : State) (m : MethodId) (args : Array Value) (below : List Frame) (meth : Method) (c : Code) (D : va_G) (cA : Nat → ClassId) (ka : xK) (A : Nat → Prop) (Q : State → Prop) (n0 : Nat) (a0 : Nat → Nat) (mcT msT : Nat) (Ph : Option xV → xH → Prop) : Prop :=
  ∀ (H : Heap) (locs : List Loc) (cells slots : Nat) (al : Nat → Nat) (ls : Array Slot) (h : xH) (pc : Nat) (i : Instr) (st : List xV) (r : Option xV), cells ≤ mcT → slots ≤ msT → (∀ q, q < n0 → al q = a0 q) → n0 ≤ hN h → x_B D cA al A s h H locs →
    (∀ v, r = some v → x_vo (hN h) v) → Ph r h → decode M.2.1 pc = .ok (i, 1) → x_rr M.2.2.2 i st r → W p l e R s m args below meth c H locs cells slots Q (F0 m pc ls (st.map (x_t al ka)))
def Sx (l : Launch) (z : xZ) (d mc ms : Nat) (M : xM) (pc : Nat) (lc : List (Option xV)) (st : List xV) (h : xH) (Ph : Option xV → xH → Prop) : Prop :=
  ∀ (p : Program) (e : Env) (R : Room) (s : State) (m : MethodId) (args : Array Value) (below : List Frame) (meth : Method) (c : Code) (D : va_G) (cA : Nat → ClassId) (ka : xK) (A : Nat → Prop) (Q : State → Prop) (n0 : Nat) (a0 : Nat → Nat) (mcT msT : Nat),
    x_C M z p s m args meth c D cA ka A → (d ≤ R.frames ∧ 40 * d ≤ R.locals ∧ mcT ≤ R.cells ∧ msT ≤ R.slots) → x_E l M p e R s m args below meth c D cA ka A Q n0 a0 mcT msT Ph →
    ∀ (H : Heap) (locs : List Loc) (cells slots : Nat) (al : Nat → Nat) (ls : Array Slot), cells + mc ≤ mcT → slots + ms ≤ msT → (∀ q, q < n0 → al q = a0 q) → n0 ≤ hN h → x_B D cA al A s h H locs → x_L al ka (hN h) M.2.2.1 lc ls → (∀ v ∈ st, x_vo (hN h) v) →
      W p l e R s m args below meth c H locs cells slots Q (F0 m pc ls (st.map (x_t al ka)))
end
section
section XR
variable {l : Launch} {z : xZ} {d mc ms : Nat} {M : xM} {pc : Nat} {lc : List (Option xV)} {st : List xV} {h : xH} {Ph : Option xV → xH → Prop}
def jShl (x y : Int32) : Int32 := x <<< (y &&& 31)
def jShr (x y : Int32) : Int32 := x >>> (y &&& 31)
def jUshr (x y : Int32) : Int32 := (x.toUInt32 >>> (y.toUInt32 &&& Int32.toUInt32 31)).toInt32
def jRem (x y : Int32) : Int32 := x - x / y * y
def jRemL (x y : Int64) : Int64 := x - x / y * y
def jShlL (x : Int64) (y : Int32) : Int64 := x <<< (y.toInt64 &&& 63)
def jCmpL (x y : Int64) : Int32 := lg_cmp x y
def jB (x : Int32) : Int32 := x.toInt8.toInt32
def jS (x : Int32) : Int32 := x.toInt16.toInt32
def jCh (x : Int32) : Int32 := (x.toUInt32 % 65536).toInt32
theorem x_t_ref (al : Nat → Nat) (ka : xK) (v : Nat ⊕ Nat) : x_t al ka (Sum.inr (Sum.inr v)) = .null ∨ ∃ a, x_t al ka (Sum.inr (Sum.inr v)) = .ref a := by
  rcases v with v | v
  · exact va_rf_or _
  · show (if v = 31 then va_rf ka.2 else .ref (ka.1 v)) = .null ∨ ∃ a, (if v = 31 then va_rf ka.2 else .ref (ka.1 v)) = .ref a
    by_cases hv : v = 31
    · rw [if_pos hv]; exact va_rf_or _
    · rw [if_neg hv]; exact Or.inr ⟨_, rfl⟩
theorem x_t_cat1 (al : Nat → Nat) (ka : xK) (v : Nat ⊕ Nat) : (x_t al ka (Sum.inr (Sum.inr v))).category = 1 := by
  rcases x_t_ref al ka v with q | ⟨a, q⟩ <;> rw [q] <;> rfl
/-! the locals as a list of those that are known -/
def x_lv (al : Nat → Nat) (ka : xK) (lc : List (Option xV)) : List (Nat × Value) := (List.range lc.length).filterMap (fun j => match lc[j]? with
  | some (some v) => some (j, x_t al ka v)
  | _ => none)
theorem x_lv_in {al : Nat → Nat} {ka : xK} {lc : List (Option xV)} {j : Nat} {v : xV} (hj : lc[j]? = some (some v)) : (j, x_t al ka v) ∈ x_lv al ka lc := by
  refine List.mem_filterMap.mpr ⟨j, List.mem_range.mpr (List.getElem?_eq_some_iff.mp hj).1, ?_⟩
  simp only [hj]
theorem x_lv_of {al : Nat → Nat} {ka : xK} {lc : List (Option xV)} {q : Nat × Value} (hq : q ∈ x_lv al ka lc) : ∃ v, lc[q.1]? = some (some v) ∧ q.2 = x_t al ka v := by
  obtain ⟨j, -, hj⟩ := List.mem_filterMap.mp hq
  split at hj
  · next v hv =>
    cases hj
    exact ⟨v, hv, rfl⟩
  · cases hj
theorem x_L.has {al : Nat → Nat} {ka : xK} {np n : Nat} {ls : Array Slot} (h : x_L al ka np n lc ls) : lv_has ls n (x_lv al ka lc) := ⟨h.1, h.2.1, fun q hq => by
  obtain ⟨v, h3, h4⟩ := x_lv_of hq
  rw [h4]
  exact (h.2.2 _ _ h3).1⟩
def x_wide (v : Option (Option xV)) : Bool := match v with
  | some (some (Sum.inr (Sum.inl _))) => true
  | _ => false
def x_s0 (lc : List (Option xV)) (i : Nat) : List (Option xV) := match i with
  | 0 => lc
  | j + 1 => if x_wide lc[j]? = true then lc.set j none else lc
def x_s1 (lc : List (Option xV)) (i : Nat) (v : xV) : List (Option xV) := (x_s0 lc i).set i (some v)
def x_s2 (lc : List (Option xV)) (i : Nat) (v : xV) : List (Option xV) := ((x_s0 lc i).set (i + 1) none).set i (some v)
theorem x_s0_at {i j : Nat} {w : xV} (h : (x_s0 lc i)[j]? = some (some w)) : lc[j]? = some (some w) ∧ ¬ (j + 1 = i ∧ x_wide (some (some w)) = true) := by
  cases i with
  | zero => exact ⟨h, fun q => by omega⟩
  | succ k =>
    unfold x_s0 at h
    by_cases hw : x_wide lc[k]? = true
    · simp only [hw, if_true] at h
      rw [List.getElem?_set] at h
      by_cases hk : k = j
      · rw [if_pos hk] at h
        split at h <;> cases h
      · rw [if_neg hk] at h
        exact ⟨h, fun q => hk (by omega)⟩
    · simp only [hw] at h
      refine ⟨h, fun q => hw ?_⟩
      rw [show k = j by omega]
      have h' : lc[j]? = some (some w) := h
      rw [h']
      exact q.2
theorem x_s1_at {i j : Nat} {v w : xV} (h : (x_s1 lc i v)[j]? = some (some w)) : (j = i ∧ w = v) ∨ (j ≠ i ∧ lc[j]? = some (some w) ∧ ¬ (j + 1 = i ∧ x_wide (some (some w)) = true)) := by
  unfold x_s1 at h
  rw [List.getElem?_set] at h
  by_cases hk : i = j
  · rw [if_pos hk] at h
    split at h
    · cases h; exact Or.inl ⟨hk.symm, rfl⟩
    · cases h
  · rw [if_neg hk] at h
    exact Or.inr ⟨Ne.symm hk, x_s0_at h⟩
theorem x_s2_at {i j : Nat} {v w : xV} (h : (x_s2 lc i v)[j]? = some (some w)) : (j = i ∧ w = v) ∨ (j ≠ i ∧ j ≠ i + 1 ∧ lc[j]? = some (some w) ∧ ¬ (j + 1 = i ∧ x_wide (some (some w)) = true)) := by
  unfold x_s2 at h
  rw [List.getElem?_set] at h
  by_cases hk : i = j
  · rw [if_pos hk] at h
    split at h
    · cases h; exact Or.inl ⟨hk.symm, rfl⟩
    · cases h
  · rw [if_neg hk] at h
    rw [List.getElem?_set] at h
    by_cases hk1 : i + 1 = j
    · rw [if_pos hk1] at h
      split at h <;> cases h
    · rw [if_neg hk1] at h
      exact Or.inr ⟨Ne.symm hk, Ne.symm hk1, x_s0_at h⟩
theorem x_wide_t (al : Nat → Nat) (ka : xK) (w : xV) : (x_t al ka w).category = 2 ↔ x_wide (some (some w)) = true := by
  rcases w with w | w | w
  · exact ⟨fun h => (by cases h), fun h => (by cases h)⟩
  · exact ⟨fun _ => rfl, fun _ => rfl⟩
  · have := x_t_cat1 al ka w
    exact ⟨fun h => by omega, fun h => by cases h⟩
theorem x_L.st1 {al : Nat → Nat} {ka : xK} {np n i : Nat} {ls : Array Slot} {v : xV} (h : x_L al ka np n lc ls) (hv : x_vo np v) {ls2 : Array Slot} (h2 : lv_has ls2 n ((i, x_t al ka v) :: (x_lv al ka lc).filter (fun q => !(q.1 == i) && !(q.1 + 1 == i && q.2.category == 2)))) : x_L al ka np n (x_s1 lc i v) ls2 := by
  refine ⟨h2.1, h2.2.1, fun j w hj => ?_⟩
  rcases x_s1_at hj with ⟨rfl, rfl⟩ | ⟨e1, e2, e3⟩
  · exact ⟨h2.2.2 _ List.mem_cons_self, hv⟩
  · refine ⟨h2.2.2 (j, x_t al ka w) (List.mem_cons_of_mem _ (List.mem_filter.mpr ⟨x_lv_in e2, ?_⟩)), (h.2.2 j w e2).2⟩
    have e4 : ¬ (j + 1 = i ∧ (x_t al ka w).category = 2) := fun q => e3 ⟨q.1, (x_wide_t al ka w).mp q.2⟩
    simp only [Bool.and_eq_true, Bool.not_eq_true', beq_eq_false_iff_ne, Bool.and_eq_false_iff, ne_eq]
    refine ⟨e1, ?_⟩
    by_cases q : j + 1 = i
    · exact Or.inr (fun q2 => e4 ⟨q, q2⟩)
    · exact Or.inl q
theorem x_L.st2 {al : Nat → Nat} {ka : xK} {np n i : Nat} {ls : Array Slot} {v : xV} (h : x_L al ka np n lc ls) (hv : x_vo np v) {ls2 : Array Slot} (h2 : lv_has ls2 n ((i, x_t al ka v) :: (x_lv al ka lc).filter (fun q => !(q.1 == i) && (!(q.1 == i + 1) && !(q.1 + 1 == i && q.2.category == 2))))) : x_L al ka np n (x_s2 lc i v) ls2 := by
  refine ⟨h2.1, h2.2.1, fun j w hj => ?_⟩
  rcases x_s2_at hj with ⟨rfl, rfl⟩ | ⟨e1, e0, e2, e3⟩
  · exact ⟨h2.2.2 _ List.mem_cons_self, hv⟩
  · refine ⟨h2.2.2 (j, x_t al ka w) (List.mem_cons_of_mem _ (List.mem_filter.mpr ⟨x_lv_in e2, ?_⟩)), (h.2.2 j w e2).2⟩
    have e4 : ¬ (j + 1 = i ∧ (x_t al ka w).category = 2) := fun q => e3 ⟨q.1, (x_wide_t al ka w).mp q.2⟩
    simp only [Bool.and_eq_true, Bool.not_eq_true', beq_eq_false_iff_ne, Bool.and_eq_false_iff, ne_eq]
    refine ⟨e1, e0, ?_⟩
    by_cases q : j + 1 = i
    · exact Or.inr (fun q2 => e4 ⟨q, q2⟩)
    · exact Or.inl q
theorem sx_iconst {n : Int} {v : Int32} (hd : decode M.2.1 pc = .ok (.iconst n, 1)) (hc : Int32.ofInt n = v) (kk : Sx l z d mc ms M (pc + 1) lc (xI v :: st) h Ph) : Sx l z d mc ms M pc lc st h Ph := by
  intro p e R s m args below meth c D cA ka A Q n0 a0 mcT msT hC hR hE H locs cells slots al ls h1 h2 h3 h4 hB hL hv
  exact lv_iconst hC.1 hC.2.1 hd hc (kk p e R s m args below meth c D cA ka A Q n0 a0 mcT msT hC hR hE H locs cells slots al ls h1 h2 h3 h4 hB hL (List.forall_mem_cons.mpr ⟨trivial, hv⟩))
theorem sx_bipush {n : Int} {v : Int32} (hd : decode M.2.1 pc = .ok (.bipush n, 2)) (hc : (Int8.ofInt n).toInt32 = v) (kk : Sx l z d mc ms M (pc + 2) lc (xI v :: st) h Ph) : Sx l z d mc ms M pc lc st h Ph := by
  intro p e R s m args below meth c D cA ka A Q n0 a0 mcT msT hC hR hE H locs cells slots al ls h1 h2 h3 h4 hB hL hv
  exact lv_bipush hC.1 hC.2.1 hd hc (kk p e R s m args below meth c D cA ka A Q n0 a0 mcT msT hC hR hE H locs cells slots al ls h1 h2 h3 h4 hB hL (List.forall_mem_cons.mpr ⟨trivial, hv⟩))
theorem sx_sipush {n : Int} {v : Int32} (hd : decode M.2.1 pc = .ok (.sipush n, 3)) (hc : (Int16.ofInt n).toInt32 = v) (kk : Sx l z d mc ms M (pc + 3) lc (xI v :: st) h Ph) : Sx l z d mc ms M pc lc st h Ph := by
  intro p e R s m args below meth c D cA ka A Q n0 a0 mcT msT hC hR hE H locs cells slots al ls h1 h2 h3 h4 hB hL hv
  exact lv_sipush hC.1 hC.2.1 hd hc (kk p e R s m args below meth c D cA ka A Q n0 a0 mcT msT hC hR hE H locs cells slots al ls h1 h2 h3 h4 hB hL (List.forall_mem_cons.mpr ⟨trivial, hv⟩))
theorem sx_lconst {n : Fin 2} {v : Int64} (hd : decode M.2.1 pc = .ok (.lconst n, 1)) (hc : Int64.ofNat (n : Nat) = v) (kk : Sx l z d mc ms M (pc + 1) lc (xJ v :: st) h Ph) : Sx l z d mc ms M pc lc st h Ph := by
  intro p e R s m args below meth c D cA ka A Q n0 a0 mcT msT hC hR hE H locs cells slots al ls h1 h2 h3 h4 hB hL hv
  exact lv_lconst hC.1 hC.2.1 hd hc (kk p e R s m args below meth c D cA ka A Q n0 a0 mcT msT hC hR hE H locs cells slots al ls h1 h2 h3 h4 hB hL (List.forall_mem_cons.mpr ⟨trivial, hv⟩))
theorem sx_null  (hd : decode M.2.1 pc = .ok (.aconst_null, 1)) (kk : Sx l z d mc ms M (pc + 1) lc (xR 0 :: st) h Ph) : Sx l z d mc ms M pc lc st h Ph := by
  intro p e R s m args below meth c D cA ka A Q n0 a0 mcT msT hC hR hE H locs cells slots al ls h1 h2 h3 h4 hB hL hv
  exact lv_null hC.1 hC.2.1 hd (kk p e R s m args below meth c D cA ka A Q n0 a0 mcT msT hC hR hE H locs cells slots al ls h1 h2 h3 h4 hB hL (List.forall_mem_cons.mpr ⟨Nat.lt_of_lt_of_le Nat.zero_lt_one hB.2.2.2.1, hv⟩))
theorem sx_iload_n {k : Fin 4} {x : Int32} (hd : decode M.2.1 pc = .ok (.iload_n k, 1)) (hl : lc[(k : Nat)]? = some (some (xI x))) (kk : Sx l z d mc ms M (pc + 1) lc (xI x :: st) h Ph) : Sx l z d mc ms M pc lc st h Ph := by
  intro p e R s m args below meth c D cA ka A Q n0 a0 mcT msT hC hR hE H locs cells slots al ls h1 h2 h3 h4 hB hL hv
  exact lv_iload_n hC.1 hC.2.1 hd rfl (hL.2.2 _ _ hl).1 (kk p e R s m args below meth c D cA ka A Q n0 a0 mcT msT hC hR hE H locs cells slots al ls h1 h2 h3 h4 hB hL (List.forall_mem_cons.mpr ⟨trivial, hv⟩))
theorem sx_iload {i : Nat} {x : Int32} (hd : decode M.2.1 pc = .ok (.iload i, 2)) (hl : lc[i]? = some (some (xI x))) (kk : Sx l z d mc ms M (pc + 2) lc (xI x :: st) h Ph) : Sx l z d mc ms M pc lc st h Ph := by
  intro p e R s m args below meth c D cA ka A Q n0 a0 mcT msT hC hR hE H locs cells slots al ls h1 h2 h3 h4 hB hL hv
  exact lv_iload hC.1 hC.2.1 hd (hL.2.2 _ _ hl).1 (kk p e R s m args below meth c D cA ka A Q n0 a0 mcT msT hC hR hE H locs cells slots al ls h1 h2 h3 h4 hB hL (List.forall_mem_cons.mpr ⟨trivial, hv⟩))
theorem sx_lload_n {k : Fin 4} {x : Int64} (hd : decode M.2.1 pc = .ok (.lload_n k, 1)) (hl : lc[(k : Nat)]? = some (some (xJ x))) (kk : Sx l z d mc ms M (pc + 1) lc (xJ x :: st) h Ph) : Sx l z d mc ms M pc lc st h Ph := by
  intro p e R s m args below meth c D cA ka A Q n0 a0 mcT msT hC hR hE H locs cells slots al ls h1 h2 h3 h4 hB hL hv
  exact lv_lload_n hC.1 hC.2.1 hd rfl (hL.2.2 _ _ hl).1 (kk p e R s m args below meth c D cA ka A Q n0 a0 mcT msT hC hR hE H locs cells slots al ls h1 h2 h3 h4 hB hL (List.forall_mem_cons.mpr ⟨trivial, hv⟩))
theorem sx_lload {i : Nat} {x : Int64} (hd : decode M.2.1 pc = .ok (.lload i, 2)) (hl : lc[i]? = some (some (xJ x))) (kk : Sx l z d mc ms M (pc + 2) lc (xJ x :: st) h Ph) : Sx l z d mc ms M pc lc st h Ph := by
  intro p e R s m args below meth c D cA ka A Q n0 a0 mcT msT hC hR hE H locs cells slots al ls h1 h2 h3 h4 hB hL hv
  exact lv_lload hC.1 hC.2.1 hd (hL.2.2 _ _ hl).1 (kk p e R s m args below meth c D cA ka A Q n0 a0 mcT msT hC hR hE H locs cells slots al ls h1 h2 h3 h4 hB hL (List.forall_mem_cons.mpr ⟨trivial, hv⟩))
theorem sx_aload_n {k : Fin 4} {v : Nat ⊕ Nat} (hd : decode M.2.1 pc = .ok (.aload_n k, 1)) (hl : lc[(k : Nat)]? = some (some (Sum.inr (Sum.inr v)))) (kk : Sx l z d mc ms M (pc + 1) lc (Sum.inr (Sum.inr v) :: st) h Ph) : Sx l z d mc ms M pc lc st h Ph := by
  intro p e R s m args below meth c D cA ka A Q n0 a0 mcT msT hC hR hE H locs cells slots al ls h1 h2 h3 h4 hB hL hv
  have hq := hL.2.2 _ _ hl
  have kk9 := (kk p e R s m args below meth c D cA ka A Q n0 a0 mcT msT hC hR hE H locs cells slots al ls h1 h2 h3 h4 hB hL (List.forall_mem_cons.mpr ⟨hq.2, hv⟩))
  rw [List.map_cons] at kk9
  rcases x_t_ref al ka v with q | ⟨a, q⟩ <;> rw [q] at hq kk9
  · exact lv_aload_nN hC.1 hC.2.1 hd rfl hq.1 kk9
  · exact lv_aload_n hC.1 hC.2.1 hd rfl hq.1 kk9
theorem sx_aload {i : Nat} {v : Nat ⊕ Nat} (hd : decode M.2.1 pc = .ok (.aload i, 2)) (hl : lc[i]? = some (some (Sum.inr (Sum.inr v)))) (kk : Sx l z d mc ms M (pc + 2) lc (Sum.inr (Sum.inr v) :: st) h Ph) : Sx l z d mc ms M pc lc st h Ph := by
  intro p e R s m args below meth c D cA ka A Q n0 a0 mcT msT hC hR hE H locs cells slots al ls h1 h2 h3 h4 hB hL hv
  have hq := hL.2.2 _ _ hl
  have kk9 := (kk p e R s m args below meth c D cA ka A Q n0 a0 mcT msT hC hR hE H locs cells slots al ls h1 h2 h3 h4 hB hL (List.forall_mem_cons.mpr ⟨hq.2, hv⟩))
  rw [List.map_cons] at kk9
  rcases x_t_ref al ka v with q | ⟨a, q⟩ <;> rw [q] at hq kk9
  · exact lv_aloadN hC.1 hC.2.1 hd hq.1 kk9
  · exact lv_aload hC.1 hC.2.1 hd hq.1 kk9
theorem sx_istore_n {k : Fin 4} {x : Int32} (hd : decode M.2.1 pc = .ok (.istore_n k, 1)) (hi : (k : Nat) < M.2.2.1) (kk : Sx l z d mc ms M (pc + 1) (x_s1 lc (k : Nat) (xI x)) st h Ph) : Sx l z d mc ms M pc lc (xI x :: st) h Ph := by
  intro p e R s m args below meth c D cA ka A Q n0 a0 mcT msT hC hR hE H locs cells slots al ls h1 h2 h3 h4 hB hL hv
  exact lv_istore_n hC.1 hC.2.1 hd rfl hL.has hi rfl (fun ls2 hl2 => (kk p e R s m args below meth c D cA ka A Q n0 a0 mcT msT hC hR hE H locs cells slots al ls2 h1 h2 h3 h4 hB (hL.st1 (v := xI x) trivial hl2) (fun v hm => hv v (List.mem_cons_of_mem _ hm))))
theorem sx_lstore_n {k : Fin 4} {x : Int64} (hd : decode M.2.1 pc = .ok (.lstore_n k, 1)) (hi : (k : Nat) + 1 < M.2.2.1) (kk : Sx l z d mc ms M (pc + 1) (x_s2 lc (k : Nat) (xJ x)) st h Ph) : Sx l z d mc ms M pc lc (xJ x :: st) h Ph := by
  intro p e R s m args below meth c D cA ka A Q n0 a0 mcT msT hC hR hE H locs cells slots al ls h1 h2 h3 h4 hB hL hv
  exact lv_lstore_n hC.1 hC.2.1 hd rfl hL.has hi rfl (fun ls2 hl2 => (kk p e R s m args below meth c D cA ka A Q n0 a0 mcT msT hC hR hE H locs cells slots al ls2 h1 h2 h3 h4 hB (hL.st2 (v := xJ x) trivial hl2) (fun v hm => hv v (List.mem_cons_of_mem _ hm))))
theorem sx_astore_n {k : Fin 4} {v : Nat ⊕ Nat} (hd : decode M.2.1 pc = .ok (.astore_n k, 1)) (hi : (k : Nat) < M.2.2.1) (kk : Sx l z d mc ms M (pc + 1) (x_s1 lc (k : Nat) (Sum.inr (Sum.inr v))) st h Ph) : Sx l z d mc ms M pc lc (Sum.inr (Sum.inr v) :: st) h Ph := by
  intro p e R s m args below meth c D cA ka A Q n0 a0 mcT msT hC hR hE H locs cells slots al ls h1 h2 h3 h4 hB hL hv
  have hvo := hv _ List.mem_cons_self
  rw [List.map_cons]
  have kk9 := fun (ls2 : Array Slot) (hl2 : lv_has ls2 M.2.2.1 (((k : Nat), x_t al ka (Sum.inr (Sum.inr v))) :: (x_lv al ka lc).filter (fun q => !(q.1 == (k : Nat)) && !(q.1 + 1 == (k : Nat) && q.2.category == 2)))) => (kk p e R s m args below meth c D cA ka A Q n0 a0 mcT msT hC hR hE H locs cells slots al ls2 h1 h2 h3 h4 hB (hL.st1 hvo hl2) (fun v hm => hv v (List.mem_cons_of_mem _ hm)))
  rcases x_t_ref al ka v with q | ⟨a, q⟩ <;> rw [q] at kk9 ⊢
  · exact lv_astore_nN hC.1 hC.2.1 hd rfl hL.has hi rfl kk9
  · exact lv_astore_n hC.1 hC.2.1 hd rfl hL.has hi rfl kk9
theorem sx_istore {i : Nat} {x : Int32} (hd : decode M.2.1 pc = .ok (.istore i, 2)) (hi : i < M.2.2.1) (kk : Sx l z d mc ms M (pc + 2) (x_s1 lc i (xI x)) st h Ph) : Sx l z d mc ms M pc lc (xI x :: st) h Ph := by
  intro p e R s m args below meth c D cA ka A Q n0 a0 mcT msT hC hR hE H locs cells slots al ls h1 h2 h3 h4 hB hL hv
  exact lv_istore hC.1 hC.2.1 hd hL.has hi rfl (fun ls2 hl2 => (kk p e R s m args below meth c D cA ka A Q n0 a0 mcT msT hC hR hE H locs cells slots al ls2 h1 h2 h3 h4 hB (hL.st1 (v := xI x) trivial hl2) (fun v hm => hv v (List.mem_cons_of_mem _ hm))))
theorem sx_lstore {i : Nat} {x : Int64} (hd : decode M.2.1 pc = .ok (.lstore i, 2)) (hi : i + 1 < M.2.2.1) (kk : Sx l z d mc ms M (pc + 2) (x_s2 lc i (xJ x)) st h Ph) : Sx l z d mc ms M pc lc (xJ x :: st) h Ph := by
  intro p e R s m args below meth c D cA ka A Q n0 a0 mcT msT hC hR hE H locs cells slots al ls h1 h2 h3 h4 hB hL hv
  exact lv_lstore hC.1 hC.2.1 hd hL.has hi rfl (fun ls2 hl2 => (kk p e R s m args below meth c D cA ka A Q n0 a0 mcT msT hC hR hE H locs cells slots al ls2 h1 h2 h3 h4 hB (hL.st2 (v := xJ x) trivial hl2) (fun v hm => hv v (List.mem_cons_of_mem _ hm))))
theorem sx_astore {i : Nat} {v : Nat ⊕ Nat} (hd : decode M.2.1 pc = .ok (.astore i, 2)) (hi : i < M.2.2.1) (kk : Sx l z d mc ms M (pc + 2) (x_s1 lc i (Sum.inr (Sum.inr v))) st h Ph) : Sx l z d mc ms M pc lc (Sum.inr (Sum.inr v) :: st) h Ph := by
  intro p e R s m args below meth c D cA ka A Q n0 a0 mcT msT hC hR hE H locs cells slots al ls h1 h2 h3 h4 hB hL hv
  have hvo := hv _ List.mem_cons_self
  rw [List.map_cons]
  have kk9 := fun (ls2 : Array Slot) (hl2 : lv_has ls2 M.2.2.1 ((i, x_t al ka (Sum.inr (Sum.inr v))) :: (x_lv al ka lc).filter (fun q => !(q.1 == i) && !(q.1 + 1 == i && q.2.category == 2)))) => (kk p e R s m args below meth c D cA ka A Q n0 a0 mcT msT hC hR hE H locs cells slots al ls2 h1 h2 h3 h4 hB (hL.st1 hvo hl2) (fun v hm => hv v (List.mem_cons_of_mem _ hm)))
  rcases x_t_ref al ka v with q | ⟨a, q⟩ <;> rw [q] at kk9 ⊢
  · exact lv_astoreN hC.1 hC.2.1 hd hL.has hi rfl kk9
  · exact lv_astore hC.1 hC.2.1 hd hL.has hi rfl kk9
theorem sx_iinc {i : Nat} {n : Int} {x v : Int32} (hd : decode M.2.1 pc = .ok (.iinc i n, 3)) (hl : lc[i]? = some (some (xI x))) (hc : Int32.ofInt n = v) (hi : i < M.2.2.1) (kk : Sx l z d mc ms M (pc + 3) (x_s1 lc i (xI (x + v))) st h Ph) : Sx l z d mc ms M pc lc st h Ph := by
  intro p e R s m args below meth c D cA ka A Q n0 a0 mcT msT hC hR hE H locs cells slots al ls h1 h2 h3 h4 hB hL hv
  obtain ⟨j, hj⟩ := List.getElem?_of_mem (x_lv_in (al := al) (ka := ka) hl)
  exact lv_iinc hC.1 hC.2.1 hd hL.has hj (by rw [hc]) hi rfl (fun ls2 hl2 => (kk p e R s m args below meth c D cA ka A Q n0 a0 mcT msT hC hR hE H locs cells slots al ls2 h1 h2 h3 h4 hB (hL.st1 (v := xI (x + v)) trivial hl2) hv))
theorem sx_iadd {x y : Int32} (hd : decode M.2.1 pc = .ok (.iadd, 1)) (kk : Sx l z d mc ms M (pc + 1) lc (xI (x + y) :: st) h Ph) : Sx l z d mc ms M pc lc (xI y :: xI x :: st) h Ph := by
  intro p e R s m args below meth c D cA ka A Q n0 a0 mcT msT hC hR hE H locs cells slots al ls h1 h2 h3 h4 hB hL hv
  exact lv_iadd hC.1 hC.2.1 hd (kk p e R s m args below meth c D cA ka A Q n0 a0 mcT msT hC hR hE H locs cells slots al ls h1 h2 h3 h4 hB hL (List.forall_mem_cons.mpr ⟨trivial, (fun v hm => hv v (List.mem_cons_of_mem _ (List.mem_cons_of_mem _ hm)))⟩))
theorem sx_isub {x y : Int32} (hd : decode M.2.1 pc = .ok (.isub, 1)) (kk : Sx l z d mc ms M (pc + 1) lc (xI (x - y) :: st) h Ph) : Sx l z d mc ms M pc lc (xI y :: xI x :: st) h Ph := by
  intro p e R s m args below meth c D cA ka A Q n0 a0 mcT msT hC hR hE H locs cells slots al ls h1 h2 h3 h4 hB hL hv
  exact lv_isub hC.1 hC.2.1 hd (kk p e R s m args below meth c D cA ka A Q n0 a0 mcT msT hC hR hE H locs cells slots al ls h1 h2 h3 h4 hB hL (List.forall_mem_cons.mpr ⟨trivial, (fun v hm => hv v (List.mem_cons_of_mem _ (List.mem_cons_of_mem _ hm)))⟩))
theorem sx_imul {x y : Int32} (hd : decode M.2.1 pc = .ok (.imul, 1)) (kk : Sx l z d mc ms M (pc + 1) lc (xI (x * y) :: st) h Ph) : Sx l z d mc ms M pc lc (xI y :: xI x :: st) h Ph := by
  intro p e R s m args below meth c D cA ka A Q n0 a0 mcT msT hC hR hE H locs cells slots al ls h1 h2 h3 h4 hB hL hv
  exact lv_imul hC.1 hC.2.1 hd (kk p e R s m args below meth c D cA ka A Q n0 a0 mcT msT hC hR hE H locs cells slots al ls h1 h2 h3 h4 hB hL (List.forall_mem_cons.mpr ⟨trivial, (fun v hm => hv v (List.mem_cons_of_mem _ (List.mem_cons_of_mem _ hm)))⟩))
theorem sx_iand {x y : Int32} (hd : decode M.2.1 pc = .ok (.iand, 1)) (kk : Sx l z d mc ms M (pc + 1) lc (xI (x &&& y) :: st) h Ph) : Sx l z d mc ms M pc lc (xI y :: xI x :: st) h Ph := by
  intro p e R s m args below meth c D cA ka A Q n0 a0 mcT msT hC hR hE H locs cells slots al ls h1 h2 h3 h4 hB hL hv
  exact lv_iand hC.1 hC.2.1 hd (kk p e R s m args below meth c D cA ka A Q n0 a0 mcT msT hC hR hE H locs cells slots al ls h1 h2 h3 h4 hB hL (List.forall_mem_cons.mpr ⟨trivial, (fun v hm => hv v (List.mem_cons_of_mem _ (List.mem_cons_of_mem _ hm)))⟩))
theorem sx_ior {x y : Int32} (hd : decode M.2.1 pc = .ok (.ior, 1)) (kk : Sx l z d mc ms M (pc + 1) lc (xI (x ||| y) :: st) h Ph) : Sx l z d mc ms M pc lc (xI y :: xI x :: st) h Ph := by
  intro p e R s m args below meth c D cA ka A Q n0 a0 mcT msT hC hR hE H locs cells slots al ls h1 h2 h3 h4 hB hL hv
  exact lv_ior hC.1 hC.2.1 hd (kk p e R s m args below meth c D cA ka A Q n0 a0 mcT msT hC hR hE H locs cells slots al ls h1 h2 h3 h4 hB hL (List.forall_mem_cons.mpr ⟨trivial, (fun v hm => hv v (List.mem_cons_of_mem _ (List.mem_cons_of_mem _ hm)))⟩))
theorem sx_ixor {x y : Int32} (hd : decode M.2.1 pc = .ok (.ixor, 1)) (kk : Sx l z d mc ms M (pc + 1) lc (xI (x ^^^ y) :: st) h Ph) : Sx l z d mc ms M pc lc (xI y :: xI x :: st) h Ph := by
  intro p e R s m args below meth c D cA ka A Q n0 a0 mcT msT hC hR hE H locs cells slots al ls h1 h2 h3 h4 hB hL hv
  exact lv_ixor hC.1 hC.2.1 hd (kk p e R s m args below meth c D cA ka A Q n0 a0 mcT msT hC hR hE H locs cells slots al ls h1 h2 h3 h4 hB hL (List.forall_mem_cons.mpr ⟨trivial, (fun v hm => hv v (List.mem_cons_of_mem _ (List.mem_cons_of_mem _ hm)))⟩))
theorem sx_ishl {x y : Int32} (hd : decode M.2.1 pc = .ok (.ishl, 1)) (kk : Sx l z d mc ms M (pc + 1) lc (xI (jShl x y) :: st) h Ph) : Sx l z d mc ms M pc lc (xI y :: xI x :: st) h Ph := by
  intro p e R s m args below meth c D cA ka A Q n0 a0 mcT msT hC hR hE H locs cells slots al ls h1 h2 h3 h4 hB hL hv
  exact lv_ishl hC.1 hC.2.1 hd (kk p e R s m args below meth c D cA ka A Q n0 a0 mcT msT hC hR hE H locs cells slots al ls h1 h2 h3 h4 hB hL (List.forall_mem_cons.mpr ⟨trivial, (fun v hm => hv v (List.mem_cons_of_mem _ (List.mem_cons_of_mem _ hm)))⟩))
theorem sx_ishr {x y : Int32} (hd : decode M.2.1 pc = .ok (.ishr, 1)) (kk : Sx l z d mc ms M (pc + 1) lc (xI (jShr x y) :: st) h Ph) : Sx l z d mc ms M pc lc (xI y :: xI x :: st) h Ph := by
  intro p e R s m args below meth c D cA ka A Q n0 a0 mcT msT hC hR hE H locs cells slots al ls h1 h2 h3 h4 hB hL hv
  exact lv_ishr hC.1 hC.2.1 hd (kk p e R s m args below meth c D cA ka A Q n0 a0 mcT msT hC hR hE H locs cells slots al ls h1 h2 h3 h4 hB hL (List.forall_mem_cons.mpr ⟨trivial, (fun v hm => hv v (List.mem_cons_of_mem _ (List.mem_cons_of_mem _ hm)))⟩))
theorem sx_iushr {x y : Int32} (hd : decode M.2.1 pc = .ok (.iushr, 1)) (kk : Sx l z d mc ms M (pc + 1) lc (xI (jUshr x y) :: st) h Ph) : Sx l z d mc ms M pc lc (xI y :: xI x :: st) h Ph := by
  intro p e R s m args below meth c D cA ka A Q n0 a0 mcT msT hC hR hE H locs cells slots al ls h1 h2 h3 h4 hB hL hv
  exact lv_iushr hC.1 hC.2.1 hd rfl (kk p e R s m args below meth c D cA ka A Q n0 a0 mcT msT hC hR hE H locs cells slots al ls h1 h2 h3 h4 hB hL (List.forall_mem_cons.mpr ⟨trivial, (fun v hm => hv v (List.mem_cons_of_mem _ (List.mem_cons_of_mem _ hm)))⟩))
theorem sx_ineg {x : Int32} (hd : decode M.2.1 pc = .ok (.ineg, 1)) (kk : Sx l z d mc ms M (pc + 1) lc (xI (-x) :: st) h Ph) : Sx l z d mc ms M pc lc (xI x :: st) h Ph := by
  intro p e R s m args below meth c D cA ka A Q n0 a0 mcT msT hC hR hE H locs cells slots al ls h1 h2 h3 h4 hB hL hv
  exact lv_ineg hC.1 hC.2.1 hd (kk p e R s m args below meth c D cA ka A Q n0 a0 mcT msT hC hR hE H locs cells slots al ls h1 h2 h3 h4 hB hL (List.forall_mem_cons.mpr ⟨trivial, (fun v hm => hv v (List.mem_cons_of_mem _ hm))⟩))
theorem sx_idiv {x y : Int32} (hd : decode M.2.1 pc = .ok (.idiv, 1)) (hy : ¬ y = 0) (kk : Sx l z d mc ms M (pc + 1) lc (xI (x / y) :: st) h Ph) : Sx l z d mc ms M pc lc (xI y :: xI x :: st) h Ph := by
  intro p e R s m args below meth c D cA ka A Q n0 a0 mcT msT hC hR hE H locs cells slots al ls h1 h2 h3 h4 hB hL hv
  exact lv_idiv hC.1 hC.2.1 hd hy (kk p e R s m args below meth c D cA ka A Q n0 a0 mcT msT hC hR hE H locs cells slots al ls h1 h2 h3 h4 hB hL (List.forall_mem_cons.mpr ⟨trivial, (fun v hm => hv v (List.mem_cons_of_mem _ (List.mem_cons_of_mem _ hm)))⟩))
theorem sx_irem {x y : Int32} (hd : decode M.2.1 pc = .ok (.irem, 1)) (hy : ¬ y = 0) (kk : Sx l z d mc ms M (pc + 1) lc (xI (jRem x y) :: st) h Ph) : Sx l z d mc ms M pc lc (xI y :: xI x :: st) h Ph := by
  intro p e R s m args below meth c D cA ka A Q n0 a0 mcT msT hC hR hE H locs cells slots al ls h1 h2 h3 h4 hB hL hv
  exact lv_irem hC.1 hC.2.1 hd hy (kk p e R s m args below meth c D cA ka A Q n0 a0 mcT msT hC hR hE H locs cells slots al ls h1 h2 h3 h4 hB hL (List.forall_mem_cons.mpr ⟨trivial, (fun v hm => hv v (List.mem_cons_of_mem _ (List.mem_cons_of_mem _ hm)))⟩))
theorem sx_ladd {x y : Int64} (hd : decode M.2.1 pc = .ok (.ladd, 1)) (kk : Sx l z d mc ms M (pc + 1) lc (xJ (x + y) :: st) h Ph) : Sx l z d mc ms M pc lc (xJ y :: xJ x :: st) h Ph := by
  intro p e R s m args below meth c D cA ka A Q n0 a0 mcT msT hC hR hE H locs cells slots al ls h1 h2 h3 h4 hB hL hv
  exact lv_ladd hC.1 hC.2.1 hd (kk p e R s m args below meth c D cA ka A Q n0 a0 mcT msT hC hR hE H locs cells slots al ls h1 h2 h3 h4 hB hL (List.forall_mem_cons.mpr ⟨trivial, (fun v hm => hv v (List.mem_cons_of_mem _ (List.mem_cons_of_mem _ hm)))⟩))
theorem sx_lsub {x y : Int64} (hd : decode M.2.1 pc = .ok (.lsub, 1)) (kk : Sx l z d mc ms M (pc + 1) lc (xJ (x - y) :: st) h Ph) : Sx l z d mc ms M pc lc (xJ y :: xJ x :: st) h Ph := by
  intro p e R s m args below meth c D cA ka A Q n0 a0 mcT msT hC hR hE H locs cells slots al ls h1 h2 h3 h4 hB hL hv
  exact lv_lsub hC.1 hC.2.1 hd (kk p e R s m args below meth c D cA ka A Q n0 a0 mcT msT hC hR hE H locs cells slots al ls h1 h2 h3 h4 hB hL (List.forall_mem_cons.mpr ⟨trivial, (fun v hm => hv v (List.mem_cons_of_mem _ (List.mem_cons_of_mem _ hm)))⟩))
theorem sx_lmul {x y : Int64} (hd : decode M.2.1 pc = .ok (.lmul, 1)) (kk : Sx l z d mc ms M (pc + 1) lc (xJ (x * y) :: st) h Ph) : Sx l z d mc ms M pc lc (xJ y :: xJ x :: st) h Ph := by
  intro p e R s m args below meth c D cA ka A Q n0 a0 mcT msT hC hR hE H locs cells slots al ls h1 h2 h3 h4 hB hL hv
  exact lv_lmul hC.1 hC.2.1 hd (kk p e R s m args below meth c D cA ka A Q n0 a0 mcT msT hC hR hE H locs cells slots al ls h1 h2 h3 h4 hB hL (List.forall_mem_cons.mpr ⟨trivial, (fun v hm => hv v (List.mem_cons_of_mem _ (List.mem_cons_of_mem _ hm)))⟩))
theorem sx_ldiv {x y : Int64} (hd : decode M.2.1 pc = .ok (.ldiv, 1)) (hy : ¬ y = 0) (kk : Sx l z d mc ms M (pc + 1) lc (xJ (x / y) :: st) h Ph) : Sx l z d mc ms M pc lc (xJ y :: xJ x :: st) h Ph := by
  intro p e R s m args below meth c D cA ka A Q n0 a0 mcT msT hC hR hE H locs cells slots al ls h1 h2 h3 h4 hB hL hv
  exact lv_ldiv hC.1 hC.2.1 hd hy (kk p e R s m args below meth c D cA ka A Q n0 a0 mcT msT hC hR hE H locs cells slots al ls h1 h2 h3 h4 hB hL (List.forall_mem_cons.mpr ⟨trivial, (fun v hm => hv v (List.mem_cons_of_mem _ (List.mem_cons_of_mem _ hm)))⟩))
theorem sx_lrem {x y : Int64} (hd : decode M.2.1 pc = .ok (.lrem, 1)) (hy : ¬ y = 0) (kk : Sx l z d mc ms M (pc + 1) lc (xJ (jRemL x y) :: st) h Ph) : Sx l z d mc ms M pc lc (xJ y :: xJ x :: st) h Ph := by
  intro p e R s m args below meth c D cA ka A Q n0 a0 mcT msT hC hR hE H locs cells slots al ls h1 h2 h3 h4 hB hL hv
  exact lv_lrem hC.1 hC.2.1 hd hy (kk p e R s m args below meth c D cA ka A Q n0 a0 mcT msT hC hR hE H locs cells slots al ls h1 h2 h3 h4 hB hL (List.forall_mem_cons.mpr ⟨trivial, (fun v hm => hv v (List.mem_cons_of_mem _ (List.mem_cons_of_mem _ hm)))⟩))
theorem sx_lcmp {x y : Int64} (hd : decode M.2.1 pc = .ok (.lcmp, 1)) (kk : Sx l z d mc ms M (pc + 1) lc (xI (jCmpL x y) :: st) h Ph) : Sx l z d mc ms M pc lc (xJ y :: xJ x :: st) h Ph := by
  intro p e R s m args below meth c D cA ka A Q n0 a0 mcT msT hC hR hE H locs cells slots al ls h1 h2 h3 h4 hB hL hv
  exact W.lcmp hC.1 hC.2.1 hd (kk p e R s m args below meth c D cA ka A Q n0 a0 mcT msT hC hR hE H locs cells slots al ls h1 h2 h3 h4 hB hL (List.forall_mem_cons.mpr ⟨trivial, (fun v hm => hv v (List.mem_cons_of_mem _ (List.mem_cons_of_mem _ hm)))⟩))
theorem sx_lshl {x : Int64} {y : Int32} (hd : decode M.2.1 pc = .ok (.lshl, 1)) (kk : Sx l z d mc ms M (pc + 1) lc (xJ (jShlL x y) :: st) h Ph) : Sx l z d mc ms M pc lc (xI y :: xJ x :: st) h Ph := by
  intro p e R s m args below meth c D cA ka A Q n0 a0 mcT msT hC hR hE H locs cells slots al ls h1 h2 h3 h4 hB hL hv
  exact lv_lshl hC.1 hC.2.1 hd rfl (kk p e R s m args below meth c D cA ka A Q n0 a0 mcT msT hC hR hE H locs cells slots al ls h1 h2 h3 h4 hB hL (List.forall_mem_cons.mpr ⟨trivial, (fun v hm => hv v (List.mem_cons_of_mem _ (List.mem_cons_of_mem _ hm)))⟩))
theorem sx_i2l {x : Int32} (hd : decode M.2.1 pc = .ok (.i2l, 1)) (kk : Sx l z d mc ms M (pc + 1) lc (xJ x.toInt64 :: st) h Ph) : Sx l z d mc ms M pc lc (xI x :: st) h Ph := by
  intro p e R s m args below meth c D cA ka A Q n0 a0 mcT msT hC hR hE H locs cells slots al ls h1 h2 h3 h4 hB hL hv
  exact lv_i2l hC.1 hC.2.1 hd rfl (kk p e R s m args below meth c D cA ka A Q n0 a0 mcT msT hC hR hE H locs cells slots al ls h1 h2 h3 h4 hB hL (List.forall_mem_cons.mpr ⟨trivial, (fun v hm => hv v (List.mem_cons_of_mem _ hm))⟩))
theorem sx_l2i {x : Int64} (hd : decode M.2.1 pc = .ok (.l2i, 1)) (kk : Sx l z d mc ms M (pc + 1) lc (xI x.toInt32 :: st) h Ph) : Sx l z d mc ms M pc lc (xJ x :: st) h Ph := by
  intro p e R s m args below meth c D cA ka A Q n0 a0 mcT msT hC hR hE H locs cells slots al ls h1 h2 h3 h4 hB hL hv
  exact lv_l2i hC.1 hC.2.1 hd rfl (kk p e R s m args below meth c D cA ka A Q n0 a0 mcT msT hC hR hE H locs cells slots al ls h1 h2 h3 h4 hB hL (List.forall_mem_cons.mpr ⟨trivial, (fun v hm => hv v (List.mem_cons_of_mem _ hm))⟩))
theorem sx_i2b {x : Int32} (hd : decode M.2.1 pc = .ok (.i2b, 1)) (kk : Sx l z d mc ms M (pc + 1) lc (xI (jB x) :: st) h Ph) : Sx l z d mc ms M pc lc (xI x :: st) h Ph := by
  intro p e R s m args below meth c D cA ka A Q n0 a0 mcT msT hC hR hE H locs cells slots al ls h1 h2 h3 h4 hB hL hv
  exact lv_i2b hC.1 hC.2.1 hd rfl (kk p e R s m args below meth c D cA ka A Q n0 a0 mcT msT hC hR hE H locs cells slots al ls h1 h2 h3 h4 hB hL (List.forall_mem_cons.mpr ⟨trivial, (fun v hm => hv v (List.mem_cons_of_mem _ hm))⟩))
theorem sx_i2s {x : Int32} (hd : decode M.2.1 pc = .ok (.i2s, 1)) (kk : Sx l z d mc ms M (pc + 1) lc (xI (jS x) :: st) h Ph) : Sx l z d mc ms M pc lc (xI x :: st) h Ph := by
  intro p e R s m args below meth c D cA ka A Q n0 a0 mcT msT hC hR hE H locs cells slots al ls h1 h2 h3 h4 hB hL hv
  exact lv_i2s hC.1 hC.2.1 hd rfl (kk p e R s m args below meth c D cA ka A Q n0 a0 mcT msT hC hR hE H locs cells slots al ls h1 h2 h3 h4 hB hL (List.forall_mem_cons.mpr ⟨trivial, (fun v hm => hv v (List.mem_cons_of_mem _ hm))⟩))
theorem sx_i2c {x : Int32} (hd : decode M.2.1 pc = .ok (.i2c, 1)) (kk : Sx l z d mc ms M (pc + 1) lc (xI (jCh x) :: st) h Ph) : Sx l z d mc ms M pc lc (xI x :: st) h Ph := by
  intro p e R s m args below meth c D cA ka A Q n0 a0 mcT msT hC hR hE H locs cells slots al ls h1 h2 h3 h4 hB hL hv
  exact lv_i2c hC.1 hC.2.1 hd rfl (kk p e R s m args below meth c D cA ka A Q n0 a0 mcT msT hC hR hE H locs cells slots al ls h1 h2 h3 h4 hB hL (List.forall_mem_cons.mpr ⟨trivial, (fun v hm => hv v (List.mem_cons_of_mem _ hm))⟩))
theorem sx_dup {v : xV} (hd : decode M.2.1 pc = .ok (.dup, 1)) (hw : x_wide (some (some v)) = false) (kk : Sx l z d mc ms M (pc + 1) lc (v :: v :: st) h Ph) : Sx l z d mc ms M pc lc (v :: st) h Ph := by
  intro p e R s m args below meth c D cA ka A Q n0 a0 mcT msT hC hR hE H locs cells slots al ls h1 h2 h3 h4 hB hL hv
  have hcat : ∀ w : xV, x_wide (some (some w)) = false → (x_t al ka w).category = 1 := fun w hw => (lv_cat _).elim id (fun q => by rw [(x_wide_t al ka w).mp q] at hw; cases hw)
  exact lv_dup hC.1 hC.2.1 hd (hcat _ hw) (kk p e R s m args below meth c D cA ka A Q n0 a0 mcT msT hC hR hE H locs cells slots al ls h1 h2 h3 h4 hB hL (List.forall_mem_cons.mpr ⟨hv _ List.mem_cons_self, hv⟩))
theorem sx_dup_x1 {v w : xV} (hd : decode M.2.1 pc = .ok (.dup_x1, 1)) (hw : x_wide (some (some v)) = false) (hw2 : x_wide (some (some w)) = false) (kk : Sx l z d mc ms M (pc + 1) lc (v :: w :: v :: st) h Ph) : Sx l z d mc ms M pc lc (v :: w :: st) h Ph := by
  intro p e R s m args below meth c D cA ka A Q n0 a0 mcT msT hC hR hE H locs cells slots al ls h1 h2 h3 h4 hB hL hv
  have hcat : ∀ w : xV, x_wide (some (some w)) = false → (x_t al ka w).category = 1 := fun w hw => (lv_cat _).elim id (fun q => by rw [(x_wide_t al ka w).mp q] at hw; cases hw)
  exact lv_dup_x1 hC.1 hC.2.1 hd (hcat _ hw) (hcat _ hw2) (kk p e R s m args below meth c D cA ka A Q n0 a0 mcT msT hC hR hE H locs cells slots al ls h1 h2 h3 h4 hB hL (List.forall_mem_cons.mpr ⟨hv _ List.mem_cons_self, List.forall_mem_cons.mpr ⟨hv _ (List.mem_cons_of_mem _ List.mem_cons_self), List.forall_mem_cons.mpr ⟨hv _ List.mem_cons_self, (fun v hm => hv v (List.mem_cons_of_mem _ (List.mem_cons_of_mem _ hm)))⟩⟩⟩))
theorem sx_pop {v : xV} (hd : decode M.2.1 pc = .ok (.pop, 1)) (hw : x_wide (some (some v)) = false) (kk : Sx l z d mc ms M (pc + 1) lc st h Ph) : Sx l z d mc ms M pc lc (v :: st) h Ph := by
  intro p e R s m args below meth c D cA ka A Q n0 a0 mcT msT hC hR hE H locs cells slots al ls h1 h2 h3 h4 hB hL hv
  have hcat : ∀ w : xV, x_wide (some (some w)) = false → (x_t al ka w).category = 1 := fun w hw => (lv_cat _).elim id (fun q => by rw [(x_wide_t al ka w).mp q] at hw; cases hw)
  exact lv_pop hC.1 hC.2.1 hd (hcat _ hw) (kk p e R s m args below meth c D cA ka A Q n0 a0 mcT msT hC hR hE H locs cells slots al ls h1 h2 h3 h4 hB hL (fun v hm => hv v (List.mem_cons_of_mem _ hm)))
theorem sx_if_eq {x : Int32} {off : Int} {tgt : Nat} (hd : decode M.2.1 pc = .ok (.ifCond .eq off, 3)) (ht : (pc : Int) + off = (tgt : Int)) (kt : x = 0 → Sx l z d mc ms M tgt lc st h Ph) (kf : ¬ x = 0 → Sx l z d mc ms M (pc + 3) lc st h Ph) : Sx l z d mc ms M pc lc (xI x :: st) h Ph := by
  intro p e R s m args below meth c D cA ka A Q n0 a0 mcT msT hC hR hE H locs cells slots al ls h1 h2 h3 h4 hB hL hv
  exact lv_if_eq hC.1 hC.2.1 hd ht (fun q => (kt q p e R s m args below meth c D cA ka A Q n0 a0 mcT msT hC hR hE H locs cells slots al ls h1 h2 h3 h4 hB hL (fun v hm => hv v (List.mem_cons_of_mem _ hm)))) (fun q => (kf q p e R s m args below meth c D cA ka A Q n0 a0 mcT msT hC hR hE H locs cells slots al ls h1 h2 h3 h4 hB hL (fun v hm => hv v (List.mem_cons_of_mem _ hm))))
theorem sx_icmp_eq {x y : Int32} {off : Int} {tgt : Nat} (hd : decode M.2.1 pc = .ok (.if_icmp .eq off, 3)) (ht : (pc : Int) + off = (tgt : Int)) (kt : x = y → Sx l z d mc ms M tgt lc st h Ph) (kf : ¬ x = y → Sx l z d mc ms M (pc + 3) lc st h Ph) : Sx l z d mc ms M pc lc (xI y :: xI x :: st) h Ph := by
  intro p e R s m args below meth c D cA ka A Q n0 a0 mcT msT hC hR hE H locs cells slots al ls h1 h2 h3 h4 hB hL hv
  exact lv_icmp_eq hC.1 hC.2.1 hd ht (fun q => (kt q p e R s m args below meth c D cA ka A Q n0 a0 mcT msT hC hR hE H locs cells slots al ls h1 h2 h3 h4 hB hL (fun v hm => hv v (List.mem_cons_of_mem _ (List.mem_cons_of_mem _ hm))))) (fun q => (kf q p e R s m args below meth c D cA ka A Q n0 a0 mcT msT hC hR hE H locs cells slots al ls h1 h2 h3 h4 hB hL (fun v hm => hv v (List.mem_cons_of_mem _ (List.mem_cons_of_mem _ hm)))))
theorem sx_if_ne {x : Int32} {off : Int} {tgt : Nat} (hd : decode M.2.1 pc = .ok (.ifCond .ne off, 3)) (ht : (pc : Int) + off = (tgt : Int)) (kt : ¬ x = 0 → Sx l z d mc ms M tgt lc st h Ph) (kf : x = 0 → Sx l z d mc ms M (pc + 3) lc st h Ph) : Sx l z d mc ms M pc lc (xI x :: st) h Ph := by
  intro p e R s m args below meth c D cA ka A Q n0 a0 mcT msT hC hR hE H locs cells slots al ls h1 h2 h3 h4 hB hL hv
  exact lv_if_ne hC.1 hC.2.1 hd ht (fun q => (kt q p e R s m args below meth c D cA ka A Q n0 a0 mcT msT hC hR hE H locs cells slots al ls h1 h2 h3 h4 hB hL (fun v hm => hv v (List.mem_cons_of_mem _ hm)))) (fun q => (kf q p e R s m args below meth c D cA ka A Q n0 a0 mcT msT hC hR hE H locs cells slots al ls h1 h2 h3 h4 hB hL (fun v hm => hv v (List.mem_cons_of_mem _ hm))))
theorem sx_icmp_ne {x y : Int32} {off : Int} {tgt : Nat} (hd : decode M.2.1 pc = .ok (.if_icmp .ne off, 3)) (ht : (pc : Int) + off = (tgt : Int)) (kt : ¬ x = y → Sx l z d mc ms M tgt lc st h Ph) (kf : x = y → Sx l z d mc ms M (pc + 3) lc st h Ph) : Sx l z d mc ms M pc lc (xI y :: xI x :: st) h Ph := by
  intro p e R s m args below meth c D cA ka A Q n0 a0 mcT msT hC hR hE H locs cells slots al ls h1 h2 h3 h4 hB hL hv
  exact lv_icmp_ne hC.1 hC.2.1 hd ht (fun q => (kt q p e R s m args below meth c D cA ka A Q n0 a0 mcT msT hC hR hE H locs cells slots al ls h1 h2 h3 h4 hB hL (fun v hm => hv v (List.mem_cons_of_mem _ (List.mem_cons_of_mem _ hm))))) (fun q => (kf q p e R s m args below meth c D cA ka A Q n0 a0 mcT msT hC hR hE H locs cells slots al ls h1 h2 h3 h4 hB hL (fun v hm => hv v (List.mem_cons_of_mem _ (List.mem_cons_of_mem _ hm)))))
theorem sx_if_lt {x : Int32} {off : Int} {tgt : Nat} (hd : decode M.2.1 pc = .ok (.ifCond .lt off, 3)) (ht : (pc : Int) + off = (tgt : Int)) (kt : x < 0 → Sx l z d mc ms M tgt lc st h Ph) (kf : ¬ x < 0 → Sx l z d mc ms M (pc + 3) lc st h Ph) : Sx l z d mc ms M pc lc (xI x :: st) h Ph := by
  intro p e R s m args below meth c D cA ka A Q n0 a0 mcT msT hC hR hE H locs cells slots al ls h1 h2 h3 h4 hB hL hv
  exact lv_if_lt hC.1 hC.2.1 hd ht (fun q => (kt q p e R s m args below meth c D cA ka A Q n0 a0 mcT msT hC hR hE H locs cells slots al ls h1 h2 h3 h4 hB hL (fun v hm => hv v (List.mem_cons_of_mem _ hm)))) (fun q => (kf q p e R s m args below meth c D cA ka A Q n0 a0 mcT msT hC hR hE H locs cells slots al ls h1 h2 h3 h4 hB hL (fun v hm => hv v (List.mem_cons_of_mem _ hm))))
theorem sx_icmp_lt {x y : Int32} {off : Int} {tgt : Nat} (hd : decode M.2.1 pc = .ok (.if_icmp .lt off, 3)) (ht : (pc : Int) + off = (tgt : Int)) (kt : x < y → Sx l z d mc ms M tgt lc st h Ph) (kf : ¬ x < y → Sx l z d mc ms M (pc + 3) lc st h Ph) : Sx l z d mc ms M pc lc (xI y :: xI x :: st) h Ph := by
  intro p e R s m args below meth c D cA ka A Q n0 a0 mcT msT hC hR hE H locs cells slots al ls h1 h2 h3 h4 hB hL hv
  exact lv_icmp_lt hC.1 hC.2.1 hd ht (fun q => (kt q p e R s m args below meth c D cA ka A Q n0 a0 mcT msT hC hR hE H locs cells slots al ls h1 h2 h3 h4 hB hL (fun v hm => hv v (List.mem_cons_of_mem _ (List.mem_cons_of_mem _ hm))))) (fun q => (kf q p e R s m args below meth c D cA ka A Q n0 a0 mcT msT hC hR hE H locs cells slots al ls h1 h2 h3 h4 hB hL (fun v hm => hv v (List.mem_cons_of_mem _ (List.mem_cons_of_mem _ hm)))))
theorem sx_if_ge {x : Int32} {off : Int} {tgt : Nat} (hd : decode M.2.1 pc = .ok (.ifCond .ge off, 3)) (ht : (pc : Int) + off = (tgt : Int)) (kt : 0 ≤ x → Sx l z d mc ms M tgt lc st h Ph) (kf : ¬ 0 ≤ x → Sx l z d mc ms M (pc + 3) lc st h Ph) : Sx l z d mc ms M pc lc (xI x :: st) h Ph := by
  intro p e R s m args below meth c D cA ka A Q n0 a0 mcT msT hC hR hE H locs cells slots al ls h1 h2 h3 h4 hB hL hv
  exact lv_if_ge hC.1 hC.2.1 hd ht (fun q => (kt q p e R s m args below meth c D cA ka A Q n0 a0 mcT msT hC hR hE H locs cells slots al ls h1 h2 h3 h4 hB hL (fun v hm => hv v (List.mem_cons_of_mem _ hm)))) (fun q => (kf q p e R s m args below meth c D cA ka A Q n0 a0 mcT msT hC hR hE H locs cells slots al ls h1 h2 h3 h4 hB hL (fun v hm => hv v (List.mem_cons_of_mem _ hm))))
theorem sx_icmp_ge {x y : Int32} {off : Int} {tgt : Nat} (hd : decode M.2.1 pc = .ok (.if_icmp .ge off, 3)) (ht : (pc : Int) + off = (tgt : Int)) (kt : y ≤ x → Sx l z d mc ms M tgt lc st h Ph) (kf : ¬ y ≤ x → Sx l z d mc ms M (pc + 3) lc st h Ph) : Sx l z d mc ms M pc lc (xI y :: xI x :: st) h Ph := by
  intro p e R s m args below meth c D cA ka A Q n0 a0 mcT msT hC hR hE H locs cells slots al ls h1 h2 h3 h4 hB hL hv
  exact lv_icmp_ge hC.1 hC.2.1 hd ht (fun q => (kt q p e R s m args below meth c D cA ka A Q n0 a0 mcT msT hC hR hE H locs cells slots al ls h1 h2 h3 h4 hB hL (fun v hm => hv v (List.mem_cons_of_mem _ (List.mem_cons_of_mem _ hm))))) (fun q => (kf q p e R s m args below meth c D cA ka A Q n0 a0 mcT msT hC hR hE H locs cells slots al ls h1 h2 h3 h4 hB hL (fun v hm => hv v (List.mem_cons_of_mem _ (List.mem_cons_of_mem _ hm)))))
theorem sx_if_gt {x : Int32} {off : Int} {tgt : Nat} (hd : decode M.2.1 pc = .ok (.ifCond .gt off, 3)) (ht : (pc : Int) + off = (tgt : Int)) (kt : 0 < x → Sx l z d mc ms M tgt lc st h Ph) (kf : ¬ 0 < x → Sx l z d mc ms M (pc + 3) lc st h Ph) : Sx l z d mc ms M pc lc (xI x :: st) h Ph := by
  intro p e R s m args below meth c D cA ka A Q n0 a0 mcT msT hC hR hE H locs cells slots al ls h1 h2 h3 h4 hB hL hv
  exact lv_if_gt hC.1 hC.2.1 hd ht (fun q => (kt q p e R s m args below meth c D cA ka A Q n0 a0 mcT msT hC hR hE H locs cells slots al ls h1 h2 h3 h4 hB hL (fun v hm => hv v (List.mem_cons_of_mem _ hm)))) (fun q => (kf q p e R s m args below meth c D cA ka A Q n0 a0 mcT msT hC hR hE H locs cells slots al ls h1 h2 h3 h4 hB hL (fun v hm => hv v (List.mem_cons_of_mem _ hm))))
theorem sx_icmp_gt {x y : Int32} {off : Int} {tgt : Nat} (hd : decode M.2.1 pc = .ok (.if_icmp .gt off, 3)) (ht : (pc : Int) + off = (tgt : Int)) (kt : y < x → Sx l z d mc ms M tgt lc st h Ph) (kf : ¬ y < x → Sx l z d mc ms M (pc + 3) lc st h Ph) : Sx l z d mc ms M pc lc (xI y :: xI x :: st) h Ph := by
  intro p e R s m args below meth c D cA ka A Q n0 a0 mcT msT hC hR hE H locs cells slots al ls h1 h2 h3 h4 hB hL hv
  exact lv_icmp_gt hC.1 hC.2.1 hd ht (fun q => (kt q p e R s m args below meth c D cA ka A Q n0 a0 mcT msT hC hR hE H locs cells slots al ls h1 h2 h3 h4 hB hL (fun v hm => hv v (List.mem_cons_of_mem _ (List.mem_cons_of_mem _ hm))))) (fun q => (kf q p e R s m args below meth c D cA ka A Q n0 a0 mcT msT hC hR hE H locs cells slots al ls h1 h2 h3 h4 hB hL (fun v hm => hv v (List.mem_cons_of_mem _ (List.mem_cons_of_mem _ hm)))))
theorem sx_if_le {x : Int32} {off : Int} {tgt : Nat} (hd : decode M.2.1 pc = .ok (.ifCond .le off, 3)) (ht : (pc : Int) + off = (tgt : Int)) (kt : x ≤ 0 → Sx l z d mc ms M tgt lc st h Ph) (kf : ¬ x ≤ 0 → Sx l z d mc ms M (pc + 3) lc st h Ph) : Sx l z d mc ms M pc lc (xI x :: st) h Ph := by
  intro p e R s m args below meth c D cA ka A Q n0 a0 mcT msT hC hR hE H locs cells slots al ls h1 h2 h3 h4 hB hL hv
  exact lv_if_le hC.1 hC.2.1 hd ht (fun q => (kt q p e R s m args below meth c D cA ka A Q n0 a0 mcT msT hC hR hE H locs cells slots al ls h1 h2 h3 h4 hB hL (fun v hm => hv v (List.mem_cons_of_mem _ hm)))) (fun q => (kf q p e R s m args below meth c D cA ka A Q n0 a0 mcT msT hC hR hE H locs cells slots al ls h1 h2 h3 h4 hB hL (fun v hm => hv v (List.mem_cons_of_mem _ hm))))
theorem sx_icmp_le {x y : Int32} {off : Int} {tgt : Nat} (hd : decode M.2.1 pc = .ok (.if_icmp .le off, 3)) (ht : (pc : Int) + off = (tgt : Int)) (kt : x ≤ y → Sx l z d mc ms M tgt lc st h Ph) (kf : ¬ x ≤ y → Sx l z d mc ms M (pc + 3) lc st h Ph) : Sx l z d mc ms M pc lc (xI y :: xI x :: st) h Ph := by
  intro p e R s m args below meth c D cA ka A Q n0 a0 mcT msT hC hR hE H locs cells slots al ls h1 h2 h3 h4 hB hL hv
  exact lv_icmp_le hC.1 hC.2.1 hd ht (fun q => (kt q p e R s m args below meth c D cA ka A Q n0 a0 mcT msT hC hR hE H locs cells slots al ls h1 h2 h3 h4 hB hL (fun v hm => hv v (List.mem_cons_of_mem _ (List.mem_cons_of_mem _ hm))))) (fun q => (kf q p e R s m args below meth c D cA ka A Q n0 a0 mcT msT hC hR hE H locs cells slots al ls h1 h2 h3 h4 hB hL (fun v hm => hv v (List.mem_cons_of_mem _ (List.mem_cons_of_mem _ hm)))))
theorem sx_goto {off : Int} {tgt : Nat} (hd : decode M.2.1 pc = .ok (.goto off, 3)) (ht : (pc : Int) + off = (tgt : Int)) (kk : Sx l z d mc ms M tgt lc st h Ph) : Sx l z d mc ms M pc lc st h Ph := by
  intro p e R s m args below meth c D cA ka A Q n0 a0 mcT msT hC hR hE H locs cells slots al ls h1 h2 h3 h4 hB hL hv
  exact lv_goto hC.1 hC.2.1 hd ht (kk p e R s m args below meth c D cA ka A Q n0 a0 mcT msT hC hR hE H locs cells slots al ls h1 h2 h3 h4 hB hL hv)
theorem sx_ifnull {q : Nat} {off : Int} {tgt : Nat} (hd : decode M.2.1 pc = .ok (.ifnull off, 3)) (ht : (pc : Int) + off = (tgt : Int)) (kt : q = 0 → Sx l z d mc ms M tgt lc st h Ph) (kf : ¬ q = 0 → Sx l z d mc ms M (pc + 3) lc st h Ph) : Sx l z d mc ms M pc lc (xR q :: st) h Ph := by
  intro p e R s m args below meth c D cA ka A Q n0 a0 mcT msT hC hR hE H locs cells slots al ls h1 h2 h3 h4 hB hL hv
  rw [List.map_cons]
  by_cases hq : q = 0
  · rw [show x_t al ka (xR q) = .null by rw [hq]; rfl]
    exact lv_ifnullN hC.1 hC.2.1 hd ht (kt hq p e R s m args below meth c D cA ka A Q n0 a0 mcT msT hC hR hE H locs cells slots al ls h1 h2 h3 h4 hB hL (fun v hm => hv v (List.mem_cons_of_mem _ hm)))
  · rw [show x_t al ka (xR q) = .ref (al q) by show va_rf (x_r al q) = _; unfold x_r; rw [if_neg hq]; rfl]
    exact lv_ifnull hC.1 hC.2.1 hd (kf hq p e R s m args below meth c D cA ka A Q n0 a0 mcT msT hC hR hE H locs cells slots al ls h1 h2 h3 h4 hB hL (fun v hm => hv v (List.mem_cons_of_mem _ hm)))
theorem sx_ifnonnull {q : Nat} {off : Int} {tgt : Nat} (hd : decode M.2.1 pc = .ok (.ifnonnull off, 3)) (ht : (pc : Int) + off = (tgt : Int)) (kt : ¬ q = 0 → Sx l z d mc ms M tgt lc st h Ph) (kf : q = 0 → Sx l z d mc ms M (pc + 3) lc st h Ph) : Sx l z d mc ms M pc lc (xR q :: st) h Ph := by
  intro p e R s m args below meth c D cA ka A Q n0 a0 mcT msT hC hR hE H locs cells slots al ls h1 h2 h3 h4 hB hL hv
  rw [List.map_cons]
  by_cases hq : q = 0
  · rw [show x_t al ka (xR q) = .null by rw [hq]; rfl]
    exact lv_ifnonnullN hC.1 hC.2.1 hd (kf hq p e R s m args below meth c D cA ka A Q n0 a0 mcT msT hC hR hE H locs cells slots al ls h1 h2 h3 h4 hB hL (fun v hm => hv v (List.mem_cons_of_mem _ hm)))
  · rw [show x_t al ka (xR q) = .ref (al q) by show va_rf (x_r al q) = _; unfold x_r; rw [if_neg hq]; rfl]
    exact lv_ifnonnull hC.1 hC.2.1 hd ht (kt hq p e R s m args below meth c D cA ka A Q n0 a0 mcT msT hC hR hE H locs cells slots al ls h1 h2 h3 h4 hB hL (fun v hm => hv v (List.mem_cons_of_mem _ hm)))
theorem sx_tabOut {dflt lo hi : Int} {offs : Array Int} {len : Nat} {x : Int32} {tgt : Nat} (hd : decode M.2.1 pc = .ok (.tableswitch dflt lo hi offs, len)) (hq : x.toInt < lo ∨ hi < x.toInt) (ht : (pc : Int) + dflt = (tgt : Int)) (kk : Sx l z d mc ms M tgt lc st h Ph) : Sx l z d mc ms M pc lc (xI x :: st) h Ph := by
  intro p e R s m args below meth c D cA ka A Q n0 a0 mcT msT hC hR hE H locs cells slots al ls h1 h2 h3 h4 hB hL hv
  exact lv_tableOut hC.1 hC.2.1 hd hq ht (kk p e R s m args below meth c D cA ka A Q n0 a0 mcT msT hC hR hE H locs cells slots al ls h1 h2 h3 h4 hB hL (fun v hm => hv v (List.mem_cons_of_mem _ hm)))
theorem sx_tabIn {dflt lo hi : Int} {offs : Array Int} {len : Nat} {x : Int32} {off : Int} {tgt : Nat} (hd : decode M.2.1 pc = .ok (.tableswitch dflt lo hi offs, len)) (hq1 : ¬ x.toInt < lo) (hq2 : ¬ hi < x.toInt) (ho : offs[(x.toInt - lo).toNat]? = some off) (ht : (pc : Int) + off = (tgt : Int)) (kk : Sx l z d mc ms M tgt lc st h Ph) : Sx l z d mc ms M pc lc (xI x :: st) h Ph := by
  intro p e R s m args below meth c D cA ka A Q n0 a0 mcT msT hC hR hE H locs cells slots al ls h1 h2 h3 h4 hB hL hv
  exact lv_tableIn hC.1 hC.2.1 hd hq1 hq2 ho ht (kk p e R s m args below meth c D cA ka A Q n0 a0 mcT msT hC hR hE H locs cells slots al ls h1 h2 h3 h4 hB hL (fun v hm => hv v (List.mem_cons_of_mem _ hm)))
theorem sx_ldc {k : Nat} {v : Int32} (hw : Cond.constant M.1.cls k v ∈ xTB) (hd : decode M.2.1 pc = .ok (.ldc k, 2)) (kk : Sx l z d mc ms M (pc + 2) lc (xI v :: st) h Ph) : Sx l z d mc ms M pc lc st h Ph := by
  intro p e R s m args below meth c D cA ka A Q n0 a0 mcT msT hC hR hE H locs cells slots al ls h1 h2 h3 h4 hB hL hv
  exact W.ldc hC.1 hC.2.1 hC.2.2.2.2.1 (hC.2.2.2.2.2.1 _ hw) rfl hd (kk p e R s m args below meth c D cA ka A Q n0 a0 mcT msT hC hR hE H locs cells slots al ls h1 h2 h3 h4 hB hL (List.forall_mem_cons.mpr ⟨trivial, hv⟩))
theorem sx_ldcw {k : Nat} {v : Int32} (hw : Cond.constant M.1.cls k v ∈ xTB) (hd : decode M.2.1 pc = .ok (.ldc_w k, 3)) (kk : Sx l z d mc ms M (pc + 3) lc (xI v :: st) h Ph) : Sx l z d mc ms M pc lc st h Ph := by
  intro p e R s m args below meth c D cA ka A Q n0 a0 mcT msT hC hR hE H locs cells slots al ls h1 h2 h3 h4 hB hL hv
  exact lv_ldcw hC.1 hC.2.1 hC.2.2.2.2.1 (hC.2.2.2.2.2.1 _ hw) hd (kk p e R s m args below meth c D cA ka A Q n0 a0 mcT msT hC hR hE H locs cells slots al ls h1 h2 h3 h4 hB hL (List.forall_mem_cons.mpr ⟨trivial, hv⟩))
theorem sx_ldc2 {k : Nat} {v : Int64} (hw : Cond.constantLong M.1.cls k v ∈ xTB) (hd : decode M.2.1 pc = .ok (.ldc2_w k, 3)) (kk : Sx l z d mc ms M (pc + 3) lc (xJ v :: st) h Ph) : Sx l z d mc ms M pc lc st h Ph := by
  intro p e R s m args below meth c D cA ka A Q n0 a0 mcT msT hC hR hE H locs cells slots al ls h1 h2 h3 h4 hB hL hv
  exact W.ldc2 hC.1 hC.2.1 hC.2.2.2.2.1 (hC.2.2.2.2.2.1 _ hw) rfl hd (kk p e R s m args below meth c D cA ka A Q n0 a0 mcT msT hC hR hE H locs cells slots al ls h1 h2 h3 h4 hB hL (List.forall_mem_cons.mpr ⟨trivial, hv⟩))
theorem sx_ldcS {k : Nat} {i : Nat} {tx : String} (hw : x_sl[i]? = some (M.1.cls, k, tx)) (hi : i < 14) (hd : decode M.2.1 pc = .ok (.ldc k, 2)) (kk : Sx l z d mc ms M (pc + 2) lc (xS i :: st) h Ph) : Sx l z d mc ms M pc lc st h Ph := by
  intro p e R s m args below meth c D cA ka A Q n0 a0 mcT msT hC hR hE H locs cells slots al ls h1 h2 h3 h4 hB hL hv
  have k9 := (kk p e R s m args below meth c D cA ka A Q n0 a0 mcT msT hC hR hE H locs cells slots al ls h1 h2 h3 h4 hB hL (List.forall_mem_cons.mpr ⟨trivial, hv⟩))
  rw [List.map_cons, show x_t al ka (xS i) = .ref (ka.1 i) by show (if i = 31 then va_rf ka.2 else .ref (ka.1 i)) = _; rw [if_neg (by omega)]] at k9
  exact va_ldcS hC.1 hC.2.1 hC.2.2.2.2.1 (hC.2.2.2.2.2.2.2.2.2.2.2.1 i _ hw) hd k9
end XR
end
section
section XH
variable {l : Launch} {z : xZ} {d mc ms : Nat} {M : xM} {pc : Nat} {lc : List (Option xV)} {st : List xV} {h : xH} {Ph : Option xV → xH → Prop}
def x_clok (q : vw_C × (Nat → FieldType)) : Prop := (∀ w ∈ u_ws q.1.1 q.1.2.1 q.1.2.2, w ∈ xTB) ∧ (∀ k, k < q.1.2.2 → parseFieldDescriptor (q.1.2.1 k).2.2.1 = some (q.2 k) ∧ (q.1.2.1 k).1 = q.1.1) ∧ ∀ a, a < q.1.2.2 → ∀ b, b < q.1.2.2 → a ≠ b → (q.1.2.1 a).2.1 ≠ (q.1.2.1 b).2.1
theorem x_clall : ∀ q ∈ xcl, x_clok q := by
  unfold xcl
  refine List.forall_mem_cons.mpr ⟨⟨xl_Ch, xy_Ch, xn_Ch⟩, List.forall_mem_cons.mpr ⟨⟨xl_Re, xy_Re, xn_Re⟩, List.forall_mem_cons.mpr ⟨⟨xl_Ru, xy_Ru, xn_Ru⟩, List.forall_mem_cons.mpr ⟨⟨xl_Se, xy_Se, xn_Se⟩, List.forall_mem_cons.mpr ⟨⟨xl_Sh, xy_Sh, xn_Sh⟩, List.forall_mem_cons.mpr ⟨⟨xl_St, xy_St, xn_St⟩, List.forall_mem_cons.mpr ⟨⟨xl_Ta, xy_Ta, xn_Ta⟩, List.forall_mem_cons.mpr ⟨⟨xl_Te, xy_Te, xn_Te⟩, List.forall_mem_cons.mpr ⟨⟨xl_To, xy_To, xn_To⟩, List.forall_mem_cons.mpr ⟨⟨xl_Wa, xy_Wa, xn_Wa⟩, List.forall_mem_cons.mpr ⟨⟨xl_Ma, xy_Ma, xn_Ma⟩, List.forall_mem_cons.mpr ⟨⟨xl_Mo, xy_Mo, xn_Mo⟩, fun _ h => absurd h List.not_mem_nil⟩⟩⟩⟩⟩⟩⟩⟩⟩⟩⟩⟩
theorem x_cok {ci : Nat} {q : vw_C × (Nat → FieldType)} (hc : xcl[ci]? = some q) : x_clok q := x_clall q (List.mem_of_getElem? hc)
theorem x_clt {ci : Nat} {q : vw_C × (Nat → FieldType)} (hc : xcl[ci]? = some q) : ci < 12 := (List.getElem?_eq_some_iff.mp hc).1
theorem x_t_R {al : Nat → Nat} {ka : xK} {p : Nat} (hp : 0 < p) : x_t al ka (xR p) = .ref (al p) := by
  show va_rf (x_r al p) = _
  unfold x_r
  rw [if_neg (by omega)]
  rfl
def x_V (h : xH) (p : Nat) (t : FieldType) (k : Nat) : xV := match t with
  | .int => xI (hI h p k)
  | .boolean => xI (hI h p k)
  | .long => xJ (hI h p k).toInt64
  | _ => xR (hR h p k)
theorem x_V_t {al : Nat → Nat} {ka : xK} {p k : Nat} {t : FieldType} : x_t al ka (x_V h p t k) = x_fv al h p t k := by cases t <;> rfl
theorem x_V_vo {p k : Nat} {t : FieldType} (ho : x_ok h) : x_vo (hN h) (x_V h p t k) := by cases t <;> first | trivial | exact ho.2.1 p k
theorem sx_get {ci k idx p : Nat} {q : vw_C × (Nat → FieldType)} (hc : xcl[ci]? = some q) (hk : k < q.1.2.2) (hw : Cond.fieldLink M.1.cls idx (q.1.2.1 k).1 (q.1.2.1 k).2.1 (q.1.2.1 k).2.2.1 ∈ xTB) (hp : hK h p = ci) (hd : decode M.2.1 pc = .ok (.getfield idx, 3)) (kk : Sx l z d mc ms M (pc + 3) lc (x_V h p (q.2 k) k :: st) h Ph) : Sx l z d mc ms M pc lc (xR p :: st) h Ph := by
  intro pp e R s m args below meth c D cA ka A Q n0 a0 mcT msT hC gR hE H locs cells slots al ls h1 h2 h3 h4 hB gL hv
  have hpos := hB.2.2.2.pos hp (by have := x_clt hc; omega)
  rw [List.map_cons, x_t_R hpos.1]
  refine va_get (D := D) (ci := ci) hC.1 hC.2.1 hC.2.2.2.2.2.1 (x_cok hc).1 hC.2.2.2.2.1 hC.2.2.2.2.2.2.1 hB.1 (p - 1) ((x_w_at hpos.1 hpos.2).trans (by rw [x_g_obj hp hc])) (x_C_at hc) k hk (hC.2.2.2.2.2.1 _ hw) (fun _ h9 => h9) (x_fs_at hk) hd ?_
  rw [← x_V_t (ka := ka)]
  exact kk pp e R s m args below meth c D cA ka A Q n0 a0 mcT msT hC gR hE H locs cells slots al ls h1 h2 h3 h4 hB gL (List.forall_mem_cons.mpr ⟨x_V_vo hB.2.2.2, fun v hm => hv v (List.mem_cons_of_mem _ hm)⟩)
/-! writing: the heap behind, and its world -/
theorem x_B_of {D : va_G} {cA : Nat → ClassId} {al : Nat → Nat} {A : Nat → Prop} {s : State} {H H1 : Heap} {locs locs1 : List Loc} {h2 : xH} {ws : va_W} (hB : x_B D cA al A s h H locs) (ew : ws = x_w cA al h2) (hP : va_P D xC ws H1) (hD : va_D A ws) (hS : va_S A s.heap H1 locs1) (ho : x_ok h2) : x_B D cA al A s h2 H1 locs1 := by
  subst ew
  exact ⟨hP, hD, hS, ho⟩
theorem x_okI {p k : Nat} {v : Int32} (ho : x_ok h) : x_ok (hIu h p k v) := ho
theorem x_okR {p k v : Nat} (ho : x_ok h) (hv : v < hN h) : x_ok (hRu h p k v) := ⟨ho.1, fun q j => by
  show (if q = p ∧ j = k then v else hR h q j) < hN h
  by_cases e : q = p ∧ j = k
  · rw [if_pos e]; exact hv
  · rw [if_neg e]; exact ho.2.1 q j, ho.2.2⟩
theorem x_g_ne {cA : Nat → ClassId} {al : Nat → Nat} {h2 : xH} {q : Nat} (e1 : hK h2 q = hK h q) (e2 : hL h2 q = hL h q) (e3 : hI h2 q = hI h q) (e4 : hR h2 q = hR h q) : x_g cA al h2 q = x_g cA al h q := by
  have e5 : ∀ (n : Nat) (t : Nat → FieldType), x_fs al h2 q n t = x_fs al h q n t := by
    intro n t
    unfold x_fs
    congr 1
    funext k
    unfold x_fv
    rw [e3, e4]
  unfold x_g
  rw [e1, e2, e3, e4]
  simp only [e5]
theorem hI_ne {p k q : Nat} {v : Int32} (hq : q ≠ p) : hI (hIu h p k v) q = hI h q := by
  funext j
  show (if q = p ∧ j = k then v else hI h q j) = _
  rw [if_neg (fun e => hq e.1)]
theorem hR_ne {p k q v : Nat} (hq : q ≠ p) : hR (hRu h p k v) q = hR h q := by
  funext j
  show (if q = p ∧ j = k then v else hR h q j) = _
  rw [if_neg (fun e => hq e.1)]
theorem hI_at {p k j : Nat} {v : Int32} : hI (hIu h p k v) p j = if j = k then v else hI h p j := by
  show (if p = p ∧ j = k then v else hI h p j) = _
  by_cases e : j = k
  · rw [if_pos ⟨rfl, e⟩, if_pos e]
  · rw [if_neg (fun q => e q.2), if_neg e]
theorem hR_at {p k j v : Nat} : hR (hRu h p k v) p j = if j = k then v else hR h p j := by
  show (if p = p ∧ j = k then v else hR h p j) = _
  by_cases e : j = k
  · rw [if_pos ⟨rfl, e⟩, if_pos e]
  · rw [if_neg (fun q => e q.2), if_neg e]
def x_isI (t : FieldType) : Bool := match t with
  | .int | .boolean | .long => true
  | .float | .double | .byte | .char | .short => false
  | _ => false
def x_isR (t : FieldType) : Bool := match t with
  | .object _ | .array _ => true
  | _ => false
theorem x_fv_I {al : Nat → Nat} {p k j : Nat} {v : Int32} {t : FieldType} (hj : j ≠ k) : x_fv al (hIu h p k v) p t j = x_fv al h p t j := by
  unfold x_fv
  rw [hI_at, if_neg hj]
  rfl
theorem x_fv_R {al : Nat → Nat} {p k j v : Nat} {t : FieldType} (hj : j ≠ k) : x_fv al (hRu h p k v) p t j = x_fv al h p t j := by
  unfold x_fv
  rw [hR_at, if_neg hj]
  rfl
theorem x_w_I {cA : Nat → ClassId} {al : Nat → Nat} {p k ci : Nat} {v : Int32} {q : vw_C × (Nat → FieldType)} (h0 : 0 < p) (hp : hK h p = ci) (hc : xcl[ci]? = some q) {w : Value} (hw : x_fv al (hIu h p k v) p (q.2 k) k = w) : (x_w cA al h).set (p - 1) (al p, .inr (ci, (x_fs al h p q.1.2.2 q.2).set k w)) = x_w cA al (hIu h p k v) := by
  subst hw
  rw [x_fs_set (h2 := hIu h p k v) (fun j hj => x_fv_I hj), ← x_g_obj (h := hIu h p k v) (cA := cA) hp hc]
  exact x_w_set rfl h0 (fun q hq => x_g_ne rfl rfl (hI_ne hq) rfl)
theorem x_w_R {cA : Nat → ClassId} {al : Nat → Nat} {p k ci v : Nat} {q : vw_C × (Nat → FieldType)} (h0 : 0 < p) (hp : hK h p = ci) (hc : xcl[ci]? = some q) {w : Value} (hw : x_fv al (hRu h p k v) p (q.2 k) k = w) : (x_w cA al h).set (p - 1) (al p, .inr (ci, (x_fs al h p q.1.2.2 q.2).set k w)) = x_w cA al (hRu h p k v) := by
  subst hw
  rw [x_fs_set (h2 := hRu h p k v) (fun j hj => x_fv_R hj), ← x_g_obj (h := hRu h p k v) (cA := cA) hp hc]
  exact x_w_set rfl h0 (fun q hq => x_g_ne rfl rfl rfl (hR_ne hq))
theorem x_w_Ia {cA : Nat → ClassId} {al : Nat → Nat} {p k ci : Nat} {v : Int32} (h0 : 0 < p) (hp : hK h p = ci) (hc : ci = 12 ∨ ci = 13) : (x_w cA al h).set (p - 1) (al p, .inl (cA ci, (hL h p, .inl (upd (hI h p) k v)))) = x_w cA al (hIu h p k v) := by
  have e : upd (hI h p) k v = hI (hIu h p k v) p := by
    funext j
    rw [hI_at]
    rfl
  rw [e, show hL h p = hL (hIu h p k v) p from rfl, ← x_g_int (h := hIu h p k v) (cA := cA) (al := al) hp hc]
  exact x_w_set rfl h0 (fun q hq => x_g_ne rfl rfl (hI_ne hq) rfl)
theorem x_w_Ra {cA : Nat → ClassId} {al : Nat → Nat} {p k ci v : Nat} (h0 : 0 < p) (hp : hK h p = ci) (hc : 14 ≤ ci ∧ ci ≤ 16) : (x_w cA al h).set (p - 1) (al p, .inl (cA ci, (hL h p, .inr (.inr (.inr (.inr (va_up (fun j => x_r al (hR h p j)) k (x_r al v)))))))) = x_w cA al (hRu h p k v) := by
  have e : va_up (fun j => x_r al (hR h p j)) k (x_r al v) = fun j => x_r al (hR (hRu h p k v) p j) := by
    funext j
    rw [hR_at]
    unfold va_up
    by_cases e : j = k
    · rw [if_pos e, if_pos e]
    · rw [if_neg e, if_neg e]
  rw [e, show hL h p = hL (hRu h p k v) p from rfl, ← x_g_ref (h := hRu h p k v) (cA := cA) (al := al) hp hc]
  exact x_w_set rfl h0 (fun q hq => x_g_ne rfl rfl rfl (hR_ne hq))
theorem x_nR {t : FieldType} (ht : x_isR t = true) (al : Nat → Nat) (v : Nat) : narrow t (va_rf (x_r al v)) = va_rf (x_r al v) ∧ fits t (va_rf (x_r al v)) = true := by
  cases t <;> first | (cases ht; done) | (unfold x_r; by_cases hv : v = 0 <;> simp [hv, va_rf, narrow, fits])
theorem x_fR {al : Nat → Nat} {p k v : Nat} {t : FieldType} (ht : x_isR t = true) : x_fv al (hRu h p k v) p t k = va_rf (x_r al v) := by
  cases t <;> first | (cases ht; done) | (unfold x_fv; rw [hR_at, if_pos rfl])
/-- an int goes into an int or a boolean as it is -/
def x_tI (t : FieldType) (v : Int32) : Prop := t = .int ∨ (t = .boolean ∧ (v = 0 ∨ v = 1))
theorem x_tI.ok {al : Nat → Nat} {p k : Nat} {v : Int32} {t : FieldType} (ht : x_tI t v) : narrow t (.int v) = .int v ∧ fits t (.int v) = true ∧ x_fv al (hIu h p k v) p t k = .int v := by
  rcases ht with rfl | ⟨rfl, rfl | rfl⟩
  · exact ⟨rfl, rfl, by unfold x_fv; rw [hI_at, if_pos rfl]⟩
  · exact ⟨by decide, by decide, by unfold x_fv; rw [hI_at, if_pos rfl]⟩
  · exact ⟨by decide, by decide, by unfold x_fv; rw [hI_at, if_pos rfl]⟩
theorem sx_putI {ci k idx p : Nat} {v : Int32} {q : vw_C × (Nat → FieldType)} (hc : xcl[ci]? = some q) (hk : k < q.1.2.2) (hw : Cond.fieldLink M.1.cls idx (q.1.2.1 k).1 (q.1.2.1 k).2.1 (q.1.2.1 k).2.2.1 ∈ xTB) (hf : (q.1.2.1 k).2.2.2 = false) (hp : hK h p = ci) (ht0 : x_tI (q.2 k) v) (hd : decode M.2.1 pc = .ok (.putfield idx, 3)) (kk : Sx l z d mc ms M (pc + 3) lc st (hIu h p k v) Ph) : Sx l z d mc ms M pc lc (xI v :: xR p :: st) h Ph := by
  intro pp e R s m args below meth c D cA ka A Q n0 a0 mcT msT hC gR hE H locs cells slots al ls h1 h2 h3 h4 hB gL hv
  have hpos := hB.2.2.2.pos hp (by have := x_clt hc; omega)
  rw [List.map_cons, List.map_cons, x_t_R hpos.1]
  refine va_put (D := D) (ci := ci) hC.1 hC.2.1 hC.2.2.2.2.2.1 (x_cok hc).1 q.2 (fun k hk => ((x_cok hc).2.1 k hk).1) (x_cok hc).2.2 hC.2.2.2.2.1 hC.2.2.2.2.2.2.1 hB.1 hB.2.1 hB.2.2.1 (p - 1) ((x_w_at hpos.1 hpos.2).trans (by rw [x_g_obj hp hc])) (x_C_at hc) k hk (hC.2.2.2.2.2.1 _ hw) (fun _ h9 => h9) hf ((x_cok hc).2.1 k hk).1 (ht0.ok (h := h) (al := al) (p := p) (k := k)).1 (ht0.ok (h := h) (al := al) (p := p) (k := k)).2.1 (by rw [x_fs_len]; exact hk) hd ?_
  intro H1 locs1 hP1 hD1 hS1
  have hB1 := x_B_of hB (x_w_I hpos.1 hp hc (v := v) (ht0.ok (h := h)).2.2) hP1 hD1 hS1 (x_okI hB.2.2.2)
  exact kk pp e R s m args below meth c D cA ka A Q n0 a0 mcT msT hC gR hE H1 locs1 cells slots al ls h1 h2 h3 h4 hB1 gL (fun v hm => hv v (List.mem_cons_of_mem _ (List.mem_cons_of_mem _ hm)))
theorem sx_putR {ci k idx p : Nat} {v : Nat} {q : vw_C × (Nat → FieldType)} (hc : xcl[ci]? = some q) (hk : k < q.1.2.2) (hw : Cond.fieldLink M.1.cls idx (q.1.2.1 k).1 (q.1.2.1 k).2.1 (q.1.2.1 k).2.2.1 ∈ xTB) (hf : (q.1.2.1 k).2.2.2 = false) (hp : hK h p = ci) (ht : x_isR (q.2 k) = true) (hd : decode M.2.1 pc = .ok (.putfield idx, 3)) (kk : Sx l z d mc ms M (pc + 3) lc st (hRu h p k v) Ph) : Sx l z d mc ms M pc lc (xR v :: xR p :: st) h Ph := by
  intro pp e R s m args below meth c D cA ka A Q n0 a0 mcT msT hC gR hE H locs cells slots al ls h1 h2 h3 h4 hB gL hv
  have hpos := hB.2.2.2.pos hp (by have := x_clt hc; omega)
  rw [List.map_cons, List.map_cons, x_t_R hpos.1]
  refine va_put (D := D) (ci := ci) hC.1 hC.2.1 hC.2.2.2.2.2.1 (x_cok hc).1 q.2 (fun k hk => ((x_cok hc).2.1 k hk).1) (x_cok hc).2.2 hC.2.2.2.2.1 hC.2.2.2.2.2.2.1 hB.1 hB.2.1 hB.2.2.1 (p - 1) ((x_w_at hpos.1 hpos.2).trans (by rw [x_g_obj hp hc])) (x_C_at hc) k hk (hC.2.2.2.2.2.1 _ hw) (fun _ h9 => h9) hf ((x_cok hc).2.1 k hk).1 (x_nR ht _ _).1 (x_nR ht al v).2 (by rw [x_fs_len]; exact hk) hd ?_
  intro H1 locs1 hP1 hD1 hS1
  have hB1 := x_B_of hB (x_w_R hpos.1 hp hc (v := v) (x_fR ht)) hP1 hD1 hS1 (x_okR hB.2.2.2 (hv _ List.mem_cons_self))
  exact kk pp e R s m args below meth c D cA ka A Q n0 a0 mcT msT hC gR hE H1 locs1 cells slots al ls h1 h2 h3 h4 hB1 gL (fun v hm => hv v (List.mem_cons_of_mem _ (List.mem_cons_of_mem _ hm)))
theorem sx_putIF {ci k idx p : Nat} {v : Int32} {q : vw_C × (Nat → FieldType)} (hc : xcl[ci]? = some q) (hk : k < q.1.2.2) (hw : Cond.fieldLink M.1.cls idx (q.1.2.1 k).1 (q.1.2.1 k).2.1 (q.1.2.1 k).2.2.1 ∈ xTB) (hf : (q.1.2.1 k).2.2.2 = true) (hi : M.1.name = "<init>") (hq : q.1.1 = M.1.cls) (hp : hK h p = ci) (ht0 : x_tI (q.2 k) v) (hd : decode M.2.1 pc = .ok (.putfield idx, 3)) (kk : Sx l z d mc ms M (pc + 3) lc st (hIu h p k v) Ph) : Sx l z d mc ms M pc lc (xI v :: xR p :: st) h Ph := by
  intro pp e R s m args below meth c D cA ka A Q n0 a0 mcT msT hC gR hE H locs cells slots al ls h1 h2 h3 h4 hB gL hv
  have hpos := hB.2.2.2.pos hp (by have := x_clt hc; omega)
  rw [List.map_cons, List.map_cons, x_t_R hpos.1]
  refine va_putF (D := D) (ci := ci) hC.1 hC.2.1 hC.2.2.2.2.2.1 (x_cok hc).1 q.2 (fun k hk => ((x_cok hc).2.1 k hk).1) (x_cok hc).2.2 hC.2.2.2.2.1 hC.2.2.2.2.2.2.1 hB.1 hB.2.1 hB.2.2.1 (p - 1) ((x_w_at hpos.1 hpos.2).trans (by rw [x_g_obj hp hc])) (x_C_at hc) k hk (hC.2.2.2.2.2.1 _ hw) (fun _ h9 => h9) hf (hC.2.2.2.2.2.2.2.2.1 hi) (((x_cok hc).2.1 k hk).2.trans hq) ((x_cok hc).2.1 k hk).1 (ht0.ok (h := h) (al := al) (p := p) (k := k)).1 (ht0.ok (h := h) (al := al) (p := p) (k := k)).2.1 (by rw [x_fs_len]; exact hk) hd ?_
  intro H1 locs1 hP1 hD1 hS1
  have hB1 := x_B_of hB (x_w_I hpos.1 hp hc (v := v) (ht0.ok (h := h)).2.2) hP1 hD1 hS1 (x_okI hB.2.2.2)
  exact kk pp e R s m args below meth c D cA ka A Q n0 a0 mcT msT hC gR hE H1 locs1 cells slots al ls h1 h2 h3 h4 hB1 gL (fun v hm => hv v (List.mem_cons_of_mem _ (List.mem_cons_of_mem _ hm)))
theorem sx_putRF {ci k idx p : Nat} {v : Nat} {q : vw_C × (Nat → FieldType)} (hc : xcl[ci]? = some q) (hk : k < q.1.2.2) (hw : Cond.fieldLink M.1.cls idx (q.1.2.1 k).1 (q.1.2.1 k).2.1 (q.1.2.1 k).2.2.1 ∈ xTB) (hf : (q.1.2.1 k).2.2.2 = true) (hi : M.1.name = "<init>") (hq : q.1.1 = M.1.cls) (hp : hK h p = ci) (ht : x_isR (q.2 k) = true) (hd : decode M.2.1 pc = .ok (.putfield idx, 3)) (kk : Sx l z d mc ms M (pc + 3) lc st (hRu h p k v) Ph) : Sx l z d mc ms M pc lc (xR v :: xR p :: st) h Ph := by
  intro pp e R s m args below meth c D cA ka A Q n0 a0 mcT msT hC gR hE H locs cells slots al ls h1 h2 h3 h4 hB gL hv
  have hpos := hB.2.2.2.pos hp (by have := x_clt hc; omega)
  rw [List.map_cons, List.map_cons, x_t_R hpos.1]
  refine va_putF (D := D) (ci := ci) hC.1 hC.2.1 hC.2.2.2.2.2.1 (x_cok hc).1 q.2 (fun k hk => ((x_cok hc).2.1 k hk).1) (x_cok hc).2.2 hC.2.2.2.2.1 hC.2.2.2.2.2.2.1 hB.1 hB.2.1 hB.2.2.1 (p - 1) ((x_w_at hpos.1 hpos.2).trans (by rw [x_g_obj hp hc])) (x_C_at hc) k hk (hC.2.2.2.2.2.1 _ hw) (fun _ h9 => h9) hf (hC.2.2.2.2.2.2.2.2.1 hi) (((x_cok hc).2.1 k hk).2.trans hq) ((x_cok hc).2.1 k hk).1 (x_nR ht _ _).1 (x_nR ht al v).2 (by rw [x_fs_len]; exact hk) hd ?_
  intro H1 locs1 hP1 hD1 hS1
  have hB1 := x_B_of hB (x_w_R hpos.1 hp hc (v := v) (x_fR ht)) hP1 hD1 hS1 (x_okR hB.2.2.2 (hv _ List.mem_cons_self))
  exact kk pp e R s m args below meth c D cA ka A Q n0 a0 mcT msT hC gR hE H1 locs1 cells slots al ls h1 h2 h3 h4 hB1 gL (fun v hm => hv v (List.mem_cons_of_mem _ (List.mem_cons_of_mem _ hm)))
theorem sx_putJ {ci k idx p : Nat} {v : Int64} {q : vw_C × (Nat → FieldType)} (hc : xcl[ci]? = some q) (hk : k < q.1.2.2) (hw : Cond.fieldLink M.1.cls idx (q.1.2.1 k).1 (q.1.2.1 k).2.1 (q.1.2.1 k).2.2.1 ∈ xTB) (hf : (q.1.2.1 k).2.2.2 = false) (hp : hK h p = ci) (ht : q.2 k = .long ∧ v.toInt32.toInt64 = v) (hd : decode M.2.1 pc = .ok (.putfield idx, 3)) (kk : Sx l z d mc ms M (pc + 3) lc st (hIu h p k v.toInt32) Ph) : Sx l z d mc ms M pc lc (xJ v :: xR p :: st) h Ph := by
  intro pp e R s m args below meth c D cA ka A Q n0 a0 mcT msT hC gR hE H locs cells slots al ls h1 h2 h3 h4 hB gL hv
  have hpos := hB.2.2.2.pos hp (by have := x_clt hc; omega)
  rw [List.map_cons, List.map_cons, x_t_R hpos.1]
  refine va_put (D := D) (ci := ci) hC.1 hC.2.1 hC.2.2.2.2.2.1 (x_cok hc).1 q.2 (fun k hk => ((x_cok hc).2.1 k hk).1) (x_cok hc).2.2 hC.2.2.2.2.1 hC.2.2.2.2.2.2.1 hB.1 hB.2.1 hB.2.2.1 (p - 1) ((x_w_at hpos.1 hpos.2).trans (by rw [x_g_obj hp hc])) (x_C_at hc) k hk (hC.2.2.2.2.2.1 _ hw) (fun _ h9 => h9) hf ((x_cok hc).2.1 k hk).1 (by rw [ht.1]; rfl) (by rw [ht.1]; rfl) (by rw [x_fs_len]; exact hk) hd ?_
  intro H1 locs1 hP1 hD1 hS1
  have hB1 := x_B_of hB (x_w_I hpos.1 hp hc (v := v.toInt32) (by rw [ht.1]; unfold x_fv; rw [hI_at, if_pos rfl, ht.2]; rfl)) hP1 hD1 hS1 (x_okI hB.2.2.2)
  exact kk pp e R s m args below meth c D cA ka A Q n0 a0 mcT msT hC gR hE H1 locs1 cells slots al ls h1 h2 h3 h4 hB1 gL (fun v hm => hv v (List.mem_cons_of_mem _ (List.mem_cons_of_mem _ hm)))
theorem sx_iald {p : Nat} {i : Int32} (hp : hK h p = 12) (hi : vp_in i (hL h p)) (hd : decode M.2.1 pc = .ok (.iaload, 1)) (kk : Sx l z d mc ms M (pc + 1) lc (xI (hI h p i.toNatClampNeg) :: st) h Ph) : Sx l z d mc ms M pc lc (xI i :: xR p :: st) h Ph := by
  intro pp e R s m args below meth c D cA ka A Q n0 a0 mcT msT hC gR hE H locs cells slots al ls h1 h2 h3 h4 hB gL hv
  have hpos := hB.2.2.2.pos hp (by omega)
  rw [List.map_cons, List.map_cons, x_t_R hpos.1]
  exact va_iald hC.1 hC.2.1 hC.2.2.2.2.2.2.1 hB.1 (p - 1) 0 ((x_w_at hpos.1 hpos.2).trans (by rw [x_g_int hp (by omega)])) rfl hi hd (kk pp e R s m args below meth c D cA ka A Q n0 a0 mcT msT hC gR hE H locs cells slots al ls h1 h2 h3 h4 hB gL (List.forall_mem_cons.mpr ⟨trivial, (fun v hm => hv v (List.mem_cons_of_mem _ (List.mem_cons_of_mem _ hm)))⟩))
theorem sx_zald {p : Nat} {i : Int32} (hp : hK h p = 13) (hi : vp_in i (hL h p)) (hd : decode M.2.1 pc = .ok (.baload, 1)) (kk : Sx l z d mc ms M (pc + 1) lc (xI (hI h p i.toNatClampNeg) :: st) h Ph) : Sx l z d mc ms M pc lc (xI i :: xR p :: st) h Ph := by
  intro pp e R s m args below meth c D cA ka A Q n0 a0 mcT msT hC gR hE H locs cells slots al ls h1 h2 h3 h4 hB gL hv
  have hpos := hB.2.2.2.pos hp (by omega)
  rw [List.map_cons, List.map_cons, x_t_R hpos.1]
  exact va_zald hC.1 hC.2.1 hC.2.2.2.2.2.2.1 hB.1 (p - 1) 1 ((x_w_at hpos.1 hpos.2).trans (by rw [x_g_int hp (by omega)])) rfl hi hd (kk pp e R s m args below meth c D cA ka A Q n0 a0 mcT msT hC gR hE H locs cells slots al ls h1 h2 h3 h4 hB gL (List.forall_mem_cons.mpr ⟨trivial, (fun v hm => hv v (List.mem_cons_of_mem _ (List.mem_cons_of_mem _ hm)))⟩))
theorem sx_aald {p ci : Nat} {i : Int32} (hp : hK h p = ci) (hc : 14 ≤ ci ∧ ci ≤ 16) (hi : vp_in i (hL h p)) (hd : decode M.2.1 pc = .ok (.aaload, 1)) (kk : Sx l z d mc ms M (pc + 1) lc (xR (hR h p i.toNatClampNeg) :: st) h Ph) : Sx l z d mc ms M pc lc (xI i :: xR p :: st) h Ph := by
  intro pp e R s m args below meth c D cA ka A Q n0 a0 mcT msT hC gR hE H locs cells slots al ls h1 h2 h3 h4 hB gL hv
  have hpos := hB.2.2.2.pos hp (by omega)
  rw [List.map_cons, List.map_cons, x_t_R hpos.1]
  have kk9 := kk pp e R s m args below meth c D cA ka A Q n0 a0 mcT msT hC gR hE H locs cells slots al ls h1 h2 h3 h4 hB gL (List.forall_mem_cons.mpr ⟨hB.2.2.2.2.1 _ _, (fun v hm => hv v (List.mem_cons_of_mem _ (List.mem_cons_of_mem _ hm)))⟩)
  have h3c : ci = 14 ∨ ci = 15 ∨ ci = 16 := by omega
  rcases h3c with rfl | rfl | rfl
  · exact va_aldq (f := fun j => x_r al (hR h p j)) hC.1 hC.2.1 hC.2.2.2.2.2.2.1 hB.1 (p - 1) 2 ((x_w_at hpos.1 hpos.2).trans (by rw [x_g_ref hp hc])) rfl hi hd kk9
  · exact va_aldq (f := fun j => x_r al (hR h p j)) hC.1 hC.2.1 hC.2.2.2.2.2.2.1 hB.1 (p - 1) 3 ((x_w_at hpos.1 hpos.2).trans (by rw [x_g_ref hp hc])) rfl hi hd kk9
  · exact va_aldq (f := fun j => x_r al (hR h p j)) hC.1 hC.2.1 hC.2.2.2.2.2.2.1 hB.1 (p - 1) 4 ((x_w_at hpos.1 hpos.2).trans (by rw [x_g_ref hp hc])) rfl hi hd kk9
theorem sx_iast {p : Nat} {i v : Int32} (hp : hK h p = 12) (hi : vp_in i (hL h p)) (hd : decode M.2.1 pc = .ok (.iastore, 1)) (kk : Sx l z d mc ms M (pc + 1) lc st (hIu h p i.toNatClampNeg v) Ph) : Sx l z d mc ms M pc lc (xI v :: xI i :: xR p :: st) h Ph := by
  intro pp e R s m args below meth c D cA ka A Q n0 a0 mcT msT hC gR hE H locs cells slots al ls h1 h2 h3 h4 hB gL hv
  have hpos := hB.2.2.2.pos hp (by omega)
  rw [List.map_cons, List.map_cons, List.map_cons, x_t_R hpos.1]
  refine va_iast hC.1 hC.2.1 hC.2.2.2.2.2.2.1 hB.1 hB.2.1 hB.2.2.1 (p - 1) 0 ((x_w_at hpos.1 hpos.2).trans (by rw [x_g_int hp (by omega)])) rfl hi hd (fun H1 locs1 hP1 hD1 hS1 => ?_)
  exact kk pp e R s m args below meth c D cA ka A Q n0 a0 mcT msT hC gR hE H1 locs1 cells slots al ls h1 h2 h3 h4 (x_B_of hB (x_w_Ia hpos.1 hp (by omega)) hP1 hD1 hS1 (x_okI hB.2.2.2)) gL (fun v hm => hv v (List.mem_cons_of_mem _ (List.mem_cons_of_mem _ (List.mem_cons_of_mem _ hm))))
theorem sx_zast {p : Nat} {i v : Int32} (hp : hK h p = 13) (hi : vp_in i (hL h p)) (hd : decode M.2.1 pc = .ok (.bastore, 1)) (kk : Sx l z d mc ms M (pc + 1) lc st (hIu h p i.toNatClampNeg (vp_nar .boolean v)) Ph) : Sx l z d mc ms M pc lc (xI v :: xI i :: xR p :: st) h Ph := by
  intro pp e R s m args below meth c D cA ka A Q n0 a0 mcT msT hC gR hE H locs cells slots al ls h1 h2 h3 h4 hB gL hv
  have hpos := hB.2.2.2.pos hp (by omega)
  rw [List.map_cons, List.map_cons, List.map_cons, x_t_R hpos.1]
  refine va_zast hC.1 hC.2.1 hC.2.2.2.2.2.2.1 hB.1 hB.2.1 hB.2.2.1 (p - 1) 1 ((x_w_at hpos.1 hpos.2).trans (by rw [x_g_int hp (by omega)])) rfl hi hd (fun H1 locs1 hP1 hD1 hS1 => ?_)
  exact kk pp e R s m args below meth c D cA ka A Q n0 a0 mcT msT hC gR hE H1 locs1 cells slots al ls h1 h2 h3 h4 (x_B_of hB (x_w_Ia hpos.1 hp (by omega)) hP1 hD1 hS1 (x_okI hB.2.2.2)) gL (fun v hm => hv v (List.mem_cons_of_mem _ (List.mem_cons_of_mem _ (List.mem_cons_of_mem _ hm))))
theorem sx_aast {p ci v cv : Nat} {i : Int32} (hp : hK h p = ci) (hc : (ci = 14 ∧ cv = 7) ∨ (ci = 15 ∧ cv = 8) ∨ (ci = 16 ∧ cv = 4)) (hw : hK h v = cv) (hi : vp_in i (hL h p)) (hd : decode M.2.1 pc = .ok (.aastore, 1)) (kk : Sx l z d mc ms M (pc + 1) lc st (hRu h p i.toNatClampNeg v) Ph) : Sx l z d mc ms M pc lc (xR v :: xI i :: xR p :: st) h Ph := by
  intro pp e R s m args below meth c D cA ka A Q n0 a0 mcT msT hC gR hE H locs cells slots al ls h1 h2 h3 h4 hB gL hv
  have hpos := hB.2.2.2.pos hp (by omega)
  have hpv := hB.2.2.2.pos hw (by omega)
  rw [List.map_cons, List.map_cons, List.map_cons, x_t_R hpos.1, x_t_R hpv.1]
  have kk9 := fun (H1 : Heap) (locs1 : List Loc) hP1 hD1 hS1 => kk pp e R s m args below meth c D cA ka A Q n0 a0 mcT msT hC gR hE H1 locs1 cells slots al ls h1 h2 h3 h4 (x_B_of hB (x_w_Ra (cA := cA) (al := al) (k := i.toNatClampNeg) (v := v) hpos.1 hp (by omega)) hP1 hD1 hS1 (x_okR hB.2.2.2 hpv.2)) gL (fun v hm => hv v (List.mem_cons_of_mem _ (List.mem_cons_of_mem _ (List.mem_cons_of_mem _ hm))))
  rw [show x_r al v = some (al v) by unfold x_r; rw [if_neg (by omega)]] at kk9
  rcases hc with ⟨rfl, rfl⟩ | ⟨rfl, rfl⟩ | ⟨rfl, rfl⟩
  · exact va_astq hC.1 hC.2.1 hC.2.2.2.2.2.2.1 hB.1 hB.2.1 hB.2.2.1 (p - 1) 2 (v - 1) 7 (r := (xR_Te, xT_Te, 2)) ((x_w_at hpos.1 hpos.2).trans (by rw [x_g_ref hp (by omega)])) rfl ((x_w_at hpv.1 hpv.2).trans (by rw [x_g_obj hw rfl])) rfl hi hd kk9
  · exact va_astq hC.1 hC.2.1 hC.2.2.2.2.2.2.1 hB.1 hB.2.1 hB.2.2.1 (p - 1) 3 (v - 1) 8 (r := (xR_To, xT_To, 2)) ((x_w_at hpos.1 hpos.2).trans (by rw [x_g_ref hp (by omega)])) rfl ((x_w_at hpv.1 hpv.2).trans (by rw [x_g_obj hw rfl])) rfl hi hd kk9
  · exact va_astq hC.1 hC.2.1 hC.2.2.2.2.2.2.1 hB.1 hB.2.1 hB.2.2.1 (p - 1) 4 (v - 1) 4 (r := (xR_Sh, xT_Sh, 3)) ((x_w_at hpos.1 hpos.2).trans (by rw [x_g_ref hp (by omega)])) rfl ((x_w_at hpv.1 hpv.2).trans (by rw [x_g_obj hw rfl])) rfl hi hd kk9
theorem sx_alen {p ci : Nat} (hp : hK h p = ci) (hc : 12 ≤ ci ∧ ci ≤ 16) (hd : decode M.2.1 pc = .ok (.arraylength, 1)) (kk : Sx l z d mc ms M (pc + 1) lc (xI (Int32.ofNat (hL h p)) :: st) h Ph) : Sx l z d mc ms M pc lc (xR p :: st) h Ph := by
  intro pp e R s m args below meth c D cA ka A Q n0 a0 mcT msT hC gR hE H locs cells slots al ls h1 h2 h3 h4 hB gL hv
  have hpos := hB.2.2.2.pos hp (by omega)
  rw [List.map_cons, x_t_R hpos.1]
  have kk9 := (kk pp e R s m args below meth c D cA ka A Q n0 a0 mcT msT hC gR hE H locs cells slots al ls h1 h2 h3 h4 hB gL (List.forall_mem_cons.mpr ⟨trivial, (fun v hm => hv v (List.mem_cons_of_mem _ hm))⟩))
  have h3c : ci = 12 ∨ ci = 13 ∨ ci = 14 ∨ ci = 15 ∨ ci = 16 := by omega
  rcases h3c with rfl | rfl | rfl | rfl | rfl
  · exact va_alen (x := (hL h p, .inl (hI h p))) hC.1 hC.2.1 hC.2.2.2.2.2.2.1 hB.1 (p - 1) 0 ((x_w_at hpos.1 hpos.2).trans (by rw [x_g_int hp (by omega)])) rfl rfl hd kk9
  · exact va_alen (x := (hL h p, .inl (hI h p))) hC.1 hC.2.1 hC.2.2.2.2.2.2.1 hB.1 (p - 1) 1 ((x_w_at hpos.1 hpos.2).trans (by rw [x_g_int hp (by omega)])) rfl rfl hd kk9
  · exact va_alen (x := (hL h p, .inr (.inr (.inr (.inr (fun j => x_r al (hR h p j))))))) hC.1 hC.2.1 hC.2.2.2.2.2.2.1 hB.1 (p - 1) 2 ((x_w_at hpos.1 hpos.2).trans (by rw [x_g_ref hp (by omega)])) rfl rfl hd kk9
  · exact va_alen (x := (hL h p, .inr (.inr (.inr (.inr (fun j => x_r al (hR h p j))))))) hC.1 hC.2.1 hC.2.2.2.2.2.2.1 hB.1 (p - 1) 3 ((x_w_at hpos.1 hpos.2).trans (by rw [x_g_ref hp (by omega)])) rfl rfl hd kk9
  · exact va_alen (x := (hL h p, .inr (.inr (.inr (.inr (fun j => x_r al (hR h p j))))))) hC.1 hC.2.1 hC.2.2.2.2.2.2.1 hB.1 (p - 1) 4 ((x_w_at hpos.1 hpos.2).trans (by rw [x_g_ref hp (by omega)])) rfl rfl hd kk9
/-! the script, and the row ABOVE -/
theorem x_t_S {al : Nat → Nat} {ka : xK} {k : Nat} (hk : k ≠ 31) : x_t al ka (xS k) = .ref (ka.1 k) := by
  show (if k = 31 then va_rf ka.2 else .ref (ka.1 k)) = _
  rw [if_neg hk]
theorem sx_slen (hd : decode M.2.1 pc = .ok (.arraylength, 1)) (kk : Sx l z d mc ms M (pc + 1) lc (xI (Int32.ofNat z.1) :: st) h Ph) : Sx l z d mc ms M pc lc (xS 14 :: st) h Ph := by
  intro pp e R s m args below meth c D cA ka A Q n0 a0 mcT msT hC gR hE H locs cells slots al ls h1 h2 h3 h4 hB gL hv
  rw [List.map_cons, x_t_S (by decide)]
  obtain ⟨a1, a2, a3, a4, a5, a6, a7, a8, a9, a10⟩ := hC.2.2.2.2.2.2.2.2.2.2
  exact va_slen hC.1 hC.2.1 a7 a8 a9 hB.2.2.1 hd (kk pp e R s m args below meth c D cA ka A Q n0 a0 mcT msT hC gR hE H locs cells slots al ls h1 h2 h3 h4 hB gL (List.forall_mem_cons.mpr ⟨trivial, (fun v hm => hv v (List.mem_cons_of_mem _ hm))⟩))
theorem sx_sld {i : Int32} (hi : vp_in i z.1) (hd : decode M.2.1 pc = .ok (.iaload, 1)) (kk : Sx l z d mc ms M (pc + 1) lc (xI (z.2 i.toNatClampNeg) :: st) h Ph) : Sx l z d mc ms M pc lc (xI i :: xS 14 :: st) h Ph := by
  intro pp e R s m args below meth c D cA ka A Q n0 a0 mcT msT hC gR hE H locs cells slots al ls h1 h2 h3 h4 hB gL hv
  rw [List.map_cons, List.map_cons, x_t_S (by decide)]
  obtain ⟨a1, a2, a3, a4, a5, a6, a7, a8, a9, a10⟩ := hC.2.2.2.2.2.2.2.2.2.2
  exact va_sld hC.1 hC.2.1 a7 a8 a9 hB.2.2.1 hi hd (kk pp e R s m args below meth c D cA ka A Q n0 a0 mcT msT hC gR hE H locs cells slots al ls h1 h2 h3 h4 hB gL (List.forall_mem_cons.mpr ⟨trivial, (fun v hm => hv v (List.mem_cons_of_mem _ (List.mem_cons_of_mem _ hm)))⟩))
theorem sx_above {idx : Nat} (hw : Cond.fieldLink M.1.cls idx "ThreesAtTable$Town" "ABOVE" "[I" ∈ xTB) (hd : decode M.2.1 pc = .ok (.getstatic idx, 3)) (kk : Sx l z d mc ms M (pc + 3) lc (xS 15 :: st) h Ph) : Sx l z d mc ms M pc lc st h Ph := by
  intro pp e R s m args below meth c D cA ka A Q n0 a0 mcT msT hC gR hE H locs cells slots al ls h1 h2 h3 h4 hB gL hv
  obtain ⟨a1, a2, a3, a4, a5, a6, a7, a8, a9, a10⟩ := hC.2.2.2.2.2.2.2.2.2.2
  have kk9 := (kk pp e R s m args below meth c D cA ka A Q n0 a0 mcT msT hC gR hE H locs cells slots al ls h1 h2 h3 h4 hB gL (List.forall_mem_cons.mpr ⟨trivial, hv⟩))
  rw [List.map_cons, x_t_S (by decide)] at kk9
  exact va_gets hC.1 hC.2.1 a5 hB.2.2.1 hC.2.2.2.2.1 (hC.2.2.2.2.2.1 _ hw) (fun _ h9 => h9) hd kk9
theorem sx_abld {i : Int32} (hi : vp_in i 6) (hd : decode M.2.1 pc = .ok (.iaload, 1)) (kk : Sx l z d mc ms M (pc + 1) lc (xI (x_ab i.toNatClampNeg) :: st) h Ph) : Sx l z d mc ms M pc lc (xI i :: xS 15 :: st) h Ph := by
  intro pp e R s m args below meth c D cA ka A Q n0 a0 mcT msT hC gR hE H locs cells slots al ls h1 h2 h3 h4 hB gL hv
  rw [List.map_cons, List.map_cons, x_t_S (by decide)]
  obtain ⟨a1, a2, a3, a4, a5, a6, a7, a8, a9, a10⟩ := hC.2.2.2.2.2.2.2.2.2.2
  obtain ⟨cell, b1, b2, b3, b4, b5, b6, b7⟩ := a6.kept hB.2.2.1.2.1
  have hlt : i.toNatClampNeg < 6 := Nat.not_le.mp fun q => hi (Or.inr q)
  exact W.iald (v := .int (x_ab i.toNatClampNeg)) hC.1 hC.2.1 b1 b2 b3 (fun q => q.elim (fun q => hi (Or.inl q)) (fun q => by omega)) (b6 _ hlt) rfl rfl hd (kk pp e R s m args below meth c D cA ka A Q n0 a0 mcT msT hC gR hE H locs cells slots al ls h1 h2 h3 h4 hB gL (List.forall_mem_cons.mpr ⟨trivial, (fun v hm => hv v (List.mem_cons_of_mem _ (List.mem_cons_of_mem _ hm)))⟩))
end XH
end
section
section XM
variable {l : Launch} {z : xZ} {d mc ms : Nat} {M : xM} {pc : Nat} {lc : List (Option xV)} {st : List xV} {h : xH} {Ph : Option xV → xH → Prop}
theorem x_rr_vo {ret : Option FieldType} {i : Instr} {r : Option xV} {n : Nat} (hr : x_rr ret i st r) (hv : ∀ v ∈ st, x_vo n v) : ∀ v, r = some v → x_vo n v := by
  intro v hv1
  unfold x_rr at hr
  split at hr
  · rw [hr.2.2] at hv1; cases hv1
  · obtain ⟨-, w, h1, h2⟩ := hr
    rw [h2] at hv1; cases hv1; trivial
  · obtain ⟨-, w, h1, h2⟩ := hr
    rw [h2] at hv1; cases hv1
    exact hv _ (by rw [h1]; exact List.mem_cons_self)
  · obtain ⟨-, w, h1, h2⟩ := hr
    rw [h2] at hv1; cases hv1
    exact hv _ (by rw [h1]; exact List.mem_cons_self)
  · exact hr.elim
  · exact hr.elim
  · obtain ⟨-, w, w0, h1, h2, h3⟩ := hr
    rw [h2] at hv1; cases hv1; trivial
theorem sx_ret {i : Instr} {r : Option xV} (hd : decode M.2.1 pc = .ok (i, 1)) (hr : x_rr M.2.2.2 i st r) (hp : Ph r h) : Sx l z d mc ms M pc lc st h Ph := by
  intro pp e R s m args below meth c D cA ka A Q n0 a0 mcT msT hC gR hE H locs cells slots al ls h1 h2 h3 h4 hB gL hv
  exact hE H locs cells slots al ls h pc i st r (by omega) (by omega) h3 h4 hB (x_rr_vo hr hv) hp hd hr
/-! a method's contract out of its walk -/
def x_ar (as : List xV) : List (Option xV) := as.flatMap (fun v => if x_wide (some (some v)) = true then [some v, none] else [some v])
def x_en (as : List xV) (n : Nat) : List (Option xV) := x_ar as ++ List.replicate (n - (x_ar as).length) none
theorem x_ar_len {al : Nat → Nat} {ka : xK} (as : List xV) : (lg_sl (as.map (x_t al ka))).length = (x_ar as).length := by
  induction as with
  | nil => rfl
  | cons v t ih =>
    rw [List.map_cons]
    unfold lg_sl x_ar at ih ⊢
    rw [List.flatMap_cons, List.flatMap_cons, List.length_append, List.length_append, ih]
    by_cases hw : x_wide (some (some v)) = true
    · rw [if_pos ((x_wide_t al ka v).mpr hw), if_pos hw]; rfl
    · rw [if_neg (fun q => hw ((x_wide_t al ka v).mp q)), if_neg hw]; rfl
theorem x_ar_in {al : Nat → Nat} {ka : xK} (as : List xV) : ∀ (k i : Nat) (v : xV), (x_ar as)[i]? = some (some v) → (k + i, x_t al ka v) ∈ lv_args k (as.map (x_t al ka)) ∧ v ∈ as := by
  induction as with
  | nil => intro k i v hi; cases hi
  | cons a t ih =>
    intro k i v hi
    have e : x_ar (a :: t) = (if x_wide (some (some a)) = true then [some a, none] else [some a]) ++ x_ar t := by unfold x_ar; rw [List.flatMap_cons]
    rw [e] at hi
    rw [List.map_cons]
    show _ ∈ (k, x_t al ka a) :: lv_args (if (x_t al ka a).category = 2 then k + 2 else k + 1) (t.map (x_t al ka)) ∧ _
    by_cases hw : x_wide (some (some a)) = true
    · rw [if_pos hw] at hi
      rw [if_pos ((x_wide_t al ka a).mpr hw)]
      match i, hi with
      | 0, hi => cases hi; exact ⟨List.mem_cons_self, List.mem_cons_self⟩
      | 1, hi => cases hi
      | i + 2, hi =>
        have := ih (k + 2) i v (by simpa using hi)
        rw [show k + 2 + i = k + (i + 2) by omega] at this
        exact ⟨List.mem_cons_of_mem _ this.1, List.mem_cons_of_mem _ this.2⟩
    · rw [if_neg hw] at hi
      rw [if_neg (fun q => hw ((x_wide_t al ka a).mp q))]
      match i, hi with
      | 0, hi => cases hi; exact ⟨List.mem_cons_self, List.mem_cons_self⟩
      | i + 1, hi =>
        have := ih (k + 1) i v (by simpa using hi)
        rw [show k + 1 + i = k + (i + 1) by omega] at this
        exact ⟨List.mem_cons_of_mem _ this.1, List.mem_cons_of_mem _ this.2⟩
theorem x_en_L {al : Nat → Nat} {ka : xK} {as : List xV} {np n : Nat} (hn : (x_ar as).length ≤ n) (hv : ∀ v ∈ as, x_vo np v) : x_L al ka np n (x_en as n) ((lg_sl (as.map (x_t al ka)) ++ List.replicate (n - (lg_sl (as.map (x_t al ka))).length) Slot.unset).toArray) := by
  have hl := lv_entry (as.map (x_t al ka)) (n := n) (by rw [x_ar_len]; exact hn)
  refine ⟨hl.1, hl.2.1, fun i v hi => ?_⟩
  have hi2 : (x_ar as)[i]? = some (some v) := by
    unfold x_en at hi
    by_cases hlt : i < (x_ar as).length
    · rwa [List.getElem?_append_left hlt] at hi
    · rw [List.getElem?_append_right (by omega), List.getElem?_replicate] at hi
      split at hi <;> cases hi
  have h9 := x_ar_in (al := al) (ka := ka) as 0 i v hi2
  rw [Nat.zero_add] at h9
  exact ⟨hl.2.2 _ h9.1, hv v h9.2⟩
theorem x_zret {p : Program} {e : Env} {R : Room} {s : State} {m : MethodId} {args : Array Value} {below : List Frame} {meth : Method} {c : Code} {H : Heap} {locs : List Loc} {cells slots : Nat} {cc : ByteArray} {Qc : Array Value → State → Outcome → State → Prop} {free : Addr → Prop} {v v0 : Int32} {ty : FieldType} (hexec : p.tables.exec = Jvm.exec) (hb : c.code = cc) (hr : meth.sig.returnType = some ty) (hn : narrow ty (.int v0) = .int v)
    (hq : ∀ t : State, t.heap = H → s.WarmedH t.vm → Qc args s (.returned (some (.int v))) t) (hf : ∀ q ∈ locs, free q.base)
    {pc : Nat} {ls : Array Slot} (hdg : decode cc pc = .ok (.ireturn, 1)) (hlocks : meth.locks = false) : W p l e R s m args below meth c H locs cells slots (MQ below Qc args s cells slots free) (F0 m pc ls [.int v0]) := by
  intro T hT X
  obtain ⟨fs, hret, hrun, hended, hW, hframe⟩ := X.leave (v := some (.int v)) (fun h => by rw [hr] at h; cases h)
  have hmeth' : T.vm.method? m = some meth := X.method'
  refine ⟨T.setFrames fs, ?_, .returned (some (.int v)), hrun, hended, hq _ hT hW, locs, ⟨⟨_, rfl⟩, hW, hframe⟩, hf⟩
  jvm_step X.here [X.here.top, hexec, hb, hdg, hmeth', hr, hn]
  (try refine ⟨rfl, ?_⟩); (try refine ⟨rfl, ?_⟩)
  first | (intro acts; rw [hret _ acts rfl rfl rfl]) | rw [hret _ _ rfl rfl rfl]
  exact Steps.refl _
def x_Pc (D : va_G) (cA : Nat → ClassId) (ka : xK) (z : xZ) (al : Nat → Nat) (sz : Nat) (as : List xV) (h : xH) : Array Value → State → Prop :=
  va_Pc (as.map (x_t al ka)) (fun U => U.heap.size = sz ∧ va_P D xC (x_w cA al h) U.heap ∧ va_K D xC (x_tys cA) U ∧ va_D (fun _ => True) (x_w cA al h) ∧ x_Str ka z (va_A (x_w cA al h) sz) U)
def x_Qc (D : va_G) (cA : Nat → ClassId) (ka : xK) (al : Nat → Nat) (sz : Nat) (h : xH) (Ph : Option xV → xH → Prop) : Array Value → State → Outcome → State → Prop := fun _ st oc t =>
  (∃ (r : Option xV) (h2 : xH) (al2 : Nat → Nat), oc = .returned (r.map (x_t al2 ka)) ∧ Ph r h2 ∧ (∀ v, r = some v → x_vo (hN h2) v) ∧ x_ok h2 ∧ hN h ≤ hN h2 ∧ (∀ q, q < hN h → al2 q = al q) ∧ va_P D xC (x_w cA al2 h2) t.heap ∧ va_K D xC (x_tys cA) t ∧ va_D (va_A (x_w cA al h) sz) (x_w cA al2 h2)) ∧ va_F (va_A (x_w cA al h) sz) st t
theorem Sx.met {as : List xV} (hpl : plainName M.1.cls = true) (hn : (x_ar as).length ≤ M.2.2.1) (hx : Sx l z d mc ms M 0 (x_en as M.2.2.1) [] h Ph) (hvo : ∀ v ∈ as, x_vo (hN h) v) (hok : x_ok h) (D : va_G) (cA : Nat → ClassId) (ka : xK) (al : Nat → Nat) (sz : Nat) :
    Met l M.1 (x_ws M) (x_rm d mc ms) (x_Pc D cA ka z al sz as h) (x_Qc D cA ka al sz h Ph) mc ms (va_A (x_w cA al h) sz) := by
  refine Met.ofW (cc := M.2.1) (maxL := M.2.2.1) (ret := M.2.2.2) hpl rfl ?_
  intro p e s m args below meth c s₁ B hml hv
  obtain ⟨rfl, hsz, hP, hKs, hD0, hStr⟩ := hv
  subst hsz
  have hts := atoms_spec (ws := x_ws M) B.pre
  have hA : ∀ q : Nat, s.heap.size ≤ q → va_A (x_w cA al h) s.heap.size q := fun q h => Or.inr h
  have hC : x_C M z p s m (as.map (x_t al ka)).toArray meth c D cA ka (va_A (x_w cA al h) s.heap.size) :=
    ⟨B.exec, B.bytes, hml, B.returns, findClass_of_methodNamed B.named, fun w hw => hts w (List.mem_cons_of_mem _ hw), hKs, B.notSynchronized, fun hi => by rw [← hi]; exact (name_of_methodNamed B.named B.method).1, hA, hStr⟩
  have hB : x_B D cA al (va_A (x_w cA al h) s.heap.size) s h s.heap [] := ⟨hP, hD0.self, va_S.rf, hok⟩
  rw [lg_entry_eq]
  refine hx p e (x_rm d mc ms) s m (as.map (x_t al ka)).toArray below meth c D cA ka (va_A (x_w cA al h) s.heap.size) _ (hN h) al mc ms hC ⟨Nat.le_refl _, Nat.le_refl _, Nat.le_refl _, Nat.le_refl _⟩ ?_ s.heap [] 0 0 al _ (by omega) (by omega) (fun _ _ => rfl) (Nat.le_refl _) hB (x_en_L hn hvo) (fun v hv => absurd hv List.not_mem_nil)
  intro H locs cells slots al2 ls h2 pc i st r q1 q2 q3 q4 qB qv qp qd qr
  refine W.widen q1 q2 ?_
  have hq : ∀ t : State, t.heap = H → s.WarmedH t.vm → x_Qc D cA ka al s.heap.size h Ph (as.map (x_t al ka)).toArray s (.returned (r.map (x_t al2 ka))) t := fun t ht hW =>
    ⟨⟨r, h2, al2, rfl, qp, qv, qB.2.2.2, q4, q3, by rw [ht]; exact qB.1, va_K.moved hW.alike hKs, qB.2.1⟩, qB.2.2.1.F ht⟩
  have hlk := B.notSynchronized
  have hrt := B.returns
  generalize hret : M.2.2.2 = ret at qr hrt
  unfold x_rr at qr
  split at qr
  · obtain ⟨rfl, rfl, rfl⟩ := qr
    exact W.vret B.exec B.bytes hrt hq qB.2.2.1.2.2 qd
  · obtain ⟨rfl, w, rfl, rfl⟩ := qr
    exact W.lret B.exec B.bytes hrt hq qB.2.2.1.2.2 qd
  · obtain ⟨rfl, w, rfl, rfl⟩ := qr
    exact W.aret B.exec B.bytes hrt (Or.inl ⟨_, rfl⟩) (x_t_ref al2 ka w) hq qB.2.2.1.2.2 qd
  · obtain ⟨rfl, w, rfl, rfl⟩ := qr
    exact W.aret B.exec B.bytes hrt (Or.inr ⟨_, rfl⟩) (x_t_ref al2 ka w) hq qB.2.2.1.2.2 qd
  · exact qr.elim
  · exact qr.elim
  · obtain ⟨rfl, w, w0, rfl, rfl, hnw⟩ := qr
    exact x_zret B.exec B.bytes hrt hnw hq qB.2.2.1.2.2 qd hlk
/-! calls -/
theorem x_blind {D : va_G} {cA : Nat → ClassId} {ka : xK} {al : Nat → Nat} {sz : Nat} {as : List xV} : FrameBlind (x_Pc D cA ka z al sz as h) := by
  intro a U g mk hq
  obtain ⟨q0, q1, qP, qK, qD, qS⟩ := hq
  exact ⟨q0, q1, qP, va_K.moved (u := U) (U := U.calling g mk a) (Vm.Alike.refl U.vm) qK, qD, qS.same rfl rfl⟩
theorem x_after {p : Program} {e : Env} {R : Room} {s : State} {m : MethodId} {args : Array Value} {below : List Frame} {meth : Method} {c : Code} {H : Heap} {locs : List Loc} {cells slots mc2 ms2 : Nat} {Q : State → Prop} {ls : Array Slot} {st0 rest : List Value} {a : Array Value} {D : va_G} {cA : Nat → ClassId} {ka : xK} {al : Nat → Nat} {A : Nat → Prop} {Ps : Option xV → xH → Prop}
    (hr : va_Run p l e R s m args below meth c H locs cells slots mc2 ms2 (F0 m pc ls st0) rest (x_Qc D cA ka al H.size h Ps a) (va_A (x_w cA al h) H.size)) (hB : x_B D cA al A s h H locs) (hAA : ∀ q, s.heap.size ≤ q → A q)
    (kk : ∀ (r : Option xV) (h2 : xH) (al2 : Nat → Nat) (H1 : Heap) (locs1 : List Loc), Ps r h2 → (∀ v, r = some v → x_vo (hN h2) v) → hN h ≤ hN h2 → (∀ q, q < hN h → al2 q = al q) → x_B D cA al2 A s h2 H1 locs1 → W p l e R s m args below meth c H1 locs1 (cells + mc2) (slots + ms2) Q (F0 m (pc + 3) ls (r.toList.map (x_t al2 ka) ++ rest))) : W p l e R s m args below meth c H locs cells slots Q (F0 m pc ls st0) := by
  intro T hT X
  obtain ⟨v, st₀, t, T', L, h0, X', hLf, e1, e2, ⟨⟨r, h2, al2, hoc, hps, hvo, hok, hnn, hal, hP, hKt, hD⟩, hz, hk⟩, st⟩ := hr T hT X
  rw [h0] at hz hk
  have hAf : ∀ q, va_A (x_w cA al h) H.size q → A q := by
    intro q hq
    rcases hq with ⟨k, e, hq⟩ | hq
    · exact hB.2.1.2 k (q, e) hq
    · exact hAA q (Nat.le_trans hB.2.2.1.1 hq)
  have hv : v = r.map (x_t al2 ka) := by
    injection hoc
  subst hv
  have hS : va_S A s.heap T'.heap (locs ++ L) := ⟨Nat.le_trans hB.2.2.1.1 (by rw [e1]; exact hz), fun q h1 h2 => by rw [e1, hk q (Nat.lt_of_lt_of_le h1 hB.2.2.1.1) (fun z => h2 (hAf q z))]; exact hB.2.2.1.2.1 q h1 h2, fun q hq => by
      rcases List.mem_append.mp hq with h | h
      · exact hB.2.2.1.2.2 q h
      · exact hAf _ (hLf q h)⟩
  obtain ⟨t2, a1, b1⟩ := kk r h2 al2 T'.heap (locs ++ L) hps hvo hnn hal ⟨by rw [e1]; exact hP, hD.weaken (fun _ _ _ h => hAf _ h), hS, hok⟩ T' rfl X'
  have es : (r.map (x_t al2 ka)).toList = r.toList.map (x_t al2 ka) := by cases r <;> rfl
  rw [← es] at a1
  exact ⟨t2, st t2 a1, b1⟩
/-- what a method's own tables say -/
def x_mk (M2 : xM) (n : Nat) : Prop := plainName M2.1.cls = true ∧ (M2.1.cls ≠ "java/lang/invoke/MethodHandle" ∧ M2.1.cls ≠ "java/lang/invoke/VarHandle" ∧ (parseMethodDescriptor M2.1.desc).map (fun d => d.parameters.length) = some n) ∧ M2.2.2.1 ≤ 20 ∧ Cond.initialized M2.1.cls ∈ xTB ∧ Cond.code M2.1 M2.2.1 M2.2.2.1 M2.2.2.2 ∈ xTB
theorem x_TBgood {w : Cond} (hw : w ∈ xTB) : goodWord w = true := (List.mem_filter.mp hw).2
theorem x_goodIn {M2 : xM} (h2 : Cond.code M2.1 M2.2.1 M2.2.2.1 M2.2.2.2 ∈ xTB) : GoodIn xTB (x_ws M2) := fun w hw => by
  rcases List.mem_cons.mp hw with rfl | hw
  · exact ⟨h2, good_of_word (x_TBgood h2)⟩
  · exact ⟨hw, good_of_word (x_TBgood hw)⟩
theorem x_pre {D : va_G} {cA : Nat → ClassId} {ka : xK} {al : Nat → Nat} {A : Nat → Prop} {p : Program} {s : State} {m : MethodId} {args : Array Value} {meth : Method} {c : Code} {H : Heap} {locs : List Loc} {as : List xV} (hC : x_C M z p s m args meth c D cA ka A) (hB : x_B D cA al A s h H locs) : PreS s H (x_Pc D cA ka z al H.size as h) (as.map (x_t al ka)) := by
  refine ⟨x_blind, fun U hU hW => ⟨rfl, by rw [hU], by rw [hU]; exact hB.1, va_K.moved hW.alike hC.2.2.2.2.2.2.1, hB.2.1.weaken (fun _ _ _ _ => trivial), hC.2.2.2.2.2.2.2.2.2.2.call (locs := locs) hW (by rw [hU]; exact hB.2.2.1) (fun q hq => ?_)⟩⟩
  rcases hq with ⟨k, e, hq⟩ | hq
  · exact hB.2.1.2 k (q, e) hq
  · exact hC.2.2.2.2.2.2.2.2.2.1 q (Nat.le_trans hB.2.2.1.1 hq)
def x_ct (v : xV) : Nat := if x_wide (some (some v)) = true then 2 else 1
theorem x_ct_t (al : Nat → Nat) (ka : xK) (st : List xV) : ((st.map (x_t al ka)).map fun v => v.category).sum = (st.map x_ct).sum := by
  induction st with
  | nil => rfl
  | cons v t ih =>
    rw [List.map_cons, List.map_cons, List.map_cons, List.sum_cons, List.sum_cons, ih]
    congr 1
    unfold x_ct
    by_cases hw : x_wide (some (some v)) = true
    · rw [if_pos hw]; exact (x_wide_t al ka v).mpr hw
    · rw [if_neg hw]
      rcases lv_cat (x_t al ka v) with q | q
      · exact q
      · exact absurd ((x_wide_t al ka v).mp q) hw
theorem x_L.moved {al al2 : Nat → Nat} {ka : xK} {np np2 n : Nat} {ls : Array Slot} (h : x_L al ka np n lc ls) (h1 : np ≤ np2) (h2 : ∀ q, q < np → al2 q = al q) : x_L al2 ka np2 n lc ls := by
  refine ⟨h.1, h.2.1, fun i v hi => ?_⟩
  obtain ⟨a1, a2⟩ := h.2.2 i v hi
  rcases v with v | v | v | v
  · exact ⟨a1, trivial⟩
  · exact ⟨a1, trivial⟩
  · have a3 : v < np := a2
    refine ⟨?_, Nat.lt_of_lt_of_le a3 h1⟩
    rw [a1]
    show some (Slot.val (va_rf (x_r al v))) = some (Slot.val (va_rf (x_r al2 v)))
    unfold x_r
    rw [h2 v a3]
  · exact ⟨a1, trivial⟩
theorem x_st_moved {al al2 : Nat → Nat} {ka : xK} {np : Nat} (hv : ∀ v ∈ st, x_vo np v) (h2 : ∀ q, q < np → al2 q = al q) : st.map (x_t al2 ka) = st.map (x_t al ka) := by
  apply List.map_congr_left
  intro v hm
  have a2 := hv v hm
  rcases v with v | v | v | v
  · rfl
  · rfl
  · have a3 : v < np := a2
    show va_rf (x_r al2 v) = va_rf (x_r al v)
    unfold x_r
    rw [h2 v a3]
  · rfl
theorem x_vo_mono {n n2 : Nat} (hn : n ≤ n2) {v : xV} (hv : x_vo n v) : x_vo n2 v := by
  rcases v with v | v | v | v
  · trivial
  · trivial
  · exact Nat.lt_of_lt_of_le hv hn
  · trivial
theorem sx_callV {M2 : xM} {as stk : List xV} {b : Nat} {d2 mc2 ms2 idx n : Nat} (hm : x_mk M2 n) (hst : stk = as.reverse ++ xR b :: st) (hk : ∃ q, xcl[hK h b]? = some q ∧ q.1.1 = M2.1.cls) (hl : Cond.methodLink M.1.cls idx M2.1 ∈ xTB) (hin : Cond.instanceMethod M2.1 ∈ xTB) (hse : Cond.selects M2.1.cls M2.1 M2.1 ∈ xTB) (hn : as.length = n) (hz : (x_ar (xR b :: as)).length ≤ M2.2.2.1) (hct : (st.map x_ct).sum ≤ 8) (hd : decode M.2.1 pc = .ok (.invokevirtual idx, 3)) (hd2 : d2 + 1 ≤ d) (hmc : mc2 ≤ mc) (hms : ms2 ≤ ms) (kk : Sx l z d2 mc2 ms2 M2 0 (x_en (xR b :: as) M2.2.2.1) [] h (fun r h2 => Sx l z d (mc - mc2) (ms - ms2) M (pc + 3) lc (r.toList ++ st) h2 Ph)) : Sx l z d mc ms M pc lc stk h Ph := by
  intro pp e R s m args below meth c D cA ka A Q n0 a0 mcT msT hC gR hE H locs cells slots al ls h1 h2 h3 h4 hB gL hv
  obtain ⟨k1, k2, k3, k4, k5⟩ := hm
  have hts := hC.2.2.2.2.2.1
  have hvA : ∀ v ∈ (xR b :: as), x_vo (hN h) v := fun v hm => hv v (by rw [hst]; exact (List.mem_cons.mp hm).elim (fun e => by rw [e]; exact List.mem_append_right _ List.mem_cons_self) (fun hm => List.mem_append_left _ (List.mem_reverse.mpr hm)))
  have hmet := Sx.met k1 hz kk hvA hB.2.2.2 D cA ka al H.size
  have hpre := x_pre (as := xR b :: as) hC hB
  have hR : (x_rm d2 mc2 ms2).frames + 1 ≤ R.frames ∧ 8 + (M2.2.2.1 + 11) + (x_rm d2 mc2 ms2).locals ≤ R.locals := by
    show d2 + 1 ≤ R.frames ∧ 8 + (M2.2.2.1 + 11) + 40 * d2 ≤ R.locals
    omega
  have hW : 2 * (F0 m pc ls (stk.map (x_t al ka))).monitorRoom + ((st.map (x_t al ka)).map fun v => v.category).sum ≤ 8 := lv_room (by rw [x_ct_t]; exact hct)
  have hn2 : (as.map (x_t al ka)).length = n := by rw [List.length_map]; exact hn
  have hb0 : 0 < b := by
    obtain ⟨q, hq, -⟩ := hk
    exact (hB.2.2.2.pos rfl (by have := x_clt hq; omega)).1
  have hstk : (F0 m pc ls (stk.map (x_t al ka))).stack = (as.map (x_t al ka)).reverse ++ .ref (al b) :: st.map (x_t al ka) := by show stk.map (x_t al ka) = _; rw [hst, List.map_append, List.map_reverse, List.map_cons, x_t_R hb0]
  rw [List.map_cons, x_t_R hb0] at hpre
  have hrecv : ∃ cellB : Cell, H[al b]? = some cellB ∧ cellB.vm.isStatics = false ∧ s.vm.findClass M2.1.cls = some cellB.cls := by
    obtain ⟨q, hq, hq2⟩ := hk
    have hpos := hB.2.2.2.pos (p := b) rfl (by have := x_clt hq; omega)
    rw [← hq2]
    exact va_recv hC.2.2.2.2.2.2.1 hB.1 (x_C_at hq) ((x_w_at hpos.1 hpos.2).trans (by rw [x_g_obj rfl hq]))
  have hcw := callB_of (R := R) (own := M.1.cls) (index := idx) n hts (x_goodIn k5) (ws' := xTB) rfl (rm := x_rm d2 mc2 ms2) rfl rfl (hts _ k4) (hts _ hl) k2 hR
  have hrun := va_runV (own := M.1.cls) (e := e) (below := below) (meth := meth) (locs := locs) (cells := cells) (slots := slots) ⟨hC.1, hC.2.1, hC.2.2.1, hC.2.2.2.2.1, hts⟩ hmet ⟨hcw, hts _ hin, hts _ hse⟩ ⟨hpre.1, hrecv, hpre.2⟩ (g := F0 m pc ls (stk.map (x_t al ka))) rfl hn2 gL.1 hstk hW hd (by omega)
  refine x_after hrun hB hC.2.2.2.2.2.2.2.2.2.1 (fun r h2 al2 H1 locs1 hps hvo hnn hal hB1 => ?_)
  have hv9 : ∀ v ∈ st, x_vo (hN h) v := fun v hm => hv v (by rw [hst]; exact List.mem_append_right _ (List.mem_cons_of_mem _ hm))
  have kk9 := hps pp e R s m args below meth c D cA ka A Q n0 a0 mcT msT hC gR hE H1 locs1 (cells + mc2) (slots + ms2) al2 ls (by omega) (by omega) (fun q hq => (hal q (Nat.lt_of_lt_of_le hq h4)).trans (h3 q hq)) (Nat.le_trans h4 hnn) hB1 (gL.moved hnn hal) (fun v hm => by
    rcases List.mem_append.mp hm with hm | hm
    · exact hvo v (Option.mem_toList.mp hm)
    · exact x_vo_mono hnn (hv9 v hm))
  rw [List.map_append, x_st_moved hv9 hal] at kk9
  exact kk9
theorem sx_callX {M2 : xM} {as stk : List xV} {b : Nat} {d2 mc2 ms2 idx n : Nat} (hm : x_mk M2 n) (hst : stk = as.reverse ++ xS b :: st) (hk : b < 14) (hq : M2.1.cls = "java/lang/String") (hl : Cond.methodLink M.1.cls idx M2.1 ∈ xTB) (hin : Cond.instanceMethod M2.1 ∈ xTB) (hse : Cond.selects M2.1.cls M2.1 M2.1 ∈ xTB) (hn : as.length = n) (hz : (x_ar (xS b :: as)).length ≤ M2.2.2.1) (hct : (st.map x_ct).sum ≤ 8) (hd : decode M.2.1 pc = .ok (.invokevirtual idx, 3)) (hd2 : d2 + 1 ≤ d) (hmc : mc2 ≤ mc) (hms : ms2 ≤ ms) (kk : Sx l z d2 mc2 ms2 M2 0 (x_en (xS b :: as) M2.2.2.1) [] h (fun r h2 => Sx l z d (mc - mc2) (ms - ms2) M (pc + 3) lc (r.toList ++ st) h2 Ph)) : Sx l z d mc ms M pc lc stk h Ph := by
  intro pp e R s m args below meth c D cA ka A Q n0 a0 mcT msT hC gR hE H locs cells slots al ls h1 h2 h3 h4 hB gL hv
  obtain ⟨k1, k2, k3, k4, k5⟩ := hm
  have hts := hC.2.2.2.2.2.1
  have hvA : ∀ v ∈ (xS b :: as), x_vo (hN h) v := fun v hm => hv v (by rw [hst]; exact (List.mem_cons.mp hm).elim (fun e => by rw [e]; exact List.mem_append_right _ List.mem_cons_self) (fun hm => List.mem_append_left _ (List.mem_reverse.mpr hm)))
  have hmet := Sx.met k1 hz kk hvA hB.2.2.2 D cA ka al H.size
  have hpre := x_pre (as := xS b :: as) hC hB
  have hR : (x_rm d2 mc2 ms2).frames + 1 ≤ R.frames ∧ 8 + (M2.2.2.1 + 11) + (x_rm d2 mc2 ms2).locals ≤ R.locals := by
    show d2 + 1 ≤ R.frames ∧ 8 + (M2.2.2.1 + 11) + 40 * d2 ≤ R.locals
    omega
  have hW : 2 * (F0 m pc ls (stk.map (x_t al ka))).monitorRoom + ((st.map (x_t al ka)).map fun v => v.category).sum ≤ 8 := lv_room (by rw [x_ct_t]; exact hct)
  have hn2 : (as.map (x_t al ka)).length = n := by rw [List.length_map]; exact hn
  have hstk : (F0 m pc ls (stk.map (x_t al ka))).stack = (as.map (x_t al ka)).reverse ++ .ref (ka.1 b) :: st.map (x_t al ka) := by show stk.map (x_t al ka) = _; rw [hst, List.map_append, List.map_reverse, List.map_cons, x_t_S (by omega)]
  rw [List.map_cons, x_t_S (by omega)] at hpre
  have hrecv : ∃ cellB : Cell, H[ka.1 b]? = some cellB ∧ cellB.vm.isStatics = false ∧ s.vm.findClass M2.1.cls = some cellB.cls := by
    rw [hq]
    exact vk_recv hC.2.2.2.2.2.2.2.2.2.2.1 hk hB.2.2.1
  have hcw := callB_of (R := R) (own := M.1.cls) (index := idx) n hts (x_goodIn k5) (ws' := xTB) rfl (rm := x_rm d2 mc2 ms2) rfl rfl (hts _ k4) (hts _ hl) k2 hR
  have hrun := va_runV (own := M.1.cls) (e := e) (below := below) (meth := meth) (locs := locs) (cells := cells) (slots := slots) ⟨hC.1, hC.2.1, hC.2.2.1, hC.2.2.2.2.1, hts⟩ hmet ⟨hcw, hts _ hin, hts _ hse⟩ ⟨hpre.1, hrecv, hpre.2⟩ (g := F0 m pc ls (stk.map (x_t al ka))) rfl hn2 gL.1 hstk hW hd (by omega)
  refine x_after hrun hB hC.2.2.2.2.2.2.2.2.2.1 (fun r h2 al2 H1 locs1 hps hvo hnn hal hB1 => ?_)
  have hv9 : ∀ v ∈ st, x_vo (hN h) v := fun v hm => hv v (by rw [hst]; exact List.mem_append_right _ (List.mem_cons_of_mem _ hm))
  have kk9 := hps pp e R s m args below meth c D cA ka A Q n0 a0 mcT msT hC gR hE H1 locs1 (cells + mc2) (slots + ms2) al2 ls (by omega) (by omega) (fun q hq => (hal q (Nat.lt_of_lt_of_le hq h4)).trans (h3 q hq)) (Nat.le_trans h4 hnn) hB1 (gL.moved hnn hal) (fun v hm => by
    rcases List.mem_append.mp hm with hm | hm
    · exact hvo v (Option.mem_toList.mp hm)
    · exact x_vo_mono hnn (hv9 v hm))
  rw [List.map_append, x_st_moved hv9 hal] at kk9
  exact kk9
theorem sx_callS {M2 : xM} {as stk : List xV} {d2 mc2 ms2 idx n : Nat} (hm : x_mk M2 n) (hst : stk = as.reverse ++ st) (hl : Cond.methodLink M.1.cls idx M2.1 ∈ xTB) (hin : Cond.static M2.1 ∈ xTB) (hn : as.length = n) (hz : (x_ar (as)).length ≤ M2.2.2.1) (hct : (st.map x_ct).sum ≤ 8) (hd : decode M.2.1 pc = .ok (.invokestatic idx, 3)) (hd2 : d2 + 1 ≤ d) (hmc : mc2 ≤ mc) (hms : ms2 ≤ ms) (kk : Sx l z d2 mc2 ms2 M2 0 (x_en (as) M2.2.2.1) [] h (fun r h2 => Sx l z d (mc - mc2) (ms - ms2) M (pc + 3) lc (r.toList ++ st) h2 Ph)) : Sx l z d mc ms M pc lc stk h Ph := by
  intro pp e R s m args below meth c D cA ka A Q n0 a0 mcT msT hC gR hE H locs cells slots al ls h1 h2 h3 h4 hB gL hv
  obtain ⟨k1, k2, k3, k4, k5⟩ := hm
  have hts := hC.2.2.2.2.2.1
  have hvA : ∀ v ∈ (as), x_vo (hN h) v := fun v hm => hv v (by rw [hst]; exact List.mem_append_left _ (List.mem_reverse.mpr hm))
  have hmet := Sx.met k1 hz kk hvA hB.2.2.2 D cA ka al H.size
  have hpre := x_pre (as := as) hC hB
  have hR : (x_rm d2 mc2 ms2).frames + 1 ≤ R.frames ∧ 8 + (M2.2.2.1 + 11) + (x_rm d2 mc2 ms2).locals ≤ R.locals := by
    show d2 + 1 ≤ R.frames ∧ 8 + (M2.2.2.1 + 11) + 40 * d2 ≤ R.locals
    omega
  have hW : 2 * (F0 m pc ls (stk.map (x_t al ka))).monitorRoom + ((st.map (x_t al ka)).map fun v => v.category).sum ≤ 8 := lv_room (by rw [x_ct_t]; exact hct)
  have hn2 : (as.map (x_t al ka)).length = n := by rw [List.length_map]; exact hn
  have hstk : (F0 m pc ls (stk.map (x_t al ka))).stack = (as.map (x_t al ka)).reverse ++ st.map (x_t al ka) := by rw [hst, List.map_append, List.map_reverse]
  have hcw := callB_of (R := R) (own := M.1.cls) (index := idx) n hts (x_goodIn k5) (ws' := xTB) rfl (rm := x_rm d2 mc2 ms2) rfl rfl (hts _ k4) (hts _ hl) k2 hR
  have hrun := va_runS (own := M.1.cls) (e := e) (below := below) (meth := meth) (locs := locs) (cells := cells) (slots := slots) ⟨hC.1, hC.2.1, hC.2.2.1, hC.2.2.2.2.1, hts⟩ hmet ⟨hcw, hts _ hin⟩ hpre (g := F0 m pc ls (stk.map (x_t al ka))) rfl hn2 gL.1 hstk hW hd (by omega)
  refine x_after hrun hB hC.2.2.2.2.2.2.2.2.2.1 (fun r h2 al2 H1 locs1 hps hvo hnn hal hB1 => ?_)
  have hv9 : ∀ v ∈ st, x_vo (hN h) v := fun v hm => hv v (by rw [hst]; exact List.mem_append_right _ hm)
  have kk9 := hps pp e R s m args below meth c D cA ka A Q n0 a0 mcT msT hC gR hE H1 locs1 (cells + mc2) (slots + ms2) al2 ls (by omega) (by omega) (fun q hq => (hal q (Nat.lt_of_lt_of_le hq h4)).trans (h3 q hq)) (Nat.le_trans h4 hnn) hB1 (gL.moved hnn hal) (fun v hm => by
    rcases List.mem_append.mp hm with hm | hm
    · exact hvo v (Option.mem_toList.mp hm)
    · exact x_vo_mono hnn (hv9 v hm))
  rw [List.map_append, x_st_moved hv9 hal] at kk9
  exact kk9
theorem sx_callI {M2 : xM} {as stk : List xV} {b : Nat} {d2 mc2 ms2 idx n : Nat} (hm : x_mk M2 n) (hst : stk = as.reverse ++ xR b :: st) (hl : Cond.methodLink M.1.cls idx M2.1 ∈ xTB) (hin : Cond.instanceMethod M2.1 ∈ xTB) (hy : M2.1.name = "<init>" ∧ M2.2.2.2 = none) {cb : Nat} (hb : hK h b = cb) (h99 : cb < 99) (hn : as.length = n) (hz : (x_ar (xR b :: as)).length ≤ M2.2.2.1) (hct : (st.map x_ct).sum ≤ 8) (hd : decode M.2.1 pc = .ok (.invokespecial idx, 3)) (hd2 : d2 + 1 ≤ d) (hmc : mc2 ≤ mc) (hms : ms2 ≤ ms) (kk : Sx l z d2 mc2 ms2 M2 0 (x_en (xR b :: as) M2.2.2.1) [] h (fun r h2 => Sx l z d (mc - mc2) (ms - ms2) M (pc + 3) lc (r.toList ++ st) h2 Ph)) : Sx l z d mc ms M pc lc stk h Ph := by
  intro pp e R s m args below meth c D cA ka A Q n0 a0 mcT msT hC gR hE H locs cells slots al ls h1 h2 h3 h4 hB gL hv
  obtain ⟨k1, k2, k3, k4, k5⟩ := hm
  have hts := hC.2.2.2.2.2.1
  have hvA : ∀ v ∈ (xR b :: as), x_vo (hN h) v := fun v hm => hv v (by rw [hst]; exact (List.mem_cons.mp hm).elim (fun e => by rw [e]; exact List.mem_append_right _ List.mem_cons_self) (fun hm => List.mem_append_left _ (List.mem_reverse.mpr hm)))
  have hmet := Sx.met k1 hz kk hvA hB.2.2.2 D cA ka al H.size
  have hpre := x_pre (as := xR b :: as) hC hB
  have hR : (x_rm d2 mc2 ms2).frames + 1 ≤ R.frames ∧ 8 + (M2.2.2.1 + 11) + (x_rm d2 mc2 ms2).locals ≤ R.locals := by
    show d2 + 1 ≤ R.frames ∧ 8 + (M2.2.2.1 + 11) + 40 * d2 ≤ R.locals
    omega
  have hW : 2 * (F0 m pc ls (stk.map (x_t al ka))).monitorRoom + ((st.map (x_t al ka)).map fun v => v.category).sum ≤ 8 := lv_room (by rw [x_ct_t]; exact hct)
  have hn2 : (as.map (x_t al ka)).length = n := by rw [List.length_map]; exact hn
  have hb0 : 0 < b := (hB.2.2.2.pos hb h99).1
  have hstk : (F0 m pc ls (stk.map (x_t al ka))).stack = (as.map (x_t al ka)).reverse ++ .ref (al b) :: st.map (x_t al ka) := by show stk.map (x_t al ka) = _; rw [hst, List.map_append, List.map_reverse, List.map_cons, x_t_R hb0]
  rw [List.map_cons, x_t_R hb0] at hpre
  have hcw := callB_of (R := R) (own := M.1.cls) (index := idx) (bytes := M2.2.1) (ret := none) n hts (x_goodIn k5) (ws' := xTB) (by unfold x_ws; rw [hy.2]) (rm := x_rm d2 mc2 ms2) rfl rfl (hts _ k4) (hts _ hl) k2 hR
  have hrun := va_runI (own := M.1.cls) (e := e) (below := below) (meth := meth) (locs := locs) (cells := cells) (slots := slots) ⟨hC.1, hC.2.1, hC.2.2.1, hC.2.2.2.2.1, hts⟩ hmet ⟨hcw, hy.1, hts _ hin⟩ hpre (g := F0 m pc ls (stk.map (x_t al ka))) rfl hn2 gL.1 hstk hW hd (by omega)
  refine x_after hrun hB hC.2.2.2.2.2.2.2.2.2.1 (fun r h2 al2 H1 locs1 hps hvo hnn hal hB1 => ?_)
  have hv9 : ∀ v ∈ st, x_vo (hN h) v := fun v hm => hv v (by rw [hst]; exact List.mem_append_right _ (List.mem_cons_of_mem _ hm))
  have kk9 := hps pp e R s m args below meth c D cA ka A Q n0 a0 mcT msT hC gR hE H1 locs1 (cells + mc2) (slots + ms2) al2 ls (by omega) (by omega) (fun q hq => (hal q (Nat.lt_of_lt_of_le hq h4)).trans (h3 q hq)) (Nat.le_trans h4 hnn) hB1 (gL.moved hnn hal) (fun v hm => by
    rcases List.mem_append.mp hm with hm | hm
    · exact hvo v (Option.mem_toList.mp hm)
    · exact x_vo_mono hnn (hv9 v hm))
  rw [List.map_append, x_st_moved hv9 hal] at kk9
  exact kk9
theorem sx_callN {M2 : xM} {as stk : List xV} {b : Nat} {d2 mc2 ms2 idx n : Nat} (hm : x_mk M2 n) (hst : stk = as.reverse ++ xR b :: st) {host : String} (hl : (M.1.cls, idx, M2.1, host) ∈ x_nest) (hin : Cond.instanceMethod M2.1 ∈ xTB) (hy : M2.1.name = "<init>" ∧ M2.2.2.2 = none) {cb : Nat} (hb : hK h b = cb) (h99 : cb < 99) (hn : as.length = n) (hz : (x_ar (xR b :: as)).length ≤ M2.2.2.1) (hct : (st.map x_ct).sum ≤ 8) (hd : decode M.2.1 pc = .ok (.invokespecial idx, 3)) (hd2 : d2 + 1 ≤ d) (hmc : mc2 ≤ mc) (hms : ms2 ≤ ms) (kk : Sx l z d2 mc2 ms2 M2 0 (x_en (xR b :: as) M2.2.2.1) [] h (fun r h2 => Sx l z d (mc - mc2) (ms - ms2) M (pc + 3) lc (r.toList ++ st) h2 Ph)) : Sx l z d mc ms M pc lc stk h Ph := by
  intro pp e R s m args below meth c D cA ka A Q n0 a0 mcT msT hC gR hE H locs cells slots al ls h1 h2 h3 h4 hB gL hv
  obtain ⟨k1, k2, k3, k4, k5⟩ := hm
  have hts := hC.2.2.2.2.2.1
  have hvA : ∀ v ∈ (xR b :: as), x_vo (hN h) v := fun v hm => hv v (by rw [hst]; exact (List.mem_cons.mp hm).elim (fun e => by rw [e]; exact List.mem_append_right _ List.mem_cons_self) (fun hm => List.mem_append_left _ (List.mem_reverse.mpr hm)))
  have hmet := Sx.met k1 hz kk hvA hB.2.2.2 D cA ka al H.size
  have hpre := x_pre (as := xR b :: as) hC hB
  have hR : (x_rm d2 mc2 ms2).frames + 1 ≤ R.frames ∧ 8 + (M2.2.2.1 + 11) + (x_rm d2 mc2 ms2).locals ≤ R.locals := by
    show d2 + 1 ≤ R.frames ∧ 8 + (M2.2.2.1 + 11) + 40 * d2 ≤ R.locals
    omega
  have hW : 2 * (F0 m pc ls (stk.map (x_t al ka))).monitorRoom + ((st.map (x_t al ka)).map fun v => v.category).sum ≤ 8 := lv_room (by rw [x_ct_t]; exact hct)
  have hn2 : (as.map (x_t al ka)).length = n := by rw [List.length_map]; exact hn
  have hb0 : 0 < b := (hB.2.2.2.pos hb h99).1
  have hstk : (F0 m pc ls (stk.map (x_t al ka))).stack = (as.map (x_t al ka)).reverse ++ .ref (al b) :: st.map (x_t al ka) := by show stk.map (x_t al ka) = _; rw [hst, List.map_append, List.map_reverse, List.map_cons, x_t_R hb0]
  rw [List.map_cons, x_t_R hb0] at hpre
  have hcw := va_cnB (R := R) (own := M.1.cls) (index := idx) (host := host) (bytes := M2.2.1) (ret := none) n hts (x_goodIn k5) (ws' := xTB) (by unfold x_ws; rw [hy.2]) (rm := x_rm d2 mc2 ms2) rfl rfl (hC.2.2.2.2.2.2.2.2.2.2.2.2.2.2.2.2.2.2.2.2.2 _ hl) (hts _ k4) k2 hR
  have hrun := va_runIN (own := M.1.cls) (e := e) (below := below) (meth := meth) (locs := locs) (cells := cells) (slots := slots) ⟨hC.1, hC.2.1, hC.2.2.1, hC.2.2.2.2.1, hts⟩ hmet ⟨hcw, hy.1, hts _ hin⟩ hpre (g := F0 m pc ls (stk.map (x_t al ka))) rfl hn2 gL.1 hstk hW hd (by omega)
  refine x_after hrun hB hC.2.2.2.2.2.2.2.2.2.1 (fun r h2 al2 H1 locs1 hps hvo hnn hal hB1 => ?_)
  have hv9 : ∀ v ∈ st, x_vo (hN h) v := fun v hm => hv v (by rw [hst]; exact List.mem_append_right _ (List.mem_cons_of_mem _ hm))
  have kk9 := hps pp e R s m args below meth c D cA ka A Q n0 a0 mcT msT hC gR hE H1 locs1 (cells + mc2) (slots + ms2) al2 ls (by omega) (by omega) (fun q hq => (hal q (Nat.lt_of_lt_of_le hq h4)).trans (h3 q hq)) (Nat.le_trans h4 hnn) hB1 (gL.moved hnn hal) (fun v hm => by
    rcases List.mem_append.mp hm with hm | hm
    · exact hvo v (Option.mem_toList.mp hm)
    · exact x_vo_mono hnn (hv9 v hm))
  rw [List.map_append, x_st_moved hv9 hal] at kk9
  exact kk9
theorem sx_objInit {b idx cb : Nat} (hb : hK h b = cb) (h99 : cb < 99) (hl : Cond.methodLink M.1.cls idx Lib.objectInit ∈ xTB) (hin : Cond.instanceMethod Lib.objectInit ∈ xTB) (hco : Cond.code Lib.objectInit ⟨#[0xb1]⟩ 1 none ∈ xTB) (hct : (st.map x_ct).sum ≤ 8) (hd1 : 1 ≤ d) (hd : decode M.2.1 pc = .ok (.invokespecial idx, 3)) (kk : Sx l z d mc ms M (pc + 3) lc st h Ph) : Sx l z d mc ms M pc lc (xR b :: st) h Ph := by
  intro pp e R s m args below meth c D cA ka A Q n0 a0 mcT msT hC gR hE H locs cells slots al ls h1 h2 h3 h4 hB gL hv
  rw [List.map_cons, x_t_R (hB.2.2.2.pos hb h99).1]
  have hts := hC.2.2.2.2.2.1
  refine W.objInit hC.1 hC.2.1 hC.2.2.2.2.1 (hts _ hl) (hts _ hin) (hts _ hco) rfl (gL.1.trans hC.2.2.1.symm) rfl hd (by omega) ?_ (W.eq (g2 := F0 m (pc + 3) ls (st.map (x_t al ka))) rfl (kk pp e R s m args below meth c D cA ka A Q n0 a0 mcT msT hC gR hE H locs cells slots al ls h1 h2 h3 h4 hB gL (fun v hm => hv v (List.mem_cons_of_mem _ hm))))
  rw [x_ct_t]
  show 2 * 0 + _ + 12 ≤ _
  omega
end XM
end
section
section XN
variable {l : Launch} {z : xZ} {d mc ms : Nat} {M : xM} {pc : Nat} {lc : List (Option xV)} {st : List xV} {h : xH} {Ph : Option xV → xH → Prop}
theorem x_okN {kd ln : Nat} (ho : x_ok h) : x_ok (hNw h kd ln) := by
  refine ⟨Nat.succ_le_succ (Nat.zero_le _), fun p k => ?_, fun p hp => ?_⟩
  · show (if p = hN h then 0 else hR h p k) < hN h + 1
    split
    · omega
    · have := ho.2.1 p k; omega
  · have hp2 : p = 0 ∨ hN h + 1 ≤ p := hp
    show (if p = hN h then kd else hK h p) = 99
    have := ho.1
    rw [if_neg (by omega)]
    exact ho.2.2 p (by omega)
theorem x_g_new {cA : Nat → ClassId} {al : Nat → Nat} {kd ln a q : Nat} (ho : x_ok h) (hq : q < hN h) : x_g cA (va_up al (hN h) a) (hNw h kd ln) q = x_g cA al h q := by
  have n0 : q ≠ hN h := by omega
  have e1 : hK (hNw h kd ln) q = hK h q := if_neg n0
  have e2 : hL (hNw h kd ln) q = hL h q := if_neg n0
  have e3 : hI (hNw h kd ln) q = hI h q := by funext j; exact if_neg n0
  have e4 : hR (hNw h kd ln) q = hR h q := by funext j; exact if_neg n0
  have e6 : ∀ j, x_r (va_up al (hN h) a) (hR h q j) = x_r al (hR h q j) := by
    intro j
    have := ho.2.1 q j
    unfold x_r va_up
    rw [if_neg (show ¬ hR h q j = hN h by omega)]
  have e5 : ∀ (n : Nat) (t : Nat → FieldType), x_fs (va_up al (hN h) a) (hNw h kd ln) q n t = x_fs al h q n t := by
    intro n t
    unfold x_fs
    congr 1
    funext k
    unfold x_fv
    rw [e3, e4, e6]
  unfold x_g
  rw [e1, e2, e3, e4]
  simp only [e5, e6]
theorem x_g_born {cA : Nat → ClassId} {al : Nat → Nat} {ci : Nat} {q : vw_C × (Nat → FieldType)} (hc : xcl[ci]? = some q) : x_g cA al (hNw h ci 0) (hN h) = .inr (ci, x_fs (fun _ => 0) (hNw h ci 0) (hN h) q.1.2.2 q.2) := by
  rw [x_g_obj (h := hNw h ci 0) (p := hN h) (ci := ci) (show hK (hNw h ci 0) (hN h) = ci from if_pos rfl) hc]
  congr 2
  unfold x_fs
  congr 1
  funext k
  unfold x_fv
  have e : hR (hNw h ci 0) (hN h) k = 0 := if_pos rfl
  rw [e]
  rfl
theorem x_dfl {ty : FieldType} {k p : Nat} {h : xH} (h1 : hI h p k = 0) (h2 : hR h p k = 0) (ht : x_isI ty = true ∨ x_isR ty = true) : defaultValue ty = x_fv (fun _ => 0) h p ty k := by
  unfold x_fv
  rw [h1, h2]
  cases ty <;> first | rfl | (rcases ht with ht | ht <;> cases ht; done) | decide
def x_tyok (q : vw_C × (Nat → FieldType)) : Prop := ∀ k, k < q.1.2.2 → x_isI (q.2 k) = true ∨ x_isR (q.2 k) = true
theorem x_tyall : ∀ q ∈ xcl, x_tyok q := by
  unfold xcl x_tyok
  refine List.forall_mem_cons.mpr ⟨by decide, List.forall_mem_cons.mpr ⟨by decide, List.forall_mem_cons.mpr ⟨by decide, List.forall_mem_cons.mpr ⟨by decide, List.forall_mem_cons.mpr ⟨by decide, List.forall_mem_cons.mpr ⟨by decide, List.forall_mem_cons.mpr ⟨by decide, List.forall_mem_cons.mpr ⟨by decide, List.forall_mem_cons.mpr ⟨by decide, List.forall_mem_cons.mpr ⟨by decide, List.forall_mem_cons.mpr ⟨by decide +kernel, List.forall_mem_cons.mpr ⟨by decide +kernel, fun _ h => absurd h List.not_mem_nil⟩⟩⟩⟩⟩⟩⟩⟩⟩⟩⟩⟩
theorem sx_new {ci idx : Nat} {q : vw_C × (Nat → FieldType)} (hc : xcl[ci]? = some q) (hcl : Cond.classLink M.1.cls idx q.1.1 ∈ xTB) (hins : Cond.instantiable q.1.1 q.1.2.2 ∈ xTB) (hini : Cond.initialized q.1.1 ∈ xTB) (hd : decode M.2.1 pc = .ok (.new idx, 3)) (hmc : 1 ≤ mc) (hms : q.1.2.2 ≤ ms) (kk : Sx l z d (mc - 1) (ms - q.1.2.2) M (pc + 3) lc (xR (hN h) :: st) (hNw h ci 0) Ph) : Sx l z d mc ms M pc lc st h Ph := by
  intro pp e R s m args below meth c D cA ka A Q n0 a0 mcT msT hC gR hE H locs cells slots al ls h1 h2 h3 h4 hB gL hv
  have hts := hC.2.2.2.2.2.1
  have ho := hB.2.2.2
  refine va_new (ci := ci) (fs := x_fs (fun _ => 0) (hNw h ci 0) (hN h) q.1.2.2 q.2) hC.1 hC.2.1 hts (x_cok hc).1 q.2 (fun k hk => ((x_cok hc).2.1 k hk).1) hC.2.2.2.2.1 (hts _ hcl) (hts _ hins) (hts _ hini) hC.2.2.2.2.2.2.1 hB.1 hB.2.1 hB.2.2.1 hC.2.2.2.2.2.2.2.2.2.1 (x_C_at hc) (fun j hj => ?_) (by omega) (by omega) hd (fun a H1 hP hD hS => ?_)
  · unfold vp_V
    rw [List.getD_eq_getElem?_getD, x_fs_at hj]
    exact x_dfl (if_pos rfl) (if_pos rfl) (x_tyall q (List.mem_of_getElem? hc) j hj)
  · rw [← x_g_born (cA := cA) (al := va_up al (hN h) a) hc, x_w_push ho.1 rfl (fun q hq => x_g_new ho hq)] at hP hD
    have hal : ∀ q, q < hN h → va_up al (hN h) a q = al q := fun q hq => if_neg (by omega)
    have kk9 := kk pp e R s m args below meth c D cA ka A Q n0 a0 mcT msT hC gR hE H1 locs (cells + 1) (slots + q.1.2.2) (va_up al (hN h) a) ls (by omega) (by omega) (fun q hq => (hal q (by omega)).trans (h3 q hq)) (Nat.le_trans h4 (Nat.le_succ _)) ⟨hP, hD, hS, x_okN ho⟩ (gL.moved (Nat.le_succ _) hal) (List.forall_mem_cons.mpr ⟨Nat.lt_succ_self _, fun v hm => x_vo_mono (Nat.le_succ _) (hv v hm)⟩)
    rw [List.map_cons, x_t_R (by have := ho.1; omega), x_st_moved hv hal, show va_up al (hN h) a (hN h) = a from if_pos rfl] at kk9
    exact kk9
theorem x_g_bornI {cA : Nat → ClassId} {al : Nat → Nat} {kd N : Nat} (hk : kd = 12 ∨ kd = 13) : x_g cA al (hNw h kd N) (hN h) = .inl (cA kd, (N, .inl (fun _ => 0))) := by
  rw [x_g_int (h := hNw h kd N) (p := hN h) (ci := kd) (show hK (hNw h kd N) (hN h) = kd from if_pos rfl) hk]
  have e1 : hL (hNw h kd N) (hN h) = N := if_pos rfl
  have e2 : hI (hNw h kd N) (hN h) = fun _ => 0 := by funext j; exact if_pos rfl
  rw [e1, e2]
theorem x_g_bornR {cA : Nat → ClassId} {al : Nat → Nat} {kd N : Nat} (hk : 14 ≤ kd ∧ kd ≤ 16) : x_g cA al (hNw h kd N) (hN h) = .inl (cA kd, (N, .inr (.inr (.inr (.inr (fun _ => none)))))) := by
  rw [x_g_ref (h := hNw h kd N) (p := hN h) (ci := kd) (show hK (hNw h kd N) (hN h) = kd from if_pos rfl) hk]
  have e1 : hL (hNw h kd N) (hN h) = N := if_pos rfl
  have e2 : ∀ j, hR (hNw h kd N) (hN h) j = 0 := fun j => if_pos rfl
  rw [e1]
  simp only [e2]
  rfl
theorem sx_newI {n : Int32} {N : Nat} (h0 : ¬ n < 0) (hN9 : n.toNatClampNeg = N) (hb : N * componentBytes .int ≤ 536870912) (hw : Cond.arrayClass .int ∈ xTB) (hd : decode M.2.1 pc = .ok (.newarray .int, 2)) (hmc : 1 ≤ mc) (hms : N ≤ ms) (kk : Sx l z d (mc - 1) (ms - N) M (pc + 2) lc (xR (hN h) :: st) (hNw h 12 N) Ph) : Sx l z d mc ms M pc lc (xI n :: st) h Ph := by
  intro pp e R s m args below meth c D cA ka A Q n0 a0 mcT msT hC gR hE H locs cells slots al ls h1 h2 h3 h4 hB gL hv
  have hts := hC.2.2.2.2.2.1
  have ho := hB.2.2.2
  refine va_newa (atype := .int) (ty := .int) (a0 := (N, .inl (fun _ => 0))) hC.1 hC.2.1 (hts _ hw) rfl hC.2.2.2.2.2.2.1 hB.1 hB.2.1 hB.2.2.1 hC.2.2.2.2.2.2.2.2.2.1 (fun _ => rfl) h0 hN9 hb (by omega) (by omega) hd (fun a cB H1 hK1 hP hD hS => ?_)
  have ec : cB = cA 12 := by
    have r1 : va_RA s cB .int := (hK1.2 5 (cB, .int) rfl).2
    have r2 : va_RA s (cA 12) .int := (hC.2.2.2.2.2.2.1.2 0 (cA 12, .int) rfl).2
    have r3 : s.vm.findClass ("[" ++ (.int : FieldType).toString) = some cB := r1
    have r4 : s.vm.findClass ("[" ++ (.int : FieldType).toString) = some (cA 12) := r2
    exact Option.some.inj (r3.symm.trans r4)
  subst ec
  rw [← x_g_bornI (cA := cA) (al := va_up al (hN h) a) (h := h) (kd := 12) (N := N) (by omega), x_w_push ho.1 rfl (fun q hq => x_g_new ho hq)] at hP hD
  have hal : ∀ q, q < hN h → va_up al (hN h) a q = al q := fun q hq => if_neg (by omega)
  have hv1 : ∀ v ∈ st, x_vo (hN h) v := fun v hm => hv v (List.mem_cons_of_mem _ hm)
  have kk9 := kk pp e R s m args below meth c D cA ka A Q n0 a0 mcT msT hC gR hE H1 locs (cells + 1) (slots + N) (va_up al (hN h) a) ls (by omega) (by omega) (fun q hq => (hal q (by omega)).trans (h3 q hq)) (Nat.le_trans h4 (Nat.le_succ _)) ⟨hP, hD, hS, x_okN ho⟩ (gL.moved (Nat.le_succ _) hal) (List.forall_mem_cons.mpr ⟨Nat.lt_succ_self _, fun v hm => x_vo_mono (Nat.le_succ _) (hv1 v hm)⟩)
  rw [List.map_cons, x_t_R (by have := ho.1; omega), x_st_moved hv1 hal, show va_up al (hN h) a (hN h) = a from if_pos rfl] at kk9
  exact kk9
theorem sx_newZ {n : Int32} {N : Nat} (h0 : ¬ n < 0) (hN9 : n.toNatClampNeg = N) (hb : N * componentBytes .boolean ≤ 536870912) (hw : Cond.arrayClass .boolean ∈ xTB) (hd : decode M.2.1 pc = .ok (.newarray .boolean, 2)) (hmc : 1 ≤ mc) (hms : N ≤ ms) (kk : Sx l z d (mc - 1) (ms - N) M (pc + 2) lc (xR (hN h) :: st) (hNw h 13 N) Ph) : Sx l z d mc ms M pc lc (xI n :: st) h Ph := by
  intro pp e R s m args below meth c D cA ka A Q n0 a0 mcT msT hC gR hE H locs cells slots al ls h1 h2 h3 h4 hB gL hv
  have hts := hC.2.2.2.2.2.1
  have ho := hB.2.2.2
  refine va_newa (atype := .boolean) (ty := .boolean) (a0 := (N, .inl (fun _ => 0))) hC.1 hC.2.1 (hts _ hw) rfl hC.2.2.2.2.2.2.1 hB.1 hB.2.1 hB.2.2.1 hC.2.2.2.2.2.2.2.2.2.1 (fun _ => rfl) h0 hN9 hb (by omega) (by omega) hd (fun a cB H1 hK1 hP hD hS => ?_)
  have ec : cB = cA 13 := by
    have r1 : va_RA s cB .boolean := (hK1.2 5 (cB, .boolean) rfl).2
    have r2 : va_RA s (cA 13) .boolean := (hC.2.2.2.2.2.2.1.2 1 (cA 13, .boolean) rfl).2
    have r3 : s.vm.findClass ("[" ++ (.boolean : FieldType).toString) = some cB := r1
    have r4 : s.vm.findClass ("[" ++ (.boolean : FieldType).toString) = some (cA 13) := r2
    exact Option.some.inj (r3.symm.trans r4)
  subst ec
  rw [← x_g_bornI (cA := cA) (al := va_up al (hN h) a) (h := h) (kd := 13) (N := N) (by omega), x_w_push ho.1 rfl (fun q hq => x_g_new ho hq)] at hP hD
  have hal : ∀ q, q < hN h → va_up al (hN h) a q = al q := fun q hq => if_neg (by omega)
  have hv1 : ∀ v ∈ st, x_vo (hN h) v := fun v hm => hv v (List.mem_cons_of_mem _ hm)
  have kk9 := kk pp e R s m args below meth c D cA ka A Q n0 a0 mcT msT hC gR hE H1 locs (cells + 1) (slots + N) (va_up al (hN h) a) ls (by omega) (by omega) (fun q hq => (hal q (by omega)).trans (h3 q hq)) (Nat.le_trans h4 (Nat.le_succ _)) ⟨hP, hD, hS, x_okN ho⟩ (gL.moved (Nat.le_succ _) hal) (List.forall_mem_cons.mpr ⟨Nat.lt_succ_self _, fun v hm => x_vo_mono (Nat.le_succ _) (hv1 v hm)⟩)
  rw [List.map_cons, x_t_R (by have := ho.1; omega), x_st_moved hv1 hal, show va_up al (hN h) a (hN h) = a from if_pos rfl] at kk9
  exact kk9
theorem sx_newR14 {n : Int32} {N idx : Nat} (h0 : ¬ n < 0) (hN9 : n.toNatClampNeg = N) (hb : N * 4 ≤ 536870912) (hw : Cond.classLink M.1.cls idx "ThreesAtTable$Text" ∈ xTB) (hd : decode M.2.1 pc = .ok (.anewarray idx, 3)) (hmc : 1 ≤ mc) (hms : N ≤ ms) (kk : Sx l z d (mc - 1) (ms - N) M (pc + 3) lc (xR (hN h) :: st) (hNw h 14 N) Ph) : Sx l z d mc ms M pc lc (xI n :: st) h Ph := by
  intro pp e R s m args below meth c D cA ka A Q n0 a0 mcT msT hC gR hE H locs cells slots al ls h1 h2 h3 h4 hB gL hv
  have hts := hC.2.2.2.2.2.1
  have ho := hB.2.2.2
  obtain ⟨a1, a2, a3, a4, a5, a6, a7, a8, a9, a10, a11, a12⟩ := hC.2.2.2.2.2.2.2.2.2.2
  refine va_newq (C := "ThreesAtTable$Text") hC.1 hC.2.1 hC.2.2.2.2.1 (hts _ hw) (a10 _ (by decide)) hC.2.2.2.2.2.2.1 hB.1 hB.2.1 hB.2.2.1 hC.2.2.2.2.2.2.2.2.2.1 h0 hN9 hb (by omega) (by omega) hd (fun a cB H1 hK1 hP hD hS => ?_)
  have ec : cB = cA 14 := by
    have r1 : va_RA s cB (.object "ThreesAtTable$Text") := (hK1.2 5 (cB, (.object "ThreesAtTable$Text")) rfl).2
    have r2 : va_RA s (cA 14) (.object "ThreesAtTable$Text") := (hC.2.2.2.2.2.2.1.2 2 (cA 14, (.object "ThreesAtTable$Text")) rfl).2
    obtain ⟨_, _, _, _, _, r3⟩ := r1
    obtain ⟨_, _, _, _, _, r4⟩ := r2
    exact Option.some.inj (r3.symm.trans r4)
  subst ec
  rw [← x_g_bornR (cA := cA) (al := va_up al (hN h) a) (h := h) (kd := 14) (N := N) (by omega), x_w_push ho.1 rfl (fun q hq => x_g_new ho hq)] at hP hD
  have hal : ∀ q, q < hN h → va_up al (hN h) a q = al q := fun q hq => if_neg (by omega)
  have hv1 : ∀ v ∈ st, x_vo (hN h) v := fun v hm => hv v (List.mem_cons_of_mem _ hm)
  have kk9 := kk pp e R s m args below meth c D cA ka A Q n0 a0 mcT msT hC gR hE H1 locs (cells + 1) (slots + N) (va_up al (hN h) a) ls (by omega) (by omega) (fun q hq => (hal q (by omega)).trans (h3 q hq)) (Nat.le_trans h4 (Nat.le_succ _)) ⟨hP, hD, hS, x_okN ho⟩ (gL.moved (Nat.le_succ _) hal) (List.forall_mem_cons.mpr ⟨Nat.lt_succ_self _, fun v hm => x_vo_mono (Nat.le_succ _) (hv1 v hm)⟩)
  rw [List.map_cons, x_t_R (by have := ho.1; omega), x_st_moved hv1 hal, show va_up al (hN h) a (hN h) = a from if_pos rfl] at kk9
  exact kk9
theorem sx_newR15 {n : Int32} {N idx : Nat} (h0 : ¬ n < 0) (hN9 : n.toNatClampNeg = N) (hb : N * 4 ≤ 536870912) (hw : Cond.classLink M.1.cls idx "ThreesAtTable$Town" ∈ xTB) (hd : decode M.2.1 pc = .ok (.anewarray idx, 3)) (hmc : 1 ≤ mc) (hms : N ≤ ms) (kk : Sx l z d (mc - 1) (ms - N) M (pc + 3) lc (xR (hN h) :: st) (hNw h 15 N) Ph) : Sx l z d mc ms M pc lc (xI n :: st) h Ph := by
  intro pp e R s m args below meth c D cA ka A Q n0 a0 mcT msT hC gR hE H locs cells slots al ls h1 h2 h3 h4 hB gL hv
  have hts := hC.2.2.2.2.2.1
  have ho := hB.2.2.2
  obtain ⟨a1, a2, a3, a4, a5, a6, a7, a8, a9, a10, a11, a12⟩ := hC.2.2.2.2.2.2.2.2.2.2
  refine va_newq (C := "ThreesAtTable$Town") hC.1 hC.2.1 hC.2.2.2.2.1 (hts _ hw) (a10 _ (by decide)) hC.2.2.2.2.2.2.1 hB.1 hB.2.1 hB.2.2.1 hC.2.2.2.2.2.2.2.2.2.1 h0 hN9 hb (by omega) (by omega) hd (fun a cB H1 hK1 hP hD hS => ?_)
  have ec : cB = cA 15 := by
    have r1 : va_RA s cB (.object "ThreesAtTable$Town") := (hK1.2 5 (cB, (.object "ThreesAtTable$Town")) rfl).2
    have r2 : va_RA s (cA 15) (.object "ThreesAtTable$Town") := (hC.2.2.2.2.2.2.1.2 3 (cA 15, (.object "ThreesAtTable$Town")) rfl).2
    obtain ⟨_, _, _, _, _, r3⟩ := r1
    obtain ⟨_, _, _, _, _, r4⟩ := r2
    exact Option.some.inj (r3.symm.trans r4)
  subst ec
  rw [← x_g_bornR (cA := cA) (al := va_up al (hN h) a) (h := h) (kd := 15) (N := N) (by omega), x_w_push ho.1 rfl (fun q hq => x_g_new ho hq)] at hP hD
  have hal : ∀ q, q < hN h → va_up al (hN h) a q = al q := fun q hq => if_neg (by omega)
  have hv1 : ∀ v ∈ st, x_vo (hN h) v := fun v hm => hv v (List.mem_cons_of_mem _ hm)
  have kk9 := kk pp e R s m args below meth c D cA ka A Q n0 a0 mcT msT hC gR hE H1 locs (cells + 1) (slots + N) (va_up al (hN h) a) ls (by omega) (by omega) (fun q hq => (hal q (by omega)).trans (h3 q hq)) (Nat.le_trans h4 (Nat.le_succ _)) ⟨hP, hD, hS, x_okN ho⟩ (gL.moved (Nat.le_succ _) hal) (List.forall_mem_cons.mpr ⟨Nat.lt_succ_self _, fun v hm => x_vo_mono (Nat.le_succ _) (hv1 v hm)⟩)
  rw [List.map_cons, x_t_R (by have := ho.1; omega), x_st_moved hv1 hal, show va_up al (hN h) a (hN h) = a from if_pos rfl] at kk9
  exact kk9
theorem sx_newR16 {n : Int32} {N idx : Nat} (h0 : ¬ n < 0) (hN9 : n.toNatClampNeg = N) (hb : N * 4 ≤ 536870912) (hw : Cond.classLink M.1.cls idx "ThreesAtTable$Sheet" ∈ xTB) (hd : decode M.2.1 pc = .ok (.anewarray idx, 3)) (hmc : 1 ≤ mc) (hms : N ≤ ms) (kk : Sx l z d (mc - 1) (ms - N) M (pc + 3) lc (xR (hN h) :: st) (hNw h 16 N) Ph) : Sx l z d mc ms M pc lc (xI n :: st) h Ph := by
  intro pp e R s m args below meth c D cA ka A Q n0 a0 mcT msT hC gR hE H locs cells slots al ls h1 h2 h3 h4 hB gL hv
  have hts := hC.2.2.2.2.2.1
  have ho := hB.2.2.2
  obtain ⟨a1, a2, a3, a4, a5, a6, a7, a8, a9, a10, a11, a12⟩ := hC.2.2.2.2.2.2.2.2.2.2
  refine va_newq (C := "ThreesAtTable$Sheet") hC.1 hC.2.1 hC.2.2.2.2.1 (hts _ hw) (a10 _ (by decide)) hC.2.2.2.2.2.2.1 hB.1 hB.2.1 hB.2.2.1 hC.2.2.2.2.2.2.2.2.2.1 h0 hN9 hb (by omega) (by omega) hd (fun a cB H1 hK1 hP hD hS => ?_)
  have ec : cB = cA 16 := by
    have r1 : va_RA s cB (.object "ThreesAtTable$Sheet") := (hK1.2 5 (cB, (.object "ThreesAtTable$Sheet")) rfl).2
    have r2 : va_RA s (cA 16) (.object "ThreesAtTable$Sheet") := (hC.2.2.2.2.2.2.1.2 4 (cA 16, (.object "ThreesAtTable$Sheet")) rfl).2
    obtain ⟨_, _, _, _, _, r3⟩ := r1
    obtain ⟨_, _, _, _, _, r4⟩ := r2
    exact Option.some.inj (r3.symm.trans r4)
  subst ec
  rw [← x_g_bornR (cA := cA) (al := va_up al (hN h) a) (h := h) (kd := 16) (N := N) (by omega), x_w_push ho.1 rfl (fun q hq => x_g_new ho hq)] at hP hD
  have hal : ∀ q, q < hN h → va_up al (hN h) a q = al q := fun q hq => if_neg (by omega)
  have hv1 : ∀ v ∈ st, x_vo (hN h) v := fun v hm => hv v (List.mem_cons_of_mem _ hm)
  have kk9 := kk pp e R s m args below meth c D cA ka A Q n0 a0 mcT msT hC gR hE H1 locs (cells + 1) (slots + N) (va_up al (hN h) a) ls (by omega) (by omega) (fun q hq => (hal q (by omega)).trans (h3 q hq)) (Nat.le_trans h4 (Nat.le_succ _)) ⟨hP, hD, hS, x_okN ho⟩ (gL.moved (Nat.le_succ _) hal) (List.forall_mem_cons.mpr ⟨Nat.lt_succ_self _, fun v hm => x_vo_mono (Nat.le_succ _) (hv1 v hm)⟩)
  rw [List.map_cons, x_t_R (by have := ho.1; omega), x_st_moved hv1 hal, show va_up al (hN h) a (hN h) = a from if_pos rfl] at kk9
  exact kk9
/-! rows as a whole: copies -/
theorem hIr_at {p j : Nat} {f : Nat → Int32} : hI (hIr h p f) p j = f j := if_pos rfl
theorem hIr_ne {p q : Nat} {f : Nat → Int32} (hq : q ≠ p) : hI (hIr h p f) q = hI h q := by funext j; exact if_neg hq
theorem x_okr {p : Nat} {f : Nat → Int32} (ho : x_ok h) : x_ok (hIr h p f) := ho
theorem sx_copy {p q : Nat} {sp dp n : Int32} {idx : Nat} (hp : hK h p = 12) (hq : hK h q = 12) (g1 : ¬ sp < 0) (g2 : ¬ dp < 0) (g3 : ¬ n < 0) (g4 : sp.toNatClampNeg + n.toNatClampNeg ≤ hL h p) (g5 : dp.toNatClampNeg + n.toNatClampNeg ≤ hL h q)
    (hl : Cond.methodLink M.1.cls idx arraycopyName ∈ xTB) (hna : Cond.native arraycopyName ∈ xTB) (hsa : Cond.static arraycopyName ∈ xTB) (hia : Cond.initialized "java/lang/System" ∈ xTB) (hct : (st.map x_ct).sum ≤ 8) (hd1 : 1 ≤ d) (hd : decode M.2.1 pc = .ok (.invokestatic idx, 3))
    (kk : Sx l z d mc ms M (pc + 3) lc st (hIr h q (va_cpy (hI h p) (hI h q) sp.toNatClampNeg dp.toNatClampNeg n.toNatClampNeg)) Ph) : Sx l z d mc ms M pc lc (xI n :: xI dp :: xR q :: xI sp :: xR p :: st) h Ph := by
  intro pp e R s m args below meth c D cA ka A Q n0 a0 mcT msT hC gR hE H locs cells slots al ls h1 h2 h3 h4 hB gL hv
  have hts := hC.2.2.2.2.2.1
  have ho := hB.2.2.2
  have hpos := ho.pos hp (by omega)
  have hqos := ho.pos hq (by omega)
  rw [List.map_cons, List.map_cons, List.map_cons, List.map_cons, List.map_cons, x_t_R hpos.1, x_t_R hqos.1]
  have hlo : ((st.map (x_t al ka)).map fun v => v.category).sum + (nativeFrameWords "java/lang/System" "arraycopy" 5 + 11) ≤ R.locals := by
    rw [x_ct_t]
    have e : nativeFrameWords "java/lang/System" "arraycopy" 5 ≤ 20 := by decide
    omega
  refine va_copyi (ty := .int) hC.1 hC.2.1 (hC.2.2.1.trans gL.1.symm) hC.2.2.2.2.1 (hts _ hl) (hts _ hna) (hts _ hsa) (hts _ hia) hC.2.2.2.2.2.2.1 hB.1 hB.2.1 hB.2.2.1 (p - 1) (q - 1) 0 0 ((x_w_at hpos.1 hpos.2).trans (by rw [x_g_int hp (by omega)])) ((x_w_at hqos.1 hqos.2).trans (by rw [x_g_int hq (by omega)])) rfl rfl rfl g1 g2 g3 g4 g5 (fun _ _ => rfl) (by omega) hlo hd (fun H1 locs1 hP1 hD1 hS1 => ?_)
  have ew : (x_w cA al h).set (q - 1) (al q, .inl (cA 12, (hL h q, .inl (va_cpy (hI h p) (hI h q) sp.toNatClampNeg dp.toNatClampNeg n.toNatClampNeg)))) = x_w cA al (hIr h q (va_cpy (hI h p) (hI h q) sp.toNatClampNeg dp.toNatClampNeg n.toNatClampNeg)) := by
    have e2 : va_cpy (hI h p) (hI h q) sp.toNatClampNeg dp.toNatClampNeg n.toNatClampNeg = hI (hIr h q (va_cpy (hI h p) (hI h q) sp.toNatClampNeg dp.toNatClampNeg n.toNatClampNeg)) q := by funext j; exact hIr_at.symm
    have e3 := x_g_int (h := hIr h q (va_cpy (hI h p) (hI h q) sp.toNatClampNeg dp.toNatClampNeg n.toNatClampNeg)) (cA := cA) (al := al) (p := q) (ci := 12) hq (Or.inl rfl)
    rw [← e2] at e3
    rw [show (hL h q) = hL (hIr h q (va_cpy (hI h p) (hI h q) sp.toNatClampNeg dp.toNatClampNeg n.toNatClampNeg)) q from rfl, ← e3]
    exact x_w_set rfl hqos.1 (fun k hk => x_g_ne rfl rfl (hIr_ne hk) rfl)
  exact kk pp e R s m args below meth c D cA ka A Q n0 a0 mcT msT hC gR hE H1 locs1 cells slots al ls h1 h2 h3 h4 (x_B_of hB ew hP1 hD1 hS1 (x_okr ho)) gL (fun v hm => hv v (List.mem_cons_of_mem _ (List.mem_cons_of_mem _ (List.mem_cons_of_mem _ (List.mem_cons_of_mem _ (List.mem_cons_of_mem _ hm))))))
def hCl (h : xH) (p : Nat) : xH := hIr (hNw h 12 (hL h p)) (hN h) (hI h p)
theorem x_g_cl {cA : Nat → ClassId} {al : Nat → Nat} {p : Nat} : x_g cA al (hCl h p) (hN h) = .inl (cA 12, (hL h p, .inl (hI h p))) := by
  rw [x_g_int (h := hCl h p) (p := hN h) (ci := 12) (show hK (hCl h p) (hN h) = 12 from if_pos rfl) (Or.inl rfl)]
  have e1 : hL (hCl h p) (hN h) = hL h p := if_pos rfl
  have e2 : hI (hCl h p) (hN h) = hI h p := by funext j; exact hIr_at
  rw [e1, e2]
theorem sx_clone {p idx : Nat} (hp : hK h p = 12) (hl : Cond.methodLink M.1.cls idx ⟨"[I", "clone", "()Ljava/lang/Object;"⟩ ∈ xTB) (w1 : Cond.sameMethod "[I" "java/lang/Object" "clone" "()Ljava/lang/Object;" ∈ xTB) (w2 : Cond.native ⟨"java/lang/Object", "clone", "()Ljava/lang/Object;"⟩ ∈ xTB) (w3 : Cond.instanceMethod ⟨"java/lang/Object", "clone", "()Ljava/lang/Object;"⟩ ∈ xTB) (w4 : Cond.selects "[I" ⟨"[I", "clone", "()Ljava/lang/Object;"⟩ ⟨"java/lang/Object", "clone", "()Ljava/lang/Object;"⟩ ∈ xTB)
    (hct : (st.map x_ct).sum ≤ 8) (hd1 : 1 ≤ d) (hmc : 1 ≤ mc) (hms : hL h p ≤ ms) (hd : decode M.2.1 pc = .ok (.invokevirtual idx, 3)) (kk : Sx l z d (mc - 1) (ms - hL h p) M (pc + 3) lc (xR (hN h) :: st) (hCl h p) Ph) : Sx l z d mc ms M pc lc (xR p :: st) h Ph := by
  intro pp e R s m args below meth c D cA ka A Q n0 a0 mcT msT hC gR hE H locs cells slots al ls h1 h2 h3 h4 hB gL hv
  have hts := hC.2.2.2.2.2.1
  have ho := hB.2.2.2
  have hpos := ho.pos hp (by omega)
  obtain ⟨a1, a2, a3, a4, a5, a6, a7, a8, a9, a10, a11, a12⟩ := hC.2.2.2.2.2.2.2.2.2.2
  rw [List.map_cons, x_t_R hpos.1]
  have r2 : s.vm.findClass ("[" ++ (FieldType.int).toString) = some (cA 12) := (hC.2.2.2.2.2.2.1.2 0 (cA 12, .int) rfl).2
  refine va_clone (ad := "[I") (x := (hL h p, .inl (hI h p))) (ty := .int) hC.1 hC.2.1 (hC.2.2.1.trans gL.1.symm) hC.2.2.2.2.1 (hts _ hl) (hts _ w1) (hts _ w2) (hts _ w3) (hts _ w4) a11 hC.2.2.2.2.2.2.1 hB.1 hB.2.1 hB.2.2.1 hC.2.2.2.2.2.2.2.2.2.1 (p - 1) 0 ((x_w_at hpos.1 hpos.2).trans (by rw [x_g_int hp (by omega)])) rfl r2 (fun i v hv => ?_) (by omega) (by rw [x_ct_t]; omega) (by omega) (by show slots + hL h p ≤ R.slots; omega) hd (fun a H1 hK1 hP hD hS => ?_)
  · have e0 : (vp_cell (cA 12) (hL h p, .inl (hI h p))).slots[i]? = some v := hv
    rw [vp_cell_i] at e0
    by_cases hi : i < hL h p
    · rw [arrV_read _ _ hi] at e0
      cases e0
      rfl
    · rw [Array.getElem?_eq_none (by rw [arrV_size]; omega)] at e0
      cases e0
  · rw [← x_g_cl (cA := cA) (al := va_up al (hN h) a) (h := h) (p := p), x_w_push (h2 := hCl h p) ho.1 rfl (fun q hq => (x_g_ne (h := hNw h 12 (hL h p)) (h2 := hCl h p) (cA := cA) (al := va_up al (hN h) a) (q := q) rfl rfl (hIr_ne (h := hNw h 12 (hL h p)) (p := hN h) (by omega)) rfl).trans (x_g_new ho hq))] at hP hD
    have hal : ∀ q, q < hN h → va_up al (hN h) a q = al q := fun q hq => if_neg (by omega)
    have hv1 : ∀ v ∈ st, x_vo (hN h) v := fun v hm => hv v (List.mem_cons_of_mem _ hm)
    have kk9 := kk pp e R s m args below meth c D cA ka A Q n0 a0 mcT msT hC gR hE H1 locs (cells + 1) (slots + hL h p) (va_up al (hN h) a) ls (by omega) (by omega) (fun q hq => (hal q (by omega)).trans (h3 q hq)) (Nat.le_trans h4 (Nat.le_succ _)) ⟨hP, hD, hS, x_okr (x_okN ho)⟩ (gL.moved (Nat.le_succ _) hal) (List.forall_mem_cons.mpr ⟨Nat.lt_succ_self _, fun v hm => x_vo_mono (Nat.le_succ _) (hv1 v hm)⟩)
    rw [List.map_cons, x_t_R (by have := ho.1; omega), x_st_moved hv1 hal, show va_up al (hN h) a (hN h) = a from if_pos rfl] at kk9
    exact kk9
theorem sx_castI {p idx : Nat} (hp : hK h p = 12) (hl : Cond.classLink M.1.cls idx "[I" ∈ xTB) (hd : decode M.2.1 pc = .ok (.checkcast idx, 3)) (kk : Sx l z d mc ms M (pc + 3) lc (xR p :: st) h Ph) : Sx l z d mc ms M pc lc (xR p :: st) h Ph := by
  intro pp e R s m args below meth c D cA ka A Q n0 a0 mcT msT hC gR hE H locs cells slots al ls h1 h2 h3 h4 hB gL hv
  have hts := hC.2.2.2.2.2.1
  have hpos := hB.2.2.2.pos hp (by omega)
  have kk9 := kk pp e R s m args below meth c D cA ka A Q n0 a0 mcT msT hC gR hE H locs cells slots al ls h1 h2 h3 h4 hB gL hv
  rw [List.map_cons, x_t_R hpos.1] at kk9 ⊢
  have r2 : s.vm.findClass ("[" ++ (FieldType.int).toString) = some (cA 12) := (hC.2.2.2.2.2.2.1.2 0 (cA 12, .int) rfl).2
  exact va_castA (nm := "[I") hC.1 hC.2.1 hC.2.2.2.2.1 (hts _ hl) hB.1 (p - 1) ((x_w_at hpos.1 hpos.2).trans (by rw [x_g_int hp (by omega)])) r2 hd kk9
end XN
end
section
/-! partial functions, and what holds of their answers -/
def OK {α : Type} (o : Option α) (P : α → Prop) : Prop := ∃ a, o = some a ∧ P a
def gd {α : Type} (c : Prop) [Decidable c] (k : Option α) : Option α := if c then k else none
def jn {α γ : Type} (K : γ → Option α) (B : (γ → Option α) → Option α) : Option α := B K
def nb (v : Int32) : Int32 := vp_nar .boolean v
def fu : Nat := 2000
theorem OK.bind {α β : Type} {o : Option α} {f : α → Option β} {P : β → Prop} (h : OK (o.bind f) P) : ∃ a, o = some a ∧ OK (f a) P := by
  obtain ⟨b, hb, hp⟩ := h
  cases o with
  | none => cases hb
  | some a => exact ⟨a, rfl, b, hb, hp⟩
theorem OK.val {α : Type} {a : α} {P : α → Prop} (h : OK (some a) P) : P a := by
  obtain ⟨b, hb, hp⟩ := h
  cases hb
  exact hp
theorem OK.no {α : Type} {P : α → Prop} {G : Prop} (h : OK (none : Option α) P) : G := by
  obtain ⟨b, hb, -⟩ := h
  cases hb
theorem OK.t {α : Type} {c : Prop} [Decidable c] {a b : Option α} {P : α → Prop} (h : OK (if c then a else b) P) (hc : c) : OK a P := by rwa [if_pos hc] at h
theorem OK.f {α : Type} {c : Prop} [Decidable c] {a b : Option α} {P : α → Prop} (h : OK (if c then a else b) P) (hc : ¬ c) : OK b P := by rwa [if_neg hc] at h
theorem OK.g {α : Type} {c : Prop} [Decidable c] {k : Option α} {P : α → Prop} (h : OK (gd c k) P) : c ∧ OK k P := by
  unfold gd at h
  by_cases hc : c
  · exact ⟨hc, h.t hc⟩
  · exact OK.no (h.f hc)
theorem OK.j {α γ : Type} {K : γ → Option α} {B : (γ → Option α) → Option α} {P : α → Prop} {G : Prop} {X : γ → Prop} (h : OK (jn K B) P) (h1 : ∀ x, OK (K x) P → X x) (h2 : ∀ K' : γ → Option α, (∀ x, OK (K' x) P → X x) → OK (B K') P → G) : G := h2 K h1 h
theorem sx_eq {l : Launch} {z : xZ} {d mc ms : Nat} {M : xM} {pc : Nat} {lc lc2 : List (Option xV)} {st st2 : List xV} {h : xH} {Ph : Option xV → xH → Prop} (h1 : lc = lc2) (h2 : st = st2) (kk : Sx l z d mc ms M pc lc2 st2 h Ph) : Sx l z d mc ms M pc lc st h Ph := by
  subst h1
  subst h2
  exact kk
theorem sw_out {x : Int32} {lo hi : Int} (h : ∀ k : Int, lo ≤ k → k ≤ hi → ¬ x = Int32.ofInt k) : x.toInt < lo ∨ hi < x.toInt := by
  by_cases h1 : x.toInt < lo
  · exact Or.inl h1
  · by_cases h2 : hi < x.toInt
    · exact Or.inr h2
    · exact absurd (Int32.ofInt_toInt x).symm (h x.toInt (by omega) (by omega))
/-! more -/
theorem x_i1 {w : Cond} (i : Nat) (h : tables_1_1[i]? = some w) (g : goodWord w = true) : w ∈ xTB := List.mem_filter.mpr ⟨List.mem_append_right _ (by unfold tables_1; have := List.mem_of_getElem? h; simp only [List.mem_append]; exact Or.inl this), g⟩
theorem x_i2 {w : Cond} (i : Nat) (h : tables_1_2[i]? = some w) (g : goodWord w = true) : w ∈ xTB := List.mem_filter.mpr ⟨List.mem_append_right _ (by unfold tables_1; have := List.mem_of_getElem? h; simp only [List.mem_append]; exact Or.inr (Or.inl this)), g⟩
theorem x_i3 {w : Cond} (i : Nat) (h : tables_1_3[i]? = some w) (g : goodWord w = true) : w ∈ xTB := List.mem_filter.mpr ⟨List.mem_append_right _ (by unfold tables_1; have := List.mem_of_getElem? h; simp only [List.mem_append]; exact Or.inr (Or.inr (Or.inl this))), g⟩
theorem x_i4 {w : Cond} (i : Nat) (h : tables_1_4[i]? = some w) (g : goodWord w = true) : w ∈ xTB := List.mem_filter.mpr ⟨List.mem_append_right _ (by unfold tables_1; have := List.mem_of_getElem? h; simp only [List.mem_append]; exact Or.inr (Or.inr (Or.inr (Or.inl this)))), g⟩
theorem x_i5 {w : Cond} (i : Nat) (h : tables_1_5[i]? = some w) (g : goodWord w = true) : w ∈ xTB := List.mem_filter.mpr ⟨List.mem_append_right _ (by unfold tables_1; have := List.mem_of_getElem? h; simp only [List.mem_append]; exact Or.inr (Or.inr (Or.inr (Or.inr (Or.inl this))))), g⟩
theorem x_i6 {w : Cond} (i : Nat) (h : tables_1_6[i]? = some w) (g : goodWord w = true) : w ∈ xTB := List.mem_filter.mpr ⟨List.mem_append_right _ (by unfold tables_1; have := List.mem_of_getElem? h; simp only [List.mem_append]; exact Or.inr (Or.inr (Or.inr (Or.inr (Or.inr (Or.inl this)))))), g⟩
theorem x_i7 {w : Cond} (i : Nat) (h : tables_1_7[i]? = some w) (g : goodWord w = true) : w ∈ xTB := List.mem_filter.mpr ⟨List.mem_append_right _ (by unfold tables_1; have := List.mem_of_getElem? h; simp only [List.mem_append]; exact Or.inr (Or.inr (Or.inr (Or.inr (Or.inr (Or.inr this)))))), g⟩
def hp {α : Type} (a : xH) (f : xH → Option α) : Option α := f a
theorem OK.h {α : Type} {a : xH} {f : xH → Option α} {P : α → Prop} (h : OK (hp a f) P) : ∃ b, b = a ∧ OK (f b) P := ⟨a, rfl, h⟩
def x_le : List (Option xV) → List (Option xV) → Prop
  | [], _ => True
  | none :: a, _ :: b => x_le a b
  | some v :: a, w :: b => w = some v ∧ x_le a b
  | _ :: _, [] => False
theorem x_le_at : ∀ (a b : List (Option xV)), x_le a b → ∀ (i : Nat) (v : xV), a[i]? = some (some v) → b[i]? = some (some v)
  | [], _, _, i, v, h => by cases h
  | none :: a, w :: b, h, i, v, hi => by
    cases i with
    | zero => cases hi
    | succ i => exact x_le_at a b h i v hi
  | some u :: a, w :: b, h, i, v, hi => by
    cases i with
    | zero => cases hi; exact congrArg some h.1
    | succ i => exact x_le_at a b h.2 i v hi
  | none :: _, [], h, _, _, _ => h.elim
  | some _ :: _, [], h, _, _, _ => h.elim
section XO
variable {l : Launch} {z : xZ} {d mc ms : Nat} {M : xM} {pc : Nat} {lc : List (Option xV)} {st : List xV} {h : xH} {Ph : Option xV → xH → Prop}
theorem sx_newN {ci idx N : Nat} {q : vw_C × (Nat → FieldType)} (hc : xcl[ci]? = some q) (hn : q.1.2.2 = N) (hcl : Cond.classLink M.1.cls idx q.1.1 ∈ xTB) (hins : Cond.instantiable q.1.1 q.1.2.2 ∈ xTB) (hini : Cond.initialized q.1.1 ∈ xTB) (hd : decode M.2.1 pc = .ok (.new idx, 3)) (hmc : 1 ≤ mc) (hms : N ≤ ms) (kk : Sx l z d (mc - 1) (ms - N) M (pc + 3) lc (xR (hN h) :: st) (hNw h ci 0) Ph) : Sx l z d mc ms M pc lc st h Ph := by
  subst hn
  exact sx_new hc hcl hins hini hd hmc hms kk
theorem x_rk {h : xH} {p ci : Nat} {C : String} {q : vw_C × (Nat → FieldType)} (hk : hK h p = ci) (hc : xcl[ci]? = some q) (hn : q.1.1 = C) : ∃ q, xcl[hK h p]? = some q ∧ q.1.1 = C := ⟨q, by rw [hk]; exact hc, hn⟩
theorem sx_hp {h1 h2 : xH} (e : h1 = h2) (kk : Sx l z d mc ms M pc lc st h1 Ph) : Sx l z d mc ms M pc lc st h2 Ph := e ▸ kk
theorem sx_eq0 {lc2 : List (Option xV)} {st2 : List xV} (h1 : lc = lc2) (h2 : st = st2) (kk : Sx l z d mc ms M pc lc2 st2 h Ph) : Sx l z d (mc - 0) (ms - 0) M pc lc st h Ph := by
  subst h1
  subst h2
  exact kk
theorem sx_less {lc2 : List (Option xV)} (hl : x_le lc2 lc) (kk : Sx l z d mc ms M pc lc2 st h Ph) : Sx l z d mc ms M pc lc st h Ph := by
  intro pp e R s m args below meth c D cA ka A Q n0 a0 mcT msT hC gR hE H locs cells slots al ls h1 h2 h3 h4 hB gL hv
  exact kk pp e R s m args below meth c D cA ka A Q n0 a0 mcT msT hC gR hE H locs cells slots al ls h1 h2 h3 h4 hB ⟨gL.1, gL.2.1, fun i v hi => gL.2.2 i v (x_le_at _ _ hl i v hi)⟩ hv
theorem sx_retV (hd : decode M.2.1 pc = .ok (.return_, 1)) (hr : M.2.2.2 = none) (hp : Ph none h) : Sx l z d mc ms M pc lc [] h Ph := sx_ret hd (by unfold x_rr; rw [hr]; exact ⟨rfl, rfl, rfl⟩) hp
theorem sx_retI {v : Int32} (hd : decode M.2.1 pc = .ok (.ireturn, 1)) (hr : M.2.2.2 = some .int) (hp : Ph (some (xI v)) h) : Sx l z d mc ms M pc lc [xI v] h Ph := sx_ret hd (by unfold x_rr; rw [hr]; exact ⟨rfl, v, v, rfl, rfl, rfl⟩) hp
theorem sx_retT {v v0 : Int32} {t : FieldType} (hd : decode M.2.1 pc = .ok (.ireturn, 1)) (hr : (M.2.2.2 = some .boolean ∧ t = .boolean) ∨ (M.2.2.2 = some .byte ∧ t = .byte) ∨ (M.2.2.2 = some .char ∧ t = .char)) (hn : narrow t (.int v0) = .int v) (hp : Ph (some (xI v)) h) : Sx l z d mc ms M pc lc [xI v0] h Ph := by
  refine sx_ret hd ?_ hp
  unfold x_rr
  rcases hr with ⟨hr, rfl⟩ | ⟨hr, rfl⟩ | ⟨hr, rfl⟩ <;> rw [hr] <;> exact ⟨rfl, v, v0, rfl, rfl, hn⟩
theorem sx_retJ {v : Int64} (hd : decode M.2.1 pc = .ok (.lreturn, 1)) (hr : M.2.2.2 = some .long) (hp : Ph (some (xJ v)) h) : Sx l z d mc ms M pc lc [xJ v] h Ph := sx_ret hd (by unfold x_rr; rw [hr]; exact ⟨rfl, v, rfl, rfl⟩) hp
theorem sx_retR {v : Nat ⊕ Nat} (hd : decode M.2.1 pc = .ok (.areturn, 1)) (hr : (∃ n, M.2.2.2 = some (.object n)) ∨ ∃ t, M.2.2.2 = some (.array t)) (hp : Ph (some (Sum.inr (Sum.inr v))) h) : Sx l z d mc ms M pc lc [Sum.inr (Sum.inr v)] h Ph := by
  refine sx_ret hd ?_ hp
  unfold x_rr
  rcases hr with ⟨n, hr⟩ | ⟨n, hr⟩ <;> rw [hr] <;> exact ⟨rfl, v, rfl, rfl⟩
/-! texts: their fields and bytes; two statics of the JDK -/
def x_bl (p : Nat) : Nat := if 16 ≤ p ∧ p < 30 then x_len.getD (p - 16) 0 else 0
def x_bb (p j : Nat) : Int32 := (x_byt.getD (p - 16) []).getD j 0
theorem sx_sval {i idx : Nat} (hi : i < 14) (hw : Cond.fieldLink M.1.cls idx "java/lang/String" "value" "[B" ∈ xTB) (hd : decode M.2.1 pc = .ok (.getfield idx, 3)) (kk : Sx l z d mc ms M (pc + 3) lc (xS (16 + i) :: st) h Ph) : Sx l z d mc ms M pc lc (xS i :: st) h Ph := by
  intro pp e R s m args below meth c D cA ka A Q n0 a0 mcT msT hC gR hE H locs cells slots al ls h1 h2 h3 h4 hB gL hv
  have kk9 := (kk pp e R s m args below meth c D cA ka A Q n0 a0 mcT msT hC gR hE H locs cells slots al ls h1 h2 h3 h4 hB gL (List.forall_mem_cons.mpr ⟨trivial, (fun v hm => hv v (List.mem_cons_of_mem _ hm))⟩))
  rw [List.map_cons, x_t_S (by omega)] at kk9 ⊢
  exact vk_getf hC.1 hC.2.1 ((hC.2.2.2.2.2.2.2.2.2.2.1).1 i hi).2.2.1 hB.2.2.1 hC.2.2.2.2.1 (hC.2.2.2.2.2.1 _ hw) (fun _ h9 => h9) hd kk9
theorem sx_scod {i idx : Nat} (hi : i < 14) (hw : Cond.fieldLink M.1.cls idx "java/lang/String" "coder" "B" ∈ xTB) (hd : decode M.2.1 pc = .ok (.getfield idx, 3)) (kk : Sx l z d mc ms M (pc + 3) lc (xI 0 :: st) h Ph) : Sx l z d mc ms M pc lc (xS i :: st) h Ph := by
  intro pp e R s m args below meth c D cA ka A Q n0 a0 mcT msT hC gR hE H locs cells slots al ls h1 h2 h3 h4 hB gL hv
  have kk9 := (kk pp e R s m args below meth c D cA ka A Q n0 a0 mcT msT hC gR hE H locs cells slots al ls h1 h2 h3 h4 hB gL (List.forall_mem_cons.mpr ⟨trivial, (fun v hm => hv v (List.mem_cons_of_mem _ hm))⟩))
  rw [List.map_cons, x_t_S (by omega)]
  exact vk_getf hC.1 hC.2.1 ((hC.2.2.2.2.2.2.2.2.2.2.1).1 i hi).2.1 hB.2.2.1 hC.2.2.2.2.1 (hC.2.2.2.2.2.1 _ hw) (fun _ h9 => h9) hd kk9
theorem sx_compact {idx : Nat} (hw : Cond.fieldLink M.1.cls idx "java/lang/String" "COMPACT_STRINGS" "Z" ∈ xTB) (hd : decode M.2.1 pc = .ok (.getstatic idx, 3)) (kk : Sx l z d mc ms M (pc + 3) lc (xI 1 :: st) h Ph) : Sx l z d mc ms M pc lc st h Ph := by
  intro pp e R s m args below meth c D cA ka A Q n0 a0 mcT msT hC gR hE H locs cells slots al ls h1 h2 h3 h4 hB gL hv
  obtain ⟨a1, a2, a3, a4, a5, a6, a7, a8, a9, a10⟩ := hC.2.2.2.2.2.2.2.2.2.2
  exact va_gets hC.1 hC.2.1 a3 hB.2.2.1 hC.2.2.2.2.1 (hC.2.2.2.2.2.1 _ hw) (fun _ h9 => h9) hd (kk pp e R s m args below meth c D cA ka A Q n0 a0 mcT msT hC gR hE H locs cells slots al ls h1 h2 h3 h4 hB gL (List.forall_mem_cons.mpr ⟨trivial, hv⟩))
theorem sx_sioobe {idx : Nat} (hw : Cond.fieldLink M.1.cls idx "jdk/internal/util/Preconditions" "SIOOBE_FORMATTER" "Ljava/util/function/BiFunction;" ∈ xTB) (hd : decode M.2.1 pc = .ok (.getstatic idx, 3)) (kk : Sx l z d mc ms M (pc + 3) lc (xS 31 :: st) h Ph) : Sx l z d mc ms M pc lc st h Ph := by
  intro pp e R s m args below meth c D cA ka A Q n0 a0 mcT msT hC gR hE H locs cells slots al ls h1 h2 h3 h4 hB gL hv
  obtain ⟨a1, a2, a3, a4, a5, a6, a7, a8, a9, a10⟩ := hC.2.2.2.2.2.2.2.2.2.2
  have kk9 := (kk pp e R s m args below meth c D cA ka A Q n0 a0 mcT msT hC gR hE H locs cells slots al ls h1 h2 h3 h4 hB gL (List.forall_mem_cons.mpr ⟨trivial, hv⟩))
  rw [List.map_cons, show x_t al ka (xS 31) = va_rf ka.2 by show (if (31 : Nat) = 31 then va_rf ka.2 else .ref (ka.1 31)) = _; rw [if_pos rfl]] at kk9
  exact va_gets hC.1 hC.2.1 a4 hB.2.2.1 hC.2.2.2.2.1 (hC.2.2.2.2.2.1 _ hw) (fun _ h9 => h9) hd kk9
theorem x_bT {ka : xK} {A : Nat → Prop} {s : State} {p : Nat} (hp : 16 ≤ p ∧ p < 30) (hS : x_Str ka z A s) : va_T .byte (ka.1 p) (x_bl p) (fun j => .int (x_bb p j)) A s s.heap := by
  have h1 : va_T .byte (ka.1 (16 + (p - 16))) (x_len.getD (p - 16) 0) (fun j => .int (x_bb p j)) A s s.heap := (hS.1.1 (p - 16) (by omega)).2.2.2
  have e : x_bl p = x_len.getD (p - 16) 0 := if_pos hp
  rw [e]
  rw [show 16 + (p - 16) = p by omega] at h1
  exact h1
theorem sx_bblen {p : Nat} (hp : 16 ≤ p ∧ p < 30) (hd : decode M.2.1 pc = .ok (.arraylength, 1)) (kk : Sx l z d mc ms M (pc + 1) lc (xI (Int32.ofNat (x_bl p)) :: st) h Ph) : Sx l z d mc ms M pc lc (xS p :: st) h Ph := by
  intro pp e R s m args below meth c D cA ka A Q n0 a0 mcT msT hC gR hE H locs cells slots al ls h1 h2 h3 h4 hB gL hv
  obtain ⟨cell, b1, b2, b3, b4, b5, b6, b7⟩ := (x_bT hp hC.2.2.2.2.2.2.2.2.2.2).kept hB.2.2.1.2.1
  rw [List.map_cons, x_t_S (by omega)]
  exact W.alen hC.1 hC.2.1 b1 b2 b5 rfl rfl hd (kk pp e R s m args below meth c D cA ka A Q n0 a0 mcT msT hC gR hE H locs cells slots al ls h1 h2 h3 h4 hB gL (List.forall_mem_cons.mpr ⟨trivial, (fun v hm => hv v (List.mem_cons_of_mem _ hm))⟩))
theorem sx_bbld {p : Nat} {i : Int32} (hi : ¬ (i < 0 ∨ x_bl p ≤ i.toNatClampNeg)) (hd : decode M.2.1 pc = .ok (.baload, 1)) (kk : Sx l z d mc ms M (pc + 1) lc (xI (x_bb p i.toNatClampNeg) :: st) h Ph) : Sx l z d mc ms M pc lc (xI i :: xS p :: st) h Ph := by
  intro pp e R s m args below meth c D cA ka A Q n0 a0 mcT msT hC gR hE H locs cells slots al ls h1 h2 h3 h4 hB gL hv
  have hp : 16 ≤ p ∧ p < 30 := by
    by_cases q : 16 ≤ p ∧ p < 30
    · exact q
    · exact absurd (Or.inr (by unfold x_bl; rw [if_neg q]; exact Nat.zero_le _)) hi
  obtain ⟨cell, b1, b2, b3, b4, b5, b6, b7⟩ := (x_bT hp hC.2.2.2.2.2.2.2.2.2.2).kept hB.2.2.1.2.1
  have hlt : i.toNatClampNeg < x_bl p := Nat.not_le.mp fun q => hi (Or.inr q)
  rw [List.map_cons, List.map_cons, x_t_S (by omega)]
  exact W.bald (v := .int (x_bb p i.toNatClampNeg)) hC.1 hC.2.1 b1 b2 b3 (fun q => q.elim (fun q => hi (Or.inl q)) (fun q => by omega)) (b6 _ hlt) rfl rfl hd (kk pp e R s m args below meth c D cA ka A Q n0 a0 mcT msT hC gR hE H locs cells slots al ls h1 h2 h3 h4 hB gL (List.forall_mem_cons.mpr ⟨trivial, (fun v hm => hv v (List.mem_cons_of_mem _ (List.mem_cons_of_mem _ hm)))⟩))
def jMax (x y : Int32) : Int32 := if x < y then y else x
def jMin (x y : Int32) : Int32 := if y < x then y else x
theorem sx_max {x y : Int32} {idx : Nat} (hl : Cond.methodLink M.1.cls idx Lib.Math.max.name ∈ xTB) (w2 : Cond.static Lib.Math.max.name ∈ xTB) (w3 : Cond.initialized "java/lang/Math" ∈ xTB) (w4 : Cond.code Lib.Math.max.name Lib.Math.max.code 2 (some .int) ∈ xTB) (hct : (st.map x_ct).sum ≤ 8) (hd1 : 1 ≤ d) (hd : decode M.2.1 pc = .ok (.invokestatic idx, 3)) (kk : Sx l z d mc ms M (pc + 3) lc (xI (jMax x y) :: st) h Ph) : Sx l z d mc ms M pc lc (xI y :: xI x :: st) h Ph := by
  intro pp e R s m args below meth c D cA ka A Q n0 a0 mcT msT hC gR hE H locs cells slots al ls h1 h2 h3 h4 hB gL hv
  have hts := hC.2.2.2.2.2.1
  exact va_mmax hC.1 hC.2.1 (hC.2.2.1.trans gL.1.symm) hC.2.2.2.2.1 (hts _ hl) (hts _ w2) (hts _ w3) (hts _ w4) (by omega) (by rw [x_ct_t]; omega) (by omega) (by omega) hd (kk pp e R s m args below meth c D cA ka A Q n0 a0 mcT msT hC gR hE H locs cells slots al ls h1 h2 h3 h4 hB gL (List.forall_mem_cons.mpr ⟨trivial, (fun v hm => hv v (List.mem_cons_of_mem _ (List.mem_cons_of_mem _ hm)))⟩))
theorem sx_min {x y : Int32} {idx : Nat} (hl : Cond.methodLink M.1.cls idx Lib.Math.min.name ∈ xTB) (w2 : Cond.static Lib.Math.min.name ∈ xTB) (w3 : Cond.initialized "java/lang/Math" ∈ xTB) (w4 : Cond.code Lib.Math.min.name Lib.Math.min.code 2 (some .int) ∈ xTB) (hct : (st.map x_ct).sum ≤ 8) (hd1 : 1 ≤ d) (hd : decode M.2.1 pc = .ok (.invokestatic idx, 3)) (kk : Sx l z d mc ms M (pc + 3) lc (xI (jMin x y) :: st) h Ph) : Sx l z d mc ms M pc lc (xI y :: xI x :: st) h Ph := by
  intro pp e R s m args below meth c D cA ka A Q n0 a0 mcT msT hC gR hE H locs cells slots al ls h1 h2 h3 h4 hB gL hv
  have hts := hC.2.2.2.2.2.1
  exact va_mmin hC.1 hC.2.1 (hC.2.2.1.trans gL.1.symm) hC.2.2.2.2.1 (hts _ hl) (hts _ w2) (hts _ w3) (hts _ w4) (by omega) (by rw [x_ct_t]; omega) (by omega) (by omega) hd (kk pp e R s m args below meth c D cA ka A Q n0 a0 mcT msT hC gR hE H locs cells slots al ls h1 h2 h3 h4 hB gL (List.forall_mem_cons.mpr ⟨trivial, (fun v hm => hv v (List.mem_cons_of_mem _ (List.mem_cons_of_mem _ hm)))⟩))
end XO
end
section
theorem me_Ch_keepBest : Cond.selects M_Ch_keepBest.1.cls M_Ch_keepBest.1 M_Ch_keepBest.1 ∈ xTB := x_inp 37 (by decide +kernel) rfl
theorem me_Ch_seek : Cond.selects M_Ch_seek.1.cls M_Ch_seek.1 M_Ch_seek.1 ∈ xTB := x_i4 60 rfl rfl
theorem me_Ma_all : Cond.selects M_Ma_all.1.cls M_Ma_all.1 M_Ma_all.1 ∈ xTB := x_i4 74 rfl rfl
theorem me_Ma_asIn : Cond.selects M_Ma_asIn.1.cls M_Ma_asIn.1 M_Ma_asIn.1 ∈ xTB := x_i3 135 rfl rfl
theorem me_Ma_back : Cond.selects M_Ma_back.1.cls M_Ma_back.1 M_Ma_back.1 ∈ xTB := x_i4 208 rfl rfl
theorem me_Ma_bestChange : Cond.selects M_Ma_bestChange.1.cls M_Ma_bestChange.1 M_Ma_bestChange.1 ∈ xTB := x_inp 35 (by decide +kernel) rfl
theorem me_Ma_byDegrees : Cond.selects M_Ma_byDegrees.1.cls M_Ma_byDegrees.1 M_Ma_byDegrees.1 ∈ xTB := x_inp 30 (by decide +kernel) rfl
theorem me_Ma_cell : Cond.selects M_Ma_cell.1.cls M_Ma_cell.1 M_Ma_cell.1 ∈ xTB := x_i4 227 rfl rfl
theorem me_Ma_chance : Cond.selects M_Ma_chance.1.cls M_Ma_chance.1 M_Ma_chance.1 ∈ xTB := x_i4 144 rfl rfl
theorem me_Ma_change : Cond.selects M_Ma_change.1.cls M_Ma_change.1 M_Ma_change.1 ∈ xTB := x_i4 30 rfl rfl
theorem me_Ma_common : Cond.selects M_Ma_common.1.cls M_Ma_common.1 M_Ma_common.1 ∈ xTB := x_i4 94 rfl rfl
theorem me_Ma_copy : Cond.selects M_Ma_copy.1.cls M_Ma_copy.1 M_Ma_copy.1 ∈ xTB := x_i4 235 rfl rfl
theorem me_Ma_count : Cond.selects M_Ma_count.1.cls M_Ma_count.1 M_Ma_count.1 ∈ xTB := x_i4 212 rfl rfl
theorem me_Ma_drawn : Cond.selects M_Ma_drawn.1.cls M_Ma_drawn.1 M_Ma_drawn.1 ∈ xTB := x_i4 189 rfl rfl
theorem me_Ma_feed : Cond.selects M_Ma_feed.1.cls M_Ma_feed.1 M_Ma_feed.1 ∈ xTB := x_i3 173 rfl rfl
theorem me_Ma_firstThree : Cond.selects M_Ma_firstThree.1.cls M_Ma_firstThree.1 M_Ma_firstThree.1 ∈ xTB := x_inp 29 (by decide +kernel) rfl
theorem me_Ma_force : Cond.selects M_Ma_force.1.cls M_Ma_force.1 M_Ma_force.1 ∈ xTB := x_i3 185 rfl rfl
theorem me_Ma_fours : Cond.selects M_Ma_fours.1.cls M_Ma_fours.1 M_Ma_fours.1 ∈ xTB := x_i4 86 rfl rfl
theorem me_Ma_friendsIn : Cond.selects M_Ma_friendsIn.1.cls M_Ma_friendsIn.1 M_Ma_friendsIn.1 ∈ xTB := x_inp 26 (by decide +kernel) rfl
theorem me_Ma_friendsWithin : Cond.selects M_Ma_friendsWithin.1.cls M_Ma_friendsWithin.1 M_Ma_friendsWithin.1 ∈ xTB := x_inp 38 (by decide +kernel) rfl
theorem me_Ma_game : Cond.selects M_Ma_game.1.cls M_Ma_game.1 M_Ma_game.1 ∈ xTB := x_i4 149 rfl rfl
theorem me_Ma_guest : Cond.selects M_Ma_guest.1.cls M_Ma_guest.1 M_Ma_guest.1 ∈ xTB := x_i3 225 rfl rfl
theorem me_Ma_half : Cond.selects M_Ma_half.1.cls M_Ma_half.1 M_Ma_half.1 ∈ xTB := x_i4 121 rfl rfl
theorem me_Ma_halved : Cond.selects M_Ma_halved.1.cls M_Ma_halved.1 M_Ma_halved.1 ∈ xTB := x_i4 78 rfl rfl
theorem me_Ma_home : Cond.selects M_Ma_home.1.cls M_Ma_home.1 M_Ma_home.1 ∈ xTB := x_i4 10 rfl rfl
theorem me_Ma_image : Cond.selects M_Ma_image.1.cls M_Ma_image.1 M_Ma_image.1 ∈ xTB := x_i4 200 rfl rfl
theorem me_Ma_introduced : Cond.selects M_Ma_introduced.1.cls M_Ma_introduced.1 M_Ma_introduced.1 ∈ xTB := x_inp 43 (by decide +kernel) rfl
theorem me_Ma_isGuest : Cond.selects M_Ma_isGuest.1.cls M_Ma_isGuest.1 M_Ma_isGuest.1 ∈ xTB := x_inp 24 (by decide +kernel) rfl
theorem me_Ma_joyOf : Cond.selects M_Ma_joyOf.1.cls M_Ma_joyOf.1 M_Ma_joyOf.1 ∈ xTB := x_inp 34 (by decide +kernel) rfl
theorem me_Ma_judge : Cond.selects M_Ma_judge.1.cls M_Ma_judge.1 M_Ma_judge.1 ∈ xTB := x_i4 169 rfl rfl
theorem me_Ma_keepText : Cond.selects M_Ma_keepText.1.cls M_Ma_keepText.1 M_Ma_keepText.1 ∈ xTB := x_inp 15 (by decide +kernel) rfl
theorem me_Ma_knownByBoth : Cond.selects M_Ma_knownByBoth.1.cls M_Ma_knownByBoth.1 M_Ma_knownByBoth.1 ∈ xTB := x_inp 39 (by decide +kernel) rfl
theorem me_Ma_learnFirstText : Cond.selects M_Ma_learnFirstText.1.cls M_Ma_learnFirstText.1 M_Ma_learnFirstText.1 ∈ xTB := x_inp 0 (by decide +kernel) rfl
theorem me_Ma_leavesNone : Cond.selects M_Ma_leavesNone.1.cls M_Ma_leavesNone.1 M_Ma_leavesNone.1 ∈ xTB := x_inp 33 (by decide +kernel) rfl
theorem me_Ma_like : Cond.selects M_Ma_like.1.cls M_Ma_like.1 M_Ma_like.1 ∈ xTB := x_i4 194 rfl rfl
theorem me_Ma_meet : Cond.selects M_Ma_meet.1.cls M_Ma_meet.1 M_Ma_meet.1 ∈ xTB := x_i3 93 rfl rfl
theorem me_Ma_most : Cond.selects M_Ma_most.1.cls M_Ma_most.1 M_Ma_most.1 ∈ xTB := x_i4 6 rfl rfl
theorem me_Ma_noneLeft : Cond.selects M_Ma_noneLeft.1.cls M_Ma_noneLeft.1 M_Ma_noneLeft.1 ∈ xTB := x_i4 56 rfl rfl
theorem me_Ma_pairNumber : Cond.selects M_Ma_pairNumber.1.cls M_Ma_pairNumber.1 M_Ma_pairNumber.1 ∈ xTB := x_inp 23 (by decide +kernel) rfl
theorem me_Ma_pairs : Cond.selects M_Ma_pairs.1.cls M_Ma_pairs.1 M_Ma_pairs.1 ∈ xTB := x_i5 4 rfl rfl
theorem me_Ma_sentHome : Cond.selects M_Ma_sentHome.1.cls M_Ma_sentHome.1 M_Ma_sentHome.1 ∈ xTB := x_inp 32 (by decide +kernel) rfl
theorem me_Ma_sheet : Cond.selects M_Ma_sheet.1.cls M_Ma_sheet.1 M_Ma_sheet.1 ∈ xTB := x_i4 216 rfl rfl
theorem me_Ma_sheetAt : Cond.selects M_Ma_sheetAt.1.cls M_Ma_sheetAt.1 M_Ma_sheetAt.1 ∈ xTB := x_inp 42 (by decide +kernel) rfl
theorem me_Ma_sit : Cond.selects M_Ma_sit.1.cls M_Ma_sit.1 M_Ma_sit.1 ∈ xTB := x_i3 89 rfl rfl
theorem me_Ma_taken : Cond.selects M_Ma_taken.1.cls M_Ma_taken.1 M_Ma_taken.1 ∈ xTB := x_i5 9 rfl rfl
theorem me_Ma_tells : Cond.selects M_Ma_tells.1.cls M_Ma_tells.1 M_Ma_tells.1 ∈ xTB := x_i3 161 rfl rfl
theorem me_Ma_text : Cond.selects M_Ma_text.1.cls M_Ma_text.1 M_Ma_text.1 ∈ xTB := x_i3 181 rfl rfl
theorem me_Ma_threes : Cond.selects M_Ma_threes.1.cls M_Ma_threes.1 M_Ma_threes.1 ∈ xTB := x_i3 189 rfl rfl
theorem me_Ma_threesIfChanged : Cond.selects M_Ma_threesIfChanged.1.cls M_Ma_threesIfChanged.1 M_Ma_threesIfChanged.1 ∈ xTB := x_inp 36 (by decide +kernel) rfl
theorem me_Ma_threesNow : Cond.selects M_Ma_threesNow.1.cls M_Ma_threesNow.1 M_Ma_threesNow.1 ∈ xTB := x_inp 28 (by decide +kernel) rfl
theorem me_Ma_threesOf : Cond.selects M_Ma_threesOf.1.cls M_Ma_threesOf.1 M_Ma_threesOf.1 ∈ xTB := x_inp 31 (by decide +kernel) rfl
theorem me_Ma_told : Cond.selects M_Ma_told.1.cls M_Ma_told.1 M_Ma_told.1 ∈ xTB := x_i3 114 rfl rfl
theorem me_Ma_town : Cond.selects M_Ma_town.1.cls M_Ma_town.1 M_Ma_town.1 ∈ xTB := x_i3 118 rfl rfl
theorem me_Ma_townAt : Cond.selects M_Ma_townAt.1.cls M_Ma_townAt.1 M_Ma_townAt.1 ∈ xTB := x_inp 25 (by decide +kernel) rfl
theorem me_Ma_unseenPairs : Cond.selects M_Ma_unseenPairs.1.cls M_Ma_unseenPairs.1 M_Ma_unseenPairs.1 ∈ xTB := x_inp 41 (by decide +kernel) rfl
theorem me_Ma_useText : Cond.selects M_Ma_useText.1.cls M_Ma_useText.1 M_Ma_useText.1 ∈ xTB := x_inp 16 (by decide +kernel) rfl
theorem me_Ma_whoKnowsAll : Cond.selects M_Ma_whoKnowsAll.1.cls M_Ma_whoKnowsAll.1 M_Ma_whoKnowsAll.1 ∈ xTB := x_inp 40 (by decide +kernel) rfl
theorem me_Ma_without : Cond.selects M_Ma_without.1.cls M_Ma_without.1 M_Ma_without.1 ∈ xTB := x_i4 102 rfl rfl
theorem me_Mo_added : Cond.selects M_Mo_added.1.cls M_Mo_added.1 M_Mo_added.1 ∈ xTB := x_inp 62 (by decide +kernel) rfl
theorem me_Mo_all : Cond.selects M_Mo_all.1.cls M_Mo_all.1 M_Mo_all.1 ∈ xTB := x_i6 151 rfl rfl
theorem me_Mo_allThrees : Cond.selects M_Mo_allThrees.1.cls M_Mo_allThrees.1 M_Mo_allThrees.1 ∈ xTB := x_inp 76 (by decide +kernel) rfl
theorem me_Mo_areAll : Cond.selects M_Mo_areAll.1.cls M_Mo_areAll.1 M_Mo_areAll.1 ∈ xTB := x_inp 78 (by decide +kernel) rfl
theorem me_Mo_asIn : Cond.selects M_Mo_asIn.1.cls M_Mo_asIn.1 M_Mo_asIn.1 ∈ xTB := x_i5 205 rfl rfl
theorem me_Mo_atom : Cond.selects M_Mo_atom.1.cls M_Mo_atom.1 M_Mo_atom.1 ∈ xTB := x_inp 64 (by decide +kernel) rfl
theorem me_Mo_back : Cond.selects M_Mo_back.1.cls M_Mo_back.1 M_Mo_back.1 ∈ xTB := x_i6 229 rfl rfl
theorem me_Mo_both : Cond.selects M_Mo_both.1.cls M_Mo_both.1 M_Mo_both.1 ∈ xTB := x_inp 59 (by decide +kernel) rfl
theorem me_Mo_byteAt : Cond.selects M_Mo_byteAt.1.cls M_Mo_byteAt.1 M_Mo_byteAt.1 ∈ xTB := x_inp 53 (by decide +kernel) rfl
theorem me_Mo_cell : Cond.selects M_Mo_cell.1.cls M_Mo_cell.1 M_Mo_cell.1 ∈ xTB := x_i7 3 rfl rfl
theorem me_Mo_chance : Cond.selects M_Mo_chance.1.cls M_Mo_chance.1 M_Mo_chance.1 ∈ xTB := x_i6 191 rfl rfl
theorem me_Mo_change : Cond.selects M_Mo_change.1.cls M_Mo_change.1 M_Mo_change.1 ∈ xTB := x_i6 131 rfl rfl
theorem me_Mo_common : Cond.selects M_Mo_common.1.cls M_Mo_common.1 M_Mo_common.1 ∈ xTB := x_i6 171 rfl rfl
theorem me_Mo_copy : Cond.selects M_Mo_copy.1.cls M_Mo_copy.1 M_Mo_copy.1 ∈ xTB := x_i7 7 rfl rfl
theorem me_Mo_count : Cond.selects M_Mo_count.1.cls M_Mo_count.1 M_Mo_count.1 ∈ xTB := x_i6 233 rfl rfl
theorem me_Mo_degree : Cond.selects M_Mo_degree.1.cls M_Mo_degree.1 M_Mo_degree.1 ∈ xTB := x_inp 67 (by decide +kernel) rfl
theorem me_Mo_drawn : Cond.selects M_Mo_drawn.1.cls M_Mo_drawn.1 M_Mo_drawn.1 ∈ xTB := x_i6 220 rfl rfl
theorem me_Mo_either : Cond.selects M_Mo_either.1.cls M_Mo_either.1 M_Mo_either.1 ∈ xTB := x_inp 58 (by decide +kernel) rfl
theorem me_Mo_fail : Cond.selects M_Mo_fail.1.cls M_Mo_fail.1 M_Mo_fail.1 ∈ xTB := x_inp 57 (by decide +kernel) rfl
theorem me_Mo_feed : Cond.selects M_Mo_feed.1.cls M_Mo_feed.1 M_Mo_feed.1 ∈ xTB := x_i5 232 rfl rfl
theorem me_Mo_force : Cond.selects M_Mo_force.1.cls M_Mo_force.1 M_Mo_force.1 ∈ xTB := x_i6 72 rfl rfl
theorem me_Mo_fours : Cond.selects M_Mo_fours.1.cls M_Mo_fours.1 M_Mo_fours.1 ∈ xTB := x_i6 163 rfl rfl
theorem me_Mo_game : Cond.selects M_Mo_game.1.cls M_Mo_game.1 M_Mo_game.1 ∈ xTB := x_i6 196 rfl rfl
theorem me_Mo_gathers : Cond.selects M_Mo_gathers.1.cls M_Mo_gathers.1 M_Mo_gathers.1 ∈ xTB := x_inp 69 (by decide +kernel) rfl
theorem me_Mo_gathersCosts : Cond.selects M_Mo_gathersCosts.1.cls M_Mo_gathersCosts.1 M_Mo_gathersCosts.1 ∈ xTB := x_inp 75 (by decide +kernel) rfl
theorem me_Mo_guest : Cond.selects M_Mo_guest.1.cls M_Mo_guest.1 M_Mo_guest.1 ∈ xTB := x_i6 101 rfl rfl
theorem me_Mo_half : Cond.selects M_Mo_half.1.cls M_Mo_half.1 M_Mo_half.1 ∈ xTB := x_i6 179 rfl rfl
theorem me_Mo_halved : Cond.selects M_Mo_halved.1.cls M_Mo_halved.1 M_Mo_halved.1 ∈ xTB := x_i6 159 rfl rfl
theorem me_Mo_hasThree : Cond.selects M_Mo_hasThree.1.cls M_Mo_hasThree.1 M_Mo_hasThree.1 ∈ xTB := x_inp 84 (by decide +kernel) rfl
theorem me_Mo_home : Cond.selects M_Mo_home.1.cls M_Mo_home.1 M_Mo_home.1 ∈ xTB := x_i6 123 rfl rfl
theorem me_Mo_image : Cond.selects M_Mo_image.1.cls M_Mo_image.1 M_Mo_image.1 ∈ xTB := x_i6 225 rfl rfl
theorem me_Mo_isGuest : Cond.selects M_Mo_isGuest.1.cls M_Mo_isGuest.1 M_Mo_isGuest.1 ∈ xTB := x_inp 46 (by decide +kernel) rfl
theorem me_Mo_isLetter : Cond.selects M_Mo_isLetter.1.cls M_Mo_isLetter.1 M_Mo_isLetter.1 ∈ xTB := x_inp 55 (by decide +kernel) rfl
theorem me_Mo_isPair : Cond.selects M_Mo_isPair.1.cls M_Mo_isPair.1 M_Mo_isPair.1 ∈ xTB := x_inp 45 (by decide +kernel) rfl
theorem me_Mo_isSign : Cond.selects M_Mo_isSign.1.cls M_Mo_isSign.1 M_Mo_isSign.1 ∈ xTB := x_inp 65 (by decide +kernel) rfl
theorem me_Mo_isSo : Cond.selects M_Mo_isSo.1.cls M_Mo_isSo.1 M_Mo_isSo.1 ∈ xTB := x_inp 49 (by decide +kernel) rfl
theorem me_Mo_isTown : Cond.selects M_Mo_isTown.1.cls M_Mo_isTown.1 M_Mo_isTown.1 ∈ xTB := x_inp 48 (by decide +kernel) rfl
theorem me_Mo_isWord : Cond.selects M_Mo_isWord.1.cls M_Mo_isWord.1 M_Mo_isWord.1 ∈ xTB := x_inp 54 (by decide +kernel) rfl
theorem me_Mo_joy : Cond.selects M_Mo_joy.1.cls M_Mo_joy.1 M_Mo_joy.1 ∈ xTB := x_inp 72 (by decide +kernel) rfl
theorem me_Mo_judge : Cond.selects M_Mo_judge.1.cls M_Mo_judge.1 M_Mo_judge.1 ∈ xTB := x_i6 212 rfl rfl
theorem me_Mo_know : Cond.selects M_Mo_know.1.cls M_Mo_know.1 M_Mo_know.1 ∈ xTB := x_inp 68 (by decide +kernel) rfl
theorem me_Mo_leaves : Cond.selects M_Mo_leaves.1.cls M_Mo_leaves.1 M_Mo_leaves.1 ∈ xTB := x_inp 77 (by decide +kernel) rfl
theorem me_Mo_like : Cond.selects M_Mo_like.1.cls M_Mo_like.1 M_Mo_like.1 ∈ xTB := x_i5 228 rfl rfl
theorem me_Mo_meet : Cond.selects M_Mo_meet.1.cls M_Mo_meet.1 M_Mo_meet.1 ∈ xTB := x_i5 175 rfl rfl
theorem me_Mo_meetsAll : Cond.selects M_Mo_meetsAll.1.cls M_Mo_meetsAll.1 M_Mo_meetsAll.1 ∈ xTB := x_inp 74 (by decide +kernel) rfl
theorem me_Mo_most : Cond.selects M_Mo_most.1.cls M_Mo_most.1 M_Mo_most.1 ∈ xTB := x_i6 119 rfl rfl
theorem me_Mo_name : Cond.selects M_Mo_name.1.cls M_Mo_name.1 M_Mo_name.1 ∈ xTB := x_inp 66 (by decide +kernel) rfl
theorem me_Mo_next : Cond.selects M_Mo_next.1.cls M_Mo_next.1 M_Mo_next.1 ∈ xTB := x_inp 52 (by decide +kernel) rfl
theorem me_Mo_noneLeft : Cond.selects M_Mo_noneLeft.1.cls M_Mo_noneLeft.1 M_Mo_noneLeft.1 ∈ xTB := x_i6 143 rfl rfl
theorem me_Mo_not : Cond.selects M_Mo_not.1.cls M_Mo_not.1 M_Mo_not.1 ∈ xTB := x_inp 60 (by decide +kernel) rfl
theorem me_Mo_opens : Cond.selects M_Mo_opens.1.cls M_Mo_opens.1 M_Mo_opens.1 ∈ xTB := x_inp 61 (by decide +kernel) rfl
theorem me_Mo_pairAt : Cond.selects M_Mo_pairAt.1.cls M_Mo_pairAt.1 M_Mo_pairAt.1 ∈ xTB := x_inp 47 (by decide +kernel) rfl
theorem me_Mo_pairs : Cond.selects M_Mo_pairs.1.cls M_Mo_pairs.1 M_Mo_pairs.1 ∈ xTB := x_i7 11 rfl rfl
theorem me_Mo_part : Cond.selects M_Mo_part.1.cls M_Mo_part.1 M_Mo_part.1 ∈ xTB := x_inp 56 (by decide +kernel) rfl
theorem me_Mo_price : Cond.selects M_Mo_price.1.cls M_Mo_price.1 M_Mo_price.1 ∈ xTB := x_inp 50 (by decide +kernel) rfl
theorem me_Mo_read : Cond.selects M_Mo_read.1.cls M_Mo_read.1 M_Mo_read.1 ∈ xTB := x_inp 51 (by decide +kernel) rfl
theorem me_Mo_ring : Cond.selects M_Mo_ring.1.cls M_Mo_ring.1 M_Mo_ring.1 ∈ xTB := x_inp 79 (by decide +kernel) rfl
theorem me_Mo_says : Cond.selects M_Mo_says.1.cls M_Mo_says.1 M_Mo_says.1 ∈ xTB := x_inp 70 (by decide +kernel) rfl
theorem me_Mo_sheet : Cond.selects M_Mo_sheet.1.cls M_Mo_sheet.1 M_Mo_sheet.1 ∈ xTB := x_i6 238 rfl rfl
theorem me_Mo_sit : Cond.selects M_Mo_sit.1.cls M_Mo_sit.1 M_Mo_sit.1 ∈ xTB := x_i5 164 rfl rfl
theorem me_Mo_sortOf : Cond.selects M_Mo_sortOf.1.cls M_Mo_sortOf.1 M_Mo_sortOf.1 ∈ xTB := x_inp 71 (by decide +kernel) rfl
theorem me_Mo_spell : Cond.selects M_Mo_spell.1.cls M_Mo_spell.1 M_Mo_spell.1 ∈ xTB := x_inp 44 (by decide +kernel) rfl
theorem me_Mo_taken : Cond.selects M_Mo_taken.1.cls M_Mo_taken.1 M_Mo_taken.1 ∈ xTB := x_i7 17 rfl rfl
theorem me_Mo_tells : Cond.selects M_Mo_tells.1.cls M_Mo_tells.1 M_Mo_tells.1 ∈ xTB := x_i5 220 rfl rfl
theorem me_Mo_term : Cond.selects M_Mo_term.1.cls M_Mo_term.1 M_Mo_term.1 ∈ xTB := x_inp 63 (by decide +kernel) rfl
theorem me_Mo_text : Cond.selects M_Mo_text.1.cls M_Mo_text.1 M_Mo_text.1 ∈ xTB := x_i5 237 rfl rfl
theorem me_Mo_threes : Cond.selects M_Mo_threes.1.cls M_Mo_threes.1 M_Mo_threes.1 ∈ xTB := x_i6 76 rfl rfl
theorem me_Mo_threesOf : Cond.selects M_Mo_threesOf.1.cls M_Mo_threesOf.1 M_Mo_threesOf.1 ∈ xTB := x_inp 73 (by decide +kernel) rfl
theorem me_Mo_told : Cond.selects M_Mo_told.1.cls M_Mo_told.1 M_Mo_told.1 ∈ xTB := x_i5 195 rfl rfl
theorem me_Mo_town : Cond.selects M_Mo_town.1.cls M_Mo_town.1 M_Mo_town.1 ∈ xTB := x_i5 199 rfl rfl
theorem me_Mo_turn : Cond.selects M_Mo_turn.1.cls M_Mo_turn.1 M_Mo_turn.1 ∈ xTB := x_inp 83 (by decide +kernel) rfl
theorem me_Mo_unseen : Cond.selects M_Mo_unseen.1.cls M_Mo_unseen.1 M_Mo_unseen.1 ∈ xTB := x_inp 80 (by decide +kernel) rfl
theorem me_Mo_value : Cond.selects M_Mo_value.1.cls M_Mo_value.1 M_Mo_value.1 ∈ xTB := x_inp 82 (by decide +kernel) rfl
theorem me_Mo_waysWithout : Cond.selects M_Mo_waysWithout.1.cls M_Mo_waysWithout.1 M_Mo_waysWithout.1 ∈ xTB := x_inp 81 (by decide +kernel) rfl
theorem me_Mo_without : Cond.selects M_Mo_without.1.cls M_Mo_without.1 M_Mo_without.1 ∈ xTB := x_i6 175 rfl rfl
theorem me_Re_advance : Cond.selects M_Re_advance.1.cls M_Re_advance.1 M_Re_advance.1 ∈ xTB := x_inp 1 (by decide +kernel) rfl
theorem me_Re_empty : Cond.selects M_Re_empty.1.cls M_Re_empty.1 M_Re_empty.1 ∈ xTB := x_i2 200 rfl rfl
theorem me_Re_numberToken : Cond.selects M_Re_numberToken.1.cls M_Re_numberToken.1 M_Re_numberToken.1 ∈ xTB := x_inp 4 (by decide +kernel) rfl
theorem me_Re_put : Cond.selects M_Re_put.1.cls M_Re_put.1 M_Re_put.1 ∈ xTB := x_i2 71 rfl rfl
theorem me_Re_read : Cond.selects M_Re_read.1.cls M_Re_read.1 M_Re_read.1 ∈ xTB := x_i2 75 rfl rfl
theorem me_Re_readBoth : Cond.selects M_Re_readBoth.1.cls M_Re_readBoth.1 M_Re_readBoth.1 ∈ xTB := x_inp 7 (by decide +kernel) rfl
theorem me_Re_readCompared : Cond.selects M_Re_readCompared.1.cls M_Re_readCompared.1 M_Re_readCompared.1 ∈ xTB := x_inp 9 (by decide +kernel) rfl
theorem me_Re_readEither : Cond.selects M_Re_readEither.1.cls M_Re_readEither.1 M_Re_readEither.1 ∈ xTB := x_inp 6 (by decide +kernel) rfl
theorem me_Re_readNot : Cond.selects M_Re_readNot.1.cls M_Re_readNot.1 M_Re_readNot.1 ∈ xTB := x_inp 8 (by decide +kernel) rfl
theorem me_Re_readOne : Cond.selects M_Re_readOne.1.cls M_Re_readOne.1 M_Re_readOne.1 ∈ xTB := x_inp 12 (by decide +kernel) rfl
theorem me_Re_readPlain : Cond.selects M_Re_readPlain.1.cls M_Re_readPlain.1 M_Re_readPlain.1 ∈ xTB := x_inp 13 (by decide +kernel) rfl
theorem me_Re_readSum : Cond.selects M_Re_readSum.1.cls M_Re_readSum.1 M_Re_readSum.1 ∈ xTB := x_inp 10 (by decide +kernel) rfl
theorem me_Re_readTerm : Cond.selects M_Re_readTerm.1.cls M_Re_readTerm.1 M_Re_readTerm.1 ∈ xTB := x_inp 11 (by decide +kernel) rfl
theorem me_Re_size : Cond.selects M_Re_size.1.cls M_Re_size.1 M_Re_size.1 ∈ xTB := x_i3 177 rfl rfl
theorem me_Re_spells : Cond.selects M_Re_spells.1.cls M_Re_spells.1 M_Re_spells.1 ∈ xTB := x_inp 3 (by decide +kernel) rfl
theorem me_Re_takes : Cond.selects M_Re_takes.1.cls M_Re_takes.1 M_Re_takes.1 ∈ xTB := x_inp 5 (by decide +kernel) rfl
theorem me_Re_wordToken : Cond.selects M_Re_wordToken.1.cls M_Re_wordToken.1 M_Re_wordToken.1 ∈ xTB := x_inp 2 (by decide +kernel) rfl
theorem me_Re_write : Cond.selects M_Re_write.1.cls M_Re_write.1 M_Re_write.1 ∈ xTB := x_inp 14 (by decide +kernel) rfl
theorem me_Re_written : Cond.selects M_Re_written.1.cls M_Re_written.1 M_Re_written.1 ∈ xTB := x_i2 166 rfl rfl
theorem me_Ru_answer : Cond.selects M_Ru_answer.1.cls M_Ru_answer.1 M_Ru_answer.1 ∈ xTB := x_inp 19 (by decide +kernel) rfl
theorem me_Ru_costs : Cond.selects M_Ru_costs.1.cls M_Ru_costs.1 M_Ru_costs.1 ∈ xTB := x_i4 43 rfl rfl
theorem me_Ru_counts : Cond.selects M_Ru_counts.1.cls M_Ru_counts.1 M_Ru_counts.1 ∈ xTB := x_i3 3 rfl rfl
theorem me_Ru_follow : Cond.selects M_Ru_follow.1.cls M_Ru_follow.1 M_Ru_follow.1 ∈ xTB := x_i2 228 rfl rfl
theorem me_Ru_joy : Cond.selects M_Ru_joy.1.cls M_Ru_joy.1 M_Ru_joy.1 ∈ xTB := x_i3 235 rfl rfl
theorem me_Ru_name : Cond.selects M_Ru_name.1.cls M_Ru_name.1 M_Ru_name.1 ∈ xTB := x_inp 18 (by decide +kernel) rfl
theorem me_Ru_pop : Cond.selects M_Ru_pop.1.cls M_Ru_pop.1 M_Ru_pop.1 ∈ xTB := x_inp 22 (by decide +kernel) rfl
theorem me_Ru_push : Cond.selects M_Ru_push.1.cls M_Ru_push.1 M_Ru_push.1 ∈ xTB := x_inp 21 (by decide +kernel) rfl
theorem me_Ru_step : Cond.selects M_Ru_step.1.cls M_Ru_step.1 M_Ru_step.1 ∈ xTB := x_inp 20 (by decide +kernel) rfl
theorem me_Se_closes : Cond.selects M_Se_closes.1.cls M_Se_closes.1 M_Se_closes.1 ∈ xTB := x_i4 114 rfl rfl
theorem me_Se_higher : Cond.selects M_Se_higher.1.cls M_Se_higher.1 M_Se_higher.1 ∈ xTB := x_i4 52 rfl rfl
theorem me_Se_lower : Cond.selects M_Se_lower.1.cls M_Se_lower.1 M_Se_lower.1 ∈ xTB := x_i4 48 rfl rfl
theorem me_Se_three : Cond.selects M_Se_three.1.cls M_Se_three.1 M_Se_three.1 ∈ xTB := x_i3 197 rfl rfl
theorem me_Se_within : Cond.selects M_Se_within.1.cls M_Se_within.1 M_Se_within.1 ∈ xTB := x_i2 216 rfl rfl
theorem me_Sg_charAt : Cond.selects M_Sg_charAt.1.cls M_Sg_charAt.1 M_Sg_charAt.1 ∈ xTB := x_i2 33 rfl rfl
theorem me_Sg_coder : Cond.selects M_Sg_coder.1.cls M_Sg_coder.1 M_Sg_coder.1 ∈ xTB := x_i2 27 rfl rfl
theorem me_Sg_isLatin1 : Cond.selects M_Sg_isLatin1.1.cls M_Sg_isLatin1.1 M_Sg_isLatin1.1 ∈ xTB := x_i2 37 rfl rfl
theorem me_Sg_length : Cond.selects M_Sg_length.1.cls M_Sg_length.1 M_Sg_length.1 ∈ xTB := x_i2 23 rfl rfl
theorem me_Sh_become : Cond.selects M_Sh_become.1.cls M_Sh_become.1 M_Sh_become.1 ∈ xTB := x_i4 220 rfl rfl
theorem me_Sh_hasRun : Cond.selects M_Sh_hasRun.1.cls M_Sh_hasRun.1 M_Sh_hasRun.1 ∈ xTB := x_i4 239 rfl rfl
theorem me_Sh_isMissing : Cond.selects M_Sh_isMissing.1.cls M_Sh_isMissing.1 M_Sh_isMissing.1 ∈ xTB := x_i4 177 rfl rfl
theorem me_Sh_item : Cond.selects M_Sh_item.1.cls M_Sh_item.1 M_Sh_item.1 ∈ xTB := x_i4 181 rfl rfl
theorem me_Sh_write : Cond.selects M_Sh_write.1.cls M_Sh_write.1 M_Sh_write.1 ∈ xTB := x_i4 231 rfl rfl
theorem me_St_anyThree : Cond.selects M_St_anyThree.1.cls M_St_anyThree.1 M_St_anyThree.1 ∈ xTB := x_i4 22 rfl rfl
theorem me_St_howMany : Cond.selects M_St_howMany.1.cls M_St_howMany.1 M_St_howMany.1 ∈ xTB := x_i3 193 rfl rfl
theorem me_St_howManyWith : Cond.selects M_St_howManyWith.1.cls M_St_howManyWith.1 M_St_howManyWith.1 ∈ xTB := x_i4 138 rfl rfl
theorem me_St_stands : Cond.selects M_St_stands.1.cls M_St_stands.1 M_St_stands.1 ∈ xTB := x_i3 201 rfl rfl
theorem me_St_weigh : Cond.selects M_St_weigh.1.cls M_St_weigh.1 M_St_weigh.1 ∈ xTB := x_i2 232 rfl rfl
theorem me_St_weighThree : Cond.selects M_St_weighThree.1.cls M_St_weighThree.1 M_St_weighThree.1 ∈ xTB := x_inp 17 (by decide +kernel) rfl
theorem me_Ta_everyPair : Cond.selects M_Ta_everyPair.1.cls M_Ta_everyPair.1 M_Ta_everyPair.1 ∈ xTB := x_i2 208 rfl rfl
theorem me_Ta_everyone : Cond.selects M_Ta_everyone.1.cls M_Ta_everyone.1 M_Ta_everyone.1 ∈ xTB := x_i2 212 rfl rfl
theorem me_Ta_knownBy : Cond.selects M_Ta_knownBy.1.cls M_Ta_knownBy.1 M_Ta_knownBy.1 ∈ xTB := x_i3 219 rfl rfl
theorem me_Ta_lay : Cond.selects M_Ta_lay.1.cls M_Ta_lay.1 M_Ta_lay.1 ∈ xTB := x_i2 204 rfl rfl
theorem me_Ta_layAs : Cond.selects M_Ta_layAs.1.cls M_Ta_layAs.1 M_Ta_layAs.1 ∈ xTB := x_i4 204 rfl rfl
theorem me_Ta_layBits : Cond.selects M_Ta_layBits.1.cls M_Ta_layBits.1 M_Ta_layBits.1 ∈ xTB := x_i2 220 rfl rfl
theorem me_Ta_look : Cond.selects M_Ta_look.1.cls M_Ta_look.1 M_Ta_look.1 ∈ xTB := x_i3 106 rfl rfl
theorem me_Ta_put : Cond.selects M_Ta_put.1.cls M_Ta_put.1 M_Ta_put.1 ∈ xTB := x_i3 110 rfl rfl
theorem me_Te_begin : Cond.selects M_Te_begin.1.cls M_Te_begin.1 M_Te_begin.1 ∈ xTB := x_i3 15 rfl rfl
theorem me_Te_code : Cond.selects M_Te_code.1.cls M_Te_code.1 M_Te_code.1 ∈ xTB := x_i3 24 rfl rfl
theorem me_Te_end : Cond.selects M_Te_end.1.cls M_Te_end.1 M_Te_end.1 ∈ xTB := x_i3 19 rfl rfl
theorem me_To_areNextInRing : Cond.selects M_To_areNextInRing.1.cls M_To_areNextInRing.1 M_To_areNextInRing.1 ∈ xTB := x_inp 27 (by decide +kernel) rfl
theorem me_To_isOf : Cond.selects M_To_isOf.1.cls M_To_isOf.1 M_To_isOf.1 ∈ xTB := x_i5 13 rfl rfl
theorem me_To_knows : Cond.selects M_To_knows.1.cls M_To_knows.1 M_To_knows.1 ∈ xTB := x_i3 147 rfl rfl
theorem me_To_price : Cond.selects M_To_price.1.cls M_To_price.1 M_To_price.1 ∈ xTB := x_i3 168 rfl rfl
theorem me_Wa_drawAll : Cond.selects M_Wa_drawAll.1.cls M_Wa_drawAll.1 M_Wa_drawAll.1 ∈ xTB := x_i4 106 rfl rfl
theorem me_Wa_fillAll : Cond.selects M_Wa_fillAll.1.cls M_Wa_fillAll.1 M_Wa_fillAll.1 ∈ xTB := x_i4 129 rfl rfl
theorem mi_Ch_init : Cond.instanceMethod M_Ch_init.1 ∈ xTB := x_i1 146 rfl rfl
theorem mi_Ch_keepBest : Cond.instanceMethod M_Ch_keepBest.1 ∈ xTB := x_i4 69 rfl rfl
theorem mi_Ch_seek : Cond.instanceMethod M_Ch_seek.1 ∈ xTB := x_i4 59 rfl rfl
theorem mi_Ma_all : Cond.instanceMethod M_Ma_all.1 ∈ xTB := x_i4 73 rfl rfl
theorem mi_Ma_asIn : Cond.instanceMethod M_Ma_asIn.1 ∈ xTB := x_i3 134 rfl rfl
theorem mi_Ma_back : Cond.instanceMethod M_Ma_back.1 ∈ xTB := x_i4 207 rfl rfl
theorem mi_Ma_bestChange : Cond.instanceMethod M_Ma_bestChange.1 ∈ xTB := x_i4 34 rfl rfl
theorem mi_Ma_byDegrees : Cond.instanceMethod M_Ma_byDegrees.1 ∈ xTB := x_i3 215 rfl rfl
theorem mi_Ma_cell : Cond.instanceMethod M_Ma_cell.1 ∈ xTB := x_i4 226 rfl rfl
theorem mi_Ma_chance : Cond.instanceMethod M_Ma_chance.1 ∈ xTB := x_i4 143 rfl rfl
theorem mi_Ma_change : Cond.instanceMethod M_Ma_change.1 ∈ xTB := x_i4 29 rfl rfl
theorem mi_Ma_common : Cond.instanceMethod M_Ma_common.1 ∈ xTB := x_i4 93 rfl rfl
theorem mi_Ma_copy : Cond.instanceMethod M_Ma_copy.1 ∈ xTB := x_i4 234 rfl rfl
theorem mi_Ma_count : Cond.instanceMethod M_Ma_count.1 ∈ xTB := x_i4 211 rfl rfl
theorem mi_Ma_drawn : Cond.instanceMethod M_Ma_drawn.1 ∈ xTB := x_i4 188 rfl rfl
theorem mi_Ma_feed : Cond.instanceMethod M_Ma_feed.1 ∈ xTB := x_i3 172 rfl rfl
theorem mi_Ma_firstThree : Cond.instanceMethod M_Ma_firstThree.1 ∈ xTB := x_i3 210 rfl rfl
theorem mi_Ma_force : Cond.instanceMethod M_Ma_force.1 ∈ xTB := x_i3 184 rfl rfl
theorem mi_Ma_fours : Cond.instanceMethod M_Ma_fours.1 ∈ xTB := x_i4 85 rfl rfl
theorem mi_Ma_friendsIn : Cond.instanceMethod M_Ma_friendsIn.1 ∈ xTB := x_i3 143 rfl rfl
theorem mi_Ma_friendsWithin : Cond.instanceMethod M_Ma_friendsWithin.1 ∈ xTB := x_i4 82 rfl rfl
theorem mi_Ma_game : Cond.instanceMethod M_Ma_game.1 ∈ xTB := x_i4 148 rfl rfl
theorem mi_Ma_guest : Cond.instanceMethod M_Ma_guest.1 ∈ xTB := x_i3 224 rfl rfl
theorem mi_Ma_half : Cond.instanceMethod M_Ma_half.1 ∈ xTB := x_i4 120 rfl rfl
theorem mi_Ma_halved : Cond.instanceMethod M_Ma_halved.1 ∈ xTB := x_i4 77 rfl rfl
theorem mi_Ma_home : Cond.instanceMethod M_Ma_home.1 ∈ xTB := x_i4 9 rfl rfl
theorem mi_Ma_image : Cond.instanceMethod M_Ma_image.1 ∈ xTB := x_i4 199 rfl rfl
theorem mi_Ma_init : Cond.instanceMethod M_Ma_init.1 ∈ xTB := x_i1 25 rfl rfl
theorem mi_Ma_introduced : Cond.instanceMethod M_Ma_introduced.1 ∈ xTB := x_i4 185 rfl rfl
theorem mi_Ma_isGuest : Cond.instanceMethod M_Ma_isGuest.1 ∈ xTB := x_i3 101 rfl rfl
theorem mi_Ma_joyOf : Cond.instanceMethod M_Ma_joyOf.1 ∈ xTB := x_i4 26 rfl rfl
theorem mi_Ma_judge : Cond.instanceMethod M_Ma_judge.1 ∈ xTB := x_i4 168 rfl rfl
theorem mi_Ma_keepText : Cond.instanceMethod M_Ma_keepText.1 ∈ xTB := x_i2 162 rfl rfl
theorem mi_Ma_knownByBoth : Cond.instanceMethod M_Ma_knownByBoth.1 ∈ xTB := x_i4 90 rfl rfl
theorem mi_Ma_learnFirstText : Cond.instanceMethod M_Ma_learnFirstText.1 ∈ xTB := x_i2 18 rfl rfl
theorem mi_Ma_leavesNone : Cond.instanceMethod M_Ma_leavesNone.1 ∈ xTB := x_i4 18 rfl rfl
theorem mi_Ma_like : Cond.instanceMethod M_Ma_like.1 ∈ xTB := x_i4 193 rfl rfl
theorem mi_Ma_meet : Cond.instanceMethod M_Ma_meet.1 ∈ xTB := x_i3 92 rfl rfl
theorem mi_Ma_most : Cond.instanceMethod M_Ma_most.1 ∈ xTB := x_i4 5 rfl rfl
theorem mi_Ma_noneLeft : Cond.instanceMethod M_Ma_noneLeft.1 ∈ xTB := x_i4 55 rfl rfl
theorem mi_Ma_pairNumber : Cond.instanceMethod M_Ma_pairNumber.1 ∈ xTB := x_i3 97 rfl rfl
theorem mi_Ma_pairs : Cond.instanceMethod M_Ma_pairs.1 ∈ xTB := x_i5 3 rfl rfl
theorem mi_Ma_sentHome : Cond.instanceMethod M_Ma_sentHome.1 ∈ xTB := x_i4 14 rfl rfl
theorem mi_Ma_sheet : Cond.instanceMethod M_Ma_sheet.1 ∈ xTB := x_i4 215 rfl rfl
theorem mi_Ma_sheetAt : Cond.instanceMethod M_Ma_sheetAt.1 ∈ xTB := x_i4 173 rfl rfl
theorem mi_Ma_sit : Cond.instanceMethod M_Ma_sit.1 ∈ xTB := x_i3 88 rfl rfl
theorem mi_Ma_taken : Cond.instanceMethod M_Ma_taken.1 ∈ xTB := x_i5 8 rfl rfl
theorem mi_Ma_tells : Cond.instanceMethod M_Ma_tells.1 ∈ xTB := x_i3 160 rfl rfl
theorem mi_Ma_text : Cond.instanceMethod M_Ma_text.1 ∈ xTB := x_i3 180 rfl rfl
theorem mi_Ma_threes : Cond.instanceMethod M_Ma_threes.1 ∈ xTB := x_i3 188 rfl rfl
theorem mi_Ma_threesIfChanged : Cond.instanceMethod M_Ma_threesIfChanged.1 ∈ xTB := x_i4 39 rfl rfl
theorem mi_Ma_threesNow : Cond.instanceMethod M_Ma_threesNow.1 ∈ xTB := x_i3 206 rfl rfl
theorem mi_Ma_threesOf : Cond.instanceMethod M_Ma_threesOf.1 ∈ xTB := x_i3 229 rfl rfl
theorem mi_Ma_told : Cond.instanceMethod M_Ma_told.1 ∈ xTB := x_i3 113 rfl rfl
theorem mi_Ma_town : Cond.instanceMethod M_Ma_town.1 ∈ xTB := x_i3 117 rfl rfl
theorem mi_Ma_townAt : Cond.instanceMethod M_Ma_townAt.1 ∈ xTB := x_i3 139 rfl rfl
theorem mi_Ma_unseenPairs : Cond.instanceMethod M_Ma_unseenPairs.1 ∈ xTB := x_i4 125 rfl rfl
theorem mi_Ma_useText : Cond.instanceMethod M_Ma_useText.1 ∈ xTB := x_i2 224 rfl rfl
theorem mi_Ma_whoKnowsAll : Cond.instanceMethod M_Ma_whoKnowsAll.1 ∈ xTB := x_i4 98 rfl rfl
theorem mi_Ma_without : Cond.instanceMethod M_Ma_without.1 ∈ xTB := x_i4 101 rfl rfl
theorem mi_Mo_added : Cond.instanceMethod M_Mo_added.1 ∈ xTB := x_i6 50 rfl rfl
theorem mi_Mo_all : Cond.instanceMethod M_Mo_all.1 ∈ xTB := x_i6 150 rfl rfl
theorem mi_Mo_allThrees : Cond.instanceMethod M_Mo_allThrees.1 ∈ xTB := x_i6 139 rfl rfl
theorem mi_Mo_areAll : Cond.instanceMethod M_Mo_areAll.1 ∈ xTB := x_i6 155 rfl rfl
theorem mi_Mo_asIn : Cond.instanceMethod M_Mo_asIn.1 ∈ xTB := x_i5 204 rfl rfl
theorem mi_Mo_atom : Cond.instanceMethod M_Mo_atom.1 ∈ xTB := x_i6 58 rfl rfl
theorem mi_Mo_back : Cond.instanceMethod M_Mo_back.1 ∈ xTB := x_i6 228 rfl rfl
theorem mi_Mo_both : Cond.instanceMethod M_Mo_both.1 ∈ xTB := x_i6 38 rfl rfl
theorem mi_Mo_byteAt : Cond.instanceMethod M_Mo_byteAt.1 ∈ xTB := x_i6 9 rfl rfl
theorem mi_Mo_cell : Cond.instanceMethod M_Mo_cell.1 ∈ xTB := x_i7 2 rfl rfl
theorem mi_Mo_chance : Cond.instanceMethod M_Mo_chance.1 ∈ xTB := x_i6 190 rfl rfl
theorem mi_Mo_change : Cond.instanceMethod M_Mo_change.1 ∈ xTB := x_i6 130 rfl rfl
theorem mi_Mo_common : Cond.instanceMethod M_Mo_common.1 ∈ xTB := x_i6 170 rfl rfl
theorem mi_Mo_copy : Cond.instanceMethod M_Mo_copy.1 ∈ xTB := x_i7 6 rfl rfl
theorem mi_Mo_count : Cond.instanceMethod M_Mo_count.1 ∈ xTB := x_i6 232 rfl rfl
theorem mi_Mo_degree : Cond.instanceMethod M_Mo_degree.1 ∈ xTB := x_i6 81 rfl rfl
theorem mi_Mo_drawn : Cond.instanceMethod M_Mo_drawn.1 ∈ xTB := x_i6 219 rfl rfl
theorem mi_Mo_either : Cond.instanceMethod M_Mo_either.1 ∈ xTB := x_i6 34 rfl rfl
theorem mi_Mo_fail : Cond.instanceMethod M_Mo_fail.1 ∈ xTB := x_i6 30 rfl rfl
theorem mi_Mo_feed : Cond.instanceMethod M_Mo_feed.1 ∈ xTB := x_i5 231 rfl rfl
theorem mi_Mo_force : Cond.instanceMethod M_Mo_force.1 ∈ xTB := x_i6 71 rfl rfl
theorem mi_Mo_fours : Cond.instanceMethod M_Mo_fours.1 ∈ xTB := x_i6 162 rfl rfl
theorem mi_Mo_game : Cond.instanceMethod M_Mo_game.1 ∈ xTB := x_i6 195 rfl rfl
theorem mi_Mo_gathers : Cond.instanceMethod M_Mo_gathers.1 ∈ xTB := x_i6 89 rfl rfl
theorem mi_Mo_gathersCosts : Cond.instanceMethod M_Mo_gathersCosts.1 ∈ xTB := x_i6 135 rfl rfl
theorem mi_Mo_guest : Cond.instanceMethod M_Mo_guest.1 ∈ xTB := x_i6 100 rfl rfl
theorem mi_Mo_half : Cond.instanceMethod M_Mo_half.1 ∈ xTB := x_i6 178 rfl rfl
theorem mi_Mo_halved : Cond.instanceMethod M_Mo_halved.1 ∈ xTB := x_i6 158 rfl rfl
theorem mi_Mo_hasThree : Cond.instanceMethod M_Mo_hasThree.1 ∈ xTB := x_i6 208 rfl rfl
theorem mi_Mo_home : Cond.instanceMethod M_Mo_home.1 ∈ xTB := x_i6 122 rfl rfl
theorem mi_Mo_image : Cond.instanceMethod M_Mo_image.1 ∈ xTB := x_i6 224 rfl rfl
theorem mi_Mo_init : Cond.instanceMethod M_Mo_init.1 ∈ xTB := x_i5 20 rfl rfl
theorem mi_Mo_isGuest : Cond.instanceMethod M_Mo_isGuest.1 ∈ xTB := x_i5 183 rfl rfl
theorem mi_Mo_isLetter : Cond.instanceMethod M_Mo_isLetter.1 ∈ xTB := x_i6 22 rfl rfl
theorem mi_Mo_isPair : Cond.instanceMethod M_Mo_isPair.1 ∈ xTB := x_i5 179 rfl rfl
theorem mi_Mo_isSign : Cond.instanceMethod M_Mo_isSign.1 ∈ xTB := x_i6 62 rfl rfl
theorem mi_Mo_isSo : Cond.instanceMethod M_Mo_isSo.1 ∈ xTB := x_i5 213 rfl rfl
theorem mi_Mo_isTown : Cond.instanceMethod M_Mo_isTown.1 ∈ xTB := x_i5 209 rfl rfl
theorem mi_Mo_isWord : Cond.instanceMethod M_Mo_isWord.1 ∈ xTB := x_i6 18 rfl rfl
theorem mi_Mo_joy : Cond.instanceMethod M_Mo_joy.1 ∈ xTB := x_i6 105 rfl rfl
theorem mi_Mo_judge : Cond.instanceMethod M_Mo_judge.1 ∈ xTB := x_i6 211 rfl rfl
theorem mi_Mo_know : Cond.instanceMethod M_Mo_know.1 ∈ xTB := x_i6 85 rfl rfl
theorem mi_Mo_leaves : Cond.instanceMethod M_Mo_leaves.1 ∈ xTB := x_i6 147 rfl rfl
theorem mi_Mo_like : Cond.instanceMethod M_Mo_like.1 ∈ xTB := x_i5 227 rfl rfl
theorem mi_Mo_meet : Cond.instanceMethod M_Mo_meet.1 ∈ xTB := x_i5 174 rfl rfl
theorem mi_Mo_meetsAll : Cond.instanceMethod M_Mo_meetsAll.1 ∈ xTB := x_i6 127 rfl rfl
theorem mi_Mo_most : Cond.instanceMethod M_Mo_most.1 ∈ xTB := x_i6 118 rfl rfl
theorem mi_Mo_name : Cond.instanceMethod M_Mo_name.1 ∈ xTB := x_i6 66 rfl rfl
theorem mi_Mo_next : Cond.instanceMethod M_Mo_next.1 ∈ xTB := x_i6 5 rfl rfl
theorem mi_Mo_noneLeft : Cond.instanceMethod M_Mo_noneLeft.1 ∈ xTB := x_i6 142 rfl rfl
theorem mi_Mo_not : Cond.instanceMethod M_Mo_not.1 ∈ xTB := x_i6 42 rfl rfl
theorem mi_Mo_opens : Cond.instanceMethod M_Mo_opens.1 ∈ xTB := x_i6 46 rfl rfl
theorem mi_Mo_pairAt : Cond.instanceMethod M_Mo_pairAt.1 ∈ xTB := x_i5 191 rfl rfl
theorem mi_Mo_pairs : Cond.instanceMethod M_Mo_pairs.1 ∈ xTB := x_i7 10 rfl rfl
theorem mi_Mo_part : Cond.instanceMethod M_Mo_part.1 ∈ xTB := x_i6 26 rfl rfl
theorem mi_Mo_price : Cond.instanceMethod M_Mo_price.1 ∈ xTB := x_i5 224 rfl rfl
theorem mi_Mo_read : Cond.instanceMethod M_Mo_read.1 ∈ xTB := x_i6 1 rfl rfl
theorem mi_Mo_ring : Cond.instanceMethod M_Mo_ring.1 ∈ xTB := x_i6 167 rfl rfl
theorem mi_Mo_says : Cond.instanceMethod M_Mo_says.1 ∈ xTB := x_i6 93 rfl rfl
theorem mi_Mo_sheet : Cond.instanceMethod M_Mo_sheet.1 ∈ xTB := x_i6 237 rfl rfl
theorem mi_Mo_sit : Cond.instanceMethod M_Mo_sit.1 ∈ xTB := x_i5 163 rfl rfl
theorem mi_Mo_sortOf : Cond.instanceMethod M_Mo_sortOf.1 ∈ xTB := x_i6 97 rfl rfl
theorem mi_Mo_spell : Cond.instanceMethod M_Mo_spell.1 ∈ xTB := x_i5 25 rfl rfl
theorem mi_Mo_taken : Cond.instanceMethod M_Mo_taken.1 ∈ xTB := x_i7 16 rfl rfl
theorem mi_Mo_tells : Cond.instanceMethod M_Mo_tells.1 ∈ xTB := x_i5 219 rfl rfl
theorem mi_Mo_term : Cond.instanceMethod M_Mo_term.1 ∈ xTB := x_i6 54 rfl rfl
theorem mi_Mo_text : Cond.instanceMethod M_Mo_text.1 ∈ xTB := x_i5 236 rfl rfl
theorem mi_Mo_threes : Cond.instanceMethod M_Mo_threes.1 ∈ xTB := x_i6 75 rfl rfl
theorem mi_Mo_threesOf : Cond.instanceMethod M_Mo_threesOf.1 ∈ xTB := x_i6 112 rfl rfl
theorem mi_Mo_told : Cond.instanceMethod M_Mo_told.1 ∈ xTB := x_i5 194 rfl rfl
theorem mi_Mo_town : Cond.instanceMethod M_Mo_town.1 ∈ xTB := x_i5 198 rfl rfl
theorem mi_Mo_turn : Cond.instanceMethod M_Mo_turn.1 ∈ xTB := x_i6 204 rfl rfl
theorem mi_Mo_unseen : Cond.instanceMethod M_Mo_unseen.1 ∈ xTB := x_i6 183 rfl rfl
theorem mi_Mo_value : Cond.instanceMethod M_Mo_value.1 ∈ xTB := x_i6 200 rfl rfl
theorem mi_Mo_waysWithout : Cond.instanceMethod M_Mo_waysWithout.1 ∈ xTB := x_i6 187 rfl rfl
theorem mi_Mo_without : Cond.instanceMethod M_Mo_without.1 ∈ xTB := x_i6 174 rfl rfl
theorem mi_Re_advance : Cond.instanceMethod M_Re_advance.1 ∈ xTB := x_i2 79 rfl rfl
theorem mi_Re_empty : Cond.instanceMethod M_Re_empty.1 ∈ xTB := x_i2 199 rfl rfl
theorem mi_Re_init : Cond.instanceMethod M_Re_init.1 ∈ xTB := x_i1 201 rfl rfl
theorem mi_Re_numberToken : Cond.instanceMethod M_Re_numberToken.1 ∈ xTB := x_i2 115 rfl rfl
theorem mi_Re_put : Cond.instanceMethod M_Re_put.1 ∈ xTB := x_i2 70 rfl rfl
theorem mi_Re_read : Cond.instanceMethod M_Re_read.1 ∈ xTB := x_i2 74 rfl rfl
theorem mi_Re_readBoth : Cond.instanceMethod M_Re_readBoth.1 ∈ xTB := x_i2 130 rfl rfl
theorem mi_Re_readCompared : Cond.instanceMethod M_Re_readCompared.1 ∈ xTB := x_i2 138 rfl rfl
theorem mi_Re_readEither : Cond.instanceMethod M_Re_readEither.1 ∈ xTB := x_i2 126 rfl rfl
theorem mi_Re_readNot : Cond.instanceMethod M_Re_readNot.1 ∈ xTB := x_i2 134 rfl rfl
theorem mi_Re_readOne : Cond.instanceMethod M_Re_readOne.1 ∈ xTB := x_i2 150 rfl rfl
theorem mi_Re_readPlain : Cond.instanceMethod M_Re_readPlain.1 ∈ xTB := x_i2 154 rfl rfl
theorem mi_Re_readSum : Cond.instanceMethod M_Re_readSum.1 ∈ xTB := x_i2 142 rfl rfl
theorem mi_Re_readTerm : Cond.instanceMethod M_Re_readTerm.1 ∈ xTB := x_i2 146 rfl rfl
theorem mi_Re_size : Cond.instanceMethod M_Re_size.1 ∈ xTB := x_i3 176 rfl rfl
theorem mi_Re_spells : Cond.instanceMethod M_Re_spells.1 ∈ xTB := x_i2 106 rfl rfl
theorem mi_Re_takes : Cond.instanceMethod M_Re_takes.1 ∈ xTB := x_i2 122 rfl rfl
theorem mi_Re_wordToken : Cond.instanceMethod M_Re_wordToken.1 ∈ xTB := x_i2 86 rfl rfl
theorem mi_Re_write : Cond.instanceMethod M_Re_write.1 ∈ xTB := x_i2 158 rfl rfl
theorem mi_Re_written : Cond.instanceMethod M_Re_written.1 ∈ xTB := x_i2 165 rfl rfl
theorem mi_Ru_answer : Cond.instanceMethod M_Ru_answer.1 ∈ xTB := x_i3 11 rfl rfl
theorem mi_Ru_costs : Cond.instanceMethod M_Ru_costs.1 ∈ xTB := x_i4 42 rfl rfl
theorem mi_Ru_counts : Cond.instanceMethod M_Ru_counts.1 ∈ xTB := x_i3 2 rfl rfl
theorem mi_Ru_follow : Cond.instanceMethod M_Ru_follow.1 ∈ xTB := x_i2 227 rfl rfl
theorem mi_Ru_init : Cond.instanceMethod M_Ru_init.1 ∈ xTB := x_i1 101 rfl rfl
theorem mi_Ru_joy : Cond.instanceMethod M_Ru_joy.1 ∈ xTB := x_i3 234 rfl rfl
theorem mi_Ru_name : Cond.instanceMethod M_Ru_name.1 ∈ xTB := x_i3 7 rfl rfl
theorem mi_Ru_pop : Cond.instanceMethod M_Ru_pop.1 ∈ xTB := x_i3 36 rfl rfl
theorem mi_Ru_push : Cond.instanceMethod M_Ru_push.1 ∈ xTB := x_i3 32 rfl rfl
theorem mi_Ru_step : Cond.instanceMethod M_Ru_step.1 ∈ xTB := x_i3 28 rfl rfl
theorem mi_Se_closes : Cond.instanceMethod M_Se_closes.1 ∈ xTB := x_i4 113 rfl rfl
theorem mi_Se_higher : Cond.instanceMethod M_Se_higher.1 ∈ xTB := x_i4 51 rfl rfl
theorem mi_Se_init : Cond.instanceMethod M_Se_init.1 ∈ xTB := x_i1 33 rfl rfl
theorem mi_Se_lower : Cond.instanceMethod M_Se_lower.1 ∈ xTB := x_i4 47 rfl rfl
theorem mi_Se_three : Cond.instanceMethod M_Se_three.1 ∈ xTB := x_i3 196 rfl rfl
theorem mi_Se_within : Cond.instanceMethod M_Se_within.1 ∈ xTB := x_i2 215 rfl rfl
theorem mi_Sg_charAt : Cond.instanceMethod M_Sg_charAt.1 ∈ xTB := x_i2 32 rfl rfl
theorem mi_Sg_coder : Cond.instanceMethod M_Sg_coder.1 ∈ xTB := x_i2 26 rfl rfl
theorem mi_Sg_isLatin1 : Cond.instanceMethod M_Sg_isLatin1.1 ∈ xTB := x_i2 36 rfl rfl
theorem mi_Sg_length : Cond.instanceMethod M_Sg_length.1 ∈ xTB := x_i2 22 rfl rfl
theorem mi_Sh_become : Cond.instanceMethod M_Sh_become.1 ∈ xTB := x_i4 219 rfl rfl
theorem mi_Sh_hasRun : Cond.instanceMethod M_Sh_hasRun.1 ∈ xTB := x_i4 238 rfl rfl
theorem mi_Sh_init : Cond.instanceMethod M_Sh_init.1 ∈ xTB := x_i2 0 rfl rfl
theorem mi_Sh_isMissing : Cond.instanceMethod M_Sh_isMissing.1 ∈ xTB := x_i4 176 rfl rfl
theorem mi_Sh_item : Cond.instanceMethod M_Sh_item.1 ∈ xTB := x_i4 180 rfl rfl
theorem mi_Sh_write : Cond.instanceMethod M_Sh_write.1 ∈ xTB := x_i4 230 rfl rfl
theorem mi_St_anyThree : Cond.instanceMethod M_St_anyThree.1 ∈ xTB := x_i4 21 rfl rfl
theorem mi_St_howMany : Cond.instanceMethod M_St_howMany.1 ∈ xTB := x_i3 192 rfl rfl
theorem mi_St_howManyWith : Cond.instanceMethod M_St_howManyWith.1 ∈ xTB := x_i4 137 rfl rfl
theorem mi_St_init : Cond.instanceMethod M_St_init.1 ∈ xTB := x_i1 126 rfl rfl
theorem mi_St_stands : Cond.instanceMethod M_St_stands.1 ∈ xTB := x_i3 200 rfl rfl
theorem mi_St_weigh : Cond.instanceMethod M_St_weigh.1 ∈ xTB := x_i2 231 rfl rfl
theorem mi_St_weighThree : Cond.instanceMethod M_St_weighThree.1 ∈ xTB := x_i2 239 rfl rfl
theorem mi_Ta_everyPair : Cond.instanceMethod M_Ta_everyPair.1 ∈ xTB := x_i2 207 rfl rfl
theorem mi_Ta_everyone : Cond.instanceMethod M_Ta_everyone.1 ∈ xTB := x_i2 211 rfl rfl
theorem mi_Ta_init : Cond.instanceMethod M_Ta_init.1 ∈ xTB := x_i1 71 rfl rfl
theorem mi_Ta_knownBy : Cond.instanceMethod M_Ta_knownBy.1 ∈ xTB := x_i3 218 rfl rfl
theorem mi_Ta_lay : Cond.instanceMethod M_Ta_lay.1 ∈ xTB := x_i2 203 rfl rfl
theorem mi_Ta_layAs : Cond.instanceMethod M_Ta_layAs.1 ∈ xTB := x_i4 203 rfl rfl
theorem mi_Ta_layBits : Cond.instanceMethod M_Ta_layBits.1 ∈ xTB := x_i2 219 rfl rfl
theorem mi_Ta_look : Cond.instanceMethod M_Ta_look.1 ∈ xTB := x_i3 105 rfl rfl
theorem mi_Ta_put : Cond.instanceMethod M_Ta_put.1 ∈ xTB := x_i3 109 rfl rfl
theorem mi_Te_begin : Cond.instanceMethod M_Te_begin.1 ∈ xTB := x_i3 14 rfl rfl
theorem mi_Te_code : Cond.instanceMethod M_Te_code.1 ∈ xTB := x_i3 23 rfl rfl
theorem mi_Te_end : Cond.instanceMethod M_Te_end.1 ∈ xTB := x_i3 18 rfl rfl
theorem mi_Te_init : Cond.instanceMethod M_Te_init.1 ∈ xTB := x_i2 187 rfl rfl
theorem mi_To_areNextInRing : Cond.instanceMethod M_To_areNextInRing.1 ∈ xTB := x_i3 154 rfl rfl
theorem mi_To_init : Cond.instanceMethod M_To_init.1 ∈ xTB := x_i3 122 rfl rfl
theorem mi_To_isOf : Cond.instanceMethod M_To_isOf.1 ∈ xTB := x_i5 12 rfl rfl
theorem mi_To_knows : Cond.instanceMethod M_To_knows.1 ∈ xTB := x_i3 146 rfl rfl
theorem mi_To_price : Cond.instanceMethod M_To_price.1 ∈ xTB := x_i3 167 rfl rfl
theorem mi_Wa_drawAll : Cond.instanceMethod M_Wa_drawAll.1 ∈ xTB := x_i4 105 rfl rfl
theorem mi_Wa_fillAll : Cond.instanceMethod M_Wa_fillAll.1 ∈ xTB := x_i4 128 rfl rfl
theorem mi_Wa_init : Cond.instanceMethod M_Wa_init.1 ∈ xTB := x_i1 173 rfl rfl
theorem mk_Ar_copyOf : x_mk M_Ar_copyOf 2 := ⟨by decide +kernel, ⟨by decide +kernel, by decide +kernel, by decide +kernel⟩, by decide, x_i1 17 rfl rfl, x_i2 172 rfl rfl⟩
theorem mk_Ar_fill : x_mk M_Ar_fill 2 := ⟨by decide +kernel, ⟨by decide +kernel, by decide +kernel, by decide +kernel⟩, by decide, x_i1 17 rfl rfl, x_i4 224 rfl rfl⟩
theorem mk_Ch_init : x_mk M_Ch_init 2 := ⟨by decide +kernel, ⟨by decide +kernel, by decide +kernel, by decide +kernel⟩, by decide, x_i1 8 rfl rfl, x_i1 147 rfl rfl⟩
theorem mk_Ch_keepBest : x_mk M_Ch_keepBest 1 := ⟨by decide +kernel, ⟨by decide +kernel, by decide +kernel, by decide +kernel⟩, by decide, x_i1 8 rfl rfl, x_i4 70 rfl rfl⟩
theorem mk_Ch_seek : x_mk M_Ch_seek 2 := ⟨by decide +kernel, ⟨by decide +kernel, by decide +kernel, by decide +kernel⟩, by decide, x_i1 8 rfl rfl, x_i4 61 rfl rfl⟩
theorem mk_Ch_tryChanges : x_mk M_Ch_tryChanges 5 := ⟨by decide +kernel, ⟨by decide +kernel, by decide +kernel, by decide +kernel⟩, by decide, x_i1 8 rfl rfl, x_i4 65 rfl rfl⟩
theorem mk_Ga_pair : x_mk M_Ga_pair 2 := ⟨by decide +kernel, ⟨by decide +kernel, by decide +kernel, by decide +kernel⟩, by decide, x_i1 21 rfl rfl, x_i4 165 rfl rfl⟩
theorem mk_Ga_value : x_mk M_Ga_value 2 := ⟨by decide +kernel, ⟨by decide +kernel, by decide +kernel, by decide +kernel⟩, by decide, x_i1 21 rfl rfl, x_i4 153 rfl rfl⟩
theorem mk_Ga_worth : x_mk M_Ga_worth 5 := ⟨by decide +kernel, ⟨by decide +kernel, by decide +kernel, by decide +kernel⟩, by decide, x_i1 21 rfl rfl, x_i4 157 rfl rfl⟩
theorem mk_Ga_worthOfTurn : x_mk M_Ga_worthOfTurn 6 := ⟨by decide +kernel, ⟨by decide +kernel, by decide +kernel, by decide +kernel⟩, by decide, x_i1 21 rfl rfl, x_i4 160 rfl rfl⟩
theorem mk_In_bitCount : x_mk M_In_bitCount 1 := ⟨by decide +kernel, ⟨by decide +kernel, by decide +kernel, by decide +kernel⟩, by decide, x_i1 3 rfl rfl, x_i1 41 rfl rfl⟩
theorem mk_Ma_all : x_mk M_Ma_all 2 := ⟨by decide +kernel, ⟨by decide +kernel, by decide +kernel, by decide +kernel⟩, by decide, x_i1 1 rfl rfl, x_i4 75 rfl rfl⟩
theorem mk_Ma_asIn : x_mk M_Ma_asIn 1 := ⟨by decide +kernel, ⟨by decide +kernel, by decide +kernel, by decide +kernel⟩, by decide, x_i1 1 rfl rfl, x_i3 136 rfl rfl⟩
theorem mk_Ma_back : x_mk M_Ma_back 0 := ⟨by decide +kernel, ⟨by decide +kernel, by decide +kernel, by decide +kernel⟩, by decide, x_i1 1 rfl rfl, x_i4 209 rfl rfl⟩
theorem mk_Ma_bestChange : x_mk M_Ma_bestChange 0 := ⟨by decide +kernel, ⟨by decide +kernel, by decide +kernel, by decide +kernel⟩, by decide, x_i1 1 rfl rfl, x_i4 35 rfl rfl⟩
theorem mk_Ma_byDegrees : x_mk M_Ma_byDegrees 0 := ⟨by decide +kernel, ⟨by decide +kernel, by decide +kernel, by decide +kernel⟩, by decide, x_i1 1 rfl rfl, x_i3 216 rfl rfl⟩
theorem mk_Ma_cell : x_mk M_Ma_cell 3 := ⟨by decide +kernel, ⟨by decide +kernel, by decide +kernel, by decide +kernel⟩, by decide, x_i1 1 rfl rfl, x_i4 228 rfl rfl⟩
theorem mk_Ma_chance : x_mk M_Ma_chance 1 := ⟨by decide +kernel, ⟨by decide +kernel, by decide +kernel, by decide +kernel⟩, by decide, x_i1 1 rfl rfl, x_i4 145 rfl rfl⟩
theorem mk_Ma_change : x_mk M_Ma_change 1 := ⟨by decide +kernel, ⟨by decide +kernel, by decide +kernel, by decide +kernel⟩, by decide, x_i1 1 rfl rfl, x_i4 31 rfl rfl⟩
theorem mk_Ma_common : x_mk M_Ma_common 1 := ⟨by decide +kernel, ⟨by decide +kernel, by decide +kernel, by decide +kernel⟩, by decide, x_i1 1 rfl rfl, x_i4 95 rfl rfl⟩
theorem mk_Ma_copy : x_mk M_Ma_copy 5 := ⟨by decide +kernel, ⟨by decide +kernel, by decide +kernel, by decide +kernel⟩, by decide, x_i1 1 rfl rfl, x_i4 236 rfl rfl⟩
theorem mk_Ma_count : x_mk M_Ma_count 1 := ⟨by decide +kernel, ⟨by decide +kernel, by decide +kernel, by decide +kernel⟩, by decide, x_i1 1 rfl rfl, x_i4 213 rfl rfl⟩
theorem mk_Ma_drawn : x_mk M_Ma_drawn 1 := ⟨by decide +kernel, ⟨by decide +kernel, by decide +kernel, by decide +kernel⟩, by decide, x_i1 1 rfl rfl, x_i4 190 rfl rfl⟩
theorem mk_Ma_feed : x_mk M_Ma_feed 1 := ⟨by decide +kernel, ⟨by decide +kernel, by decide +kernel, by decide +kernel⟩, by decide, x_i1 1 rfl rfl, x_i3 174 rfl rfl⟩
theorem mk_Ma_firstThree : x_mk M_Ma_firstThree 0 := ⟨by decide +kernel, ⟨by decide +kernel, by decide +kernel, by decide +kernel⟩, by decide, x_i1 1 rfl rfl, x_i3 211 rfl rfl⟩
theorem mk_Ma_force : x_mk M_Ma_force 1 := ⟨by decide +kernel, ⟨by decide +kernel, by decide +kernel, by decide +kernel⟩, by decide, x_i1 1 rfl rfl, x_i3 186 rfl rfl⟩
theorem mk_Ma_fours : x_mk M_Ma_fours 0 := ⟨by decide +kernel, ⟨by decide +kernel, by decide +kernel, by decide +kernel⟩, by decide, x_i1 1 rfl rfl, x_i4 87 rfl rfl⟩
theorem mk_Ma_friendsIn : x_mk M_Ma_friendsIn 1 := ⟨by decide +kernel, ⟨by decide +kernel, by decide +kernel, by decide +kernel⟩, by decide, x_i1 1 rfl rfl, x_i3 144 rfl rfl⟩
theorem mk_Ma_friendsWithin : x_mk M_Ma_friendsWithin 1 := ⟨by decide +kernel, ⟨by decide +kernel, by decide +kernel, by decide +kernel⟩, by decide, x_i1 1 rfl rfl, x_i4 83 rfl rfl⟩
theorem mk_Ma_game : x_mk M_Ma_game 1 := ⟨by decide +kernel, ⟨by decide +kernel, by decide +kernel, by decide +kernel⟩, by decide, x_i1 1 rfl rfl, x_i4 150 rfl rfl⟩
theorem mk_Ma_guest : x_mk M_Ma_guest 2 := ⟨by decide +kernel, ⟨by decide +kernel, by decide +kernel, by decide +kernel⟩, by decide, x_i1 1 rfl rfl, x_i3 226 rfl rfl⟩
theorem mk_Ma_half : x_mk M_Ma_half 1 := ⟨by decide +kernel, ⟨by decide +kernel, by decide +kernel, by decide +kernel⟩, by decide, x_i1 1 rfl rfl, x_i4 122 rfl rfl⟩
theorem mk_Ma_halved : x_mk M_Ma_halved 1 := ⟨by decide +kernel, ⟨by decide +kernel, by decide +kernel, by decide +kernel⟩, by decide, x_i1 1 rfl rfl, x_i4 79 rfl rfl⟩
theorem mk_Ma_home : x_mk M_Ma_home 1 := ⟨by decide +kernel, ⟨by decide +kernel, by decide +kernel, by decide +kernel⟩, by decide, x_i1 1 rfl rfl, x_i4 11 rfl rfl⟩
theorem mk_Ma_image : x_mk M_Ma_image 0 := ⟨by decide +kernel, ⟨by decide +kernel, by decide +kernel, by decide +kernel⟩, by decide, x_i1 1 rfl rfl, x_i4 201 rfl rfl⟩
theorem mk_Ma_init : x_mk M_Ma_init 0 := ⟨by decide +kernel, ⟨by decide +kernel, by decide +kernel, by decide +kernel⟩, by decide, x_i1 1 rfl rfl, x_i1 26 rfl rfl⟩
theorem mk_Ma_introduced : x_mk M_Ma_introduced 1 := ⟨by decide +kernel, ⟨by decide +kernel, by decide +kernel, by decide +kernel⟩, by decide, x_i1 1 rfl rfl, x_i4 186 rfl rfl⟩
theorem mk_Ma_isGuest : x_mk M_Ma_isGuest 1 := ⟨by decide +kernel, ⟨by decide +kernel, by decide +kernel, by decide +kernel⟩, by decide, x_i1 1 rfl rfl, x_i3 102 rfl rfl⟩
theorem mk_Ma_isWithin : x_mk M_Ma_isWithin 2 := ⟨by decide +kernel, ⟨by decide +kernel, by decide +kernel, by decide +kernel⟩, by decide, x_i1 1 rfl rfl, x_i3 165 rfl rfl⟩
theorem mk_Ma_joyOf : x_mk M_Ma_joyOf 1 := ⟨by decide +kernel, ⟨by decide +kernel, by decide +kernel, by decide +kernel⟩, by decide, x_i1 1 rfl rfl, x_i4 27 rfl rfl⟩
theorem mk_Ma_judge : x_mk M_Ma_judge 2 := ⟨by decide +kernel, ⟨by decide +kernel, by decide +kernel, by decide +kernel⟩, by decide, x_i1 1 rfl rfl, x_i4 170 rfl rfl⟩
theorem mk_Ma_keepText : x_mk M_Ma_keepText 0 := ⟨by decide +kernel, ⟨by decide +kernel, by decide +kernel, by decide +kernel⟩, by decide, x_i1 1 rfl rfl, x_i2 163 rfl rfl⟩
theorem mk_Ma_knownByBoth : x_mk M_Ma_knownByBoth 2 := ⟨by decide +kernel, ⟨by decide +kernel, by decide +kernel, by decide +kernel⟩, by decide, x_i1 1 rfl rfl, x_i4 91 rfl rfl⟩
theorem mk_Ma_learnFirstText : x_mk M_Ma_learnFirstText 0 := ⟨by decide +kernel, ⟨by decide +kernel, by decide +kernel, by decide +kernel⟩, by decide, x_i1 1 rfl rfl, x_i2 19 rfl rfl⟩
theorem mk_Ma_leavesNone : x_mk M_Ma_leavesNone 1 := ⟨by decide +kernel, ⟨by decide +kernel, by decide +kernel, by decide +kernel⟩, by decide, x_i1 1 rfl rfl, x_i4 19 rfl rfl⟩
theorem mk_Ma_like : x_mk M_Ma_like 1 := ⟨by decide +kernel, ⟨by decide +kernel, by decide +kernel, by decide +kernel⟩, by decide, x_i1 1 rfl rfl, x_i4 195 rfl rfl⟩
theorem mk_Ma_meet : x_mk M_Ma_meet 3 := ⟨by decide +kernel, ⟨by decide +kernel, by decide +kernel, by decide +kernel⟩, by decide, x_i1 1 rfl rfl, x_i3 94 rfl rfl⟩
theorem mk_Ma_most : x_mk M_Ma_most 0 := ⟨by decide +kernel, ⟨by decide +kernel, by decide +kernel, by decide +kernel⟩, by decide, x_i1 1 rfl rfl, x_i4 7 rfl rfl⟩
theorem mk_Ma_noneLeft : x_mk M_Ma_noneLeft 1 := ⟨by decide +kernel, ⟨by decide +kernel, by decide +kernel, by decide +kernel⟩, by decide, x_i1 1 rfl rfl, x_i4 57 rfl rfl⟩
theorem mk_Ma_pairNumber : x_mk M_Ma_pairNumber 2 := ⟨by decide +kernel, ⟨by decide +kernel, by decide +kernel, by decide +kernel⟩, by decide, x_i1 1 rfl rfl, x_i3 98 rfl rfl⟩
theorem mk_Ma_pairs : x_mk M_Ma_pairs 4 := ⟨by decide +kernel, ⟨by decide +kernel, by decide +kernel, by decide +kernel⟩, by decide, x_i1 1 rfl rfl, x_i5 5 rfl rfl⟩
theorem mk_Ma_sentHome : x_mk M_Ma_sentHome 0 := ⟨by decide +kernel, ⟨by decide +kernel, by decide +kernel, by decide +kernel⟩, by decide, x_i1 1 rfl rfl, x_i4 15 rfl rfl⟩
theorem mk_Ma_sheet : x_mk M_Ma_sheet 3 := ⟨by decide +kernel, ⟨by decide +kernel, by decide +kernel, by decide +kernel⟩, by decide, x_i1 1 rfl rfl, x_i4 217 rfl rfl⟩
theorem mk_Ma_sheetAt : x_mk M_Ma_sheetAt 1 := ⟨by decide +kernel, ⟨by decide +kernel, by decide +kernel, by decide +kernel⟩, by decide, x_i1 1 rfl rfl, x_i4 174 rfl rfl⟩
theorem mk_Ma_sit : x_mk M_Ma_sit 1 := ⟨by decide +kernel, ⟨by decide +kernel, by decide +kernel, by decide +kernel⟩, by decide, x_i1 1 rfl rfl, x_i3 90 rfl rfl⟩
theorem mk_Ma_taken : x_mk M_Ma_taken 2 := ⟨by decide +kernel, ⟨by decide +kernel, by decide +kernel, by decide +kernel⟩, by decide, x_i1 1 rfl rfl, x_i5 10 rfl rfl⟩
theorem mk_Ma_tells : x_mk M_Ma_tells 4 := ⟨by decide +kernel, ⟨by decide +kernel, by decide +kernel, by decide +kernel⟩, by decide, x_i1 1 rfl rfl, x_i3 162 rfl rfl⟩
theorem mk_Ma_text : x_mk M_Ma_text 0 := ⟨by decide +kernel, ⟨by decide +kernel, by decide +kernel, by decide +kernel⟩, by decide, x_i1 1 rfl rfl, x_i3 182 rfl rfl⟩
theorem mk_Ma_threes : x_mk M_Ma_threes 1 := ⟨by decide +kernel, ⟨by decide +kernel, by decide +kernel, by decide +kernel⟩, by decide, x_i1 1 rfl rfl, x_i3 190 rfl rfl⟩
theorem mk_Ma_threesIfChanged : x_mk M_Ma_threesIfChanged 1 := ⟨by decide +kernel, ⟨by decide +kernel, by decide +kernel, by decide +kernel⟩, by decide, x_i1 1 rfl rfl, x_i4 40 rfl rfl⟩
theorem mk_Ma_threesNow : x_mk M_Ma_threesNow 0 := ⟨by decide +kernel, ⟨by decide +kernel, by decide +kernel, by decide +kernel⟩, by decide, x_i1 1 rfl rfl, x_i3 207 rfl rfl⟩
theorem mk_Ma_threesOf : x_mk M_Ma_threesOf 1 := ⟨by decide +kernel, ⟨by decide +kernel, by decide +kernel, by decide +kernel⟩, by decide, x_i1 1 rfl rfl, x_i3 230 rfl rfl⟩
theorem mk_Ma_told : x_mk M_Ma_told 2 := ⟨by decide +kernel, ⟨by decide +kernel, by decide +kernel, by decide +kernel⟩, by decide, x_i1 1 rfl rfl, x_i3 115 rfl rfl⟩
theorem mk_Ma_town : x_mk M_Ma_town 2 := ⟨by decide +kernel, ⟨by decide +kernel, by decide +kernel, by decide +kernel⟩, by decide, x_i1 1 rfl rfl, x_i3 119 rfl rfl⟩
theorem mk_Ma_townAt : x_mk M_Ma_townAt 1 := ⟨by decide +kernel, ⟨by decide +kernel, by decide +kernel, by decide +kernel⟩, by decide, x_i1 1 rfl rfl, x_i3 140 rfl rfl⟩
theorem mk_Ma_unseenPairs : x_mk M_Ma_unseenPairs 0 := ⟨by decide +kernel, ⟨by decide +kernel, by decide +kernel, by decide +kernel⟩, by decide, x_i1 1 rfl rfl, x_i4 126 rfl rfl⟩
theorem mk_Ma_useText : x_mk M_Ma_useText 1 := ⟨by decide +kernel, ⟨by decide +kernel, by decide +kernel, by decide +kernel⟩, by decide, x_i1 1 rfl rfl, x_i2 225 rfl rfl⟩
theorem mk_Ma_whoKnowsAll : x_mk M_Ma_whoKnowsAll 0 := ⟨by decide +kernel, ⟨by decide +kernel, by decide +kernel, by decide +kernel⟩, by decide, x_i1 1 rfl rfl, x_i4 99 rfl rfl⟩
theorem mk_Ma_without : x_mk M_Ma_without 2 := ⟨by decide +kernel, ⟨by decide +kernel, by decide +kernel, by decide +kernel⟩, by decide, x_i1 1 rfl rfl, x_i4 103 rfl rfl⟩
theorem mk_Mo_added : x_mk M_Mo_added 0 := ⟨by decide +kernel, ⟨by decide +kernel, by decide +kernel, by decide +kernel⟩, by decide, x_i1 19 rfl rfl, x_i6 51 rfl rfl⟩
theorem mk_Mo_all : x_mk M_Mo_all 2 := ⟨by decide +kernel, ⟨by decide +kernel, by decide +kernel, by decide +kernel⟩, by decide, x_i1 19 rfl rfl, x_i6 152 rfl rfl⟩
theorem mk_Mo_allOf : x_mk M_Mo_allOf 1 := ⟨by decide +kernel, ⟨by decide +kernel, by decide +kernel, by decide +kernel⟩, by decide, x_i1 19 rfl rfl, x_i5 172 rfl rfl⟩
theorem mk_Mo_allThrees : x_mk M_Mo_allThrees 2 := ⟨by decide +kernel, ⟨by decide +kernel, by decide +kernel, by decide +kernel⟩, by decide, x_i1 19 rfl rfl, x_i6 140 rfl rfl⟩
theorem mk_Mo_areAll : x_mk M_Mo_areAll 2 := ⟨by decide +kernel, ⟨by decide +kernel, by decide +kernel, by decide +kernel⟩, by decide, x_i1 19 rfl rfl, x_i6 156 rfl rfl⟩
theorem mk_Mo_asIn : x_mk M_Mo_asIn 1 := ⟨by decide +kernel, ⟨by decide +kernel, by decide +kernel, by decide +kernel⟩, by decide, x_i1 19 rfl rfl, x_i5 206 rfl rfl⟩
theorem mk_Mo_atom : x_mk M_Mo_atom 0 := ⟨by decide +kernel, ⟨by decide +kernel, by decide +kernel, by decide +kernel⟩, by decide, x_i1 19 rfl rfl, x_i6 59 rfl rfl⟩
theorem mk_Mo_back : x_mk M_Mo_back 0 := ⟨by decide +kernel, ⟨by decide +kernel, by decide +kernel, by decide +kernel⟩, by decide, x_i1 19 rfl rfl, x_i6 230 rfl rfl⟩
theorem mk_Mo_bitsOf : x_mk M_Mo_bitsOf 1 := ⟨by decide +kernel, ⟨by decide +kernel, by decide +kernel, by decide +kernel⟩, by decide, x_i1 19 rfl rfl, x_i5 217 rfl rfl⟩
theorem mk_Mo_both : x_mk M_Mo_both 0 := ⟨by decide +kernel, ⟨by decide +kernel, by decide +kernel, by decide +kernel⟩, by decide, x_i1 19 rfl rfl, x_i6 39 rfl rfl⟩
theorem mk_Mo_byteAt : x_mk M_Mo_byteAt 1 := ⟨by decide +kernel, ⟨by decide +kernel, by decide +kernel, by decide +kernel⟩, by decide, x_i1 19 rfl rfl, x_i6 10 rfl rfl⟩
theorem mk_Mo_cell : x_mk M_Mo_cell 3 := ⟨by decide +kernel, ⟨by decide +kernel, by decide +kernel, by decide +kernel⟩, by decide, x_i1 19 rfl rfl, x_i7 4 rfl rfl⟩
theorem mk_Mo_chance : x_mk M_Mo_chance 1 := ⟨by decide +kernel, ⟨by decide +kernel, by decide +kernel, by decide +kernel⟩, by decide, x_i1 19 rfl rfl, x_i6 192 rfl rfl⟩
theorem mk_Mo_change : x_mk M_Mo_change 1 := ⟨by decide +kernel, ⟨by decide +kernel, by decide +kernel, by decide +kernel⟩, by decide, x_i1 19 rfl rfl, x_i6 132 rfl rfl⟩
theorem mk_Mo_common : x_mk M_Mo_common 1 := ⟨by decide +kernel, ⟨by decide +kernel, by decide +kernel, by decide +kernel⟩, by decide, x_i1 19 rfl rfl, x_i6 172 rfl rfl⟩
theorem mk_Mo_copy : x_mk M_Mo_copy 5 := ⟨by decide +kernel, ⟨by decide +kernel, by decide +kernel, by decide +kernel⟩, by decide, x_i1 19 rfl rfl, x_i7 8 rfl rfl⟩
theorem mk_Mo_count : x_mk M_Mo_count 1 := ⟨by decide +kernel, ⟨by decide +kernel, by decide +kernel, by decide +kernel⟩, by decide, x_i1 19 rfl rfl, x_i6 234 rfl rfl⟩
theorem mk_Mo_degree : x_mk M_Mo_degree 1 := ⟨by decide +kernel, ⟨by decide +kernel, by decide +kernel, by decide +kernel⟩, by decide, x_i1 19 rfl rfl, x_i6 82 rfl rfl⟩
theorem mk_Mo_drawn : x_mk M_Mo_drawn 1 := ⟨by decide +kernel, ⟨by decide +kernel, by decide +kernel, by decide +kernel⟩, by decide, x_i1 19 rfl rfl, x_i6 221 rfl rfl⟩
theorem mk_Mo_either : x_mk M_Mo_either 0 := ⟨by decide +kernel, ⟨by decide +kernel, by decide +kernel, by decide +kernel⟩, by decide, x_i1 19 rfl rfl, x_i6 35 rfl rfl⟩
theorem mk_Mo_fail : x_mk M_Mo_fail 0 := ⟨by decide +kernel, ⟨by decide +kernel, by decide +kernel, by decide +kernel⟩, by decide, x_i1 19 rfl rfl, x_i6 31 rfl rfl⟩
theorem mk_Mo_feed : x_mk M_Mo_feed 1 := ⟨by decide +kernel, ⟨by decide +kernel, by decide +kernel, by decide +kernel⟩, by decide, x_i1 19 rfl rfl, x_i5 233 rfl rfl⟩
theorem mk_Mo_force : x_mk M_Mo_force 1 := ⟨by decide +kernel, ⟨by decide +kernel, by decide +kernel, by decide +kernel⟩, by decide, x_i1 19 rfl rfl, x_i6 73 rfl rfl⟩
theorem mk_Mo_fours : x_mk M_Mo_fours 0 := ⟨by decide +kernel, ⟨by decide +kernel, by decide +kernel, by decide +kernel⟩, by decide, x_i1 19 rfl rfl, x_i6 164 rfl rfl⟩
theorem mk_Mo_game : x_mk M_Mo_game 1 := ⟨by decide +kernel, ⟨by decide +kernel, by decide +kernel, by decide +kernel⟩, by decide, x_i1 19 rfl rfl, x_i6 197 rfl rfl⟩
theorem mk_Mo_gathers : x_mk M_Mo_gathers 0 := ⟨by decide +kernel, ⟨by decide +kernel, by decide +kernel, by decide +kernel⟩, by decide, x_i1 19 rfl rfl, x_i6 90 rfl rfl⟩
theorem mk_Mo_gathersCosts : x_mk M_Mo_gathersCosts 0 := ⟨by decide +kernel, ⟨by decide +kernel, by decide +kernel, by decide +kernel⟩, by decide, x_i1 19 rfl rfl, x_i6 136 rfl rfl⟩
theorem mk_Mo_guest : x_mk M_Mo_guest 2 := ⟨by decide +kernel, ⟨by decide +kernel, by decide +kernel, by decide +kernel⟩, by decide, x_i1 19 rfl rfl, x_i6 102 rfl rfl⟩
theorem mk_Mo_half : x_mk M_Mo_half 1 := ⟨by decide +kernel, ⟨by decide +kernel, by decide +kernel, by decide +kernel⟩, by decide, x_i1 19 rfl rfl, x_i6 180 rfl rfl⟩
theorem mk_Mo_halved : x_mk M_Mo_halved 1 := ⟨by decide +kernel, ⟨by decide +kernel, by decide +kernel, by decide +kernel⟩, by decide, x_i1 19 rfl rfl, x_i6 160 rfl rfl⟩
theorem mk_Mo_hasThree : x_mk M_Mo_hasThree 4 := ⟨by decide +kernel, ⟨by decide +kernel, by decide +kernel, by decide +kernel⟩, by decide, x_i1 19 rfl rfl, x_i6 209 rfl rfl⟩
theorem mk_Mo_home : x_mk M_Mo_home 1 := ⟨by decide +kernel, ⟨by decide +kernel, by decide +kernel, by decide +kernel⟩, by decide, x_i1 19 rfl rfl, x_i6 124 rfl rfl⟩
theorem mk_Mo_image : x_mk M_Mo_image 0 := ⟨by decide +kernel, ⟨by decide +kernel, by decide +kernel, by decide +kernel⟩, by decide, x_i1 19 rfl rfl, x_i6 226 rfl rfl⟩
theorem mk_Mo_in : x_mk M_Mo_in 3 := ⟨by decide +kernel, ⟨by decide +kernel, by decide +kernel, by decide +kernel⟩, by decide, x_i1 19 rfl rfl, x_i5 169 rfl rfl⟩
theorem mk_Mo_init : x_mk M_Mo_init 0 := ⟨by decide +kernel, ⟨by decide +kernel, by decide +kernel, by decide +kernel⟩, by decide, x_i1 19 rfl rfl, x_i5 21 rfl rfl⟩
theorem mk_Mo_isGuest : x_mk M_Mo_isGuest 1 := ⟨by decide +kernel, ⟨by decide +kernel, by decide +kernel, by decide +kernel⟩, by decide, x_i1 19 rfl rfl, x_i5 184 rfl rfl⟩
theorem mk_Mo_isIn : x_mk M_Mo_isIn 2 := ⟨by decide +kernel, ⟨by decide +kernel, by decide +kernel, by decide +kernel⟩, by decide, x_i1 19 rfl rfl, x_i6 116 rfl rfl⟩
theorem mk_Mo_isLetter : x_mk M_Mo_isLetter 2 := ⟨by decide +kernel, ⟨by decide +kernel, by decide +kernel, by decide +kernel⟩, by decide, x_i1 19 rfl rfl, x_i6 23 rfl rfl⟩
theorem mk_Mo_isPair : x_mk M_Mo_isPair 2 := ⟨by decide +kernel, ⟨by decide +kernel, by decide +kernel, by decide +kernel⟩, by decide, x_i1 19 rfl rfl, x_i5 180 rfl rfl⟩
theorem mk_Mo_isSheet : x_mk M_Mo_isSheet 1 := ⟨by decide +kernel, ⟨by decide +kernel, by decide +kernel, by decide +kernel⟩, by decide, x_i1 19 rfl rfl, x_i6 216 rfl rfl⟩
theorem mk_Mo_isSign : x_mk M_Mo_isSign 1 := ⟨by decide +kernel, ⟨by decide +kernel, by decide +kernel, by decide +kernel⟩, by decide, x_i1 19 rfl rfl, x_i6 63 rfl rfl⟩
theorem mk_Mo_isSo : x_mk M_Mo_isSo 3 := ⟨by decide +kernel, ⟨by decide +kernel, by decide +kernel, by decide +kernel⟩, by decide, x_i1 19 rfl rfl, x_i5 214 rfl rfl⟩
theorem mk_Mo_isTown : x_mk M_Mo_isTown 1 := ⟨by decide +kernel, ⟨by decide +kernel, by decide +kernel, by decide +kernel⟩, by decide, x_i1 19 rfl rfl, x_i5 210 rfl rfl⟩
theorem mk_Mo_isWord : x_mk M_Mo_isWord 8 := ⟨by decide +kernel, ⟨by decide +kernel, by decide +kernel, by decide +kernel⟩, by decide, x_i1 19 rfl rfl, x_i6 19 rfl rfl⟩
theorem mk_Mo_joy : x_mk M_Mo_joy 1 := ⟨by decide +kernel, ⟨by decide +kernel, by decide +kernel, by decide +kernel⟩, by decide, x_i1 19 rfl rfl, x_i6 106 rfl rfl⟩
theorem mk_Mo_judge : x_mk M_Mo_judge 2 := ⟨by decide +kernel, ⟨by decide +kernel, by decide +kernel, by decide +kernel⟩, by decide, x_i1 19 rfl rfl, x_i6 213 rfl rfl⟩
theorem mk_Mo_know : x_mk M_Mo_know 2 := ⟨by decide +kernel, ⟨by decide +kernel, by decide +kernel, by decide +kernel⟩, by decide, x_i1 19 rfl rfl, x_i6 86 rfl rfl⟩
theorem mk_Mo_leaves : x_mk M_Mo_leaves 4 := ⟨by decide +kernel, ⟨by decide +kernel, by decide +kernel, by decide +kernel⟩, by decide, x_i1 19 rfl rfl, x_i6 148 rfl rfl⟩
theorem mk_Mo_like : x_mk M_Mo_like 1 := ⟨by decide +kernel, ⟨by decide +kernel, by decide +kernel, by decide +kernel⟩, by decide, x_i1 19 rfl rfl, x_i5 229 rfl rfl⟩
theorem mk_Mo_meet : x_mk M_Mo_meet 3 := ⟨by decide +kernel, ⟨by decide +kernel, by decide +kernel, by decide +kernel⟩, by decide, x_i1 19 rfl rfl, x_i5 176 rfl rfl⟩
theorem mk_Mo_meetsAll : x_mk M_Mo_meetsAll 1 := ⟨by decide +kernel, ⟨by decide +kernel, by decide +kernel, by decide +kernel⟩, by decide, x_i1 19 rfl rfl, x_i6 128 rfl rfl⟩
theorem mk_Mo_most : x_mk M_Mo_most 0 := ⟨by decide +kernel, ⟨by decide +kernel, by decide +kernel, by decide +kernel⟩, by decide, x_i1 19 rfl rfl, x_i6 120 rfl rfl⟩
theorem mk_Mo_name : x_mk M_Mo_name 0 := ⟨by decide +kernel, ⟨by decide +kernel, by decide +kernel, by decide +kernel⟩, by decide, x_i1 19 rfl rfl, x_i6 67 rfl rfl⟩
theorem mk_Mo_next : x_mk M_Mo_next 0 := ⟨by decide +kernel, ⟨by decide +kernel, by decide +kernel, by decide +kernel⟩, by decide, x_i1 19 rfl rfl, x_i6 6 rfl rfl⟩
theorem mk_Mo_noneLeft : x_mk M_Mo_noneLeft 1 := ⟨by decide +kernel, ⟨by decide +kernel, by decide +kernel, by decide +kernel⟩, by decide, x_i1 19 rfl rfl, x_i6 144 rfl rfl⟩
theorem mk_Mo_not : x_mk M_Mo_not 0 := ⟨by decide +kernel, ⟨by decide +kernel, by decide +kernel, by decide +kernel⟩, by decide, x_i1 19 rfl rfl, x_i6 43 rfl rfl⟩
theorem mk_Mo_opens : x_mk M_Mo_opens 0 := ⟨by decide +kernel, ⟨by decide +kernel, by decide +kernel, by decide +kernel⟩, by decide, x_i1 19 rfl rfl, x_i6 47 rfl rfl⟩
theorem mk_Mo_over : x_mk M_Mo_over 1 := ⟨by decide +kernel, ⟨by decide +kernel, by decide +kernel, by decide +kernel⟩, by decide, x_i1 19 rfl rfl, x_i7 21 rfl rfl⟩
theorem mk_Mo_pairAt : x_mk M_Mo_pairAt 1 := ⟨by decide +kernel, ⟨by decide +kernel, by decide +kernel, by decide +kernel⟩, by decide, x_i1 19 rfl rfl, x_i5 192 rfl rfl⟩
theorem mk_Mo_pairs : x_mk M_Mo_pairs 4 := ⟨by decide +kernel, ⟨by decide +kernel, by decide +kernel, by decide +kernel⟩, by decide, x_i1 19 rfl rfl, x_i7 12 rfl rfl⟩
theorem mk_Mo_part : x_mk M_Mo_part 1 := ⟨by decide +kernel, ⟨by decide +kernel, by decide +kernel, by decide +kernel⟩, by decide, x_i1 19 rfl rfl, x_i6 27 rfl rfl⟩
theorem mk_Mo_price : x_mk M_Mo_price 3 := ⟨by decide +kernel, ⟨by decide +kernel, by decide +kernel, by decide +kernel⟩, by decide, x_i1 19 rfl rfl, x_i5 225 rfl rfl⟩
theorem mk_Mo_read : x_mk M_Mo_read 2 := ⟨by decide +kernel, ⟨by decide +kernel, by decide +kernel, by decide +kernel⟩, by decide, x_i1 19 rfl rfl, x_i6 2 rfl rfl⟩
theorem mk_Mo_ring : x_mk M_Mo_ring 4 := ⟨by decide +kernel, ⟨by decide +kernel, by decide +kernel, by decide +kernel⟩, by decide, x_i1 19 rfl rfl, x_i6 168 rfl rfl⟩
theorem mk_Mo_says : x_mk M_Mo_says 6 := ⟨by decide +kernel, ⟨by decide +kernel, by decide +kernel, by decide +kernel⟩, by decide, x_i1 19 rfl rfl, x_i6 94 rfl rfl⟩
theorem mk_Mo_seat : x_mk M_Mo_seat 2 := ⟨by decide +kernel, ⟨by decide +kernel, by decide +kernel, by decide +kernel⟩, by decide, x_i1 19 rfl rfl, x_i5 188 rfl rfl⟩
theorem mk_Mo_sheet : x_mk M_Mo_sheet 3 := ⟨by decide +kernel, ⟨by decide +kernel, by decide +kernel, by decide +kernel⟩, by decide, x_i1 19 rfl rfl, x_i6 239 rfl rfl⟩
theorem mk_Mo_sit : x_mk M_Mo_sit 1 := ⟨by decide +kernel, ⟨by decide +kernel, by decide +kernel, by decide +kernel⟩, by decide, x_i1 19 rfl rfl, x_i5 165 rfl rfl⟩
theorem mk_Mo_sortOf : x_mk M_Mo_sortOf 3 := ⟨by decide +kernel, ⟨by decide +kernel, by decide +kernel, by decide +kernel⟩, by decide, x_i1 19 rfl rfl, x_i6 98 rfl rfl⟩
theorem mk_Mo_spell : x_mk M_Mo_spell 9 := ⟨by decide +kernel, ⟨by decide +kernel, by decide +kernel, by decide +kernel⟩, by decide, x_i1 19 rfl rfl, x_i5 26 rfl rfl⟩
theorem mk_Mo_taken : x_mk M_Mo_taken 2 := ⟨by decide +kernel, ⟨by decide +kernel, by decide +kernel, by decide +kernel⟩, by decide, x_i1 19 rfl rfl, x_i7 18 rfl rfl⟩
theorem mk_Mo_tells : x_mk M_Mo_tells 4 := ⟨by decide +kernel, ⟨by decide +kernel, by decide +kernel, by decide +kernel⟩, by decide, x_i1 19 rfl rfl, x_i5 221 rfl rfl⟩
theorem mk_Mo_term : x_mk M_Mo_term 0 := ⟨by decide +kernel, ⟨by decide +kernel, by decide +kernel, by decide +kernel⟩, by decide, x_i1 19 rfl rfl, x_i6 55 rfl rfl⟩
theorem mk_Mo_text : x_mk M_Mo_text 0 := ⟨by decide +kernel, ⟨by decide +kernel, by decide +kernel, by decide +kernel⟩, by decide, x_i1 19 rfl rfl, x_i5 238 rfl rfl⟩
theorem mk_Mo_threes : x_mk M_Mo_threes 1 := ⟨by decide +kernel, ⟨by decide +kernel, by decide +kernel, by decide +kernel⟩, by decide, x_i1 19 rfl rfl, x_i6 77 rfl rfl⟩
theorem mk_Mo_threesOf : x_mk M_Mo_threesOf 1 := ⟨by decide +kernel, ⟨by decide +kernel, by decide +kernel, by decide +kernel⟩, by decide, x_i1 19 rfl rfl, x_i6 113 rfl rfl⟩
theorem mk_Mo_told : x_mk M_Mo_told 2 := ⟨by decide +kernel, ⟨by decide +kernel, by decide +kernel, by decide +kernel⟩, by decide, x_i1 19 rfl rfl, x_i5 196 rfl rfl⟩
theorem mk_Mo_town : x_mk M_Mo_town 2 := ⟨by decide +kernel, ⟨by decide +kernel, by decide +kernel, by decide +kernel⟩, by decide, x_i1 19 rfl rfl, x_i5 200 rfl rfl⟩
theorem mk_Mo_turn : x_mk M_Mo_turn 4 := ⟨by decide +kernel, ⟨by decide +kernel, by decide +kernel, by decide +kernel⟩, by decide, x_i1 19 rfl rfl, x_i6 205 rfl rfl⟩
theorem mk_Mo_unseen : x_mk M_Mo_unseen 0 := ⟨by decide +kernel, ⟨by decide +kernel, by decide +kernel, by decide +kernel⟩, by decide, x_i1 19 rfl rfl, x_i6 184 rfl rfl⟩
theorem mk_Mo_value : x_mk M_Mo_value 3 := ⟨by decide +kernel, ⟨by decide +kernel, by decide +kernel, by decide +kernel⟩, by decide, x_i1 19 rfl rfl, x_i6 201 rfl rfl⟩
theorem mk_Mo_waysWithout : x_mk M_Mo_waysWithout 0 := ⟨by decide +kernel, ⟨by decide +kernel, by decide +kernel, by decide +kernel⟩, by decide, x_i1 19 rfl rfl, x_i6 188 rfl rfl⟩
theorem mk_Mo_within : x_mk M_Mo_within 3 := ⟨by decide +kernel, ⟨by decide +kernel, by decide +kernel, by decide +kernel⟩, by decide, x_i1 19 rfl rfl, x_i6 109 rfl rfl⟩
theorem mk_Mo_without : x_mk M_Mo_without 2 := ⟨by decide +kernel, ⟨by decide +kernel, by decide +kernel, by decide +kernel⟩, by decide, x_i1 19 rfl rfl, x_i6 176 rfl rfl⟩
theorem mk_Pc_checkIndex : x_mk M_Pc_checkIndex 3 := ⟨by decide +kernel, ⟨by decide +kernel, by decide +kernel, by decide +kernel⟩, by decide, x_i1 14 rfl rfl, x_i2 49 rfl rfl⟩
theorem mk_Re_advance : x_mk M_Re_advance 0 := ⟨by decide +kernel, ⟨by decide +kernel, by decide +kernel, by decide +kernel⟩, by decide, x_i1 10 rfl rfl, x_i2 80 rfl rfl⟩
theorem mk_Re_empty : x_mk M_Re_empty 0 := ⟨by decide +kernel, ⟨by decide +kernel, by decide +kernel, by decide +kernel⟩, by decide, x_i1 10 rfl rfl, x_i2 201 rfl rfl⟩
theorem mk_Re_init : x_mk M_Re_init 0 := ⟨by decide +kernel, ⟨by decide +kernel, by decide +kernel, by decide +kernel⟩, by decide, x_i1 10 rfl rfl, x_i1 202 rfl rfl⟩
theorem mk_Re_isDigit : x_mk M_Re_isDigit 1 := ⟨by decide +kernel, ⟨by decide +kernel, by decide +kernel, by decide +kernel⟩, by decide, x_i1 10 rfl rfl, x_i2 112 rfl rfl⟩
theorem mk_Re_isLetter : x_mk M_Re_isLetter 1 := ⟨by decide +kernel, ⟨by decide +kernel, by decide +kernel, by decide +kernel⟩, by decide, x_i1 10 rfl rfl, x_i2 83 rfl rfl⟩
theorem mk_Re_isSign : x_mk M_Re_isSign 1 := ⟨by decide +kernel, ⟨by decide +kernel, by decide +kernel, by decide +kernel⟩, by decide, x_i1 10 rfl rfl, x_i2 119 rfl rfl⟩
theorem mk_Re_numberToken : x_mk M_Re_numberToken 0 := ⟨by decide +kernel, ⟨by decide +kernel, by decide +kernel, by decide +kernel⟩, by decide, x_i1 10 rfl rfl, x_i2 116 rfl rfl⟩
theorem mk_Re_put : x_mk M_Re_put 1 := ⟨by decide +kernel, ⟨by decide +kernel, by decide +kernel, by decide +kernel⟩, by decide, x_i1 10 rfl rfl, x_i2 72 rfl rfl⟩
theorem mk_Re_read : x_mk M_Re_read 0 := ⟨by decide +kernel, ⟨by decide +kernel, by decide +kernel, by decide +kernel⟩, by decide, x_i1 10 rfl rfl, x_i2 76 rfl rfl⟩
theorem mk_Re_readBoth : x_mk M_Re_readBoth 1 := ⟨by decide +kernel, ⟨by decide +kernel, by decide +kernel, by decide +kernel⟩, by decide, x_i1 10 rfl rfl, x_i2 131 rfl rfl⟩
theorem mk_Re_readCompared : x_mk M_Re_readCompared 1 := ⟨by decide +kernel, ⟨by decide +kernel, by decide +kernel, by decide +kernel⟩, by decide, x_i1 10 rfl rfl, x_i2 139 rfl rfl⟩
theorem mk_Re_readEither : x_mk M_Re_readEither 1 := ⟨by decide +kernel, ⟨by decide +kernel, by decide +kernel, by decide +kernel⟩, by decide, x_i1 10 rfl rfl, x_i2 127 rfl rfl⟩
theorem mk_Re_readNot : x_mk M_Re_readNot 1 := ⟨by decide +kernel, ⟨by decide +kernel, by decide +kernel, by decide +kernel⟩, by decide, x_i1 10 rfl rfl, x_i2 135 rfl rfl⟩
theorem mk_Re_readOne : x_mk M_Re_readOne 1 := ⟨by decide +kernel, ⟨by decide +kernel, by decide +kernel, by decide +kernel⟩, by decide, x_i1 10 rfl rfl, x_i2 151 rfl rfl⟩
theorem mk_Re_readPlain : x_mk M_Re_readPlain 1 := ⟨by decide +kernel, ⟨by decide +kernel, by decide +kernel, by decide +kernel⟩, by decide, x_i1 10 rfl rfl, x_i2 155 rfl rfl⟩
theorem mk_Re_readSum : x_mk M_Re_readSum 1 := ⟨by decide +kernel, ⟨by decide +kernel, by decide +kernel, by decide +kernel⟩, by decide, x_i1 10 rfl rfl, x_i2 143 rfl rfl⟩
theorem mk_Re_readTerm : x_mk M_Re_readTerm 1 := ⟨by decide +kernel, ⟨by decide +kernel, by decide +kernel, by decide +kernel⟩, by decide, x_i1 10 rfl rfl, x_i2 147 rfl rfl⟩
theorem mk_Re_size : x_mk M_Re_size 0 := ⟨by decide +kernel, ⟨by decide +kernel, by decide +kernel, by decide +kernel⟩, by decide, x_i1 10 rfl rfl, x_i3 178 rfl rfl⟩
theorem mk_Re_spells : x_mk M_Re_spells 1 := ⟨by decide +kernel, ⟨by decide +kernel, by decide +kernel, by decide +kernel⟩, by decide, x_i1 10 rfl rfl, x_i2 107 rfl rfl⟩
theorem mk_Re_takes : x_mk M_Re_takes 1 := ⟨by decide +kernel, ⟨by decide +kernel, by decide +kernel, by decide +kernel⟩, by decide, x_i1 10 rfl rfl, x_i2 123 rfl rfl⟩
theorem mk_Re_wordOf : x_mk M_Re_wordOf 1 := ⟨by decide +kernel, ⟨by decide +kernel, by decide +kernel, by decide +kernel⟩, by decide, x_i1 10 rfl rfl, x_i2 90 rfl rfl⟩
theorem mk_Re_wordToken : x_mk M_Re_wordToken 0 := ⟨by decide +kernel, ⟨by decide +kernel, by decide +kernel, by decide +kernel⟩, by decide, x_i1 10 rfl rfl, x_i2 87 rfl rfl⟩
theorem mk_Re_write : x_mk M_Re_write 1 := ⟨by decide +kernel, ⟨by decide +kernel, by decide +kernel, by decide +kernel⟩, by decide, x_i1 10 rfl rfl, x_i2 159 rfl rfl⟩
theorem mk_Re_written : x_mk M_Re_written 0 := ⟨by decide +kernel, ⟨by decide +kernel, by decide +kernel, by decide +kernel⟩, by decide, x_i1 10 rfl rfl, x_i2 167 rfl rfl⟩
theorem mk_Ru_answer : x_mk M_Ru_answer 1 := ⟨by decide +kernel, ⟨by decide +kernel, by decide +kernel, by decide +kernel⟩, by decide, x_i1 6 rfl rfl, x_i3 12 rfl rfl⟩
theorem mk_Ru_bounded : x_mk M_Ru_bounded 1 := ⟨by decide +kernel, ⟨by decide +kernel, by decide +kernel, by decide +kernel⟩, by decide, x_i1 6 rfl rfl, x_i4 1 rfl rfl⟩
theorem mk_Ru_costs : x_mk M_Ru_costs 1 := ⟨by decide +kernel, ⟨by decide +kernel, by decide +kernel, by decide +kernel⟩, by decide, x_i1 6 rfl rfl, x_i4 44 rfl rfl⟩
theorem mk_Ru_counts : x_mk M_Ru_counts 4 := ⟨by decide +kernel, ⟨by decide +kernel, by decide +kernel, by decide +kernel⟩, by decide, x_i1 6 rfl rfl, x_i3 4 rfl rfl⟩
theorem mk_Ru_follow : x_mk M_Ru_follow 1 := ⟨by decide +kernel, ⟨by decide +kernel, by decide +kernel, by decide +kernel⟩, by decide, x_i1 6 rfl rfl, x_i2 229 rfl rfl⟩
theorem mk_Ru_init : x_mk M_Ru_init 2 := ⟨by decide +kernel, ⟨by decide +kernel, by decide +kernel, by decide +kernel⟩, by decide, x_i1 6 rfl rfl, x_i1 102 rfl rfl⟩
theorem mk_Ru_joined : x_mk M_Ru_joined 3 := ⟨by decide +kernel, ⟨by decide +kernel, by decide +kernel, by decide +kernel⟩, by decide, x_i1 6 rfl rfl, x_i3 40 rfl rfl⟩
theorem mk_Ru_joy : x_mk M_Ru_joy 1 := ⟨by decide +kernel, ⟨by decide +kernel, by decide +kernel, by decide +kernel⟩, by decide, x_i1 6 rfl rfl, x_i3 236 rfl rfl⟩
theorem mk_Ru_name : x_mk M_Ru_name 5 := ⟨by decide +kernel, ⟨by decide +kernel, by decide +kernel, by decide +kernel⟩, by decide, x_i1 6 rfl rfl, x_i3 8 rfl rfl⟩
theorem mk_Ru_pop : x_mk M_Ru_pop 0 := ⟨by decide +kernel, ⟨by decide +kernel, by decide +kernel, by decide +kernel⟩, by decide, x_i1 6 rfl rfl, x_i3 37 rfl rfl⟩
theorem mk_Ru_push : x_mk M_Ru_push 1 := ⟨by decide +kernel, ⟨by decide +kernel, by decide +kernel, by decide +kernel⟩, by decide, x_i1 6 rfl rfl, x_i3 33 rfl rfl⟩
theorem mk_Ru_step : x_mk M_Ru_step 1 := ⟨by decide +kernel, ⟨by decide +kernel, by decide +kernel, by decide +kernel⟩, by decide, x_i1 6 rfl rfl, x_i3 29 rfl rfl⟩
theorem mk_Se_closes : x_mk M_Se_closes 2 := ⟨by decide +kernel, ⟨by decide +kernel, by decide +kernel, by decide +kernel⟩, by decide, x_i1 2 rfl rfl, x_i4 115 rfl rfl⟩
theorem mk_Se_higher : x_mk M_Se_higher 1 := ⟨by decide +kernel, ⟨by decide +kernel, by decide +kernel, by decide +kernel⟩, by decide, x_i1 2 rfl rfl, x_i4 53 rfl rfl⟩
theorem mk_Se_init : x_mk M_Se_init 0 := ⟨by decide +kernel, ⟨by decide +kernel, by decide +kernel, by decide +kernel⟩, by decide, x_i1 2 rfl rfl, x_i1 34 rfl rfl⟩
theorem mk_Se_lower : x_mk M_Se_lower 1 := ⟨by decide +kernel, ⟨by decide +kernel, by decide +kernel, by decide +kernel⟩, by decide, x_i1 2 rfl rfl, x_i4 49 rfl rfl⟩
theorem mk_Se_pairOf : x_mk M_Se_pairOf 2 := ⟨by decide +kernel, ⟨by decide +kernel, by decide +kernel, by decide +kernel⟩, by decide, x_i1 2 rfl rfl, x_i1 47 rfl rfl⟩
theorem mk_Se_pairsAmong : x_mk M_Se_pairsAmong 1 := ⟨by decide +kernel, ⟨by decide +kernel, by decide +kernel, by decide +kernel⟩, by decide, x_i1 2 rfl rfl, x_i1 38 rfl rfl⟩
theorem mk_Se_three : x_mk M_Se_three 1 := ⟨by decide +kernel, ⟨by decide +kernel, by decide +kernel, by decide +kernel⟩, by decide, x_i1 2 rfl rfl, x_i3 198 rfl rfl⟩
theorem mk_Se_threesAmong : x_mk M_Se_threesAmong 1 := ⟨by decide +kernel, ⟨by decide +kernel, by decide +kernel, by decide +kernel⟩, by decide, x_i1 2 rfl rfl, x_i2 236 rfl rfl⟩
theorem mk_Se_within : x_mk M_Se_within 1 := ⟨by decide +kernel, ⟨by decide +kernel, by decide +kernel, by decide +kernel⟩, by decide, x_i1 2 rfl rfl, x_i2 217 rfl rfl⟩
theorem mk_Sg_charAt : x_mk M_Sg_charAt 1 := ⟨by decide +kernel, ⟨by decide +kernel, by decide +kernel, by decide +kernel⟩, by decide, x_i1 12 rfl rfl, x_i2 34 rfl rfl⟩
theorem mk_Sg_checkIndex : x_mk M_Sg_checkIndex 2 := ⟨by decide +kernel, ⟨by decide +kernel, by decide +kernel, by decide +kernel⟩, by decide, x_i1 12 rfl rfl, x_i2 44 rfl rfl⟩
theorem mk_Sg_coder : x_mk M_Sg_coder 0 := ⟨by decide +kernel, ⟨by decide +kernel, by decide +kernel, by decide +kernel⟩, by decide, x_i1 12 rfl rfl, x_i2 28 rfl rfl⟩
theorem mk_Sg_isLatin1 : x_mk M_Sg_isLatin1 0 := ⟨by decide +kernel, ⟨by decide +kernel, by decide +kernel, by decide +kernel⟩, by decide, x_i1 12 rfl rfl, x_i2 38 rfl rfl⟩
theorem mk_Sg_length : x_mk M_Sg_length 0 := ⟨by decide +kernel, ⟨by decide +kernel, by decide +kernel, by decide +kernel⟩, by decide, x_i1 12 rfl rfl, x_i2 24 rfl rfl⟩
theorem mk_Sh_become : x_mk M_Sh_become 2 := ⟨by decide +kernel, ⟨by decide +kernel, by decide +kernel, by decide +kernel⟩, by decide, x_i1 11 rfl rfl, x_i4 221 rfl rfl⟩
theorem mk_Sh_hasRun : x_mk M_Sh_hasRun 2 := ⟨by decide +kernel, ⟨by decide +kernel, by decide +kernel, by decide +kernel⟩, by decide, x_i1 11 rfl rfl, x_i5 0 rfl rfl⟩
theorem mk_Sh_init : x_mk M_Sh_init 0 := ⟨by decide +kernel, ⟨by decide +kernel, by decide +kernel, by decide +kernel⟩, by decide, x_i1 11 rfl rfl, x_i2 1 rfl rfl⟩
theorem mk_Sh_isMissing : x_mk M_Sh_isMissing 0 := ⟨by decide +kernel, ⟨by decide +kernel, by decide +kernel, by decide +kernel⟩, by decide, x_i1 11 rfl rfl, x_i4 178 rfl rfl⟩
theorem mk_Sh_item : x_mk M_Sh_item 1 := ⟨by decide +kernel, ⟨by decide +kernel, by decide +kernel, by decide +kernel⟩, by decide, x_i1 11 rfl rfl, x_i4 182 rfl rfl⟩
theorem mk_Sh_write : x_mk M_Sh_write 2 := ⟨by decide +kernel, ⟨by decide +kernel, by decide +kernel, by decide +kernel⟩, by decide, x_i1 11 rfl rfl, x_i4 232 rfl rfl⟩
theorem mk_Sl_charAt : x_mk M_Sl_charAt 2 := ⟨by decide +kernel, ⟨by decide +kernel, by decide +kernel, by decide +kernel⟩, by decide, x_i1 13 rfl rfl, x_i2 41 rfl rfl⟩
theorem mk_St_anyThree : x_mk M_St_anyThree 2 := ⟨by decide +kernel, ⟨by decide +kernel, by decide +kernel, by decide +kernel⟩, by decide, x_i1 7 rfl rfl, x_i4 23 rfl rfl⟩
theorem mk_St_howMany : x_mk M_St_howMany 2 := ⟨by decide +kernel, ⟨by decide +kernel, by decide +kernel, by decide +kernel⟩, by decide, x_i1 7 rfl rfl, x_i3 194 rfl rfl⟩
theorem mk_St_howManyWith : x_mk M_St_howManyWith 3 := ⟨by decide +kernel, ⟨by decide +kernel, by decide +kernel, by decide +kernel⟩, by decide, x_i1 7 rfl rfl, x_i4 139 rfl rfl⟩
theorem mk_St_init : x_mk M_St_init 1 := ⟨by decide +kernel, ⟨by decide +kernel, by decide +kernel, by decide +kernel⟩, by decide, x_i1 7 rfl rfl, x_i1 127 rfl rfl⟩
theorem mk_St_stands : x_mk M_St_stands 3 := ⟨by decide +kernel, ⟨by decide +kernel, by decide +kernel, by decide +kernel⟩, by decide, x_i1 7 rfl rfl, x_i3 202 rfl rfl⟩
theorem mk_St_weigh : x_mk M_St_weigh 2 := ⟨by decide +kernel, ⟨by decide +kernel, by decide +kernel, by decide +kernel⟩, by decide, x_i1 7 rfl rfl, x_i2 233 rfl rfl⟩
theorem mk_St_weighThree : x_mk M_St_weighThree 4 := ⟨by decide +kernel, ⟨by decide +kernel, by decide +kernel, by decide +kernel⟩, by decide, x_i1 7 rfl rfl, x_i3 0 rfl rfl⟩
theorem mk_Ta_everyPair : x_mk M_Ta_everyPair 0 := ⟨by decide +kernel, ⟨by decide +kernel, by decide +kernel, by decide +kernel⟩, by decide, x_i1 5 rfl rfl, x_i2 209 rfl rfl⟩
theorem mk_Ta_everyone : x_mk M_Ta_everyone 0 := ⟨by decide +kernel, ⟨by decide +kernel, by decide +kernel, by decide +kernel⟩, by decide, x_i1 5 rfl rfl, x_i2 213 rfl rfl⟩
theorem mk_Ta_init : x_mk M_Ta_init 1 := ⟨by decide +kernel, ⟨by decide +kernel, by decide +kernel, by decide +kernel⟩, by decide, x_i1 5 rfl rfl, x_i1 72 rfl rfl⟩
theorem mk_Ta_knownBy : x_mk M_Ta_knownBy 1 := ⟨by decide +kernel, ⟨by decide +kernel, by decide +kernel, by decide +kernel⟩, by decide, x_i1 5 rfl rfl, x_i3 220 rfl rfl⟩
theorem mk_Ta_lay : x_mk M_Ta_lay 1 := ⟨by decide +kernel, ⟨by decide +kernel, by decide +kernel, by decide +kernel⟩, by decide, x_i1 5 rfl rfl, x_i2 205 rfl rfl⟩
theorem mk_Ta_layAs : x_mk M_Ta_layAs 1 := ⟨by decide +kernel, ⟨by decide +kernel, by decide +kernel, by decide +kernel⟩, by decide, x_i1 5 rfl rfl, x_i4 205 rfl rfl⟩
theorem mk_Ta_layBits : x_mk M_Ta_layBits 2 := ⟨by decide +kernel, ⟨by decide +kernel, by decide +kernel, by decide +kernel⟩, by decide, x_i1 5 rfl rfl, x_i2 221 rfl rfl⟩
theorem mk_Ta_look : x_mk M_Ta_look 1 := ⟨by decide +kernel, ⟨by decide +kernel, by decide +kernel, by decide +kernel⟩, by decide, x_i1 5 rfl rfl, x_i3 107 rfl rfl⟩
theorem mk_Ta_put : x_mk M_Ta_put 2 := ⟨by decide +kernel, ⟨by decide +kernel, by decide +kernel, by decide +kernel⟩, by decide, x_i1 5 rfl rfl, x_i3 111 rfl rfl⟩
theorem mk_Te_begin : x_mk M_Te_begin 1 := ⟨by decide +kernel, ⟨by decide +kernel, by decide +kernel, by decide +kernel⟩, by decide, x_i1 16 rfl rfl, x_i3 16 rfl rfl⟩
theorem mk_Te_code : x_mk M_Te_code 1 := ⟨by decide +kernel, ⟨by decide +kernel, by decide +kernel, by decide +kernel⟩, by decide, x_i1 16 rfl rfl, x_i3 25 rfl rfl⟩
theorem mk_Te_end : x_mk M_Te_end 1 := ⟨by decide +kernel, ⟨by decide +kernel, by decide +kernel, by decide +kernel⟩, by decide, x_i1 16 rfl rfl, x_i3 20 rfl rfl⟩
theorem mk_Te_init : x_mk M_Te_init 2 := ⟨by decide +kernel, ⟨by decide +kernel, by decide +kernel, by decide +kernel⟩, by decide, x_i1 16 rfl rfl, x_i2 188 rfl rfl⟩
theorem mk_To_areNextInRing : x_mk M_To_areNextInRing 3 := ⟨by decide +kernel, ⟨by decide +kernel, by decide +kernel, by decide +kernel⟩, by decide, x_i1 20 rfl rfl, x_i3 155 rfl rfl⟩
theorem mk_To_areUnlike : x_mk M_To_areUnlike 3 := ⟨by decide +kernel, ⟨by decide +kernel, by decide +kernel, by decide +kernel⟩, by decide, x_i1 20 rfl rfl, x_i3 151 rfl rfl⟩
theorem mk_To_init : x_mk M_To_init 2 := ⟨by decide +kernel, ⟨by decide +kernel, by decide +kernel, by decide +kernel⟩, by decide, x_i1 20 rfl rfl, x_i3 123 rfl rfl⟩
theorem mk_To_isOf : x_mk M_To_isOf 1 := ⟨by decide +kernel, ⟨by decide +kernel, by decide +kernel, by decide +kernel⟩, by decide, x_i1 20 rfl rfl, x_i5 14 rfl rfl⟩
theorem mk_To_knows : x_mk M_To_knows 3 := ⟨by decide +kernel, ⟨by decide +kernel, by decide +kernel, by decide +kernel⟩, by decide, x_i1 20 rfl rfl, x_i3 148 rfl rfl⟩
theorem mk_To_price : x_mk M_To_price 2 := ⟨by decide +kernel, ⟨by decide +kernel, by decide +kernel, by decide +kernel⟩, by decide, x_i1 20 rfl rfl, x_i3 169 rfl rfl⟩
theorem mk_Wa_drawAll : x_mk M_Wa_drawAll 1 := ⟨by decide +kernel, ⟨by decide +kernel, by decide +kernel, by decide +kernel⟩, by decide, x_i1 9 rfl rfl, x_i4 107 rfl rfl⟩
theorem mk_Wa_drawFrom : x_mk M_Wa_drawFrom 4 := ⟨by decide +kernel, ⟨by decide +kernel, by decide +kernel, by decide +kernel⟩, by decide, x_i1 9 rfl rfl, x_i4 111 rfl rfl⟩
theorem mk_Wa_fillAll : x_mk M_Wa_fillAll 1 := ⟨by decide +kernel, ⟨by decide +kernel, by decide +kernel, by decide +kernel⟩, by decide, x_i1 9 rfl rfl, x_i4 130 rfl rfl⟩
theorem mk_Wa_fillFrom : x_mk M_Wa_fillFrom 5 := ⟨by decide +kernel, ⟨by decide +kernel, by decide +kernel, by decide +kernel⟩, by decide, x_i1 9 rfl rfl, x_i4 134 rfl rfl⟩
theorem mk_Wa_init : x_mk M_Wa_init 2 := ⟨by decide +kernel, ⟨by decide +kernel, by decide +kernel, by decide +kernel⟩, by decide, x_i1 9 rfl rfl, x_i1 174 rfl rfl⟩
theorem mt_Ar_copyOf : Cond.static M_Ar_copyOf.1 ∈ xTB := x_i2 171 rfl rfl
theorem mt_Ar_fill : Cond.static M_Ar_fill.1 ∈ xTB := x_i4 223 rfl rfl
theorem mt_Ch_tryChanges : Cond.static M_Ch_tryChanges.1 ∈ xTB := x_i4 64 rfl rfl
theorem mt_Ga_pair : Cond.static M_Ga_pair.1 ∈ xTB := x_i4 164 rfl rfl
theorem mt_Ga_value : Cond.static M_Ga_value.1 ∈ xTB := x_i4 152 rfl rfl
theorem mt_Ga_worth : Cond.static M_Ga_worth.1 ∈ xTB := x_i4 156 rfl rfl
theorem mt_Ga_worthOfTurn : Cond.static M_Ga_worthOfTurn.1 ∈ xTB := x_i4 159 rfl rfl
theorem mt_In_bitCount : Cond.static M_In_bitCount.1 ∈ xTB := x_i1 40 rfl rfl
theorem mt_Ma_isWithin : Cond.static M_Ma_isWithin.1 ∈ xTB := x_i3 164 rfl rfl
theorem mt_Mo_allOf : Cond.static M_Mo_allOf.1 ∈ xTB := x_i5 171 rfl rfl
theorem mt_Mo_bitsOf : Cond.static M_Mo_bitsOf.1 ∈ xTB := x_i5 216 rfl rfl
theorem mt_Mo_in : Cond.static M_Mo_in.1 ∈ xTB := x_i5 168 rfl rfl
theorem mt_Mo_isIn : Cond.static M_Mo_isIn.1 ∈ xTB := x_i6 115 rfl rfl
theorem mt_Mo_isSheet : Cond.static M_Mo_isSheet.1 ∈ xTB := x_i6 215 rfl rfl
theorem mt_Mo_over : Cond.static M_Mo_over.1 ∈ xTB := x_i7 20 rfl rfl
theorem mt_Mo_seat : Cond.static M_Mo_seat.1 ∈ xTB := x_i5 187 rfl rfl
theorem mt_Mo_within : Cond.static M_Mo_within.1 ∈ xTB := x_i6 108 rfl rfl
theorem mt_Mt_max : Cond.static M_Mt_max.1 ∈ xTB := x_i1 49 rfl rfl
theorem mt_Mt_min : Cond.static M_Mt_min.1 ∈ xTB := x_i1 52 rfl rfl
theorem mt_Pc_checkIndex : Cond.static M_Pc_checkIndex.1 ∈ xTB := x_i2 48 rfl rfl
theorem mt_Re_isDigit : Cond.static M_Re_isDigit.1 ∈ xTB := x_i2 111 rfl rfl
theorem mt_Re_isLetter : Cond.static M_Re_isLetter.1 ∈ xTB := x_i2 82 rfl rfl
theorem mt_Re_isSign : Cond.static M_Re_isSign.1 ∈ xTB := x_i2 118 rfl rfl
theorem mt_Re_wordOf : Cond.static M_Re_wordOf.1 ∈ xTB := x_i2 89 rfl rfl
theorem mt_Ru_bounded : Cond.static M_Ru_bounded.1 ∈ xTB := x_i4 0 rfl rfl
theorem mt_Ru_joined : Cond.static M_Ru_joined.1 ∈ xTB := x_i3 39 rfl rfl
theorem mt_Se_pairOf : Cond.static M_Se_pairOf.1 ∈ xTB := x_i1 46 rfl rfl
theorem mt_Se_pairsAmong : Cond.static M_Se_pairsAmong.1 ∈ xTB := x_i1 37 rfl rfl
theorem mt_Se_threesAmong : Cond.static M_Se_threesAmong.1 ∈ xTB := x_i2 235 rfl rfl
theorem mt_Sg_checkIndex : Cond.static M_Sg_checkIndex.1 ∈ xTB := x_i2 43 rfl rfl
theorem mt_Sl_charAt : Cond.static M_Sl_charAt.1 ∈ xTB := x_i2 40 rfl rfl
theorem mt_To_areUnlike : Cond.static M_To_areUnlike.1 ∈ xTB := x_i3 150 rfl rfl
theorem mt_Wa_drawFrom : Cond.static M_Wa_drawFrom.1 ∈ xTB := x_i4 110 rfl rfl
theorem mt_Wa_fillFrom : Cond.static M_Wa_fillFrom.1 ∈ xTB := x_i4 133 rfl rfl
theorem w1 : Cond.sameMethod "[I" "java/lang/Object" "clone" "()Ljava/lang/Object;" ∈ xTB := x_i2 174 rfl rfl
theorem w2 : Cond.native ⟨"java/lang/Object", "clone", "()Ljava/lang/Object;"⟩ ∈ xTB := x_i2 175 rfl rfl
theorem w3 : Cond.instanceMethod ⟨"java/lang/Object", "clone", "()Ljava/lang/Object;"⟩ ∈ xTB := x_i2 176 rfl rfl
theorem w4 : Cond.selects "[I" ⟨"[I", "clone", "()Ljava/lang/Object;"⟩ ⟨"java/lang/Object", "clone", "()Ljava/lang/Object;"⟩ ∈ xTB := x_i2 177 rfl rfl
theorem wA_boolean : Cond.arrayClass .boolean ∈ xTB := x_i1 142 rfl rfl
theorem wA_int : Cond.arrayClass .int ∈ xTB := x_i1 67 rfl rfl
theorem wC_Ar_317 : Cond.classLink xR_Ar 317 "[I" ∈ xTB := x_i2 179 rfl rfl
theorem wC_La_10 : Cond.classLink xR_La 10 "ThreesAtTableModel" ∈ xTB := x_i5 17 rfl rfl
theorem wC_La_7 : Cond.classLink xR_La 7 "ThreesAtTable" ∈ xTB := x_i1 22 rfl rfl
theorem wC_Ma_16 : Cond.classLink xR_Ma 16 "ThreesAtTable$Table" ∈ xTB := x_i1 68 rfl rfl
theorem wC_Ma_25 : Cond.classLink xR_Ma 25 "ThreesAtTable$Rule" ∈ xTB := x_i1 98 rfl rfl
theorem wC_Ma_34 : Cond.classLink xR_Ma 34 "ThreesAtTable$Standing" ∈ xTB := x_i1 123 rfl rfl
theorem wC_Ma_41 : Cond.classLink xR_Ma 41 "ThreesAtTable$Changes" ∈ xTB := x_i1 143 rfl rfl
theorem wC_Ma_50 : Cond.classLink xR_Ma 50 "ThreesAtTable$Ways" ∈ xTB := x_i1 170 rfl rfl
theorem wC_Ma_57 : Cond.classLink xR_Ma 57 "ThreesAtTable$Reader" ∈ xTB := x_i1 198 rfl rfl
theorem wC_Ma_64 : Cond.classLink xR_Ma 64 "ThreesAtTable$Text" ∈ xTB := x_i1 232 rfl rfl
theorem wC_Ma_7 : Cond.classLink xR_Ma 7 "ThreesAtTable$Seats" ∈ xTB := x_i1 30 rfl rfl
theorem wC_Ma_70 : Cond.classLink xR_Ma 70 "ThreesAtTable$Town" ∈ xTB := x_i1 234 rfl rfl
theorem wC_Ma_76 : Cond.classLink xR_Ma 76 "ThreesAtTable$Sheet" ∈ xTB := x_i1 236 rfl rfl
theorem wC_Re_18 : Cond.classLink xR_Re 18 "ThreesAtTable$Text" ∈ xTB := x_i2 168 rfl rfl
theorem wC_Re_37 : Cond.classLink xR_Re 37 "[I" ∈ xTB := x_i2 185 rfl rfl
theorem wF_Ch_15 : Cond.fieldLink xR_Ch 15 "ThreesAtTable$Changes" "seats" "LThreesAtTable$Seats;" ∈ xTB := x_i1 149 rfl rfl
theorem wF_Ch_19 : Cond.fieldLink xR_Ch 19 "ThreesAtTable$Changes" "standing" "LThreesAtTable$Standing;" ∈ xTB := x_i1 150 rfl rfl
theorem wF_Ch_28 : Cond.fieldLink xR_Ch 28 "ThreesAtTable$Changes" "found" "Z" ∈ xTB := x_i1 152 rfl rfl
theorem wF_Ch_32 : Cond.fieldLink xR_Ch 32 "ThreesAtTable$Table" "friends" "I" ∈ xTB := x_i1 81 rfl rfl
theorem wF_Ch_38 : Cond.fieldLink xR_Ch 38 "ThreesAtTable$Table" "strangers" "I" ∈ xTB := x_i1 86 rfl rfl
theorem wF_Ch_58 : Cond.fieldLink xR_Ch 58 "ThreesAtTable$Changes" "leastCosts" "I" ∈ xTB := x_i1 155 rfl rfl
theorem wF_Ch_61 : Cond.fieldLink xR_Ch 61 "ThreesAtTable$Changes" "best" "I" ∈ xTB := x_i1 153 rfl rfl
theorem wF_Ch_9 : Cond.fieldLink xR_Ch 9 "ThreesAtTable$Changes" "costs" "[I" ∈ xTB := x_i1 151 rfl rfl
theorem wF_Ga_15 : Cond.fieldLink xR_Ga 15 "ThreesAtTable$Table" "strangers" "I" ∈ xTB := x_i1 84 rfl rfl
theorem wF_Ga_9 : Cond.fieldLink xR_Ga 9 "ThreesAtTable$Table" "friends" "I" ∈ xTB := x_i1 79 rfl rfl
theorem wF_Ma_10 : Cond.fieldLink xR_Ma 10 "ThreesAtTable" "seats" "LThreesAtTable$Seats;" ∈ xTB := x_i3 41 rfl rfl
theorem wF_Ma_100 : Cond.fieldLink xR_Ma 100 "ThreesAtTable$Table" "guests" "I" ∈ xTB := x_i1 77 rfl rfl
theorem wF_Ma_119 : Cond.fieldLink xR_Ma 119 "ThreesAtTable" "townCount" "I" ∈ xTB := x_i3 53 rfl rfl
theorem wF_Ma_167 : Cond.fieldLink xR_Ma 167 "ThreesAtTable" "textCount" "I" ∈ xTB := x_i3 52 rfl rfl
theorem wF_Ma_179 : Cond.fieldLink xR_Ma 179 "ThreesAtTable" "ruleNumber" "I" ∈ xTB := x_i3 54 rfl rfl
theorem wF_Ma_201 : Cond.fieldLink xR_Ma 201 "ThreesAtTable$Table" "friends" "I" ∈ xTB := x_i1 83 rfl rfl
theorem wF_Ma_207 : Cond.fieldLink xR_Ma 207 "ThreesAtTable$Table" "strangers" "I" ∈ xTB := x_i1 88 rfl rfl
theorem wF_Ma_21 : Cond.fieldLink xR_Ma 21 "ThreesAtTable" "table" "LThreesAtTable$Table;" ∈ xTB := x_i3 42 rfl rfl
theorem wF_Ma_256 : Cond.fieldLink xR_Ma 256 "ThreesAtTable$Changes" "best" "I" ∈ xTB := x_i1 154 rfl rfl
theorem wF_Ma_259 : Cond.fieldLink xR_Ma 259 "ThreesAtTable$Changes" "leastCosts" "I" ∈ xTB := x_i1 156 rfl rfl
theorem wF_Ma_286 : Cond.fieldLink xR_Ma 286 "ThreesAtTable$Ways" "without" "I" ∈ xTB := x_i1 180 rfl rfl
theorem wF_Ma_289 : Cond.fieldLink xR_Ma 289 "ThreesAtTable$Ways" "least" "I" ∈ xTB := x_i1 184 rfl rfl
theorem wF_Ma_299 : Cond.fieldLink xR_Ma 299 "ThreesAtTable$Ways" "mostThrees" "I" ∈ xTB := x_i1 182 rfl rfl
theorem wF_Ma_30 : Cond.fieldLink xR_Ma 30 "ThreesAtTable" "rule" "LThreesAtTable$Rule;" ∈ xTB := x_i3 43 rfl rfl
theorem wF_Ma_321 : Cond.fieldLink xR_Ma 321 "ThreesAtTable$Sheet" "size" "I" ∈ xTB := x_i2 6 rfl rfl
theorem wF_Ma_345 : Cond.fieldLink xR_Ma 345 "ThreesAtTable$Sheet" "sort" "I" ∈ xTB := x_i2 4 rfl rfl
theorem wF_Ma_351 : Cond.fieldLink xR_Ma 351 "ThreesAtTable$Sheet" "items" "[I" ∈ xTB := x_i2 8 rfl rfl
theorem wF_Ma_368 : Cond.fieldLink xR_Ma 368 "ThreesAtTable$Town" "number" "I" ∈ xTB := x_i3 127 rfl rfl
theorem wF_Ma_37 : Cond.fieldLink xR_Ma 37 "ThreesAtTable" "standing" "LThreesAtTable$Standing;" ∈ xTB := x_i3 44 rfl rfl
theorem wF_Ma_46 : Cond.fieldLink xR_Ma 46 "ThreesAtTable" "changes" "LThreesAtTable$Changes;" ∈ xTB := x_i3 45 rfl rfl
theorem wF_Ma_53 : Cond.fieldLink xR_Ma 53 "ThreesAtTable" "ways" "LThreesAtTable$Ways;" ∈ xTB := x_i3 46 rfl rfl
theorem wF_Ma_60 : Cond.fieldLink xR_Ma 60 "ThreesAtTable" "reader" "LThreesAtTable$Reader;" ∈ xTB := x_i3 47 rfl rfl
theorem wF_Ma_66 : Cond.fieldLink xR_Ma 66 "ThreesAtTable" "texts" "[LThreesAtTable$Text;" ∈ xTB := x_i3 48 rfl rfl
theorem wF_Ma_72 : Cond.fieldLink xR_Ma 72 "ThreesAtTable" "towns" "[LThreesAtTable$Town;" ∈ xTB := x_i3 49 rfl rfl
theorem wF_Ma_78 : Cond.fieldLink xR_Ma 78 "ThreesAtTable" "sheets" "[LThreesAtTable$Sheet;" ∈ xTB := x_i3 50 rfl rfl
theorem wF_Ma_83 : Cond.fieldLink xR_Ma 83 "ThreesAtTable" "kept" "LThreesAtTable$Table;" ∈ xTB := x_i3 51 rfl rfl
theorem wF_Ma_86 : Cond.fieldLink xR_Ma 86 "ThreesAtTable" "keptRule" "I" ∈ xTB := x_i3 55 rfl rfl
theorem wF_Mo_103 : Cond.fieldLink xR_Mo 103 "ThreesAtTableModel" "towns" "I" ∈ xTB := x_i5 38 rfl rfl
theorem wF_Mo_126 : Cond.fieldLink xR_Mo 126 "ThreesAtTableModel" "taped" "I" ∈ xTB := x_i5 32 rfl rfl
theorem wF_Mo_129 : Cond.fieldLink xR_Mo 129 "ThreesAtTableModel" "size" "I" ∈ xTB := x_i5 46 rfl rfl
theorem wF_Mo_13 : Cond.fieldLink xR_Mo 13 "ThreesAtTableModel" "texts" "[I" ∈ xTB := x_i5 27 rfl rfl
theorem wF_Mo_132 : Cond.fieldLink xR_Mo 132 "ThreesAtTableModel" "from" "I" ∈ xTB := x_i5 45 rfl rfl
theorem wF_Mo_135 : Cond.fieldLink xR_Mo 135 "ThreesAtTableModel" "here" "I" ∈ xTB := x_i5 47 rfl rfl
theorem wF_Mo_141 : Cond.fieldLink xR_Mo 141 "ThreesAtTableModel" "tokenAt" "I" ∈ xTB := x_i5 49 rfl rfl
theorem wF_Mo_144 : Cond.fieldLink xR_Mo 144 "ThreesAtTableModel" "token" "I" ∈ xTB := x_i5 48 rfl rfl
theorem wF_Mo_155 : Cond.fieldLink xR_Mo 155 "ThreesAtTableModel" "tokenWorth" "J" ∈ xTB := x_i5 50 rfl rfl
theorem wF_Mo_161 : Cond.fieldLink xR_Mo 161 "ThreesAtTableModel" "bad" "Z" ∈ xTB := x_i5 52 rfl rfl
theorem wF_Mo_165 : Cond.fieldLink xR_Mo 165 "ThreesAtTableModel" "fault" "I" ∈ xTB := x_i5 53 rfl rfl
theorem wF_Mo_17 : Cond.fieldLink xR_Mo 17 "ThreesAtTableModel" "textSize" "[I" ∈ xTB := x_i5 28 rfl rfl
theorem wF_Mo_171 : Cond.fieldLink xR_Mo 171 "ThreesAtTableModel" "open" "I" ∈ xTB := x_i5 51 rfl rfl
theorem wF_Mo_184 : Cond.fieldLink xR_Mo 184 "ThreesAtTableModel" "ofOne" "I" ∈ xTB := x_i5 39 rfl rfl
theorem wF_Mo_187 : Cond.fieldLink xR_Mo 187 "ThreesAtTableModel" "ofOther" "I" ∈ xTB := x_i5 40 rfl rfl
theorem wF_Mo_190 : Cond.fieldLink xR_Mo 190 "ThreesAtTableModel" "ofThird" "I" ∈ xTB := x_i5 41 rfl rfl
theorem wF_Mo_193 : Cond.fieldLink xR_Mo 193 "ThreesAtTableModel" "ofKnow" "I" ∈ xTB := x_i5 42 rfl rfl
theorem wF_Mo_196 : Cond.fieldLink xR_Mo 196 "ThreesAtTableModel" "ofSeen" "I" ∈ xTB := x_i5 43 rfl rfl
theorem wF_Mo_199 : Cond.fieldLink xR_Mo 199 "ThreesAtTableModel" "ofMany" "I" ∈ xTB := x_i5 44 rfl rfl
theorem wF_Mo_20 : Cond.fieldLink xR_Mo 20 "ThreesAtTableModel" "tape" "[I" ∈ xTB := x_i5 31 rfl rfl
theorem wF_Mo_23 : Cond.fieldLink xR_Mo 23 "ThreesAtTableModel" "n" "I" ∈ xTB := x_i5 33 rfl rfl
theorem wF_Mo_242 : Cond.fieldLink xR_Mo 242 "ThreesAtTableModel" "rule" "I" ∈ xTB := x_i5 30 rfl rfl
theorem wF_Mo_245 : Cond.fieldLink xR_Mo 245 "ThreesAtTableModel" "threeMany" "I" ∈ xTB := x_i5 58 rfl rfl
theorem wF_Mo_26 : Cond.fieldLink xR_Mo 26 "ThreesAtTableModel" "seen" "I" ∈ xTB := x_i5 35 rfl rfl
theorem wF_Mo_287 : Cond.fieldLink xR_Mo 287 "ThreesAtTableModel" "bestSet" "I" ∈ xTB := x_i5 60 rfl rfl
theorem wF_Mo_29 : Cond.fieldLink xR_Mo 29 "ThreesAtTableModel" "kinds" "[I" ∈ xTB := x_i5 36 rfl rfl
theorem wF_Mo_290 : Cond.fieldLink xR_Mo 290 "ThreesAtTableModel" "bestCost" "I" ∈ xTB := x_i5 61 rfl rfl
theorem wF_Mo_307 : Cond.fieldLink xR_Mo 307 "ThreesAtTableModel" "mostThrees" "I" ∈ xTB := x_i5 62 rfl rfl
theorem wF_Mo_32 : Cond.fieldLink xR_Mo 32 "ThreesAtTableModel" "numbers" "[I" ∈ xTB := x_i5 37 rfl rfl
theorem wF_Mo_329 : Cond.fieldLink xR_Mo 329 "ThreesAtTableModel" "knowsKept" "I" ∈ xTB := x_i5 64 rfl rfl
theorem wF_Mo_332 : Cond.fieldLink xR_Mo 332 "ThreesAtTableModel" "seenKept" "I" ∈ xTB := x_i5 65 rfl rfl
theorem wF_Mo_335 : Cond.fieldLink xR_Mo 335 "ThreesAtTableModel" "ruleKept" "I" ∈ xTB := x_i5 66 rfl rfl
theorem wF_Mo_35 : Cond.fieldLink xR_Mo 35 "ThreesAtTableModel" "three" "[I" ∈ xTB := x_i5 54 rfl rfl
theorem wF_Mo_38 : Cond.fieldLink xR_Mo 38 "ThreesAtTableModel" "threeWho" "[I" ∈ xTB := x_i5 55 rfl rfl
theorem wF_Mo_41 : Cond.fieldLink xR_Mo 41 "ThreesAtTableModel" "asFriends" "[Z" ∈ xTB := x_i5 56 rfl rfl
theorem wF_Mo_45 : Cond.fieldLink xR_Mo 45 "ThreesAtTableModel" "asStrangers" "[Z" ∈ xTB := x_i5 57 rfl rfl
theorem wF_Mo_48 : Cond.fieldLink xR_Mo 48 "ThreesAtTableModel" "costs" "[I" ∈ xTB := x_i5 59 rfl rfl
theorem wF_Mo_51 : Cond.fieldLink xR_Mo 51 "ThreesAtTableModel" "nKept" "I" ∈ xTB := x_i5 63 rfl rfl
theorem wF_Mo_54 : Cond.fieldLink xR_Mo 54 "ThreesAtTableModel" "isThere" "[Z" ∈ xTB := x_i5 67 rfl rfl
theorem wF_Mo_57 : Cond.fieldLink xR_Mo 57 "ThreesAtTableModel" "sorts" "[I" ∈ xTB := x_i5 68 rfl rfl
theorem wF_Mo_60 : Cond.fieldLink xR_Mo 60 "ThreesAtTableModel" "sheetSize" "[I" ∈ xTB := x_i5 69 rfl rfl
theorem wF_Mo_63 : Cond.fieldLink xR_Mo 63 "ThreesAtTableModel" "items" "[I" ∈ xTB := x_i5 70 rfl rfl
theorem wF_Mo_70 : Cond.fieldLink xR_Mo 70 "ThreesAtTableModel" "textCount" "I" ∈ xTB := x_i5 29 rfl rfl
theorem wF_Mo_77 : Cond.fieldLink xR_Mo 77 "ThreesAtTableModel" "knows" "I" ∈ xTB := x_i5 34 rfl rfl
theorem wF_Re_11 : Cond.fieldLink xR_Re 11 "ThreesAtTable$Reader" "tape" "[I" ∈ xTB := x_i1 204 rfl rfl
theorem wF_Re_15 : Cond.fieldLink xR_Re 15 "ThreesAtTable$Reader" "codes" "[I" ∈ xTB := x_i1 210 rfl rfl
theorem wF_Re_20 : Cond.fieldLink xR_Re 20 "ThreesAtTable$Reader" "ends" "[I" ∈ xTB := x_i1 212 rfl rfl
theorem wF_Re_23 : Cond.fieldLink xR_Re 23 "ThreesAtTable$Reader" "size" "I" ∈ xTB := x_i1 205 rfl rfl
theorem wF_Re_27 : Cond.fieldLink xR_Re 27 "ThreesAtTable$Reader" "codeCount" "I" ∈ xTB := x_i1 211 rfl rfl
theorem wF_Re_44 : Cond.fieldLink xR_Re 44 "ThreesAtTable$Reader" "next" "I" ∈ xTB := x_i1 207 rfl rfl
theorem wF_Re_57 : Cond.fieldLink xR_Re 57 "ThreesAtTable$Reader" "start" "I" ∈ xTB := x_i1 206 rfl rfl
theorem wF_Re_60 : Cond.fieldLink xR_Re 60 "ThreesAtTable$Reader" "token" "I" ∈ xTB := x_i1 208 rfl rfl
theorem wF_Re_88 : Cond.fieldLink xR_Re 88 "ThreesAtTable$Reader" "number" "I" ∈ xTB := x_i1 209 rfl rfl
theorem wF_Ru_13 : Cond.fieldLink xR_Ru 13 "ThreesAtTable$Rule" "stack" "[I" ∈ xTB := x_i1 107 rfl rfl
theorem wF_Ru_16 : Cond.fieldLink xR_Ru 16 "ThreesAtTable$Rule" "seats" "LThreesAtTable$Seats;" ∈ xTB := x_i1 104 rfl rfl
theorem wF_Ru_20 : Cond.fieldLink xR_Ru 20 "ThreesAtTable$Rule" "table" "LThreesAtTable$Table;" ∈ xTB := x_i1 105 rfl rfl
theorem wF_Ru_24 : Cond.fieldLink xR_Ru 24 "ThreesAtTable$Rule" "text" "LThreesAtTable$Text;" ∈ xTB := x_i1 109 rfl rfl
theorem wF_Ru_71 : Cond.fieldLink xR_Ru 71 "ThreesAtTable$Table" "guests" "I" ∈ xTB := x_i1 78 rfl rfl
theorem wF_Ru_75 : Cond.fieldLink xR_Ru 75 "ThreesAtTable$Rule" "height" "I" ∈ xTB := x_i1 108 rfl rfl
theorem wF_Ru_9 : Cond.fieldLink xR_Ru 9 "ThreesAtTable$Rule" "names" "[I" ∈ xTB := x_i1 106 rfl rfl
theorem wF_Se_13 : Cond.fieldLink xR_Se 13 "ThreesAtTable$Seats" "lower" "[I" ∈ xTB := x_i1 55 rfl rfl
theorem wF_Se_16 : Cond.fieldLink xR_Se 16 "ThreesAtTable$Seats" "higher" "[I" ∈ xTB := x_i1 56 rfl rfl
theorem wF_Se_19 : Cond.fieldLink xR_Se 19 "ThreesAtTable$Seats" "threes" "[I" ∈ xTB := x_i1 57 rfl rfl
theorem wF_Se_9 : Cond.fieldLink xR_Se 9 "ThreesAtTable$Seats" "within" "[I" ∈ xTB := x_i1 54 rfl rfl
theorem wF_Sg_1053 : Cond.fieldLink xR_Sg 1053 "jdk/internal/util/Preconditions" "SIOOBE_FORMATTER" "Ljava/util/function/BiFunction;" ∈ xTB := x_i2 45 rfl rfl
theorem wF_Sg_15 : Cond.fieldLink xR_Sg 15 "java/lang/String" "coder" "B" ∈ xTB := x_i7 23 rfl rfl
theorem wF_Sg_38 : Cond.fieldLink xR_Sg 38 "java/lang/String" "COMPACT_STRINGS" "Z" ∈ xTB := x_i2 29 rfl rfl
theorem wF_Sg_9 : Cond.fieldLink xR_Sg 9 "java/lang/String" "value" "[B" ∈ xTB := x_i7 22 rfl rfl
theorem wF_Sh_13 : Cond.fieldLink xR_Sh 13 "ThreesAtTable$Sheet" "items" "[I" ∈ xTB := x_i2 7 rfl rfl
theorem wF_Sh_17 : Cond.fieldLink xR_Sh 17 "ThreesAtTable$Sheet" "size" "I" ∈ xTB := x_i2 5 rfl rfl
theorem wF_Sh_9 : Cond.fieldLink xR_Sh 9 "ThreesAtTable$Sheet" "sort" "I" ∈ xTB := x_i2 3 rfl rfl
theorem wF_St_15 : Cond.fieldLink xR_St 15 "ThreesAtTable$Standing" "strangersCount" "[Z" ∈ xTB := x_i1 131 rfl rfl
theorem wF_St_18 : Cond.fieldLink xR_St 18 "ThreesAtTable$Standing" "seats" "LThreesAtTable$Seats;" ∈ xTB := x_i1 129 rfl rfl
theorem wF_St_26 : Cond.fieldLink xR_St 26 "ThreesAtTable$Standing" "threes" "I" ∈ xTB := x_i1 132 rfl rfl
theorem wF_St_9 : Cond.fieldLink xR_St 9 "ThreesAtTable$Standing" "friendsCount" "[Z" ∈ xTB := x_i1 130 rfl rfl
theorem wF_Ta_13 : Cond.fieldLink xR_Ta 13 "ThreesAtTable$Table" "guests" "I" ∈ xTB := x_i1 75 rfl rfl
theorem wF_Ta_25 : Cond.fieldLink xR_Ta 25 "ThreesAtTable$Table" "friends" "I" ∈ xTB := x_i1 82 rfl rfl
theorem wF_Ta_28 : Cond.fieldLink xR_Ta 28 "ThreesAtTable$Table" "strangers" "I" ∈ xTB := x_i1 87 rfl rfl
theorem wF_Ta_7 : Cond.fieldLink xR_Ta 7 "ThreesAtTable$Table" "seats" "LThreesAtTable$Seats;" ∈ xTB := x_i1 74 rfl rfl
theorem wF_Te_13 : Cond.fieldLink xR_Te 13 "ThreesAtTable$Text" "ends" "[I" ∈ xTB := x_i2 191 rfl rfl
theorem wF_Te_7 : Cond.fieldLink xR_Te 7 "ThreesAtTable$Text" "codes" "[I" ∈ xTB := x_i2 190 rfl rfl
theorem wF_To_15 : Cond.fieldLink xR_To 15 "ThreesAtTable$Town" "number" "I" ∈ xTB := x_i3 126 rfl rfl
theorem wF_To_18 : Cond.fieldLink xR_To 18 "ThreesAtTable$Town" "ABOVE" "[I" ∈ xTB := x_i5 15 rfl rfl
theorem wF_To_9 : Cond.fieldLink xR_To 9 "ThreesAtTable$Town" "kind" "I" ∈ xTB := x_i3 125 rfl rfl
theorem wF_Wa_15 : Cond.fieldLink xR_Wa 15 "ThreesAtTable$Ways" "standing" "LThreesAtTable$Standing;" ∈ xTB := x_i1 177 rfl rfl
theorem wF_Wa_19 : Cond.fieldLink xR_Wa 19 "ThreesAtTable$Table" "guests" "I" ∈ xTB := x_i1 76 rfl rfl
theorem wF_Wa_31 : Cond.fieldLink xR_Wa 31 "ThreesAtTable$Ways" "pairs" "I" ∈ xTB := x_i1 178 rfl rfl
theorem wF_Wa_34 : Cond.fieldLink xR_Wa 34 "ThreesAtTable$Ways" "without" "I" ∈ xTB := x_i1 179 rfl rfl
theorem wF_Wa_37 : Cond.fieldLink xR_Wa 37 "ThreesAtTable$Ways" "mostThrees" "I" ∈ xTB := x_i1 181 rfl rfl
theorem wF_Wa_40 : Cond.fieldLink xR_Wa 40 "ThreesAtTable$Table" "friends" "I" ∈ xTB := x_i1 80 rfl rfl
theorem wF_Wa_43 : Cond.fieldLink xR_Wa 43 "ThreesAtTable$Table" "strangers" "I" ∈ xTB := x_i1 85 rfl rfl
theorem wF_Wa_65 : Cond.fieldLink xR_Wa 65 "ThreesAtTable$Ways" "least" "I" ∈ xTB := x_i1 183 rfl rfl
theorem wF_Wa_9 : Cond.fieldLink xR_Wa 9 "ThreesAtTable$Ways" "seats" "LThreesAtTable$Seats;" ∈ xTB := x_i1 176 rfl rfl
theorem wI_Ch : Cond.instantiable xR_Ch 6 ∈ xTB := x_i1 144 rfl rfl
theorem wI_Ma : Cond.instantiable xR_Ma 15 ∈ xTB := x_i1 23 rfl rfl
theorem wI_Mo : Cond.instantiable xR_Mo 45 ∈ xTB := x_i5 18 rfl rfl
theorem wI_Re : Cond.instantiable xR_Re 9 ∈ xTB := x_i1 199 rfl rfl
theorem wI_Ru : Cond.instantiable xR_Ru 6 ∈ xTB := x_i1 99 rfl rfl
theorem wI_Se : Cond.instantiable xR_Se 4 ∈ xTB := x_i1 31 rfl rfl
theorem wI_Sh : Cond.instantiable xR_Sh 3 ∈ xTB := x_i1 238 rfl rfl
theorem wI_St : Cond.instantiable xR_St 4 ∈ xTB := x_i1 124 rfl rfl
theorem wI_Ta : Cond.instantiable xR_Ta 4 ∈ xTB := x_i1 69 rfl rfl
theorem wI_Te : Cond.instantiable xR_Te 2 ∈ xTB := x_i2 169 rfl rfl
theorem wI_To : Cond.instantiable xR_To 2 ∈ xTB := x_i3 120 rfl rfl
theorem wI_Wa : Cond.instantiable xR_Wa 6 ∈ xTB := x_i1 171 rfl rfl
theorem wJ_Ma_302 : Cond.constantLong xR_Ma 302 (-4611686018427387904) ∈ xTB := x_i4 146 rfl rfl
theorem wJ_Mo_106 : Cond.constantLong xR_Mo 106 (5) ∈ xTB := x_i5 201 rfl rfl
theorem wJ_Mo_108 : Cond.constantLong xR_Mo 108 (9) ∈ xTB := x_i5 202 rfl rfl
theorem wJ_Mo_124 : Cond.constantLong xR_Mo 124 (255) ∈ xTB := x_i5 234 rfl rfl
theorem wJ_Mo_147 : Cond.constantLong xR_Mo 147 (97) ∈ xTB := x_i6 11 rfl rfl
theorem wJ_Mo_149 : Cond.constantLong xR_Mo 149 (122) ∈ xTB := x_i6 12 rfl rfl
theorem wJ_Mo_151 : Cond.constantLong xR_Mo 151 (48) ∈ xTB := x_i6 13 rfl rfl
theorem wJ_Mo_153 : Cond.constantLong xR_Mo 153 (57) ∈ xTB := x_i6 14 rfl rfl
theorem wJ_Mo_159 : Cond.constantLong xR_Mo 159 (10) ∈ xTB := x_i6 15 rfl rfl
theorem wJ_Mo_222 : Cond.constantLong xR_Mo 222 (43) ∈ xTB := x_i6 68 rfl rfl
theorem wJ_Mo_230 : Cond.constantLong xR_Mo 230 (60) ∈ xTB := x_i6 69 rfl rfl
theorem wJ_Mo_258 : Cond.constantLong xR_Mo 258 (4) ∈ xTB := x_i6 78 rfl rfl
theorem wJ_Mo_313 : Cond.constantLong xR_Mo 313 (-4611686018427387904) ∈ xTB := x_i6 193 rfl rfl
theorem wJ_Mo_338 : Cond.constantLong xR_Mo 338 (6) ∈ xTB := x_i6 235 rfl rfl
theorem wJ_Mo_340 : Cond.constantLong xR_Mo 340 (3) ∈ xTB := x_i6 217 rfl rfl
theorem wJ_Mo_342 : Cond.constantLong xR_Mo 342 (-1) ∈ xTB := x_i7 0 rfl rfl
theorem wJ_Mo_344 : Cond.constantLong xR_Mo 344 (13) ∈ xTB := x_i7 13 rfl rfl
theorem wJ_Mo_88 : Cond.constantLong xR_Mo 88 (7) ∈ xTB := x_i5 166 rfl rfl
theorem wJ_Mo_98 : Cond.constantLong xR_Mo 98 (2) ∈ xTB := x_i5 185 rfl rfl
theorem wK_In_265 : Cond.constant xR_In 265 (1431655765) ∈ xTB := x_i1 42 rfl rfl
theorem wK_In_266 : Cond.constant xR_In 266 (858993459) ∈ xTB := x_i1 43 rfl rfl
theorem wK_In_267 : Cond.constant xR_In 267 (252645135) ∈ xTB := x_i1 44 rfl rfl
theorem wK_Ma_329 : Cond.constant xR_Ma 329 (1103515245) ∈ xTB := x_i4 191 rfl rfl
theorem wK_Mo_328 : Cond.constant xR_Mo 328 (1103515245) ∈ xTB := x_i6 222 rfl rfl
theorem wM_Ar_150 : Cond.methodLink xR_Ar 150 ⟨"java/lang/System", "arraycopy", "(Ljava/lang/Object;ILjava/lang/Object;II)V"⟩ ∈ xTB := x_i2 181 rfl rfl
theorem wM_Ar_304 : Cond.methodLink xR_Ar 304 ⟨"java/lang/Math", "min", "(II)I"⟩ ∈ xTB := x_i2 180 rfl rfl
theorem wM_Ar_316 : Cond.methodLink xR_Ar 316 ⟨"[I", "clone", "()Ljava/lang/Object;"⟩ ∈ xTB := x_i2 173 rfl rfl
theorem wM_Ch_1 : Cond.methodLink xR_Ch 1 ⟨"java/lang/Object", "<init>", "()V"⟩ ∈ xTB := x_i1 148 rfl rfl
theorem wM_Ch_23 : Cond.methodLink xR_Ch 23 ⟨"ThreesAtTable$Rule", "costs", "(I)I"⟩ ∈ xTB := x_i4 62 rfl rfl
theorem wM_Ch_41 : Cond.methodLink xR_Ch 41 ⟨"ThreesAtTable$Changes", "tryChanges", "(LThreesAtTable$Changes;IIII)V"⟩ ∈ xTB := x_i4 63 rfl rfl
theorem wM_Ch_45 : Cond.methodLink xR_Ch 45 ⟨"ThreesAtTable$Standing", "anyThree", "(II)I"⟩ ∈ xTB := x_i4 66 rfl rfl
theorem wM_Ch_51 : Cond.methodLink xR_Ch 51 ⟨"ThreesAtTable$Changes", "keepBest", "(I)V"⟩ ∈ xTB := x_i4 67 rfl rfl
theorem wM_Ch_55 : Cond.methodLink xR_Ch 55 ⟨"ThreesAtTable$Seats", "within", "(I)I"⟩ ∈ xTB := x_i4 71 rfl rfl
theorem wM_Ga_18 : Cond.methodLink xR_Ga 18 ⟨"ThreesAtTable$Table", "everyPair", "()I"⟩ ∈ xTB := x_i4 154 rfl rfl
theorem wM_Ga_24 : Cond.methodLink xR_Ga 24 ⟨"ThreesAtTable$Game", "worth", "(LThreesAtTable$Seats;IIII)I"⟩ ∈ xTB := x_i4 155 rfl rfl
theorem wM_Ga_28 : Cond.methodLink xR_Ga 28 ⟨"ThreesAtTable$Game", "value", "(LThreesAtTable$Seats;LThreesAtTable$Table;)I"⟩ ∈ xTB := x_i4 166 rfl rfl
theorem wM_Ga_32 : Cond.methodLink xR_Ga 32 ⟨"ThreesAtTable$Game", "worthOfTurn", "(LThreesAtTable$Seats;IIIII)I"⟩ ∈ xTB := x_i4 158 rfl rfl
theorem wM_Ga_36 : Cond.methodLink xR_Ga 36 ⟨"java/lang/Math", "max", "(II)I"⟩ ∈ xTB := x_i4 162 rfl rfl
theorem wM_Ga_42 : Cond.methodLink xR_Ga 42 ⟨"ThreesAtTable$Seats", "closes", "(II)Z"⟩ ∈ xTB := x_i4 161 rfl rfl
theorem wM_La_101 : Cond.methodLink xR_La 101 ⟨"ThreesAtTableModel", "half", "(I)I"⟩ ∈ xTB := x_i6 177 rfl rfl
theorem wM_La_102 : Cond.methodLink xR_La 102 ⟨"ThreesAtTable", "chance", "(I)J"⟩ ∈ xTB := x_i4 142 rfl rfl
theorem wM_La_106 : Cond.methodLink xR_La 106 ⟨"ThreesAtTableModel", "chance", "(I)J"⟩ ∈ xTB := x_i6 189 rfl rfl
theorem wM_La_107 : Cond.methodLink xR_La 107 ⟨"ThreesAtTable", "game", "(I)I"⟩ ∈ xTB := x_i4 147 rfl rfl
theorem wM_La_110 : Cond.methodLink xR_La 110 ⟨"ThreesAtTableModel", "game", "(I)I"⟩ ∈ xTB := x_i6 194 rfl rfl
theorem wM_La_111 : Cond.methodLink xR_La 111 ⟨"ThreesAtTable", "judge", "(II)I"⟩ ∈ xTB := x_i4 167 rfl rfl
theorem wM_La_114 : Cond.methodLink xR_La 114 ⟨"ThreesAtTableModel", "judge", "(II)I"⟩ ∈ xTB := x_i6 210 rfl rfl
theorem wM_La_115 : Cond.methodLink xR_La 115 ⟨"ThreesAtTable", "drawn", "(I)I"⟩ ∈ xTB := x_i4 187 rfl rfl
theorem wM_La_118 : Cond.methodLink xR_La 118 ⟨"ThreesAtTableModel", "drawn", "(I)I"⟩ ∈ xTB := x_i6 218 rfl rfl
theorem wM_La_119 : Cond.methodLink xR_La 119 ⟨"ThreesAtTable", "like", "(I)I"⟩ ∈ xTB := x_i4 192 rfl rfl
theorem wM_La_12 : Cond.methodLink xR_La 12 ⟨"ThreesAtTableModel", "<init>", "()V"⟩ ∈ xTB := x_i5 19 rfl rfl
theorem wM_La_122 : Cond.methodLink xR_La 122 ⟨"ThreesAtTableModel", "like", "(I)I"⟩ ∈ xTB := x_i5 226 rfl rfl
theorem wM_La_123 : Cond.methodLink xR_La 123 ⟨"ThreesAtTable", "image", "()I"⟩ ∈ xTB := x_i4 198 rfl rfl
theorem wM_La_126 : Cond.methodLink xR_La 126 ⟨"ThreesAtTableModel", "image", "()I"⟩ ∈ xTB := x_i6 223 rfl rfl
theorem wM_La_127 : Cond.methodLink xR_La 127 ⟨"ThreesAtTable", "back", "()I"⟩ ∈ xTB := x_i4 206 rfl rfl
theorem wM_La_13 : Cond.methodLink xR_La 13 ⟨"ThreesAtTable", "sit", "(I)I"⟩ ∈ xTB := x_i3 87 rfl rfl
theorem wM_La_130 : Cond.methodLink xR_La 130 ⟨"ThreesAtTableModel", "back", "()I"⟩ ∈ xTB := x_i6 227 rfl rfl
theorem wM_La_131 : Cond.methodLink xR_La 131 ⟨"ThreesAtTable", "count", "(I)I"⟩ ∈ xTB := x_i4 210 rfl rfl
theorem wM_La_134 : Cond.methodLink xR_La 134 ⟨"ThreesAtTableModel", "count", "(I)I"⟩ ∈ xTB := x_i6 231 rfl rfl
theorem wM_La_135 : Cond.methodLink xR_La 135 ⟨"ThreesAtTable", "sheet", "(III)I"⟩ ∈ xTB := x_i4 214 rfl rfl
theorem wM_La_138 : Cond.methodLink xR_La 138 ⟨"ThreesAtTableModel", "sheet", "(III)I"⟩ ∈ xTB := x_i6 236 rfl rfl
theorem wM_La_139 : Cond.methodLink xR_La 139 ⟨"ThreesAtTable", "cell", "(III)I"⟩ ∈ xTB := x_i4 225 rfl rfl
theorem wM_La_142 : Cond.methodLink xR_La 142 ⟨"ThreesAtTableModel", "cell", "(III)I"⟩ ∈ xTB := x_i7 1 rfl rfl
theorem wM_La_143 : Cond.methodLink xR_La 143 ⟨"ThreesAtTable", "copy", "(IIIII)I"⟩ ∈ xTB := x_i4 233 rfl rfl
theorem wM_La_147 : Cond.methodLink xR_La 147 ⟨"ThreesAtTableModel", "copy", "(IIIII)I"⟩ ∈ xTB := x_i7 5 rfl rfl
theorem wM_La_148 : Cond.methodLink xR_La 148 ⟨"ThreesAtTable", "pairs", "(IIII)I"⟩ ∈ xTB := x_i5 2 rfl rfl
theorem wM_La_151 : Cond.methodLink xR_La 151 ⟨"ThreesAtTableModel", "pairs", "(IIII)I"⟩ ∈ xTB := x_i7 9 rfl rfl
theorem wM_La_152 : Cond.methodLink xR_La 152 ⟨"ThreesAtTable", "taken", "(II)I"⟩ ∈ xTB := x_i5 7 rfl rfl
theorem wM_La_155 : Cond.methodLink xR_La 155 ⟨"ThreesAtTableModel", "taken", "(II)I"⟩ ∈ xTB := x_i7 15 rfl rfl
theorem wM_La_17 : Cond.methodLink xR_La 17 ⟨"ThreesAtTableModel", "sit", "(I)I"⟩ ∈ xTB := x_i5 162 rfl rfl
theorem wM_La_18 : Cond.methodLink xR_La 18 ⟨"ThreesAtTable", "meet", "(III)I"⟩ ∈ xTB := x_i3 91 rfl rfl
theorem wM_La_22 : Cond.methodLink xR_La 22 ⟨"ThreesAtTableModel", "meet", "(III)I"⟩ ∈ xTB := x_i5 173 rfl rfl
theorem wM_La_23 : Cond.methodLink xR_La 23 ⟨"ThreesAtTable", "told", "(II)I"⟩ ∈ xTB := x_i3 112 rfl rfl
theorem wM_La_27 : Cond.methodLink xR_La 27 ⟨"ThreesAtTableModel", "told", "(II)I"⟩ ∈ xTB := x_i5 193 rfl rfl
theorem wM_La_28 : Cond.methodLink xR_La 28 ⟨"ThreesAtTable", "town", "(II)I"⟩ ∈ xTB := x_i3 116 rfl rfl
theorem wM_La_31 : Cond.methodLink xR_La 31 ⟨"ThreesAtTableModel", "town", "(II)I"⟩ ∈ xTB := x_i5 197 rfl rfl
theorem wM_La_32 : Cond.methodLink xR_La 32 ⟨"ThreesAtTable", "asIn", "(I)I"⟩ ∈ xTB := x_i3 133 rfl rfl
theorem wM_La_35 : Cond.methodLink xR_La 35 ⟨"ThreesAtTableModel", "asIn", "(I)I"⟩ ∈ xTB := x_i5 203 rfl rfl
theorem wM_La_36 : Cond.methodLink xR_La 36 ⟨"ThreesAtTable", "tells", "(IIII)I"⟩ ∈ xTB := x_i3 159 rfl rfl
theorem wM_La_40 : Cond.methodLink xR_La 40 ⟨"ThreesAtTableModel", "tells", "(IIII)I"⟩ ∈ xTB := x_i5 218 rfl rfl
theorem wM_La_41 : Cond.methodLink xR_La 41 ⟨"ThreesAtTable", "feed", "(I)I"⟩ ∈ xTB := x_i3 171 rfl rfl
theorem wM_La_44 : Cond.methodLink xR_La 44 ⟨"ThreesAtTableModel", "feed", "(I)I"⟩ ∈ xTB := x_i5 230 rfl rfl
theorem wM_La_45 : Cond.methodLink xR_La 45 ⟨"ThreesAtTable", "text", "()I"⟩ ∈ xTB := x_i3 179 rfl rfl
theorem wM_La_49 : Cond.methodLink xR_La 49 ⟨"ThreesAtTableModel", "text", "()I"⟩ ∈ xTB := x_i5 235 rfl rfl
theorem wM_La_50 : Cond.methodLink xR_La 50 ⟨"ThreesAtTable", "force", "(I)I"⟩ ∈ xTB := x_i3 183 rfl rfl
theorem wM_La_53 : Cond.methodLink xR_La 53 ⟨"ThreesAtTableModel", "force", "(I)I"⟩ ∈ xTB := x_i6 70 rfl rfl
theorem wM_La_54 : Cond.methodLink xR_La 54 ⟨"ThreesAtTable", "threes", "(I)I"⟩ ∈ xTB := x_i3 187 rfl rfl
theorem wM_La_57 : Cond.methodLink xR_La 57 ⟨"ThreesAtTableModel", "threes", "(I)I"⟩ ∈ xTB := x_i6 74 rfl rfl
theorem wM_La_58 : Cond.methodLink xR_La 58 ⟨"ThreesAtTable", "guest", "(II)I"⟩ ∈ xTB := x_i3 223 rfl rfl
theorem wM_La_61 : Cond.methodLink xR_La 61 ⟨"ThreesAtTableModel", "guest", "(II)I"⟩ ∈ xTB := x_i6 99 rfl rfl
theorem wM_La_62 : Cond.methodLink xR_La 62 ⟨"ThreesAtTable", "most", "()I"⟩ ∈ xTB := x_i4 4 rfl rfl
theorem wM_La_65 : Cond.methodLink xR_La 65 ⟨"ThreesAtTableModel", "most", "()I"⟩ ∈ xTB := x_i6 117 rfl rfl
theorem wM_La_66 : Cond.methodLink xR_La 66 ⟨"ThreesAtTable", "home", "(I)I"⟩ ∈ xTB := x_i4 8 rfl rfl
theorem wM_La_69 : Cond.methodLink xR_La 69 ⟨"ThreesAtTableModel", "home", "(I)I"⟩ ∈ xTB := x_i6 121 rfl rfl
theorem wM_La_70 : Cond.methodLink xR_La 70 ⟨"ThreesAtTable", "change", "(I)I"⟩ ∈ xTB := x_i4 28 rfl rfl
theorem wM_La_73 : Cond.methodLink xR_La 73 ⟨"ThreesAtTableModel", "change", "(I)I"⟩ ∈ xTB := x_i6 129 rfl rfl
theorem wM_La_74 : Cond.methodLink xR_La 74 ⟨"ThreesAtTable", "noneLeft", "(I)I"⟩ ∈ xTB := x_i4 54 rfl rfl
theorem wM_La_77 : Cond.methodLink xR_La 77 ⟨"ThreesAtTableModel", "noneLeft", "(I)I"⟩ ∈ xTB := x_i6 141 rfl rfl
theorem wM_La_78 : Cond.methodLink xR_La 78 ⟨"ThreesAtTable", "all", "(II)I"⟩ ∈ xTB := x_i4 72 rfl rfl
theorem wM_La_81 : Cond.methodLink xR_La 81 ⟨"ThreesAtTableModel", "all", "(II)I"⟩ ∈ xTB := x_i6 149 rfl rfl
theorem wM_La_82 : Cond.methodLink xR_La 82 ⟨"ThreesAtTable", "halved", "(I)I"⟩ ∈ xTB := x_i4 76 rfl rfl
theorem wM_La_85 : Cond.methodLink xR_La 85 ⟨"ThreesAtTableModel", "halved", "(I)I"⟩ ∈ xTB := x_i6 157 rfl rfl
theorem wM_La_86 : Cond.methodLink xR_La 86 ⟨"ThreesAtTable", "fours", "()I"⟩ ∈ xTB := x_i4 84 rfl rfl
theorem wM_La_89 : Cond.methodLink xR_La 89 ⟨"ThreesAtTableModel", "fours", "()I"⟩ ∈ xTB := x_i6 161 rfl rfl
theorem wM_La_9 : Cond.methodLink xR_La 9 ⟨"ThreesAtTable", "<init>", "()V"⟩ ∈ xTB := x_i1 24 rfl rfl
theorem wM_La_90 : Cond.methodLink xR_La 90 ⟨"ThreesAtTable", "common", "(I)I"⟩ ∈ xTB := x_i4 92 rfl rfl
theorem wM_La_93 : Cond.methodLink xR_La 93 ⟨"ThreesAtTableModel", "common", "(I)I"⟩ ∈ xTB := x_i6 169 rfl rfl
theorem wM_La_94 : Cond.methodLink xR_La 94 ⟨"ThreesAtTable", "without", "(II)I"⟩ ∈ xTB := x_i4 100 rfl rfl
theorem wM_La_97 : Cond.methodLink xR_La 97 ⟨"ThreesAtTableModel", "without", "(II)I"⟩ ∈ xTB := x_i6 173 rfl rfl
theorem wM_La_98 : Cond.methodLink xR_La 98 ⟨"ThreesAtTable", "half", "(I)I"⟩ ∈ xTB := x_i4 119 rfl rfl
theorem wM_Ma_1 : Cond.methodLink xR_Ma 1 ⟨"java/lang/Object", "<init>", "()V"⟩ ∈ xTB := x_i1 27 rfl rfl
theorem wM_Ma_103 : Cond.methodLink xR_Ma 103 ⟨"ThreesAtTable$Standing", "weigh", "(LThreesAtTable$Rule;I)V"⟩ ∈ xTB := x_i2 230 rfl rfl
theorem wM_Ma_107 : Cond.methodLink xR_Ma 107 ⟨"ThreesAtTable", "pairNumber", "(II)I"⟩ ∈ xTB := x_i3 95 rfl rfl
theorem wM_Ma_111 : Cond.methodLink xR_Ma 111 ⟨"ThreesAtTable$Table", "look", "(I)I"⟩ ∈ xTB := x_i3 104 rfl rfl
theorem wM_Ma_115 : Cond.methodLink xR_Ma 115 ⟨"ThreesAtTable$Table", "put", "(II)V"⟩ ∈ xTB := x_i3 108 rfl rfl
theorem wM_Ma_122 : Cond.methodLink xR_Ma 122 ⟨"ThreesAtTable$Town", "<init>", "(II)V"⟩ ∈ xTB := x_i3 121 rfl rfl
theorem wM_Ma_124 : Cond.methodLink xR_Ma 124 ⟨"ThreesAtTable", "townAt", "(I)LThreesAtTable$Town;"⟩ ∈ xTB := x_i3 137 rfl rfl
theorem wM_Ma_128 : Cond.methodLink xR_Ma 128 ⟨"ThreesAtTable", "friendsIn", "(LThreesAtTable$Town;)I"⟩ ∈ xTB := x_i3 141 rfl rfl
theorem wM_Ma_132 : Cond.methodLink xR_Ma 132 ⟨"ThreesAtTable$Table", "everyPair", "()I"⟩ ∈ xTB := x_i3 156 rfl rfl
theorem wM_Ma_136 : Cond.methodLink xR_Ma 136 ⟨"ThreesAtTable$Table", "layBits", "(II)V"⟩ ∈ xTB := x_i3 157 rfl rfl
theorem wM_Ma_139 : Cond.methodLink xR_Ma 139 ⟨"java/lang/Integer", "bitCount", "(I)I"⟩ ∈ xTB := x_i3 158 rfl rfl
theorem wM_Ma_144 : Cond.methodLink xR_Ma 144 ⟨"ThreesAtTable", "isGuest", "(I)Z"⟩ ∈ xTB := x_i3 99 rfl rfl
theorem wM_Ma_148 : Cond.methodLink xR_Ma 148 ⟨"ThreesAtTable", "isWithin", "(II)Z"⟩ ∈ xTB := x_i3 163 rfl rfl
theorem wM_Ma_152 : Cond.methodLink xR_Ma 152 ⟨"ThreesAtTable$Town", "price", "(II)I"⟩ ∈ xTB := x_i3 166 rfl rfl
theorem wM_Ma_155 : Cond.methodLink xR_Ma 155 ⟨"ThreesAtTable$Town", "knows", "(III)Z"⟩ ∈ xTB := x_i3 145 rfl rfl
theorem wM_Ma_159 : Cond.methodLink xR_Ma 159 ⟨"ThreesAtTable$Seats", "pairOf", "(II)I"⟩ ∈ xTB := x_i3 103 rfl rfl
theorem wM_Ma_162 : Cond.methodLink xR_Ma 162 ⟨"ThreesAtTable$Reader", "put", "(I)Z"⟩ ∈ xTB := x_i2 69 rfl rfl
theorem wM_Ma_164 : Cond.methodLink xR_Ma 164 ⟨"ThreesAtTable$Reader", "size", "()I"⟩ ∈ xTB := x_i3 175 rfl rfl
theorem wM_Ma_170 : Cond.methodLink xR_Ma 170 ⟨"ThreesAtTable$Reader", "read", "()I"⟩ ∈ xTB := x_i2 73 rfl rfl
theorem wM_Ma_173 : Cond.methodLink xR_Ma 173 ⟨"ThreesAtTable$Reader", "empty", "()V"⟩ ∈ xTB := x_i2 198 rfl rfl
theorem wM_Ma_176 : Cond.methodLink xR_Ma 176 ⟨"ThreesAtTable", "keepText", "()I"⟩ ∈ xTB := x_i2 160 rfl rfl
theorem wM_Ma_18 : Cond.methodLink xR_Ma 18 ⟨"ThreesAtTable$Table", "<init>", "(LThreesAtTable$Seats;)V"⟩ ∈ xTB := x_i1 70 rfl rfl
theorem wM_Ma_182 : Cond.methodLink xR_Ma 182 ⟨"ThreesAtTable$Reader", "written", "()LThreesAtTable$Text;"⟩ ∈ xTB := x_i2 164 rfl rfl
theorem wM_Ma_188 : Cond.methodLink xR_Ma 188 ⟨"java/lang/String", "length", "()I"⟩ ∈ xTB := x_i2 21 rfl rfl
theorem wM_Ma_193 : Cond.methodLink xR_Ma 193 ⟨"java/lang/String", "charAt", "(I)C"⟩ ∈ xTB := x_i2 31 rfl rfl
theorem wM_Ma_197 : Cond.methodLink xR_Ma 197 ⟨"ThreesAtTable$Rule", "follow", "(LThreesAtTable$Text;)V"⟩ ∈ xTB := x_i2 226 rfl rfl
theorem wM_Ma_204 : Cond.methodLink xR_Ma 204 ⟨"ThreesAtTable$Standing", "howMany", "(II)I"⟩ ∈ xTB := x_i3 191 rfl rfl
theorem wM_Ma_210 : Cond.methodLink xR_Ma 210 ⟨"ThreesAtTable", "threesNow", "()I"⟩ ∈ xTB := x_i3 204 rfl rfl
theorem wM_Ma_213 : Cond.methodLink xR_Ma 213 ⟨"ThreesAtTable", "firstThree", "()I"⟩ ∈ xTB := x_i3 208 rfl rfl
theorem wM_Ma_216 : Cond.methodLink xR_Ma 216 ⟨"ThreesAtTable", "byDegrees", "()I"⟩ ∈ xTB := x_i3 213 rfl rfl
theorem wM_Ma_219 : Cond.methodLink xR_Ma 219 ⟨"ThreesAtTable$Table", "knownBy", "(I)I"⟩ ∈ xTB := x_i3 217 rfl rfl
theorem wM_Ma_222 : Cond.methodLink xR_Ma 222 ⟨"ThreesAtTable", "threesOf", "(I)I"⟩ ∈ xTB := x_i3 227 rfl rfl
theorem wM_Ma_225 : Cond.methodLink xR_Ma 225 ⟨"ThreesAtTable$Rule", "joy", "(I)I"⟩ ∈ xTB := x_i3 233 rfl rfl
theorem wM_Ma_228 : Cond.methodLink xR_Ma 228 ⟨"ThreesAtTable$Standing", "stands", "(III)Z"⟩ ∈ xTB := x_i3 212 rfl rfl
theorem wM_Ma_231 : Cond.methodLink xR_Ma 231 ⟨"ThreesAtTable$Seats", "threesAmong", "(I)I"⟩ ∈ xTB := x_i3 222 rfl rfl
theorem wM_Ma_234 : Cond.methodLink xR_Ma 234 ⟨"ThreesAtTable$Table", "everyone", "()I"⟩ ∈ xTB := x_i3 231 rfl rfl
theorem wM_Ma_237 : Cond.methodLink xR_Ma 237 ⟨"ThreesAtTable$Seats", "within", "(I)I"⟩ ∈ xTB := x_i3 232 rfl rfl
theorem wM_Ma_240 : Cond.methodLink xR_Ma 240 ⟨"ThreesAtTable", "sentHome", "()I"⟩ ∈ xTB := x_i4 12 rfl rfl
theorem wM_Ma_243 : Cond.methodLink xR_Ma 243 ⟨"ThreesAtTable", "joyOf", "(I)I"⟩ ∈ xTB := x_i4 24 rfl rfl
theorem wM_Ma_246 : Cond.methodLink xR_Ma 246 ⟨"ThreesAtTable", "bestChange", "()I"⟩ ∈ xTB := x_i4 32 rfl rfl
theorem wM_Ma_249 : Cond.methodLink xR_Ma 249 ⟨"ThreesAtTable", "threesIfChanged", "(I)I"⟩ ∈ xTB := x_i4 37 rfl rfl
theorem wM_Ma_252 : Cond.methodLink xR_Ma 252 ⟨"ThreesAtTable$Changes", "seek", "(LThreesAtTable$Table;LThreesAtTable$Rule;)Z"⟩ ∈ xTB := x_i4 58 rfl rfl
theorem wM_Ma_262 : Cond.methodLink xR_Ma 262 ⟨"ThreesAtTable", "leavesNone", "(I)Z"⟩ ∈ xTB := x_i4 16 rfl rfl
theorem wM_Ma_265 : Cond.methodLink xR_Ma 265 ⟨"ThreesAtTable$Standing", "anyThree", "(II)I"⟩ ∈ xTB := x_i4 20 rfl rfl
theorem wM_Ma_268 : Cond.methodLink xR_Ma 268 ⟨"ThreesAtTable$Seats", "pairsAmong", "(I)I"⟩ ∈ xTB := x_i4 36 rfl rfl
theorem wM_Ma_27 : Cond.methodLink xR_Ma 27 ⟨"ThreesAtTable$Rule", "<init>", "(LThreesAtTable$Seats;LThreesAtTable$Table;)V"⟩ ∈ xTB := x_i1 100 rfl rfl
theorem wM_Ma_271 : Cond.methodLink xR_Ma 271 ⟨"ThreesAtTable$Rule", "costs", "(I)I"⟩ ∈ xTB := x_i4 41 rfl rfl
theorem wM_Ma_274 : Cond.methodLink xR_Ma 274 ⟨"ThreesAtTable", "friendsWithin", "(I)I"⟩ ∈ xTB := x_i4 80 rfl rfl
theorem wM_Ma_277 : Cond.methodLink xR_Ma 277 ⟨"ThreesAtTable", "knownByBoth", "(II)I"⟩ ∈ xTB := x_i4 88 rfl rfl
theorem wM_Ma_280 : Cond.methodLink xR_Ma 280 ⟨"ThreesAtTable", "whoKnowsAll", "()I"⟩ ∈ xTB := x_i4 96 rfl rfl
theorem wM_Ma_283 : Cond.methodLink xR_Ma 283 ⟨"ThreesAtTable$Ways", "drawAll", "(I)V"⟩ ∈ xTB := x_i4 104 rfl rfl
theorem wM_Ma_292 : Cond.methodLink xR_Ma 292 ⟨"ThreesAtTable", "unseenPairs", "()I"⟩ ∈ xTB := x_i4 123 rfl rfl
theorem wM_Ma_295 : Cond.methodLink xR_Ma 295 ⟨"ThreesAtTable$Ways", "fillAll", "(LThreesAtTable$Table;)V"⟩ ∈ xTB := x_i4 127 rfl rfl
theorem wM_Ma_306 : Cond.methodLink xR_Ma 306 ⟨"ThreesAtTable$Game", "value", "(LThreesAtTable$Seats;LThreesAtTable$Table;)I"⟩ ∈ xTB := x_i4 151 rfl rfl
theorem wM_Ma_310 : Cond.methodLink xR_Ma 310 ⟨"ThreesAtTable$Game", "pair", "(LThreesAtTable$Seats;LThreesAtTable$Table;)I"⟩ ∈ xTB := x_i4 163 rfl rfl
theorem wM_Ma_313 : Cond.methodLink xR_Ma 313 ⟨"ThreesAtTable", "sheetAt", "(I)LThreesAtTable$Sheet;"⟩ ∈ xTB := x_i4 171 rfl rfl
theorem wM_Ma_317 : Cond.methodLink xR_Ma 317 ⟨"ThreesAtTable$Sheet", "isMissing", "()Z"⟩ ∈ xTB := x_i4 175 rfl rfl
theorem wM_Ma_323 : Cond.methodLink xR_Ma 323 ⟨"ThreesAtTable$Sheet", "item", "(I)I"⟩ ∈ xTB := x_i4 179 rfl rfl
theorem wM_Ma_326 : Cond.methodLink xR_Ma 326 ⟨"ThreesAtTable", "introduced", "(I)I"⟩ ∈ xTB := x_i4 183 rfl rfl
theorem wM_Ma_330 : Cond.methodLink xR_Ma 330 ⟨"ThreesAtTable$Seats", "lower", "(I)I"⟩ ∈ xTB := x_i4 196 rfl rfl
theorem wM_Ma_333 : Cond.methodLink xR_Ma 333 ⟨"ThreesAtTable$Seats", "higher", "(I)I"⟩ ∈ xTB := x_i4 197 rfl rfl
theorem wM_Ma_336 : Cond.methodLink xR_Ma 336 ⟨"ThreesAtTable$Table", "layAs", "(LThreesAtTable$Table;)V"⟩ ∈ xTB := x_i4 202 rfl rfl
theorem wM_Ma_339 : Cond.methodLink xR_Ma 339 ⟨"ThreesAtTable$Sheet", "become", "(II)V"⟩ ∈ xTB := x_i4 218 rfl rfl
theorem wM_Ma_342 : Cond.methodLink xR_Ma 342 ⟨"ThreesAtTable$Sheet", "write", "(II)Z"⟩ ∈ xTB := x_i4 229 rfl rfl
theorem wM_Ma_348 : Cond.methodLink xR_Ma 348 ⟨"ThreesAtTable$Sheet", "hasRun", "(II)Z"⟩ ∈ xTB := x_i4 237 rfl rfl
theorem wM_Ma_355 : Cond.methodLink xR_Ma 355 ⟨"java/lang/System", "arraycopy", "(Ljava/lang/Object;ILjava/lang/Object;II)V"⟩ ∈ xTB := x_i5 1 rfl rfl
theorem wM_Ma_36 : Cond.methodLink xR_Ma 36 ⟨"ThreesAtTable$Standing", "<init>", "(LThreesAtTable$Seats;)V"⟩ ∈ xTB := x_i1 125 rfl rfl
theorem wM_Ma_361 : Cond.methodLink xR_Ma 361 ⟨"ThreesAtTable", "meet", "(III)I"⟩ ∈ xTB := x_i5 6 rfl rfl
theorem wM_Ma_365 : Cond.methodLink xR_Ma 365 ⟨"ThreesAtTable$Town", "isOf", "(I)Z"⟩ ∈ xTB := x_i5 11 rfl rfl
theorem wM_Ma_43 : Cond.methodLink xR_Ma 43 ⟨"ThreesAtTable$Changes", "<init>", "(LThreesAtTable$Seats;LThreesAtTable$Standing;)V"⟩ ∈ xTB := x_i1 145 rfl rfl
theorem wM_Ma_52 : Cond.methodLink xR_Ma 52 ⟨"ThreesAtTable$Ways", "<init>", "(LThreesAtTable$Seats;LThreesAtTable$Standing;)V"⟩ ∈ xTB := x_i1 172 rfl rfl
theorem wM_Ma_9 : Cond.methodLink xR_Ma 9 ⟨"ThreesAtTable$Seats", "<init>", "()V"⟩ ∈ xTB := x_i1 32 rfl rfl
theorem wM_Ma_90 : Cond.methodLink xR_Ma 90 ⟨"ThreesAtTable", "learnFirstText", "()V"⟩ ∈ xTB := x_i2 16 rfl rfl
theorem wM_Ma_93 : Cond.methodLink xR_Ma 93 ⟨"ThreesAtTable$Table", "lay", "(I)V"⟩ ∈ xTB := x_i2 202 rfl rfl
theorem wM_Ma_97 : Cond.methodLink xR_Ma 97 ⟨"ThreesAtTable", "useText", "(I)V"⟩ ∈ xTB := x_i2 222 rfl rfl
theorem wM_Mo_100 : Cond.methodLink xR_Mo 100 ⟨"ThreesAtTableModel", "pairAt", "(I)I"⟩ ∈ xTB := x_i5 189 rfl rfl
theorem wM_Mo_110 : Cond.methodLink xR_Mo 110 ⟨"ThreesAtTableModel", "isTown", "(I)Z"⟩ ∈ xTB := x_i5 207 rfl rfl
theorem wM_Mo_113 : Cond.methodLink xR_Mo 113 ⟨"ThreesAtTableModel", "isSo", "(III)Z"⟩ ∈ xTB := x_i5 211 rfl rfl
theorem wM_Mo_117 : Cond.methodLink xR_Mo 117 ⟨"ThreesAtTableModel", "bitsOf", "(I)I"⟩ ∈ xTB := x_i5 215 rfl rfl
theorem wM_Mo_120 : Cond.methodLink xR_Mo 120 ⟨"ThreesAtTableModel", "price", "(III)I"⟩ ∈ xTB := x_i5 222 rfl rfl
theorem wM_Mo_138 : Cond.methodLink xR_Mo 138 ⟨"ThreesAtTableModel", "byteAt", "(I)I"⟩ ∈ xTB := x_i6 7 rfl rfl
theorem wM_Mo_168 : Cond.methodLink xR_Mo 168 ⟨"ThreesAtTableModel", "isLetter", "(II)Z"⟩ ∈ xTB := x_i6 20 rfl rfl
theorem wM_Mo_174 : Cond.methodLink xR_Mo 174 ⟨"ThreesAtTableModel", "fail", "()V"⟩ ∈ xTB := x_i6 28 rfl rfl
theorem wM_Mo_177 : Cond.methodLink xR_Mo 177 ⟨"ThreesAtTableModel", "next", "()V"⟩ ∈ xTB := x_i6 3 rfl rfl
theorem wM_Mo_180 : Cond.methodLink xR_Mo 180 ⟨"ThreesAtTableModel", "isWord", "(IIIIIIII)Z"⟩ ∈ xTB := x_i6 16 rfl rfl
theorem wM_Mo_202 : Cond.methodLink xR_Mo 202 ⟨"ThreesAtTableModel", "isSign", "(I)Z"⟩ ∈ xTB := x_i6 60 rfl rfl
theorem wM_Mo_205 : Cond.methodLink xR_Mo 205 ⟨"ThreesAtTableModel", "opens", "()Z"⟩ ∈ xTB := x_i6 44 rfl rfl
theorem wM_Mo_209 : Cond.methodLink xR_Mo 209 ⟨"ThreesAtTableModel", "atom", "()I"⟩ ∈ xTB := x_i6 56 rfl rfl
theorem wM_Mo_213 : Cond.methodLink xR_Mo 213 ⟨"ThreesAtTableModel", "either", "()I"⟩ ∈ xTB := x_i6 32 rfl rfl
theorem wM_Mo_216 : Cond.methodLink xR_Mo 216 ⟨"ThreesAtTableModel", "name", "()I"⟩ ∈ xTB := x_i6 64 rfl rfl
theorem wM_Mo_219 : Cond.methodLink xR_Mo 219 ⟨"ThreesAtTableModel", "term", "()I"⟩ ∈ xTB := x_i6 52 rfl rfl
theorem wM_Mo_224 : Cond.methodLink xR_Mo 224 ⟨"ThreesAtTableModel", "not", "()I"⟩ ∈ xTB := x_i6 40 rfl rfl
theorem wM_Mo_227 : Cond.methodLink xR_Mo 227 ⟨"ThreesAtTableModel", "added", "()I"⟩ ∈ xTB := x_i6 48 rfl rfl
theorem wM_Mo_232 : Cond.methodLink xR_Mo 232 ⟨"ThreesAtTableModel", "both", "()I"⟩ ∈ xTB := x_i6 36 rfl rfl
theorem wM_Mo_235 : Cond.methodLink xR_Mo 235 ⟨"ThreesAtTableModel", "part", "(Z)I"⟩ ∈ xTB := x_i6 24 rfl rfl
theorem wM_Mo_239 : Cond.methodLink xR_Mo 239 ⟨"ThreesAtTableModel", "read", "(II)I"⟩ ∈ xTB := x_i5 239 rfl rfl
theorem wM_Mo_248 : Cond.methodLink xR_Mo 248 ⟨"ThreesAtTableModel", "says", "(IIIIII)I"⟩ ∈ xTB := x_i6 91 rfl rfl
theorem wM_Mo_252 : Cond.methodLink xR_Mo 252 ⟨"ThreesAtTableModel", "sortOf", "(III)I"⟩ ∈ xTB := x_i6 95 rfl rfl
theorem wM_Mo_255 : Cond.methodLink xR_Mo 255 ⟨"ThreesAtTableModel", "know", "(II)Z"⟩ ∈ xTB := x_i6 83 rfl rfl
theorem wM_Mo_260 : Cond.methodLink xR_Mo 260 ⟨"ThreesAtTableModel", "degree", "(I)I"⟩ ∈ xTB := x_i6 79 rfl rfl
theorem wM_Mo_263 : Cond.methodLink xR_Mo 263 ⟨"ThreesAtTableModel", "gathers", "()V"⟩ ∈ xTB := x_i6 87 rfl rfl
theorem wM_Mo_266 : Cond.methodLink xR_Mo 266 ⟨"ThreesAtTableModel", "isIn", "(II)Z"⟩ ∈ xTB := x_i6 114 rfl rfl
theorem wM_Mo_269 : Cond.methodLink xR_Mo 269 ⟨"ThreesAtTableModel", "within", "(III)I"⟩ ∈ xTB := x_i6 107 rfl rfl
theorem wM_Mo_272 : Cond.methodLink xR_Mo 272 ⟨"ThreesAtTableModel", "joy", "(I)I"⟩ ∈ xTB := x_i6 103 rfl rfl
theorem wM_Mo_275 : Cond.methodLink xR_Mo 275 ⟨"ThreesAtTableModel", "threesOf", "(I)I"⟩ ∈ xTB := x_i6 110 rfl rfl
theorem wM_Mo_278 : Cond.methodLink xR_Mo 278 ⟨"ThreesAtTableModel", "meetsAll", "(I)Z"⟩ ∈ xTB := x_i6 125 rfl rfl
theorem wM_Mo_281 : Cond.methodLink xR_Mo 281 ⟨"ThreesAtTableModel", "gathersCosts", "()V"⟩ ∈ xTB := x_i6 133 rfl rfl
theorem wM_Mo_284 : Cond.methodLink xR_Mo 284 ⟨"ThreesAtTableModel", "allThrees", "(II)I"⟩ ∈ xTB := x_i6 137 rfl rfl
theorem wM_Mo_293 : Cond.methodLink xR_Mo 293 ⟨"ThreesAtTableModel", "leaves", "(IIII)V"⟩ ∈ xTB := x_i6 145 rfl rfl
theorem wM_Mo_297 : Cond.methodLink xR_Mo 297 ⟨"ThreesAtTableModel", "areAll", "(II)Z"⟩ ∈ xTB := x_i6 153 rfl rfl
theorem wM_Mo_300 : Cond.methodLink xR_Mo 300 ⟨"ThreesAtTableModel", "ring", "(IIII)I"⟩ ∈ xTB := x_i6 165 rfl rfl
theorem wM_Mo_304 : Cond.methodLink xR_Mo 304 ⟨"ThreesAtTableModel", "unseen", "()I"⟩ ∈ xTB := x_i6 181 rfl rfl
theorem wM_Mo_310 : Cond.methodLink xR_Mo 310 ⟨"ThreesAtTableModel", "waysWithout", "()I"⟩ ∈ xTB := x_i6 185 rfl rfl
theorem wM_Mo_315 : Cond.methodLink xR_Mo 315 ⟨"ThreesAtTableModel", "hasThree", "(IIII)Z"⟩ ∈ xTB := x_i6 206 rfl rfl
theorem wM_Mo_319 : Cond.methodLink xR_Mo 319 ⟨"ThreesAtTableModel", "value", "(III)I"⟩ ∈ xTB := x_i6 198 rfl rfl
theorem wM_Mo_322 : Cond.methodLink xR_Mo 322 ⟨"ThreesAtTableModel", "turn", "(IIII)I"⟩ ∈ xTB := x_i6 202 rfl rfl
theorem wM_Mo_325 : Cond.methodLink xR_Mo 325 ⟨"ThreesAtTableModel", "isSheet", "(I)Z"⟩ ∈ xTB := x_i6 214 rfl rfl
theorem wM_Mo_346 : Cond.methodLink xR_Mo 346 ⟨"ThreesAtTableModel", "meet", "(III)I"⟩ ∈ xTB := x_i7 14 rfl rfl
theorem wM_Mo_349 : Cond.methodLink xR_Mo 349 ⟨"ThreesAtTableModel", "over", "(I)I"⟩ ∈ xTB := x_i7 19 rfl rfl
theorem wM_Mo_66 : Cond.methodLink xR_Mo 66 ⟨"ThreesAtTableModel", "spell", "(IIIIIIIII)V"⟩ ∈ xTB := x_i5 23 rfl rfl
theorem wM_Mo_7 : Cond.methodLink xR_Mo 7 ⟨"java/lang/Object", "<init>", "()V"⟩ ∈ xTB := x_i5 22 rfl rfl
theorem wM_Mo_73 : Cond.methodLink xR_Mo 73 ⟨"ThreesAtTableModel", "in", "(JJJ)Z"⟩ ∈ xTB := x_i5 167 rfl rfl
theorem wM_Mo_80 : Cond.methodLink xR_Mo 80 ⟨"ThreesAtTableModel", "seat", "(II)I"⟩ ∈ xTB := x_i5 186 rfl rfl
theorem wM_Mo_84 : Cond.methodLink xR_Mo 84 ⟨"ThreesAtTableModel", "isGuest", "(I)Z"⟩ ∈ xTB := x_i5 181 rfl rfl
theorem wM_Mo_90 : Cond.methodLink xR_Mo 90 ⟨"ThreesAtTableModel", "allOf", "(I)I"⟩ ∈ xTB := x_i5 170 rfl rfl
theorem wM_Mo_94 : Cond.methodLink xR_Mo 94 ⟨"ThreesAtTableModel", "isPair", "(II)Z"⟩ ∈ xTB := x_i5 177 rfl rfl
theorem wM_Re_101 : Cond.methodLink xR_Re 101 ⟨"ThreesAtTable$Reader", "numberToken", "()I"⟩ ∈ xTB := x_i2 113 rfl rfl
theorem wM_Re_104 : Cond.methodLink xR_Re 104 ⟨"ThreesAtTable$Reader", "isSign", "(I)Z"⟩ ∈ xTB := x_i2 117 rfl rfl
theorem wM_Re_107 : Cond.methodLink xR_Re 107 ⟨"ThreesAtTable$Reader", "wordOf", "(I)Ljava/lang/String;"⟩ ∈ xTB := x_i2 88 rfl rfl
theorem wM_Re_111 : Cond.methodLink xR_Re 111 ⟨"ThreesAtTable$Reader", "spells", "(Ljava/lang/String;)Z"⟩ ∈ xTB := x_i2 104 rfl rfl
theorem wM_Re_115 : Cond.methodLink xR_Re 115 ⟨"java/lang/String", "length", "()I"⟩ ∈ xTB := x_i2 108 rfl rfl
theorem wM_Re_120 : Cond.methodLink xR_Re 120 ⟨"java/lang/String", "charAt", "(I)C"⟩ ∈ xTB := x_i2 109 rfl rfl
theorem wM_Re_30 : Cond.methodLink xR_Re 30 ⟨"java/util/Arrays", "copyOf", "([II)[I"⟩ ∈ xTB := x_i2 170 rfl rfl
theorem wM_Re_36 : Cond.methodLink xR_Re 36 ⟨"[I", "clone", "()Ljava/lang/Object;"⟩ ∈ xTB := x_i2 184 rfl rfl
theorem wM_Re_41 : Cond.methodLink xR_Re 41 ⟨"ThreesAtTable$Text", "<init>", "([I[I)V"⟩ ∈ xTB := x_i2 186 rfl rfl
theorem wM_Re_47 : Cond.methodLink xR_Re 47 ⟨"ThreesAtTable$Reader", "advance", "()V"⟩ ∈ xTB := x_i2 77 rfl rfl
theorem wM_Re_5 : Cond.methodLink xR_Re 5 ⟨"java/lang/Object", "<init>", "()V"⟩ ∈ xTB := x_i1 203 rfl rfl
theorem wM_Re_50 : Cond.methodLink xR_Re 50 ⟨"ThreesAtTable$Reader", "takes", "(I)Z"⟩ ∈ xTB := x_i2 120 rfl rfl
theorem wM_Re_54 : Cond.methodLink xR_Re 54 ⟨"ThreesAtTable$Reader", "readEither", "(I)Z"⟩ ∈ xTB := x_i2 124 rfl rfl
theorem wM_Re_63 : Cond.methodLink xR_Re 63 ⟨"ThreesAtTable$Reader", "readBoth", "(I)Z"⟩ ∈ xTB := x_i2 128 rfl rfl
theorem wM_Re_66 : Cond.methodLink xR_Re 66 ⟨"ThreesAtTable$Reader", "write", "(I)V"⟩ ∈ xTB := x_i2 156 rfl rfl
theorem wM_Re_70 : Cond.methodLink xR_Re 70 ⟨"ThreesAtTable$Reader", "readNot", "(I)Z"⟩ ∈ xTB := x_i2 132 rfl rfl
theorem wM_Re_73 : Cond.methodLink xR_Re 73 ⟨"ThreesAtTable$Reader", "readCompared", "(I)Z"⟩ ∈ xTB := x_i2 136 rfl rfl
theorem wM_Re_76 : Cond.methodLink xR_Re 76 ⟨"ThreesAtTable$Reader", "readSum", "(I)Z"⟩ ∈ xTB := x_i2 140 rfl rfl
theorem wM_Re_79 : Cond.methodLink xR_Re 79 ⟨"ThreesAtTable$Reader", "readTerm", "(I)Z"⟩ ∈ xTB := x_i2 144 rfl rfl
theorem wM_Re_82 : Cond.methodLink xR_Re 82 ⟨"ThreesAtTable$Reader", "readOne", "(I)Z"⟩ ∈ xTB := x_i2 148 rfl rfl
theorem wM_Re_85 : Cond.methodLink xR_Re 85 ⟨"ThreesAtTable$Reader", "readPlain", "(I)Z"⟩ ∈ xTB := x_i2 152 rfl rfl
theorem wM_Re_91 : Cond.methodLink xR_Re 91 ⟨"ThreesAtTable$Reader", "isLetter", "(I)Z"⟩ ∈ xTB := x_i2 81 rfl rfl
theorem wM_Re_94 : Cond.methodLink xR_Re 94 ⟨"ThreesAtTable$Reader", "wordToken", "()I"⟩ ∈ xTB := x_i2 84 rfl rfl
theorem wM_Re_98 : Cond.methodLink xR_Re 98 ⟨"ThreesAtTable$Reader", "isDigit", "(I)Z"⟩ ∈ xTB := x_i2 110 rfl rfl
theorem wM_Ru_1 : Cond.methodLink xR_Ru 1 ⟨"java/lang/Object", "<init>", "()V"⟩ ∈ xTB := x_i1 103 rfl rfl
theorem wM_Ru_28 : Cond.methodLink xR_Ru 28 ⟨"ThreesAtTable$Rule", "name", "(IIIII)V"⟩ ∈ xTB := x_i3 5 rfl rfl
theorem wM_Ru_34 : Cond.methodLink xR_Ru 34 ⟨"ThreesAtTable$Rule", "answer", "(I)I"⟩ ∈ xTB := x_i3 9 rfl rfl
theorem wM_Ru_38 : Cond.methodLink xR_Ru 38 ⟨"ThreesAtTable$Table", "look", "(I)I"⟩ ∈ xTB := x_i4 45 rfl rfl
theorem wM_Ru_43 : Cond.methodLink xR_Ru 43 ⟨"ThreesAtTable$Seats", "lower", "(I)I"⟩ ∈ xTB := x_i4 46 rfl rfl
theorem wM_Ru_48 : Cond.methodLink xR_Ru 48 ⟨"ThreesAtTable$Seats", "higher", "(I)I"⟩ ∈ xTB := x_i4 50 rfl rfl
theorem wM_Ru_51 : Cond.methodLink xR_Ru 51 ⟨"ThreesAtTable$Rule", "bounded", "(I)I"⟩ ∈ xTB := x_i3 239 rfl rfl
theorem wM_Ru_54 : Cond.methodLink xR_Ru 54 ⟨"ThreesAtTable$Table", "knownBy", "(I)I"⟩ ∈ xTB := x_i3 237 rfl rfl
theorem wM_Ru_57 : Cond.methodLink xR_Ru 57 ⟨"java/lang/Integer", "bitCount", "(I)I"⟩ ∈ xTB := x_i3 238 rfl rfl
theorem wM_Ru_62 : Cond.methodLink xR_Ru 62 ⟨"java/lang/Math", "min", "(II)I"⟩ ∈ xTB := x_i4 2 rfl rfl
theorem wM_Ru_68 : Cond.methodLink xR_Ru 68 ⟨"java/lang/Math", "max", "(II)I"⟩ ∈ xTB := x_i4 3 rfl rfl
theorem wM_Ru_78 : Cond.methodLink xR_Ru 78 ⟨"ThreesAtTable$Text", "begin", "(I)I"⟩ ∈ xTB := x_i3 13 rfl rfl
theorem wM_Ru_81 : Cond.methodLink xR_Ru 81 ⟨"ThreesAtTable$Text", "end", "(I)I"⟩ ∈ xTB := x_i3 21 rfl rfl
theorem wM_Ru_84 : Cond.methodLink xR_Ru 84 ⟨"ThreesAtTable$Text", "code", "(I)I"⟩ ∈ xTB := x_i3 22 rfl rfl
theorem wM_Ru_87 : Cond.methodLink xR_Ru 87 ⟨"ThreesAtTable$Rule", "step", "(I)V"⟩ ∈ xTB := x_i3 26 rfl rfl
theorem wM_Ru_91 : Cond.methodLink xR_Ru 91 ⟨"ThreesAtTable$Rule", "pop", "()I"⟩ ∈ xTB := x_i3 34 rfl rfl
theorem wM_Ru_95 : Cond.methodLink xR_Ru 95 ⟨"ThreesAtTable$Rule", "push", "(I)V"⟩ ∈ xTB := x_i3 30 rfl rfl
theorem wM_Ru_98 : Cond.methodLink xR_Ru 98 ⟨"ThreesAtTable$Rule", "joined", "(III)I"⟩ ∈ xTB := x_i3 38 rfl rfl
theorem wM_Se_1 : Cond.methodLink xR_Se 1 ⟨"java/lang/Object", "<init>", "()V"⟩ ∈ xTB := x_i1 35 rfl rfl
theorem wM_Se_22 : Cond.methodLink xR_Se 22 ⟨"ThreesAtTable$Seats", "pairsAmong", "(I)I"⟩ ∈ xTB := x_i1 36 rfl rfl
theorem wM_Se_26 : Cond.methodLink xR_Se 26 ⟨"java/lang/Integer", "bitCount", "(I)I"⟩ ∈ xTB := x_i1 39 rfl rfl
theorem wM_Se_31 : Cond.methodLink xR_Se 31 ⟨"ThreesAtTable$Seats", "pairOf", "(II)I"⟩ ∈ xTB := x_i1 45 rfl rfl
theorem wM_Se_35 : Cond.methodLink xR_Se 35 ⟨"java/lang/Math", "max", "(II)I"⟩ ∈ xTB := x_i1 48 rfl rfl
theorem wM_Se_40 : Cond.methodLink xR_Se 40 ⟨"java/lang/Math", "min", "(II)I"⟩ ∈ xTB := x_i1 51 rfl rfl
theorem wM_Se_43 : Cond.methodLink xR_Se 43 ⟨"ThreesAtTable$Seats", "lower", "(I)I"⟩ ∈ xTB := x_i4 116 rfl rfl
theorem wM_Se_45 : Cond.methodLink xR_Se 45 ⟨"ThreesAtTable$Seats", "higher", "(I)I"⟩ ∈ xTB := x_i4 117 rfl rfl
theorem wM_Se_47 : Cond.methodLink xR_Se 47 ⟨"ThreesAtTable$Seats", "within", "(I)I"⟩ ∈ xTB := x_i4 118 rfl rfl
theorem wM_Sg_1059 : Cond.methodLink xR_Sg 1059 ⟨"jdk/internal/util/Preconditions", "checkIndex", "(IILjava/util/function/BiFunction;)I"⟩ ∈ xTB := x_i2 47 rfl rfl
theorem wM_Sg_335 : Cond.methodLink xR_Sg 335 ⟨"java/lang/String", "coder", "()B"⟩ ∈ xTB := x_i2 25 rfl rfl
theorem wM_Sg_492 : Cond.methodLink xR_Sg 492 ⟨"java/lang/String", "isLatin1", "()Z"⟩ ∈ xTB := x_i2 35 rfl rfl
theorem wM_Sg_495 : Cond.methodLink xR_Sg 495 ⟨"java/lang/StringLatin1", "charAt", "([BI)C"⟩ ∈ xTB := x_i2 39 rfl rfl
theorem wM_Sh_1 : Cond.methodLink xR_Sh 1 ⟨"java/lang/Object", "<init>", "()V"⟩ ∈ xTB := x_i2 2 rfl rfl
theorem wM_Sh_20 : Cond.methodLink xR_Sh 20 ⟨"java/util/Arrays", "fill", "([II)V"⟩ ∈ xTB := x_i4 222 rfl rfl
theorem wM_Sl_9 : Cond.methodLink xR_Sl 9 ⟨"java/lang/String", "checkIndex", "(II)V"⟩ ∈ xTB := x_i2 42 rfl rfl
theorem wM_St_1 : Cond.methodLink xR_St 1 ⟨"java/lang/Object", "<init>", "()V"⟩ ∈ xTB := x_i1 128 rfl rfl
theorem wM_St_22 : Cond.methodLink xR_St 22 ⟨"ThreesAtTable$Seats", "threesAmong", "(I)I"⟩ ∈ xTB := x_i2 234 rfl rfl
theorem wM_St_30 : Cond.methodLink xR_St 30 ⟨"ThreesAtTable$Standing", "weighThree", "(LThreesAtTable$Rule;III)V"⟩ ∈ xTB := x_i2 237 rfl rfl
theorem wM_St_34 : Cond.methodLink xR_St 34 ⟨"ThreesAtTable$Rule", "counts", "(IIII)Z"⟩ ∈ xTB := x_i3 1 rfl rfl
theorem wM_St_40 : Cond.methodLink xR_St 40 ⟨"ThreesAtTable$Seats", "within", "(I)I"⟩ ∈ xTB := x_i3 203 rfl rfl
theorem wM_St_43 : Cond.methodLink xR_St 43 ⟨"ThreesAtTable$Seats", "three", "(I)I"⟩ ∈ xTB := x_i3 195 rfl rfl
theorem wM_St_46 : Cond.methodLink xR_St 46 ⟨"ThreesAtTable$Standing", "stands", "(III)Z"⟩ ∈ xTB := x_i3 199 rfl rfl
theorem wM_St_50 : Cond.methodLink xR_St 50 ⟨"ThreesAtTable$Seats", "lower", "(I)I"⟩ ∈ xTB := x_i4 140 rfl rfl
theorem wM_St_53 : Cond.methodLink xR_St 53 ⟨"ThreesAtTable$Seats", "higher", "(I)I"⟩ ∈ xTB := x_i4 141 rfl rfl
theorem wM_Ta_1 : Cond.methodLink xR_Ta 1 ⟨"java/lang/Object", "<init>", "()V"⟩ ∈ xTB := x_i1 73 rfl rfl
theorem wM_Ta_17 : Cond.methodLink xR_Ta 17 ⟨"ThreesAtTable$Table", "everyPair", "()I"⟩ ∈ xTB := x_i2 206 rfl rfl
theorem wM_Ta_21 : Cond.methodLink xR_Ta 21 ⟨"ThreesAtTable$Table", "layBits", "(II)V"⟩ ∈ xTB := x_i2 218 rfl rfl
theorem wM_Ta_31 : Cond.methodLink xR_Ta 31 ⟨"ThreesAtTable$Table", "everyone", "()I"⟩ ∈ xTB := x_i2 210 rfl rfl
theorem wM_Ta_34 : Cond.methodLink xR_Ta 34 ⟨"ThreesAtTable$Seats", "within", "(I)I"⟩ ∈ xTB := x_i2 214 rfl rfl
theorem wM_Ta_40 : Cond.methodLink xR_Ta 40 ⟨"ThreesAtTable$Seats", "pairOf", "(II)I"⟩ ∈ xTB := x_i3 221 rfl rfl
theorem wM_Te_1 : Cond.methodLink xR_Te 1 ⟨"java/lang/Object", "<init>", "()V"⟩ ∈ xTB := x_i2 189 rfl rfl
theorem wM_Te_16 : Cond.methodLink xR_Te 16 ⟨"ThreesAtTable$Text", "end", "(I)I"⟩ ∈ xTB := x_i3 17 rfl rfl
theorem wM_To_22 : Cond.methodLink xR_To 22 ⟨"ThreesAtTable$Town", "areUnlike", "(III)Z"⟩ ∈ xTB := x_i3 149 rfl rfl
theorem wM_To_26 : Cond.methodLink xR_To 26 ⟨"ThreesAtTable$Town", "areNextInRing", "(III)Z"⟩ ∈ xTB := x_i3 152 rfl rfl
theorem wM_To_29 : Cond.methodLink xR_To 29 ⟨"java/lang/Math", "max", "(II)I"⟩ ∈ xTB := x_i3 170 rfl rfl
theorem wM_To_3 : Cond.methodLink xR_To 3 ⟨"java/lang/Object", "<init>", "()V"⟩ ∈ xTB := x_i3 124 rfl rfl
theorem wM_Wa_25 : Cond.methodLink xR_Wa 25 ⟨"ThreesAtTable$Seats", "pairsAmong", "(I)I"⟩ ∈ xTB := x_i4 108 rfl rfl
theorem wM_Wa_3 : Cond.methodLink xR_Wa 3 ⟨"java/lang/Object", "<init>", "()V"⟩ ∈ xTB := x_i1 175 rfl rfl
theorem wM_Wa_46 : Cond.methodLink xR_Wa 46 ⟨"ThreesAtTable$Standing", "howMany", "(II)I"⟩ ∈ xTB := x_i4 131 rfl rfl
theorem wM_Wa_52 : Cond.methodLink xR_Wa 52 ⟨"ThreesAtTable$Ways", "fillFrom", "(LThreesAtTable$Ways;IIII)V"⟩ ∈ xTB := x_i4 132 rfl rfl
theorem wM_Wa_56 : Cond.methodLink xR_Wa 56 ⟨"java/lang/Math", "max", "(II)I"⟩ ∈ xTB := x_i4 135 rfl rfl
theorem wM_Wa_61 : Cond.methodLink xR_Wa 61 ⟨"ThreesAtTable$Standing", "howManyWith", "(III)I"⟩ ∈ xTB := x_i4 136 rfl rfl
theorem wM_Wa_68 : Cond.methodLink xR_Wa 68 ⟨"ThreesAtTable$Ways", "drawFrom", "(LThreesAtTable$Ways;III)V"⟩ ∈ xTB := x_i4 109 rfl rfl
theorem wM_Wa_72 : Cond.methodLink xR_Wa 72 ⟨"ThreesAtTable$Seats", "closes", "(II)Z"⟩ ∈ xTB := x_i4 112 rfl rfl
theorem wN_Ma_59 : (xR_Ma, 59, (⟨"ThreesAtTable$Reader", "<init>", "()V"⟩ : MethodName), "ThreesAtTable") ∈ x_nest := by decide +kernel
theorem wN_Ma_82 : (xR_Ma, 82, (⟨"ThreesAtTable$Sheet", "<init>", "()V"⟩ : MethodName), "ThreesAtTable") ∈ x_nest := by decide +kernel
theorem wO : Cond.instanceMethod Lib.objectInit ∈ xTB := x_i1 28 rfl rfl
theorem wP : Cond.code Lib.objectInit ⟨#[0xb1]⟩ 1 none ∈ xTB := x_i1 29 rfl rfl
theorem wQ : Cond.native arraycopyName ∈ xTB := x_i2 183 rfl rfl
theorem wR : Cond.static arraycopyName ∈ xTB := x_i2 182 rfl rfl
theorem wS : Cond.initialized "java/lang/System" ∈ xTB := x_i1 18 rfl rfl
theorem wT_Ch : Cond.initialized xR_Ch ∈ xTB := x_i1 8 rfl rfl
theorem wT_Ma : Cond.initialized xR_Ma ∈ xTB := x_i1 1 rfl rfl
theorem wT_Mo : Cond.initialized xR_Mo ∈ xTB := x_i1 19 rfl rfl
theorem wT_Mt : Cond.initialized xR_Mt ∈ xTB := x_i1 4 rfl rfl
theorem wT_Re : Cond.initialized xR_Re ∈ xTB := x_i1 10 rfl rfl
theorem wT_Ru : Cond.initialized xR_Ru ∈ xTB := x_i1 6 rfl rfl
theorem wT_Se : Cond.initialized xR_Se ∈ xTB := x_i1 2 rfl rfl
theorem wT_Sh : Cond.initialized xR_Sh ∈ xTB := x_i1 11 rfl rfl
theorem wT_St : Cond.initialized xR_St ∈ xTB := x_i1 7 rfl rfl
theorem wT_Ta : Cond.initialized xR_Ta ∈ xTB := x_i1 5 rfl rfl
theorem wT_Te : Cond.initialized xR_Te ∈ xTB := x_i1 16 rfl rfl
theorem wT_To : Cond.initialized xR_To ∈ xTB := x_i1 20 rfl rfl
theorem wT_Wa : Cond.initialized xR_Wa ∈ xTB := x_i1 9 rfl rfl
theorem wV_max : Cond.code Lib.Math.max.name Lib.Math.max.code 2 (some .int) ∈ xTB := x_i1 50 rfl rfl
theorem wV_min : Cond.code Lib.Math.min.name Lib.Math.min.code 2 (some .int) ∈ xTB := x_i1 53 rfl rfl
end
section
theorem dc_Ch_init_0 : decode M_Ch_init.2.1 0 = .ok (.aload_n 0, 1) := by decide +kernel
theorem dc_Ch_init_1 : decode M_Ch_init.2.1 1 = .ok (.invokespecial 1, 3) := by decide +kernel
theorem dc_Ch_init_4 : decode M_Ch_init.2.1 4 = .ok (.aload_n 0, 1) := by decide +kernel
theorem dc_Ch_init_5 : decode M_Ch_init.2.1 5 = .ok (.bipush 21, 2) := by decide +kernel
theorem dc_Ch_init_7 : decode M_Ch_init.2.1 7 = .ok (.newarray .int, 2) := by decide +kernel
theorem dc_Ch_init_9 : decode M_Ch_init.2.1 9 = .ok (.putfield 9, 3) := by decide +kernel
theorem dc_Ch_init_12 : decode M_Ch_init.2.1 12 = .ok (.aload_n 0, 1) := by decide +kernel
theorem dc_Ch_init_13 : decode M_Ch_init.2.1 13 = .ok (.aload_n 1, 1) := by decide +kernel
theorem dc_Ch_init_14 : decode M_Ch_init.2.1 14 = .ok (.putfield 15, 3) := by decide +kernel
theorem dc_Ch_init_17 : decode M_Ch_init.2.1 17 = .ok (.aload_n 0, 1) := by decide +kernel
theorem dc_Ch_init_18 : decode M_Ch_init.2.1 18 = .ok (.aload_n 2, 1) := by decide +kernel
theorem dc_Ch_init_19 : decode M_Ch_init.2.1 19 = .ok (.putfield 19, 3) := by decide +kernel
theorem dc_Ch_init_22 : decode M_Ch_init.2.1 22 = .ok (.return_, 1) := by decide +kernel
def f_Ch_init (a0 : Nat) (a1 : Nat) (a2 : Nat) (h : xH) : Option (Unit × xH) := gd (hK h a0 = 0) (hp (hNw h 12 21) (fun h4 => gd (hK h4 a0 = 0) (some ((), hRu (hRu (hRu h4 a0 2 (hN h)) a0 0 a1) a0 1 a2))))
theorem t_Ch_init {l : Launch} {z : xZ} {d mc ms : Nat} {Ph : Option xV → xH → Prop} {a0 : Nat} {a1 : Nat} {a2 : Nat}  {h : xH} (hd : 2 ≤ d) (hmc : 1 ≤ mc) (hms : 21 ≤ ms) (hk : OK (f_Ch_init a0 a1 a2 h) (fun q => Ph (none) q.2)) : Sx l z d mc ms M_Ch_init 0 (x_en [xR a0, xR a1, xR a2] 3) [] h Ph := by
  unfold f_Ch_init at hk
  refine sx_eq (lc2 := [some (xR a0), some (xR a1), some (xR a2)]) rfl rfl ?_
  refine sx_aload_n dc_Ch_init_0 rfl ?_
  obtain ⟨g3, hk⟩ := hk.g
  refine sx_objInit g3 (by decide) wM_Ch_1 wO wP (Nat.le_of_ble_eq_true rfl) (by omega) dc_Ch_init_1 ?_
  refine sx_aload_n dc_Ch_init_4 rfl ?_
  refine sx_bipush (v := (21 : Int32)) dc_Ch_init_5 (by decide) ?_
  refine sx_newI (N := 21) (by decide) (by decide) (by decide) wA_int dc_Ch_init_7 (by omega) (by omega) ?_
  obtain ⟨h4, eh4, hk⟩ := hk.h
  refine sx_hp eh4 ?_
  have g5 : hK h4 (hN h) = 12 := by rw [eh4]; exact (show hK (hNw h 12 21) (hN h) = 12 from if_pos rfl)
  obtain ⟨g6, hk⟩ := hk.g
  refine sx_putRF (ci := 0) (k := 2) rfl (by decide) wF_Ch_9 rfl (by rfl) rfl g6 rfl dc_Ch_init_9 ?_
  refine sx_aload_n dc_Ch_init_12 rfl ?_
  refine sx_aload_n dc_Ch_init_13 rfl ?_
  refine sx_putRF (ci := 0) (k := 0) rfl (by decide) wF_Ch_15 rfl (by rfl) rfl g6 rfl dc_Ch_init_14 ?_
  refine sx_aload_n dc_Ch_init_17 rfl ?_
  refine sx_aload_n dc_Ch_init_18 rfl ?_
  refine sx_putRF (ci := 0) (k := 1) rfl (by decide) wF_Ch_19 rfl (by rfl) rfl g6 rfl dc_Ch_init_19 ?_
  exact sx_retV dc_Ch_init_22 rfl hk.val
theorem dc_Ta_look_0 : decode M_Ta_look.2.1 0 = .ok (.aload_n 0, 1) := by decide +kernel
theorem dc_Ta_look_1 : decode M_Ta_look.2.1 1 = .ok (.getfield 25, 3) := by decide +kernel
theorem dc_Ta_look_4 : decode M_Ta_look.2.1 4 = .ok (.iload_n 1, 1) := by decide +kernel
theorem dc_Ta_look_5 : decode M_Ta_look.2.1 5 = .ok (.ishr, 1) := by decide +kernel
theorem dc_Ta_look_6 : decode M_Ta_look.2.1 6 = .ok (.iconst 1, 1) := by decide +kernel
theorem dc_Ta_look_7 : decode M_Ta_look.2.1 7 = .ok (.iand, 1) := by decide +kernel
theorem dc_Ta_look_8 : decode M_Ta_look.2.1 8 = .ok (.iconst 1, 1) := by decide +kernel
theorem dc_Ta_look_9 : decode M_Ta_look.2.1 9 = .ok (.if_icmp .ne 5, 3) := by decide +kernel
theorem dc_Ta_look_12 : decode M_Ta_look.2.1 12 = .ok (.iconst 1, 1) := by decide +kernel
theorem dc_Ta_look_13 : decode M_Ta_look.2.1 13 = .ok (.ireturn, 1) := by decide +kernel
theorem dc_Ta_look_14 : decode M_Ta_look.2.1 14 = .ok (.aload_n 0, 1) := by decide +kernel
theorem dc_Ta_look_15 : decode M_Ta_look.2.1 15 = .ok (.getfield 28, 3) := by decide +kernel
theorem dc_Ta_look_18 : decode M_Ta_look.2.1 18 = .ok (.iload_n 1, 1) := by decide +kernel
theorem dc_Ta_look_19 : decode M_Ta_look.2.1 19 = .ok (.ishr, 1) := by decide +kernel
theorem dc_Ta_look_20 : decode M_Ta_look.2.1 20 = .ok (.iconst 1, 1) := by decide +kernel
theorem dc_Ta_look_21 : decode M_Ta_look.2.1 21 = .ok (.iand, 1) := by decide +kernel
theorem dc_Ta_look_22 : decode M_Ta_look.2.1 22 = .ok (.iconst 1, 1) := by decide +kernel
theorem dc_Ta_look_23 : decode M_Ta_look.2.1 23 = .ok (.if_icmp .ne 7, 3) := by decide +kernel
theorem dc_Ta_look_26 : decode M_Ta_look.2.1 26 = .ok (.iconst 0, 1) := by decide +kernel
theorem dc_Ta_look_27 : decode M_Ta_look.2.1 27 = .ok (.goto 4, 3) := by decide +kernel
theorem dc_Ta_look_30 : decode M_Ta_look.2.1 30 = .ok (.iconst 2, 1) := by decide +kernel
theorem dc_Ta_look_31 : decode M_Ta_look.2.1 31 = .ok (.ireturn, 1) := by decide +kernel
def f_Ta_look (a0 : Nat) (a1 : Int32) (h : xH) : Option (Int32 × xH) := gd (hK h a0 = 6) (if ((jShr (hI h a0 2) a1) &&& (1 : Int32)) = (1 : Int32) then some ((1 : Int32), h) else some ((if ((jShr (hI h a0 3) a1) &&& (1 : Int32)) = (1 : Int32) then (0 : Int32) else (2 : Int32)), h))
theorem t_Ta_look {l : Launch} {z : xZ} {d mc ms : Nat} {Ph : Option xV → xH → Prop} {a0 : Nat} {a1 : Int32}  {h : xH} (hd : 1 ≤ d) (hk : OK (f_Ta_look a0 a1 h) (fun q => Ph (some (xI q.1)) q.2)) : Sx l z d mc ms M_Ta_look 0 (x_en [xR a0, xI a1] 2) [] h Ph := by
  unfold f_Ta_look at hk
  refine sx_eq (lc2 := [some (xR a0), some (xI a1)]) rfl rfl ?_
  refine sx_aload_n dc_Ta_look_0 rfl ?_
  obtain ⟨g2, hk⟩ := hk.g
  refine sx_get (ci := 6) (k := 2) rfl (by decide) wF_Ta_25 g2 dc_Ta_look_1 ?_
  refine sx_iload_n dc_Ta_look_4 rfl ?_
  refine sx_ishr dc_Ta_look_5 ?_
  refine sx_iconst (v := (1 : Int32)) dc_Ta_look_6 (by decide) ?_
  refine sx_iand dc_Ta_look_7 ?_
  refine sx_iconst (v := (1 : Int32)) dc_Ta_look_8 (by decide) ?_
  refine sx_icmp_ne (tgt := 14) dc_Ta_look_9 (by decide) (fun c3 => ?_) (fun c3 => ?_)
  · replace hk := hk.f c3
    refine sx_aload_n dc_Ta_look_14 rfl ?_
    refine sx_get (ci := 6) (k := 3) rfl (by decide) wF_Ta_28 g2 dc_Ta_look_15 ?_
    refine sx_iload_n dc_Ta_look_18 rfl ?_
    refine sx_ishr dc_Ta_look_19 ?_
    refine sx_iconst (v := (1 : Int32)) dc_Ta_look_20 (by decide) ?_
    refine sx_iand dc_Ta_look_21 ?_
    refine sx_iconst (v := (1 : Int32)) dc_Ta_look_22 (by decide) ?_
    suffices J4 : Sx l z d mc ms M_Ta_look 31 [some (xR a0), some (xI a1)] [xI (if ((jShr (hI h a0 3) a1) &&& (1 : Int32)) = (1 : Int32) then (0 : Int32) else (2 : Int32))] h Ph by
      refine sx_icmp_ne (tgt := 30) dc_Ta_look_23 (by decide) (fun c5 => ?_) (fun c5 => ?_)
      · try simp only [if_neg c5] at J4
        refine sx_iconst (v := (2 : Int32)) dc_Ta_look_30 (by decide) ?_
        exact J4
      · try simp only [if_pos c5] at J4
        refine sx_iconst (v := (0 : Int32)) dc_Ta_look_26 (by decide) ?_
        refine sx_goto (tgt := 31) dc_Ta_look_27 (by decide) ?_
        exact J4
    exact sx_retI dc_Ta_look_31 rfl hk.val
  · replace hk := hk.t c3
    refine sx_iconst (v := (1 : Int32)) dc_Ta_look_12 (by decide) ?_
    exact sx_retI dc_Ta_look_13 rfl hk.val
theorem dc_Se_lower_0 : decode M_Se_lower.2.1 0 = .ok (.iload_n 1, 1) := by decide +kernel
theorem dc_Se_lower_1 : decode M_Se_lower.2.1 1 = .ok (.ifCond .lt 18, 3) := by decide +kernel
theorem dc_Se_lower_4 : decode M_Se_lower.2.1 4 = .ok (.iload_n 1, 1) := by decide +kernel
theorem dc_Se_lower_5 : decode M_Se_lower.2.1 5 = .ok (.bipush 21, 2) := by decide +kernel
theorem dc_Se_lower_7 : decode M_Se_lower.2.1 7 = .ok (.if_icmp .ge 12, 3) := by decide +kernel
theorem dc_Se_lower_10 : decode M_Se_lower.2.1 10 = .ok (.aload_n 0, 1) := by decide +kernel
theorem dc_Se_lower_11 : decode M_Se_lower.2.1 11 = .ok (.getfield 13, 3) := by decide +kernel
theorem dc_Se_lower_14 : decode M_Se_lower.2.1 14 = .ok (.iload_n 1, 1) := by decide +kernel
theorem dc_Se_lower_15 : decode M_Se_lower.2.1 15 = .ok (.iaload, 1) := by decide +kernel
theorem dc_Se_lower_16 : decode M_Se_lower.2.1 16 = .ok (.goto 4, 3) := by decide +kernel
theorem dc_Se_lower_19 : decode M_Se_lower.2.1 19 = .ok (.iconst 0, 1) := by decide +kernel
theorem dc_Se_lower_20 : decode M_Se_lower.2.1 20 = .ok (.ireturn, 1) := by decide +kernel
def f_Se_lower (a0 : Nat) (a1 : Int32) (h : xH) : Option (Int32 × xH) := jn (fun (x4 : Int32) => some (x4, h)) (fun k5 => jn (fun (x6 : Unit) => k5 (0 : Int32)) (fun k7 => if a1 < 0 then k7 () else if (21 : Int32) ≤ a1 then k7 () else gd (hK h a0 = 3) (gd (hK h (hR h a0 1) = 12) (gd (¬ (a1 < 0 ∨ hL h (hR h a0 1) ≤ a1.toNatClampNeg)) (k5 (hI h (hR h a0 1) a1.toNatClampNeg))))))
theorem t_Se_lower {l : Launch} {z : xZ} {d mc ms : Nat} {Ph : Option xV → xH → Prop} {a0 : Nat} {a1 : Int32}  {h : xH} (hd : 1 ≤ d) (hk : OK (f_Se_lower a0 a1 h) (fun q => Ph (some (xI q.1)) q.2)) : Sx l z d mc ms M_Se_lower 0 (x_en [xR a0, xI a1] 2) [] h Ph := by
  unfold f_Se_lower at hk
  refine sx_eq (lc2 := [some (xR a0), some (xI a1)]) rfl rfl ?_
  refine sx_iload_n dc_Se_lower_0 rfl ?_
  refine hk.j (X := fun x4 => Sx l z d mc ms M_Se_lower 20 [some (xR a0), some (xI a1)] [xI x4] h Ph) (fun x4 hk => ?_) (fun k5 jk5 hk => ?_)
  · exact sx_retI dc_Se_lower_20 rfl hk.val
  · refine hk.j (X := fun x6 => Sx l z d mc ms M_Se_lower 19 [some (xR a0), some (xI a1)] [] h Ph) (fun x6 hk => ?_) (fun k7 jk7 hk => ?_)
    · refine sx_iconst (v := (0 : Int32)) dc_Se_lower_19 (by decide) ?_
      exact jk5 (0 : Int32) hk
    · refine sx_if_lt (tgt := 19) dc_Se_lower_1 (by decide) (fun c8 => ?_) (fun c8 => ?_)
      · replace hk := hk.t c8
        exact jk7 () hk
      · replace hk := hk.f c8
        refine sx_iload_n dc_Se_lower_4 rfl ?_
        refine sx_bipush (v := (21 : Int32)) dc_Se_lower_5 (by decide) ?_
        refine sx_icmp_ge (tgt := 19) dc_Se_lower_7 (by decide) (fun c9 => ?_) (fun c9 => ?_)
        · replace hk := hk.t c9
          exact jk7 () hk
        · replace hk := hk.f c9
          refine sx_aload_n dc_Se_lower_10 rfl ?_
          obtain ⟨g10, hk⟩ := hk.g
          refine sx_get (ci := 3) (k := 1) rfl (by decide) wF_Se_13 g10 dc_Se_lower_11 ?_
          refine sx_iload_n dc_Se_lower_14 rfl ?_
          obtain ⟨g11, hk⟩ := hk.g
          obtain ⟨g12, hk⟩ := hk.g
          refine sx_iald g11 g12 dc_Se_lower_15 ?_
          refine sx_goto (tgt := 20) dc_Se_lower_16 (by decide) ?_
          exact jk5 (hI h (hR h a0 1) a1.toNatClampNeg) hk
theorem dc_Se_higher_0 : decode M_Se_higher.2.1 0 = .ok (.iload_n 1, 1) := by decide +kernel
theorem dc_Se_higher_1 : decode M_Se_higher.2.1 1 = .ok (.ifCond .lt 18, 3) := by decide +kernel
theorem dc_Se_higher_4 : decode M_Se_higher.2.1 4 = .ok (.iload_n 1, 1) := by decide +kernel
theorem dc_Se_higher_5 : decode M_Se_higher.2.1 5 = .ok (.bipush 21, 2) := by decide +kernel
theorem dc_Se_higher_7 : decode M_Se_higher.2.1 7 = .ok (.if_icmp .ge 12, 3) := by decide +kernel
theorem dc_Se_higher_10 : decode M_Se_higher.2.1 10 = .ok (.aload_n 0, 1) := by decide +kernel
theorem dc_Se_higher_11 : decode M_Se_higher.2.1 11 = .ok (.getfield 16, 3) := by decide +kernel
theorem dc_Se_higher_14 : decode M_Se_higher.2.1 14 = .ok (.iload_n 1, 1) := by decide +kernel
theorem dc_Se_higher_15 : decode M_Se_higher.2.1 15 = .ok (.iaload, 1) := by decide +kernel
theorem dc_Se_higher_16 : decode M_Se_higher.2.1 16 = .ok (.goto 4, 3) := by decide +kernel
theorem dc_Se_higher_19 : decode M_Se_higher.2.1 19 = .ok (.iconst 0, 1) := by decide +kernel
theorem dc_Se_higher_20 : decode M_Se_higher.2.1 20 = .ok (.ireturn, 1) := by decide +kernel
def f_Se_higher (a0 : Nat) (a1 : Int32) (h : xH) : Option (Int32 × xH) := jn (fun (x4 : Int32) => some (x4, h)) (fun k5 => jn (fun (x6 : Unit) => k5 (0 : Int32)) (fun k7 => if a1 < 0 then k7 () else if (21 : Int32) ≤ a1 then k7 () else gd (hK h a0 = 3) (gd (hK h (hR h a0 2) = 12) (gd (¬ (a1 < 0 ∨ hL h (hR h a0 2) ≤ a1.toNatClampNeg)) (k5 (hI h (hR h a0 2) a1.toNatClampNeg))))))
theorem t_Se_higher {l : Launch} {z : xZ} {d mc ms : Nat} {Ph : Option xV → xH → Prop} {a0 : Nat} {a1 : Int32}  {h : xH} (hd : 1 ≤ d) (hk : OK (f_Se_higher a0 a1 h) (fun q => Ph (some (xI q.1)) q.2)) : Sx l z d mc ms M_Se_higher 0 (x_en [xR a0, xI a1] 2) [] h Ph := by
  unfold f_Se_higher at hk
  refine sx_eq (lc2 := [some (xR a0), some (xI a1)]) rfl rfl ?_
  refine sx_iload_n dc_Se_higher_0 rfl ?_
  refine hk.j (X := fun x4 => Sx l z d mc ms M_Se_higher 20 [some (xR a0), some (xI a1)] [xI x4] h Ph) (fun x4 hk => ?_) (fun k5 jk5 hk => ?_)
  · exact sx_retI dc_Se_higher_20 rfl hk.val
  · refine hk.j (X := fun x6 => Sx l z d mc ms M_Se_higher 19 [some (xR a0), some (xI a1)] [] h Ph) (fun x6 hk => ?_) (fun k7 jk7 hk => ?_)
    · refine sx_iconst (v := (0 : Int32)) dc_Se_higher_19 (by decide) ?_
      exact jk5 (0 : Int32) hk
    · refine sx_if_lt (tgt := 19) dc_Se_higher_1 (by decide) (fun c8 => ?_) (fun c8 => ?_)
      · replace hk := hk.t c8
        exact jk7 () hk
      · replace hk := hk.f c8
        refine sx_iload_n dc_Se_higher_4 rfl ?_
        refine sx_bipush (v := (21 : Int32)) dc_Se_higher_5 (by decide) ?_
        refine sx_icmp_ge (tgt := 19) dc_Se_higher_7 (by decide) (fun c9 => ?_) (fun c9 => ?_)
        · replace hk := hk.t c9
          exact jk7 () hk
        · replace hk := hk.f c9
          refine sx_aload_n dc_Se_higher_10 rfl ?_
          obtain ⟨g10, hk⟩ := hk.g
          refine sx_get (ci := 3) (k := 2) rfl (by decide) wF_Se_16 g10 dc_Se_higher_11 ?_
          refine sx_iload_n dc_Se_higher_14 rfl ?_
          obtain ⟨g11, hk⟩ := hk.g
          obtain ⟨g12, hk⟩ := hk.g
          refine sx_iald g11 g12 dc_Se_higher_15 ?_
          refine sx_goto (tgt := 20) dc_Se_higher_16 (by decide) ?_
          exact jk5 (hI h (hR h a0 2) a1.toNatClampNeg) hk
theorem dc_Ru_name_0 : decode M_Ru_name.2.1 0 = .ok (.aload_n 0, 1) := by decide +kernel
theorem dc_Ru_name_1 : decode M_Ru_name.2.1 1 = .ok (.getfield 9, 3) := by decide +kernel
theorem dc_Ru_name_4 : decode M_Ru_name.2.1 4 = .ok (.iconst 0, 1) := by decide +kernel
theorem dc_Ru_name_5 : decode M_Ru_name.2.1 5 = .ok (.iload_n 1, 1) := by decide +kernel
theorem dc_Ru_name_6 : decode M_Ru_name.2.1 6 = .ok (.iastore, 1) := by decide +kernel
theorem dc_Ru_name_7 : decode M_Ru_name.2.1 7 = .ok (.aload_n 0, 1) := by decide +kernel
theorem dc_Ru_name_8 : decode M_Ru_name.2.1 8 = .ok (.getfield 9, 3) := by decide +kernel
theorem dc_Ru_name_11 : decode M_Ru_name.2.1 11 = .ok (.iconst 1, 1) := by decide +kernel
theorem dc_Ru_name_12 : decode M_Ru_name.2.1 12 = .ok (.iload_n 2, 1) := by decide +kernel
theorem dc_Ru_name_13 : decode M_Ru_name.2.1 13 = .ok (.iastore, 1) := by decide +kernel
theorem dc_Ru_name_14 : decode M_Ru_name.2.1 14 = .ok (.aload_n 0, 1) := by decide +kernel
theorem dc_Ru_name_15 : decode M_Ru_name.2.1 15 = .ok (.getfield 9, 3) := by decide +kernel
theorem dc_Ru_name_18 : decode M_Ru_name.2.1 18 = .ok (.iconst 2, 1) := by decide +kernel
theorem dc_Ru_name_19 : decode M_Ru_name.2.1 19 = .ok (.iload_n 3, 1) := by decide +kernel
theorem dc_Ru_name_20 : decode M_Ru_name.2.1 20 = .ok (.iastore, 1) := by decide +kernel
theorem dc_Ru_name_21 : decode M_Ru_name.2.1 21 = .ok (.aload_n 0, 1) := by decide +kernel
theorem dc_Ru_name_22 : decode M_Ru_name.2.1 22 = .ok (.getfield 9, 3) := by decide +kernel
theorem dc_Ru_name_25 : decode M_Ru_name.2.1 25 = .ok (.iconst 3, 1) := by decide +kernel
theorem dc_Ru_name_26 : decode M_Ru_name.2.1 26 = .ok (.iload 4, 2) := by decide +kernel
theorem dc_Ru_name_28 : decode M_Ru_name.2.1 28 = .ok (.iastore, 1) := by decide +kernel
theorem dc_Ru_name_29 : decode M_Ru_name.2.1 29 = .ok (.aload_n 0, 1) := by decide +kernel
theorem dc_Ru_name_30 : decode M_Ru_name.2.1 30 = .ok (.getfield 9, 3) := by decide +kernel
theorem dc_Ru_name_33 : decode M_Ru_name.2.1 33 = .ok (.iconst 4, 1) := by decide +kernel
theorem dc_Ru_name_34 : decode M_Ru_name.2.1 34 = .ok (.iload 5, 2) := by decide +kernel
theorem dc_Ru_name_36 : decode M_Ru_name.2.1 36 = .ok (.iastore, 1) := by decide +kernel
theorem dc_Ru_name_37 : decode M_Ru_name.2.1 37 = .ok (.aload_n 0, 1) := by decide +kernel
theorem dc_Ru_name_38 : decode M_Ru_name.2.1 38 = .ok (.getfield 9, 3) := by decide +kernel
theorem dc_Ru_name_41 : decode M_Ru_name.2.1 41 = .ok (.iconst 5, 1) := by decide +kernel
theorem dc_Ru_name_42 : decode M_Ru_name.2.1 42 = .ok (.aload_n 0, 1) := by decide +kernel
theorem dc_Ru_name_43 : decode M_Ru_name.2.1 43 = .ok (.getfield 20, 3) := by decide +kernel
theorem dc_Ru_name_46 : decode M_Ru_name.2.1 46 = .ok (.getfield 71, 3) := by decide +kernel
theorem dc_Ru_name_49 : decode M_Ru_name.2.1 49 = .ok (.iastore, 1) := by decide +kernel
theorem dc_Ru_name_50 : decode M_Ru_name.2.1 50 = .ok (.return_, 1) := by decide +kernel
def f_Ru_name (a0 : Nat) (a1 : Int32) (a2 : Int32) (a3 : Int32) (a4 : Int32) (a5 : Int32) (h : xH) : Option (Unit × xH) := gd (hK h a0 = 2) (gd (hK h (hR h a0 2) = 12) (gd (¬ ((0 : Int32) < 0 ∨ hL h (hR h a0 2) ≤ (0 : Int32).toNatClampNeg)) (gd (¬ ((1 : Int32) < 0 ∨ hL h (hR h a0 2) ≤ (1 : Int32).toNatClampNeg)) (gd (¬ ((2 : Int32) < 0 ∨ hL h (hR h a0 2) ≤ (2 : Int32).toNatClampNeg)) (gd (¬ ((3 : Int32) < 0 ∨ hL h (hR h a0 2) ≤ (3 : Int32).toNatClampNeg)) (hp (hIu (hIu (hIu (hIu h (hR h a0 2) (0 : Int32).toNatClampNeg a1) (hR h a0 2) (1 : Int32).toNatClampNeg a2) (hR h a0 2) (2 : Int32).toNatClampNeg a3) (hR h a0 2) (3 : Int32).toNatClampNeg a4) (fun h16 => gd (hK h16 (hR h16 a0 2) = 12) (gd (¬ ((4 : Int32) < 0 ∨ hL h16 (hR h16 a0 2) ≤ (4 : Int32).toNatClampNeg)) (gd (hK h16 (hR h16 a0 1) = 6) (gd (¬ ((5 : Int32) < 0 ∨ hL h16 (hR h16 a0 2) ≤ (5 : Int32).toNatClampNeg)) (hp (hIu (hIu h16 (hR h16 a0 2) (4 : Int32).toNatClampNeg a5) (hR h16 a0 2) (5 : Int32).toNatClampNeg (hI (hIu h16 (hR h16 a0 2) (4 : Int32).toNatClampNeg a5) (hR h16 a0 1) 1)) (fun h23 => some ((), h23)))))))))))))
theorem t_Ru_name {l : Launch} {z : xZ} {d mc ms : Nat} {Ph : Option xV → xH → Prop} {a0 : Nat} {a1 : Int32} {a2 : Int32} {a3 : Int32} {a4 : Int32} {a5 : Int32}  {h : xH} (hd : 1 ≤ d) (hk : OK (f_Ru_name a0 a1 a2 a3 a4 a5 h) (fun q => Ph (none) q.2)) : Sx l z d mc ms M_Ru_name 0 (x_en [xR a0, xI a1, xI a2, xI a3, xI a4, xI a5] 6) [] h Ph := by
  unfold f_Ru_name at hk
  refine sx_eq (lc2 := [some (xR a0), some (xI a1), some (xI a2), some (xI a3), some (xI a4), some (xI a5)]) rfl rfl ?_
  refine sx_aload_n dc_Ru_name_0 rfl ?_
  obtain ⟨g10, hk⟩ := hk.g
  refine sx_get (ci := 2) (k := 2) rfl (by decide) wF_Ru_9 g10 dc_Ru_name_1 ?_
  refine sx_iconst (v := (0 : Int32)) dc_Ru_name_4 (by decide) ?_
  refine sx_iload_n dc_Ru_name_5 rfl ?_
  obtain ⟨g11, hk⟩ := hk.g
  obtain ⟨g12, hk⟩ := hk.g
  refine sx_iast g11 g12 dc_Ru_name_6 ?_
  refine sx_aload_n dc_Ru_name_7 rfl ?_
  refine sx_get (ci := 2) (k := 2) rfl (by decide) wF_Ru_9 g10 dc_Ru_name_8 ?_
  refine sx_iconst (v := (1 : Int32)) dc_Ru_name_11 (by decide) ?_
  refine sx_iload_n dc_Ru_name_12 rfl ?_
  obtain ⟨g13, hk⟩ := hk.g
  refine sx_iast g11 g13 dc_Ru_name_13 ?_
  refine sx_aload_n dc_Ru_name_14 rfl ?_
  refine sx_get (ci := 2) (k := 2) rfl (by decide) wF_Ru_9 g10 dc_Ru_name_15 ?_
  refine sx_iconst (v := (2 : Int32)) dc_Ru_name_18 (by decide) ?_
  refine sx_iload_n dc_Ru_name_19 rfl ?_
  obtain ⟨g14, hk⟩ := hk.g
  refine sx_iast g11 g14 dc_Ru_name_20 ?_
  refine sx_aload_n dc_Ru_name_21 rfl ?_
  refine sx_get (ci := 2) (k := 2) rfl (by decide) wF_Ru_9 g10 dc_Ru_name_22 ?_
  refine sx_iconst (v := (3 : Int32)) dc_Ru_name_25 (by decide) ?_
  refine sx_iload dc_Ru_name_26 rfl ?_
  obtain ⟨g15, hk⟩ := hk.g
  refine sx_iast g11 g15 dc_Ru_name_28 ?_
  obtain ⟨h16, eh16, hk⟩ := hk.h
  refine sx_hp eh16 ?_
  have g17 : hK h16 a0 = 2 := by rw [eh16]; exact g10
  have g18 : hK h16 (hR h a0 2) = 12 := by rw [eh16]; exact g11
  refine sx_aload_n dc_Ru_name_29 rfl ?_
  refine sx_get (ci := 2) (k := 2) rfl (by decide) wF_Ru_9 g17 dc_Ru_name_30 ?_
  refine sx_iconst (v := (4 : Int32)) dc_Ru_name_33 (by decide) ?_
  refine sx_iload dc_Ru_name_34 rfl ?_
  obtain ⟨g19, hk⟩ := hk.g
  obtain ⟨g20, hk⟩ := hk.g
  refine sx_iast g19 g20 dc_Ru_name_36 ?_
  refine sx_aload_n dc_Ru_name_37 rfl ?_
  refine sx_get (ci := 2) (k := 2) rfl (by decide) wF_Ru_9 g17 dc_Ru_name_38 ?_
  refine sx_iconst (v := (5 : Int32)) dc_Ru_name_41 (by decide) ?_
  refine sx_aload_n dc_Ru_name_42 rfl ?_
  refine sx_get (ci := 2) (k := 1) rfl (by decide) wF_Ru_20 g17 dc_Ru_name_43 ?_
  obtain ⟨g21, hk⟩ := hk.g
  refine sx_get (ci := 6) (k := 1) rfl (by decide) wF_Ru_71 g21 dc_Ru_name_46 ?_
  obtain ⟨g22, hk⟩ := hk.g
  refine sx_iast g19 g22 dc_Ru_name_49 ?_
  obtain ⟨h23, eh23, hk⟩ := hk.h
  refine sx_hp eh23 ?_
  have g24 : hK h23 a0 = 2 := by rw [eh23]; exact g17
  have g25 : hK h23 (hR h a0 2) = 12 := by rw [eh23]; exact g18
  have g26 : hK h23 (hR h16 a0 2) = 12 := by rw [eh23]; exact g19
  have g27 : hK h23 (hR h16 a0 1) = 6 := by rw [eh23]; exact g21
  exact sx_retV dc_Ru_name_50 rfl hk.val
theorem dc_Te_end_0 : decode M_Te_end.2.1 0 = .ok (.iload_n 1, 1) := by decide +kernel
theorem dc_Te_end_1 : decode M_Te_end.2.1 1 = .ok (.ifCond .lt 21, 3) := by decide +kernel
theorem dc_Te_end_4 : decode M_Te_end.2.1 4 = .ok (.iload_n 1, 1) := by decide +kernel
theorem dc_Te_end_5 : decode M_Te_end.2.1 5 = .ok (.aload_n 0, 1) := by decide +kernel
theorem dc_Te_end_6 : decode M_Te_end.2.1 6 = .ok (.getfield 13, 3) := by decide +kernel
theorem dc_Te_end_9 : decode M_Te_end.2.1 9 = .ok (.arraylength, 1) := by decide +kernel
theorem dc_Te_end_10 : decode M_Te_end.2.1 10 = .ok (.if_icmp .ge 12, 3) := by decide +kernel
theorem dc_Te_end_13 : decode M_Te_end.2.1 13 = .ok (.aload_n 0, 1) := by decide +kernel
theorem dc_Te_end_14 : decode M_Te_end.2.1 14 = .ok (.getfield 13, 3) := by decide +kernel
theorem dc_Te_end_17 : decode M_Te_end.2.1 17 = .ok (.iload_n 1, 1) := by decide +kernel
theorem dc_Te_end_18 : decode M_Te_end.2.1 18 = .ok (.iaload, 1) := by decide +kernel
theorem dc_Te_end_19 : decode M_Te_end.2.1 19 = .ok (.goto 4, 3) := by decide +kernel
theorem dc_Te_end_22 : decode M_Te_end.2.1 22 = .ok (.iconst 0, 1) := by decide +kernel
theorem dc_Te_end_23 : decode M_Te_end.2.1 23 = .ok (.ireturn, 1) := by decide +kernel
def f_Te_end (a0 : Nat) (a1 : Int32) (h : xH) : Option (Int32 × xH) := jn (fun (x4 : Int32) => some (x4, h)) (fun k5 => jn (fun (x6 : Unit) => k5 (0 : Int32)) (fun k7 => if a1 < 0 then k7 () else gd (hK h a0 = 7) (gd (hK h (hR h a0 1) = 12) (if (Int32.ofNat (hL h (hR h a0 1))) ≤ a1 then k7 () else gd (¬ (a1 < 0 ∨ hL h (hR h a0 1) ≤ a1.toNatClampNeg)) (k5 (hI h (hR h a0 1) a1.toNatClampNeg))))))
theorem t_Te_end {l : Launch} {z : xZ} {d mc ms : Nat} {Ph : Option xV → xH → Prop} {a0 : Nat} {a1 : Int32}  {h : xH} (hd : 1 ≤ d) (hk : OK (f_Te_end a0 a1 h) (fun q => Ph (some (xI q.1)) q.2)) : Sx l z d mc ms M_Te_end 0 (x_en [xR a0, xI a1] 2) [] h Ph := by
  unfold f_Te_end at hk
  refine sx_eq (lc2 := [some (xR a0), some (xI a1)]) rfl rfl ?_
  refine sx_iload_n dc_Te_end_0 rfl ?_
  refine hk.j (X := fun x4 => Sx l z d mc ms M_Te_end 23 [some (xR a0), some (xI a1)] [xI x4] h Ph) (fun x4 hk => ?_) (fun k5 jk5 hk => ?_)
  · exact sx_retI dc_Te_end_23 rfl hk.val
  · refine hk.j (X := fun x6 => Sx l z d mc ms M_Te_end 22 [some (xR a0), some (xI a1)] [] h Ph) (fun x6 hk => ?_) (fun k7 jk7 hk => ?_)
    · refine sx_iconst (v := (0 : Int32)) dc_Te_end_22 (by decide) ?_
      exact jk5 (0 : Int32) hk
    · refine sx_if_lt (tgt := 22) dc_Te_end_1 (by decide) (fun c8 => ?_) (fun c8 => ?_)
      · replace hk := hk.t c8
        exact jk7 () hk
      · replace hk := hk.f c8
        refine sx_iload_n dc_Te_end_4 rfl ?_
        refine sx_aload_n dc_Te_end_5 rfl ?_
        obtain ⟨g9, hk⟩ := hk.g
        refine sx_get (ci := 7) (k := 1) rfl (by decide) wF_Te_13 g9 dc_Te_end_6 ?_
        obtain ⟨g10, hk⟩ := hk.g
        refine sx_alen g10 (by decide) dc_Te_end_9 ?_
        refine sx_icmp_ge (tgt := 22) dc_Te_end_10 (by decide) (fun c11 => ?_) (fun c11 => ?_)
        · replace hk := hk.t c11
          exact jk7 () hk
        · replace hk := hk.f c11
          refine sx_aload_n dc_Te_end_13 rfl ?_
          refine sx_get (ci := 7) (k := 1) rfl (by decide) wF_Te_13 g9 dc_Te_end_14 ?_
          refine sx_iload_n dc_Te_end_17 rfl ?_
          obtain ⟨g12, hk⟩ := hk.g
          refine sx_iald g10 g12 dc_Te_end_18 ?_
          refine sx_goto (tgt := 23) dc_Te_end_19 (by decide) ?_
          exact jk5 (hI h (hR h a0 1) a1.toNatClampNeg) hk
theorem dc_Te_begin_0 : decode M_Te_begin.2.1 0 = .ok (.iload_n 1, 1) := by decide +kernel
theorem dc_Te_begin_1 : decode M_Te_begin.2.1 1 = .ok (.ifCond .le 13, 3) := by decide +kernel
theorem dc_Te_begin_4 : decode M_Te_begin.2.1 4 = .ok (.aload_n 0, 1) := by decide +kernel
theorem dc_Te_begin_5 : decode M_Te_begin.2.1 5 = .ok (.iload_n 1, 1) := by decide +kernel
theorem dc_Te_begin_6 : decode M_Te_begin.2.1 6 = .ok (.iconst 1, 1) := by decide +kernel
theorem dc_Te_begin_7 : decode M_Te_begin.2.1 7 = .ok (.isub, 1) := by decide +kernel
theorem dc_Te_begin_8 : decode M_Te_begin.2.1 8 = .ok (.invokevirtual 16, 3) := by decide +kernel
theorem dc_Te_begin_11 : decode M_Te_begin.2.1 11 = .ok (.goto 4, 3) := by decide +kernel
theorem dc_Te_begin_14 : decode M_Te_begin.2.1 14 = .ok (.iconst 0, 1) := by decide +kernel
theorem dc_Te_begin_15 : decode M_Te_begin.2.1 15 = .ok (.ireturn, 1) := by decide +kernel
def f_Te_begin (a0 : Nat) (a1 : Int32) (h : xH) : Option (Int32 × xH) := jn (fun (x3 : Int32 × xH) => some (x3.1, x3.2)) (fun k4 => if a1 ≤ 0 then k4 ((0 : Int32), h) else gd (hK h a0 = 7) (Option.bind (f_Te_end a0 (a1 - (1 : Int32)) h) (fun q6 => k4 (q6.1, q6.2))))
theorem t_Te_begin {l : Launch} {z : xZ} {d mc ms : Nat} {Ph : Option xV → xH → Prop} {a0 : Nat} {a1 : Int32}  {h : xH} (hd : 2 ≤ d) (hk : OK (f_Te_begin a0 a1 h) (fun q => Ph (some (xI q.1)) q.2)) : Sx l z d mc ms M_Te_begin 0 (x_en [xR a0, xI a1] 2) [] h Ph := by
  unfold f_Te_begin at hk
  refine sx_eq (lc2 := [some (xR a0), some (xI a1)]) rfl rfl ?_
  refine sx_iload_n dc_Te_begin_0 rfl ?_
  refine hk.j (X := fun x3 => Sx l z d mc ms M_Te_begin 15 [some (xR a0), some (xI a1)] [xI x3.1] x3.2 Ph) (fun x3 hk => ?_) (fun k4 jk4 hk => ?_)
  · exact sx_retI dc_Te_begin_15 rfl hk.val
  · refine sx_if_le (tgt := 14) dc_Te_begin_1 (by decide) (fun c5 => ?_) (fun c5 => ?_)
    · replace hk := hk.t c5
      refine sx_iconst (v := (0 : Int32)) dc_Te_begin_14 (by decide) ?_
      exact jk4 ((0 : Int32), h) hk
    · replace hk := hk.f c5
      refine sx_aload_n dc_Te_begin_4 rfl ?_
      refine sx_iload_n dc_Te_begin_5 rfl ?_
      refine sx_iconst (v := (1 : Int32)) dc_Te_begin_6 (by decide) ?_
      refine sx_isub dc_Te_begin_7 ?_
      obtain ⟨g7, hk⟩ := hk.g
      obtain ⟨q6, eq6, hk⟩ := hk.bind
      refine sx_callV (d2 := d - 1) (mc2 := 0) (ms2 := 0) (as := [xI (a1 - (1 : Int32))]) mk_Te_end rfl (x_rk (ci := 7) g7 rfl rfl) wM_Te_16 mi_Te_end me_Te_end rfl (Nat.le_of_ble_eq_true rfl) (Nat.le_of_ble_eq_true rfl) dc_Te_begin_8 (by omega) (Nat.zero_le _) (Nat.zero_le _) ?_
      refine t_Te_end (by omega) ⟨q6, eq6, ?_⟩
      refine sx_eq0 (lc2 := [some (xR a0), some (xI a1)]) (st2 := [xI q6.1]) rfl rfl ?_
      refine sx_goto (tgt := 15) dc_Te_begin_11 (by decide) ?_
      exact jk4 (q6.1, q6.2) hk
theorem dc_Te_code_0 : decode M_Te_code.2.1 0 = .ok (.iload_n 1, 1) := by decide +kernel
theorem dc_Te_code_1 : decode M_Te_code.2.1 1 = .ok (.ifCond .lt 21, 3) := by decide +kernel
theorem dc_Te_code_4 : decode M_Te_code.2.1 4 = .ok (.iload_n 1, 1) := by decide +kernel
theorem dc_Te_code_5 : decode M_Te_code.2.1 5 = .ok (.aload_n 0, 1) := by decide +kernel
theorem dc_Te_code_6 : decode M_Te_code.2.1 6 = .ok (.getfield 7, 3) := by decide +kernel
theorem dc_Te_code_9 : decode M_Te_code.2.1 9 = .ok (.arraylength, 1) := by decide +kernel
theorem dc_Te_code_10 : decode M_Te_code.2.1 10 = .ok (.if_icmp .ge 12, 3) := by decide +kernel
theorem dc_Te_code_13 : decode M_Te_code.2.1 13 = .ok (.aload_n 0, 1) := by decide +kernel
theorem dc_Te_code_14 : decode M_Te_code.2.1 14 = .ok (.getfield 7, 3) := by decide +kernel
theorem dc_Te_code_17 : decode M_Te_code.2.1 17 = .ok (.iload_n 1, 1) := by decide +kernel
theorem dc_Te_code_18 : decode M_Te_code.2.1 18 = .ok (.iaload, 1) := by decide +kernel
theorem dc_Te_code_19 : decode M_Te_code.2.1 19 = .ok (.goto 4, 3) := by decide +kernel
theorem dc_Te_code_22 : decode M_Te_code.2.1 22 = .ok (.iconst 0, 1) := by decide +kernel
theorem dc_Te_code_23 : decode M_Te_code.2.1 23 = .ok (.ireturn, 1) := by decide +kernel
def f_Te_code (a0 : Nat) (a1 : Int32) (h : xH) : Option (Int32 × xH) := jn (fun (x4 : Int32) => some (x4, h)) (fun k5 => jn (fun (x6 : Unit) => k5 (0 : Int32)) (fun k7 => if a1 < 0 then k7 () else gd (hK h a0 = 7) (gd (hK h (hR h a0 0) = 12) (if (Int32.ofNat (hL h (hR h a0 0))) ≤ a1 then k7 () else gd (¬ (a1 < 0 ∨ hL h (hR h a0 0) ≤ a1.toNatClampNeg)) (k5 (hI h (hR h a0 0) a1.toNatClampNeg))))))
theorem t_Te_code {l : Launch} {z : xZ} {d mc ms : Nat} {Ph : Option xV → xH → Prop} {a0 : Nat} {a1 : Int32}  {h : xH} (hd : 1 ≤ d) (hk : OK (f_Te_code a0 a1 h) (fun q => Ph (some (xI q.1)) q.2)) : Sx l z d mc ms M_Te_code 0 (x_en [xR a0, xI a1] 2) [] h Ph := by
  unfold f_Te_code at hk
  refine sx_eq (lc2 := [some (xR a0), some (xI a1)]) rfl rfl ?_
  refine sx_iload_n dc_Te_code_0 rfl ?_
  refine hk.j (X := fun x4 => Sx l z d mc ms M_Te_code 23 [some (xR a0), some (xI a1)] [xI x4] h Ph) (fun x4 hk => ?_) (fun k5 jk5 hk => ?_)
  · exact sx_retI dc_Te_code_23 rfl hk.val
  · refine hk.j (X := fun x6 => Sx l z d mc ms M_Te_code 22 [some (xR a0), some (xI a1)] [] h Ph) (fun x6 hk => ?_) (fun k7 jk7 hk => ?_)
    · refine sx_iconst (v := (0 : Int32)) dc_Te_code_22 (by decide) ?_
      exact jk5 (0 : Int32) hk
    · refine sx_if_lt (tgt := 22) dc_Te_code_1 (by decide) (fun c8 => ?_) (fun c8 => ?_)
      · replace hk := hk.t c8
        exact jk7 () hk
      · replace hk := hk.f c8
        refine sx_iload_n dc_Te_code_4 rfl ?_
        refine sx_aload_n dc_Te_code_5 rfl ?_
        obtain ⟨g9, hk⟩ := hk.g
        refine sx_get (ci := 7) (k := 0) rfl (by decide) wF_Te_7 g9 dc_Te_code_6 ?_
        obtain ⟨g10, hk⟩ := hk.g
        refine sx_alen g10 (by decide) dc_Te_code_9 ?_
        refine sx_icmp_ge (tgt := 22) dc_Te_code_10 (by decide) (fun c11 => ?_) (fun c11 => ?_)
        · replace hk := hk.t c11
          exact jk7 () hk
        · replace hk := hk.f c11
          refine sx_aload_n dc_Te_code_13 rfl ?_
          refine sx_get (ci := 7) (k := 0) rfl (by decide) wF_Te_7 g9 dc_Te_code_14 ?_
          refine sx_iload_n dc_Te_code_17 rfl ?_
          obtain ⟨g12, hk⟩ := hk.g
          refine sx_iald g10 g12 dc_Te_code_18 ?_
          refine sx_goto (tgt := 23) dc_Te_code_19 (by decide) ?_
          exact jk5 (hI h (hR h a0 0) a1.toNatClampNeg) hk
theorem dc_Ru_push_0 : decode M_Ru_push.2.1 0 = .ok (.aload_n 0, 1) := by decide +kernel
theorem dc_Ru_push_1 : decode M_Ru_push.2.1 1 = .ok (.getfield 75, 3) := by decide +kernel
theorem dc_Ru_push_4 : decode M_Ru_push.2.1 4 = .ok (.ifCond .lt 29, 3) := by decide +kernel
theorem dc_Ru_push_7 : decode M_Ru_push.2.1 7 = .ok (.aload_n 0, 1) := by decide +kernel
theorem dc_Ru_push_8 : decode M_Ru_push.2.1 8 = .ok (.getfield 75, 3) := by decide +kernel
theorem dc_Ru_push_11 : decode M_Ru_push.2.1 11 = .ok (.bipush 40, 2) := by decide +kernel
theorem dc_Ru_push_13 : decode M_Ru_push.2.1 13 = .ok (.if_icmp .ge 20, 3) := by decide +kernel
theorem dc_Ru_push_16 : decode M_Ru_push.2.1 16 = .ok (.aload_n 0, 1) := by decide +kernel
theorem dc_Ru_push_17 : decode M_Ru_push.2.1 17 = .ok (.getfield 13, 3) := by decide +kernel
theorem dc_Ru_push_20 : decode M_Ru_push.2.1 20 = .ok (.aload_n 0, 1) := by decide +kernel
theorem dc_Ru_push_21 : decode M_Ru_push.2.1 21 = .ok (.dup, 1) := by decide +kernel
theorem dc_Ru_push_22 : decode M_Ru_push.2.1 22 = .ok (.getfield 75, 3) := by decide +kernel
theorem dc_Ru_push_25 : decode M_Ru_push.2.1 25 = .ok (.dup_x1, 1) := by decide +kernel
theorem dc_Ru_push_26 : decode M_Ru_push.2.1 26 = .ok (.iconst 1, 1) := by decide +kernel
theorem dc_Ru_push_27 : decode M_Ru_push.2.1 27 = .ok (.iadd, 1) := by decide +kernel
theorem dc_Ru_push_28 : decode M_Ru_push.2.1 28 = .ok (.putfield 75, 3) := by decide +kernel
theorem dc_Ru_push_31 : decode M_Ru_push.2.1 31 = .ok (.iload_n 1, 1) := by decide +kernel
theorem dc_Ru_push_32 : decode M_Ru_push.2.1 32 = .ok (.iastore, 1) := by decide +kernel
theorem dc_Ru_push_33 : decode M_Ru_push.2.1 33 = .ok (.return_, 1) := by decide +kernel
def f_Ru_push (a0 : Nat) (a1 : Int32) (h : xH) : Option (Unit × xH) := gd (hK h a0 = 2) (jn (fun (x5 : xH) => some ((), x5)) (fun k6 => if (hI h a0 4) < 0 then k6 h else if (40 : Int32) ≤ (hI h a0 4) then k6 h else gd (hK h (hR h a0 3) = 12) (gd (¬ ((hI h a0 4) < 0 ∨ hL h (hR h a0 3) ≤ (hI h a0 4).toNatClampNeg)) (k6 (hIu (hIu h a0 4 ((hI h a0 4) + (1 : Int32))) (hR h a0 3) (hI h a0 4).toNatClampNeg a1)))))
theorem t_Ru_push {l : Launch} {z : xZ} {d mc ms : Nat} {Ph : Option xV → xH → Prop} {a0 : Nat} {a1 : Int32}  {h : xH} (hd : 1 ≤ d) (hk : OK (f_Ru_push a0 a1 h) (fun q => Ph (none) q.2)) : Sx l z d mc ms M_Ru_push 0 (x_en [xR a0, xI a1] 2) [] h Ph := by
  unfold f_Ru_push at hk
  refine sx_eq (lc2 := [some (xR a0), some (xI a1)]) rfl rfl ?_
  refine sx_aload_n dc_Ru_push_0 rfl ?_
  obtain ⟨g4, hk⟩ := hk.g
  refine sx_get (ci := 2) (k := 4) rfl (by decide) wF_Ru_75 g4 dc_Ru_push_1 ?_
  refine hk.j (X := fun x5 => Sx l z d mc ms M_Ru_push 33 [some (xR a0), some (xI a1)] [] x5 Ph) (fun x5 hk => ?_) (fun k6 jk6 hk => ?_)
  · exact sx_retV dc_Ru_push_33 rfl hk.val
  · refine sx_if_lt (tgt := 33) dc_Ru_push_4 (by decide) (fun c7 => ?_) (fun c7 => ?_)
    · replace hk := hk.t c7
      exact jk6 h hk
    · replace hk := hk.f c7
      refine sx_aload_n dc_Ru_push_7 rfl ?_
      refine sx_get (ci := 2) (k := 4) rfl (by decide) wF_Ru_75 g4 dc_Ru_push_8 ?_
      refine sx_bipush (v := (40 : Int32)) dc_Ru_push_11 (by decide) ?_
      refine sx_icmp_ge (tgt := 33) dc_Ru_push_13 (by decide) (fun c8 => ?_) (fun c8 => ?_)
      · replace hk := hk.t c8
        exact jk6 h hk
      · replace hk := hk.f c8
        refine sx_aload_n dc_Ru_push_16 rfl ?_
        refine sx_get (ci := 2) (k := 3) rfl (by decide) wF_Ru_13 g4 dc_Ru_push_17 ?_
        refine sx_aload_n dc_Ru_push_20 rfl ?_
        refine sx_dup dc_Ru_push_21 rfl ?_
        refine sx_get (ci := 2) (k := 4) rfl (by decide) wF_Ru_75 g4 dc_Ru_push_22 ?_
        refine sx_dup_x1 dc_Ru_push_25 rfl rfl ?_
        refine sx_iconst (v := (1 : Int32)) dc_Ru_push_26 (by decide) ?_
        refine sx_iadd dc_Ru_push_27 ?_
        refine sx_putI (ci := 2) (k := 4) rfl (by decide) wF_Ru_75 rfl g4 (Or.inl rfl) dc_Ru_push_28 ?_
        refine sx_iload_n dc_Ru_push_31 rfl ?_
        obtain ⟨g9, hk⟩ := hk.g
        obtain ⟨g10, hk⟩ := hk.g
        refine sx_iast g9 g10 dc_Ru_push_32 ?_
        exact jk6 (hIu (hIu h a0 4 ((hI h a0 4) + (1 : Int32))) (hR h a0 3) (hI h a0 4).toNatClampNeg a1) hk
theorem dc_Ru_pop_0 : decode M_Ru_pop.2.1 0 = .ok (.aload_n 0, 1) := by decide +kernel
theorem dc_Ru_pop_1 : decode M_Ru_pop.2.1 1 = .ok (.getfield 75, 3) := by decide +kernel
theorem dc_Ru_pop_4 : decode M_Ru_pop.2.1 4 = .ok (.ifCond .le 31, 3) := by decide +kernel
theorem dc_Ru_pop_7 : decode M_Ru_pop.2.1 7 = .ok (.aload_n 0, 1) := by decide +kernel
theorem dc_Ru_pop_8 : decode M_Ru_pop.2.1 8 = .ok (.getfield 75, 3) := by decide +kernel
theorem dc_Ru_pop_11 : decode M_Ru_pop.2.1 11 = .ok (.bipush 40, 2) := by decide +kernel
theorem dc_Ru_pop_13 : decode M_Ru_pop.2.1 13 = .ok (.if_icmp .gt 22, 3) := by decide +kernel
theorem dc_Ru_pop_16 : decode M_Ru_pop.2.1 16 = .ok (.aload_n 0, 1) := by decide +kernel
theorem dc_Ru_pop_17 : decode M_Ru_pop.2.1 17 = .ok (.getfield 13, 3) := by decide +kernel
theorem dc_Ru_pop_20 : decode M_Ru_pop.2.1 20 = .ok (.aload_n 0, 1) := by decide +kernel
theorem dc_Ru_pop_21 : decode M_Ru_pop.2.1 21 = .ok (.dup, 1) := by decide +kernel
theorem dc_Ru_pop_22 : decode M_Ru_pop.2.1 22 = .ok (.getfield 75, 3) := by decide +kernel
theorem dc_Ru_pop_25 : decode M_Ru_pop.2.1 25 = .ok (.iconst 1, 1) := by decide +kernel
theorem dc_Ru_pop_26 : decode M_Ru_pop.2.1 26 = .ok (.isub, 1) := by decide +kernel
theorem dc_Ru_pop_27 : decode M_Ru_pop.2.1 27 = .ok (.dup_x1, 1) := by decide +kernel
theorem dc_Ru_pop_28 : decode M_Ru_pop.2.1 28 = .ok (.putfield 75, 3) := by decide +kernel
theorem dc_Ru_pop_31 : decode M_Ru_pop.2.1 31 = .ok (.iaload, 1) := by decide +kernel
theorem dc_Ru_pop_32 : decode M_Ru_pop.2.1 32 = .ok (.goto 4, 3) := by decide +kernel
theorem dc_Ru_pop_35 : decode M_Ru_pop.2.1 35 = .ok (.iconst 0, 1) := by decide +kernel
theorem dc_Ru_pop_36 : decode M_Ru_pop.2.1 36 = .ok (.ireturn, 1) := by decide +kernel
def f_Ru_pop (a0 : Nat) (h : xH) : Option (Int32 × xH) := gd (hK h a0 = 2) (jn (fun (x5 : Int32 × xH) => some (x5.1, x5.2)) (fun k6 => jn (fun (x7 : Unit) => k6 ((0 : Int32), h)) (fun k8 => if (hI h a0 4) ≤ 0 then k8 () else if (40 : Int32) < (hI h a0 4) then k8 () else gd (hK h (hR h a0 3) = 12) (gd (¬ (((hI h a0 4) - (1 : Int32)) < 0 ∨ hL h (hR h a0 3) ≤ ((hI h a0 4) - (1 : Int32)).toNatClampNeg)) (k6 ((hI (hIu h a0 4 ((hI h a0 4) - (1 : Int32))) (hR h a0 3) ((hI h a0 4) - (1 : Int32)).toNatClampNeg), (hIu h a0 4 ((hI h a0 4) - (1 : Int32)))))))))
theorem t_Ru_pop {l : Launch} {z : xZ} {d mc ms : Nat} {Ph : Option xV → xH → Prop} {a0 : Nat}  {h : xH} (hd : 1 ≤ d) (hk : OK (f_Ru_pop a0 h) (fun q => Ph (some (xI q.1)) q.2)) : Sx l z d mc ms M_Ru_pop 0 (x_en [xR a0] 1) [] h Ph := by
  unfold f_Ru_pop at hk
  refine sx_eq (lc2 := [some (xR a0)]) rfl rfl ?_
  refine sx_aload_n dc_Ru_pop_0 rfl ?_
  obtain ⟨g4, hk⟩ := hk.g
  refine sx_get (ci := 2) (k := 4) rfl (by decide) wF_Ru_75 g4 dc_Ru_pop_1 ?_
  refine hk.j (X := fun x5 => Sx l z d mc ms M_Ru_pop 36 [some (xR a0)] [xI x5.1] x5.2 Ph) (fun x5 hk => ?_) (fun k6 jk6 hk => ?_)
  · exact sx_retI dc_Ru_pop_36 rfl hk.val
  · refine hk.j (X := fun x7 => Sx l z d mc ms M_Ru_pop 35 [some (xR a0)] [] h Ph) (fun x7 hk => ?_) (fun k8 jk8 hk => ?_)
    · refine sx_iconst (v := (0 : Int32)) dc_Ru_pop_35 (by decide) ?_
      exact jk6 ((0 : Int32), h) hk
    · refine sx_if_le (tgt := 35) dc_Ru_pop_4 (by decide) (fun c9 => ?_) (fun c9 => ?_)
      · replace hk := hk.t c9
        exact jk8 () hk
      · replace hk := hk.f c9
        refine sx_aload_n dc_Ru_pop_7 rfl ?_
        refine sx_get (ci := 2) (k := 4) rfl (by decide) wF_Ru_75 g4 dc_Ru_pop_8 ?_
        refine sx_bipush (v := (40 : Int32)) dc_Ru_pop_11 (by decide) ?_
        refine sx_icmp_gt (tgt := 35) dc_Ru_pop_13 (by decide) (fun c10 => ?_) (fun c10 => ?_)
        · replace hk := hk.t c10
          exact jk8 () hk
        · replace hk := hk.f c10
          refine sx_aload_n dc_Ru_pop_16 rfl ?_
          refine sx_get (ci := 2) (k := 3) rfl (by decide) wF_Ru_13 g4 dc_Ru_pop_17 ?_
          refine sx_aload_n dc_Ru_pop_20 rfl ?_
          refine sx_dup dc_Ru_pop_21 rfl ?_
          refine sx_get (ci := 2) (k := 4) rfl (by decide) wF_Ru_75 g4 dc_Ru_pop_22 ?_
          refine sx_iconst (v := (1 : Int32)) dc_Ru_pop_25 (by decide) ?_
          refine sx_isub dc_Ru_pop_26 ?_
          refine sx_dup_x1 dc_Ru_pop_27 rfl rfl ?_
          refine sx_putI (ci := 2) (k := 4) rfl (by decide) wF_Ru_75 rfl g4 (Or.inl rfl) dc_Ru_pop_28 ?_
          obtain ⟨g11, hk⟩ := hk.g
          obtain ⟨g12, hk⟩ := hk.g
          refine sx_iald g11 g12 dc_Ru_pop_31 ?_
          refine sx_goto (tgt := 36) dc_Ru_pop_32 (by decide) ?_
          exact jk6 ((hI (hIu h a0 4 ((hI h a0 4) - (1 : Int32))) (hR h a0 3) ((hI h a0 4) - (1 : Int32)).toNatClampNeg), (hIu h a0 4 ((hI h a0 4) - (1 : Int32)))) hk
theorem dc_Ru_joined_0 : decode M_Ru_joined.2.1 0 = .ok (.iload_n 0, 1) := by decide +kernel
theorem dc_Ru_joined_1 : decode M_Ru_joined.2.1 1 = .ok (.tableswitch 105 (-7) (-1) #[91, 77, 66, 55, 51, 47, 43], 43) := by decide +kernel
theorem dc_Ru_joined_44 : decode M_Ru_joined.2.1 44 = .ok (.iload_n 1, 1) := by decide +kernel
theorem dc_Ru_joined_45 : decode M_Ru_joined.2.1 45 = .ok (.iload_n 2, 1) := by decide +kernel
theorem dc_Ru_joined_46 : decode M_Ru_joined.2.1 46 = .ok (.iadd, 1) := by decide +kernel
theorem dc_Ru_joined_47 : decode M_Ru_joined.2.1 47 = .ok (.ireturn, 1) := by decide +kernel
theorem dc_Ru_joined_48 : decode M_Ru_joined.2.1 48 = .ok (.iload_n 1, 1) := by decide +kernel
theorem dc_Ru_joined_49 : decode M_Ru_joined.2.1 49 = .ok (.iload_n 2, 1) := by decide +kernel
theorem dc_Ru_joined_50 : decode M_Ru_joined.2.1 50 = .ok (.isub, 1) := by decide +kernel
theorem dc_Ru_joined_51 : decode M_Ru_joined.2.1 51 = .ok (.ireturn, 1) := by decide +kernel
theorem dc_Ru_joined_52 : decode M_Ru_joined.2.1 52 = .ok (.iload_n 1, 1) := by decide +kernel
theorem dc_Ru_joined_53 : decode M_Ru_joined.2.1 53 = .ok (.iload_n 2, 1) := by decide +kernel
theorem dc_Ru_joined_54 : decode M_Ru_joined.2.1 54 = .ok (.imul, 1) := by decide +kernel
theorem dc_Ru_joined_55 : decode M_Ru_joined.2.1 55 = .ok (.ireturn, 1) := by decide +kernel
theorem dc_Ru_joined_56 : decode M_Ru_joined.2.1 56 = .ok (.iload_n 1, 1) := by decide +kernel
theorem dc_Ru_joined_57 : decode M_Ru_joined.2.1 57 = .ok (.iload_n 2, 1) := by decide +kernel
theorem dc_Ru_joined_58 : decode M_Ru_joined.2.1 58 = .ok (.if_icmp .ge 7, 3) := by decide +kernel
theorem dc_Ru_joined_61 : decode M_Ru_joined.2.1 61 = .ok (.iconst 1, 1) := by decide +kernel
theorem dc_Ru_joined_62 : decode M_Ru_joined.2.1 62 = .ok (.goto 4, 3) := by decide +kernel
theorem dc_Ru_joined_65 : decode M_Ru_joined.2.1 65 = .ok (.iconst 0, 1) := by decide +kernel
theorem dc_Ru_joined_66 : decode M_Ru_joined.2.1 66 = .ok (.ireturn, 1) := by decide +kernel
theorem dc_Ru_joined_67 : decode M_Ru_joined.2.1 67 = .ok (.iload_n 1, 1) := by decide +kernel
theorem dc_Ru_joined_68 : decode M_Ru_joined.2.1 68 = .ok (.iload_n 2, 1) := by decide +kernel
theorem dc_Ru_joined_69 : decode M_Ru_joined.2.1 69 = .ok (.if_icmp .ne 7, 3) := by decide +kernel
theorem dc_Ru_joined_72 : decode M_Ru_joined.2.1 72 = .ok (.iconst 1, 1) := by decide +kernel
theorem dc_Ru_joined_73 : decode M_Ru_joined.2.1 73 = .ok (.goto 4, 3) := by decide +kernel
theorem dc_Ru_joined_76 : decode M_Ru_joined.2.1 76 = .ok (.iconst 0, 1) := by decide +kernel
theorem dc_Ru_joined_77 : decode M_Ru_joined.2.1 77 = .ok (.ireturn, 1) := by decide +kernel
theorem dc_Ru_joined_78 : decode M_Ru_joined.2.1 78 = .ok (.iload_n 1, 1) := by decide +kernel
theorem dc_Ru_joined_79 : decode M_Ru_joined.2.1 79 = .ok (.ifCond .ne 7, 3) := by decide +kernel
theorem dc_Ru_joined_82 : decode M_Ru_joined.2.1 82 = .ok (.iload_n 2, 1) := by decide +kernel
theorem dc_Ru_joined_83 : decode M_Ru_joined.2.1 83 = .ok (.ifCond .eq 7, 3) := by decide +kernel
theorem dc_Ru_joined_86 : decode M_Ru_joined.2.1 86 = .ok (.iconst 1, 1) := by decide +kernel
theorem dc_Ru_joined_87 : decode M_Ru_joined.2.1 87 = .ok (.goto 4, 3) := by decide +kernel
theorem dc_Ru_joined_90 : decode M_Ru_joined.2.1 90 = .ok (.iconst 0, 1) := by decide +kernel
theorem dc_Ru_joined_91 : decode M_Ru_joined.2.1 91 = .ok (.ireturn, 1) := by decide +kernel
theorem dc_Ru_joined_92 : decode M_Ru_joined.2.1 92 = .ok (.iload_n 1, 1) := by decide +kernel
theorem dc_Ru_joined_93 : decode M_Ru_joined.2.1 93 = .ok (.ifCond .eq 11, 3) := by decide +kernel
theorem dc_Ru_joined_96 : decode M_Ru_joined.2.1 96 = .ok (.iload_n 2, 1) := by decide +kernel
theorem dc_Ru_joined_97 : decode M_Ru_joined.2.1 97 = .ok (.ifCond .eq 7, 3) := by decide +kernel
theorem dc_Ru_joined_100 : decode M_Ru_joined.2.1 100 = .ok (.iconst 1, 1) := by decide +kernel
theorem dc_Ru_joined_101 : decode M_Ru_joined.2.1 101 = .ok (.goto 4, 3) := by decide +kernel
theorem dc_Ru_joined_104 : decode M_Ru_joined.2.1 104 = .ok (.iconst 0, 1) := by decide +kernel
theorem dc_Ru_joined_105 : decode M_Ru_joined.2.1 105 = .ok (.ireturn, 1) := by decide +kernel
theorem dc_Ru_joined_106 : decode M_Ru_joined.2.1 106 = .ok (.iconst 0, 1) := by decide +kernel
theorem dc_Ru_joined_107 : decode M_Ru_joined.2.1 107 = .ok (.ireturn, 1) := by decide +kernel
def f_Ru_joined (a0 : Int32) (a1 : Int32) (a2 : Int32) (h : xH) : Option (Int32 × xH) := if a0 = (-7 : Int32) then jn (fun (x1 : Int32) => some (x1, h)) (fun k2 => jn (fun (x3 : Unit) => k2 (0 : Int32)) (fun k4 => if a1 = 0 then k4 () else if a2 = 0 then k4 () else k2 (1 : Int32))) else if a0 = (-6 : Int32) then jn (fun (x8 : Int32) => some (x8, h)) (fun k9 => jn (fun (x10 : Unit) => k9 (1 : Int32)) (fun k11 => if a1 = 0 then if a2 = 0 then k9 (0 : Int32) else k11 () else k11 ())) else if a0 = (-5 : Int32) then some ((if a1 = a2 then (1 : Int32) else (0 : Int32)), h) else if a0 = (-4 : Int32) then some ((if a2 ≤ a1 then (0 : Int32) else (1 : Int32)), h) else if a0 = (-3 : Int32) then some (a1 * a2, h) else if a0 = (-2 : Int32) then some (a1 - a2, h) else if a0 = (-1 : Int32) then some (a1 + a2, h) else some ((0 : Int32), h)
theorem t_Ru_joined {l : Launch} {z : xZ} {d mc ms : Nat} {Ph : Option xV → xH → Prop} {a0 : Int32} {a1 : Int32} {a2 : Int32}  {h : xH} (hd : 1 ≤ d) (hk : OK (f_Ru_joined a0 a1 a2 h) (fun q => Ph (some (xI q.1)) q.2)) : Sx l z d mc ms M_Ru_joined 0 (x_en [xI a0, xI a1, xI a2] 3) [] h Ph := by
  unfold f_Ru_joined at hk
  refine sx_eq (lc2 := [some (xI a0), some (xI a1), some (xI a2)]) rfl rfl ?_
  refine sx_iload_n dc_Ru_joined_0 rfl ?_
  by_cases c7 : a0 = (-7 : Int32)
  · replace hk := hk.t c7
    refine sx_tabIn (off := 91) (tgt := 92) dc_Ru_joined_1 (by rw [c7]; decide) (by rw [c7]; decide) (by rw [c7]; rfl) (by decide) ?_
    refine sx_iload_n dc_Ru_joined_92 rfl ?_
    refine hk.j (X := fun x1 => Sx l z d mc ms M_Ru_joined 105 [some (xI a0), some (xI a1), some (xI a2)] [xI x1] h Ph) (fun x1 hk => ?_) (fun k2 jk2 hk => ?_)
    · exact sx_retI dc_Ru_joined_105 rfl hk.val
    · refine hk.j (X := fun x3 => Sx l z d mc ms M_Ru_joined 104 [some (xI a0), some (xI a1), some (xI a2)] [] h Ph) (fun x3 hk => ?_) (fun k4 jk4 hk => ?_)
      · refine sx_iconst (v := (0 : Int32)) dc_Ru_joined_104 (by decide) ?_
        exact jk2 (0 : Int32) hk
      · refine sx_if_eq (tgt := 104) dc_Ru_joined_93 (by decide) (fun c5 => ?_) (fun c5 => ?_)
        · replace hk := hk.t c5
          exact jk4 () hk
        · replace hk := hk.f c5
          refine sx_iload_n dc_Ru_joined_96 rfl ?_
          refine sx_if_eq (tgt := 104) dc_Ru_joined_97 (by decide) (fun c6 => ?_) (fun c6 => ?_)
          · replace hk := hk.t c6
            exact jk4 () hk
          · replace hk := hk.f c6
            refine sx_iconst (v := (1 : Int32)) dc_Ru_joined_100 (by decide) ?_
            refine sx_goto (tgt := 105) dc_Ru_joined_101 (by decide) ?_
            exact jk2 (1 : Int32) hk
  · replace hk := hk.f c7
    by_cases c14 : a0 = (-6 : Int32)
    · replace hk := hk.t c14
      refine sx_tabIn (off := 77) (tgt := 78) dc_Ru_joined_1 (by rw [c14]; decide) (by rw [c14]; decide) (by rw [c14]; rfl) (by decide) ?_
      refine sx_iload_n dc_Ru_joined_78 rfl ?_
      refine hk.j (X := fun x8 => Sx l z d mc ms M_Ru_joined 91 [some (xI a0), some (xI a1), some (xI a2)] [xI x8] h Ph) (fun x8 hk => ?_) (fun k9 jk9 hk => ?_)
      · exact sx_retI dc_Ru_joined_91 rfl hk.val
      · refine hk.j (X := fun x10 => Sx l z d mc ms M_Ru_joined 86 [some (xI a0), some (xI a1), some (xI a2)] [] h Ph) (fun x10 hk => ?_) (fun k11 jk11 hk => ?_)
        · refine sx_iconst (v := (1 : Int32)) dc_Ru_joined_86 (by decide) ?_
          refine sx_goto (tgt := 91) dc_Ru_joined_87 (by decide) ?_
          exact jk9 (1 : Int32) hk
        · refine sx_if_ne (tgt := 86) dc_Ru_joined_79 (by decide) (fun c12 => ?_) (fun c12 => ?_)
          · replace hk := hk.f c12
            exact jk11 () hk
          · replace hk := hk.t c12
            refine sx_iload_n dc_Ru_joined_82 rfl ?_
            refine sx_if_eq (tgt := 90) dc_Ru_joined_83 (by decide) (fun c13 => ?_) (fun c13 => ?_)
            · replace hk := hk.t c13
              refine sx_iconst (v := (0 : Int32)) dc_Ru_joined_90 (by decide) ?_
              exact jk9 (0 : Int32) hk
            · replace hk := hk.f c13
              exact jk11 () hk
    · replace hk := hk.f c14
      by_cases c17 : a0 = (-5 : Int32)
      · replace hk := hk.t c17
        refine sx_tabIn (off := 66) (tgt := 67) dc_Ru_joined_1 (by rw [c17]; decide) (by rw [c17]; decide) (by rw [c17]; rfl) (by decide) ?_
        refine sx_iload_n dc_Ru_joined_67 rfl ?_
        refine sx_iload_n dc_Ru_joined_68 rfl ?_
        suffices J15 : Sx l z d mc ms M_Ru_joined 77 [some (xI a0), some (xI a1), some (xI a2)] [xI (if a1 = a2 then (1 : Int32) else (0 : Int32))] h Ph by
          refine sx_icmp_ne (tgt := 76) dc_Ru_joined_69 (by decide) (fun c16 => ?_) (fun c16 => ?_)
          · try simp only [if_neg c16] at J15
            refine sx_iconst (v := (0 : Int32)) dc_Ru_joined_76 (by decide) ?_
            exact J15
          · try simp only [if_pos c16] at J15
            refine sx_iconst (v := (1 : Int32)) dc_Ru_joined_72 (by decide) ?_
            refine sx_goto (tgt := 77) dc_Ru_joined_73 (by decide) ?_
            exact J15
        exact sx_retI dc_Ru_joined_77 rfl hk.val
      · replace hk := hk.f c17
        by_cases c20 : a0 = (-4 : Int32)
        · replace hk := hk.t c20
          refine sx_tabIn (off := 55) (tgt := 56) dc_Ru_joined_1 (by rw [c20]; decide) (by rw [c20]; decide) (by rw [c20]; rfl) (by decide) ?_
          refine sx_iload_n dc_Ru_joined_56 rfl ?_
          refine sx_iload_n dc_Ru_joined_57 rfl ?_
          suffices J18 : Sx l z d mc ms M_Ru_joined 66 [some (xI a0), some (xI a1), some (xI a2)] [xI (if a2 ≤ a1 then (0 : Int32) else (1 : Int32))] h Ph by
            refine sx_icmp_ge (tgt := 65) dc_Ru_joined_58 (by decide) (fun c19 => ?_) (fun c19 => ?_)
            · try simp only [if_pos c19] at J18
              refine sx_iconst (v := (0 : Int32)) dc_Ru_joined_65 (by decide) ?_
              exact J18
            · try simp only [if_neg c19] at J18
              refine sx_iconst (v := (1 : Int32)) dc_Ru_joined_61 (by decide) ?_
              refine sx_goto (tgt := 66) dc_Ru_joined_62 (by decide) ?_
              exact J18
          exact sx_retI dc_Ru_joined_66 rfl hk.val
        · replace hk := hk.f c20
          by_cases c21 : a0 = (-3 : Int32)
          · replace hk := hk.t c21
            refine sx_tabIn (off := 51) (tgt := 52) dc_Ru_joined_1 (by rw [c21]; decide) (by rw [c21]; decide) (by rw [c21]; rfl) (by decide) ?_
            refine sx_iload_n dc_Ru_joined_52 rfl ?_
            refine sx_iload_n dc_Ru_joined_53 rfl ?_
            refine sx_imul dc_Ru_joined_54 ?_
            exact sx_retI dc_Ru_joined_55 rfl hk.val
          · replace hk := hk.f c21
            by_cases c22 : a0 = (-2 : Int32)
            · replace hk := hk.t c22
              refine sx_tabIn (off := 47) (tgt := 48) dc_Ru_joined_1 (by rw [c22]; decide) (by rw [c22]; decide) (by rw [c22]; rfl) (by decide) ?_
              refine sx_iload_n dc_Ru_joined_48 rfl ?_
              refine sx_iload_n dc_Ru_joined_49 rfl ?_
              refine sx_isub dc_Ru_joined_50 ?_
              exact sx_retI dc_Ru_joined_51 rfl hk.val
            · replace hk := hk.f c22
              by_cases c23 : a0 = (-1 : Int32)
              · replace hk := hk.t c23
                refine sx_tabIn (off := 43) (tgt := 44) dc_Ru_joined_1 (by rw [c23]; decide) (by rw [c23]; decide) (by rw [c23]; rfl) (by decide) ?_
                refine sx_iload_n dc_Ru_joined_44 rfl ?_
                refine sx_iload_n dc_Ru_joined_45 rfl ?_
                refine sx_iadd dc_Ru_joined_46 ?_
                exact sx_retI dc_Ru_joined_47 rfl hk.val
              · replace hk := hk.f c23
                refine sx_tabOut (tgt := 106) dc_Ru_joined_1 (sw_out (fun k h1 h2 => ?_)) (by decide) ?_
                · have h3 : k = -7 ∨ k = -6 ∨ k = -5 ∨ k = -4 ∨ k = -3 ∨ k = -2 ∨ k = -1 := by omega
                  rcases h3 with rfl | rfl | rfl | rfl | rfl | rfl | rfl
                  · exact c7
                  · exact c14
                  · exact c17
                  · exact c20
                  · exact c21
                  · exact c22
                  · exact c23
                · refine sx_iconst (v := (0 : Int32)) dc_Ru_joined_106 (by decide) ?_
                  exact sx_retI dc_Ru_joined_107 rfl hk.val
theorem dc_Ru_step_0 : decode M_Ru_step.2.1 0 = .ok (.iload_n 1, 1) := by decide +kernel
theorem dc_Ru_step_1 : decode M_Ru_step.2.1 1 = .ok (.sipush 10000, 3) := by decide +kernel
theorem dc_Ru_step_4 : decode M_Ru_step.2.1 4 = .ok (.if_icmp .lt 34, 3) := by decide +kernel
theorem dc_Ru_step_7 : decode M_Ru_step.2.1 7 = .ok (.aload_n 0, 1) := by decide +kernel
theorem dc_Ru_step_8 : decode M_Ru_step.2.1 8 = .ok (.iload_n 1, 1) := by decide +kernel
theorem dc_Ru_step_9 : decode M_Ru_step.2.1 9 = .ok (.sipush 10000, 3) := by decide +kernel
theorem dc_Ru_step_12 : decode M_Ru_step.2.1 12 = .ok (.isub, 1) := by decide +kernel
theorem dc_Ru_step_13 : decode M_Ru_step.2.1 13 = .ok (.bipush 6, 2) := by decide +kernel
theorem dc_Ru_step_15 : decode M_Ru_step.2.1 15 = .ok (.if_icmp .ge 16, 3) := by decide +kernel
theorem dc_Ru_step_18 : decode M_Ru_step.2.1 18 = .ok (.aload_n 0, 1) := by decide +kernel
theorem dc_Ru_step_19 : decode M_Ru_step.2.1 19 = .ok (.getfield 9, 3) := by decide +kernel
theorem dc_Ru_step_22 : decode M_Ru_step.2.1 22 = .ok (.iload_n 1, 1) := by decide +kernel
theorem dc_Ru_step_23 : decode M_Ru_step.2.1 23 = .ok (.sipush 10000, 3) := by decide +kernel
theorem dc_Ru_step_26 : decode M_Ru_step.2.1 26 = .ok (.isub, 1) := by decide +kernel
theorem dc_Ru_step_27 : decode M_Ru_step.2.1 27 = .ok (.iaload, 1) := by decide +kernel
theorem dc_Ru_step_28 : decode M_Ru_step.2.1 28 = .ok (.goto 4, 3) := by decide +kernel
theorem dc_Ru_step_31 : decode M_Ru_step.2.1 31 = .ok (.iconst 0, 1) := by decide +kernel
theorem dc_Ru_step_32 : decode M_Ru_step.2.1 32 = .ok (.invokevirtual 95, 3) := by decide +kernel
theorem dc_Ru_step_35 : decode M_Ru_step.2.1 35 = .ok (.goto 70, 3) := by decide +kernel
theorem dc_Ru_step_38 : decode M_Ru_step.2.1 38 = .ok (.iload_n 1, 1) := by decide +kernel
theorem dc_Ru_step_39 : decode M_Ru_step.2.1 39 = .ok (.ifCond .lt 11, 3) := by decide +kernel
theorem dc_Ru_step_42 : decode M_Ru_step.2.1 42 = .ok (.aload_n 0, 1) := by decide +kernel
theorem dc_Ru_step_43 : decode M_Ru_step.2.1 43 = .ok (.iload_n 1, 1) := by decide +kernel
theorem dc_Ru_step_44 : decode M_Ru_step.2.1 44 = .ok (.invokevirtual 95, 3) := by decide +kernel
theorem dc_Ru_step_47 : decode M_Ru_step.2.1 47 = .ok (.goto 58, 3) := by decide +kernel
theorem dc_Ru_step_50 : decode M_Ru_step.2.1 50 = .ok (.aload_n 0, 1) := by decide +kernel
theorem dc_Ru_step_51 : decode M_Ru_step.2.1 51 = .ok (.invokevirtual 91, 3) := by decide +kernel
theorem dc_Ru_step_54 : decode M_Ru_step.2.1 54 = .ok (.istore_n 2, 1) := by decide +kernel
theorem dc_Ru_step_55 : decode M_Ru_step.2.1 55 = .ok (.iload_n 1, 1) := by decide +kernel
theorem dc_Ru_step_56 : decode M_Ru_step.2.1 56 = .ok (.bipush (-8), 2) := by decide +kernel
theorem dc_Ru_step_58 : decode M_Ru_step.2.1 58 = .ok (.if_icmp .ne 19, 3) := by decide +kernel
theorem dc_Ru_step_61 : decode M_Ru_step.2.1 61 = .ok (.aload_n 0, 1) := by decide +kernel
theorem dc_Ru_step_62 : decode M_Ru_step.2.1 62 = .ok (.iload_n 2, 1) := by decide +kernel
theorem dc_Ru_step_63 : decode M_Ru_step.2.1 63 = .ok (.ifCond .ne 7, 3) := by decide +kernel
theorem dc_Ru_step_66 : decode M_Ru_step.2.1 66 = .ok (.iconst 1, 1) := by decide +kernel
theorem dc_Ru_step_67 : decode M_Ru_step.2.1 67 = .ok (.goto 4, 3) := by decide +kernel
theorem dc_Ru_step_70 : decode M_Ru_step.2.1 70 = .ok (.iconst 0, 1) := by decide +kernel
theorem dc_Ru_step_71 : decode M_Ru_step.2.1 71 = .ok (.invokevirtual 95, 3) := by decide +kernel
theorem dc_Ru_step_74 : decode M_Ru_step.2.1 74 = .ok (.goto 31, 3) := by decide +kernel
theorem dc_Ru_step_77 : decode M_Ru_step.2.1 77 = .ok (.iload_n 1, 1) := by decide +kernel
theorem dc_Ru_step_78 : decode M_Ru_step.2.1 78 = .ok (.bipush (-9), 2) := by decide +kernel
theorem dc_Ru_step_80 : decode M_Ru_step.2.1 80 = .ok (.if_icmp .ne 12, 3) := by decide +kernel
theorem dc_Ru_step_83 : decode M_Ru_step.2.1 83 = .ok (.aload_n 0, 1) := by decide +kernel
theorem dc_Ru_step_84 : decode M_Ru_step.2.1 84 = .ok (.iload_n 2, 1) := by decide +kernel
theorem dc_Ru_step_85 : decode M_Ru_step.2.1 85 = .ok (.ineg, 1) := by decide +kernel
theorem dc_Ru_step_86 : decode M_Ru_step.2.1 86 = .ok (.invokevirtual 95, 3) := by decide +kernel
theorem dc_Ru_step_89 : decode M_Ru_step.2.1 89 = .ok (.goto 16, 3) := by decide +kernel
theorem dc_Ru_step_92 : decode M_Ru_step.2.1 92 = .ok (.aload_n 0, 1) := by decide +kernel
theorem dc_Ru_step_93 : decode M_Ru_step.2.1 93 = .ok (.iload_n 1, 1) := by decide +kernel
theorem dc_Ru_step_94 : decode M_Ru_step.2.1 94 = .ok (.aload_n 0, 1) := by decide +kernel
theorem dc_Ru_step_95 : decode M_Ru_step.2.1 95 = .ok (.invokevirtual 91, 3) := by decide +kernel
theorem dc_Ru_step_98 : decode M_Ru_step.2.1 98 = .ok (.iload_n 2, 1) := by decide +kernel
theorem dc_Ru_step_99 : decode M_Ru_step.2.1 99 = .ok (.invokestatic 98, 3) := by decide +kernel
theorem dc_Ru_step_102 : decode M_Ru_step.2.1 102 = .ok (.invokevirtual 95, 3) := by decide +kernel
theorem dc_Ru_step_105 : decode M_Ru_step.2.1 105 = .ok (.return_, 1) := by decide +kernel
def f_Ru_step (a0 : Nat) (a1 : Int32) (h : xH) : Option (Unit × xH) := jn (fun (x19 : xH) => some ((), x19)) (fun k20 => if a1 < (10000 : Int32) then if a1 < 0 then gd (hK h a0 = 2) (Option.bind (f_Ru_pop a0 h) (fun q23 => if a1 = (-8 : Int32) then gd (hK q23.2 a0 = 2) (Option.bind (f_Ru_push a0 (if q23.1 = 0 then (1 : Int32) else (0 : Int32)) q23.2) (fun q36 => k20 q36.2)) else if a1 = (-9 : Int32) then gd (hK q23.2 a0 = 2) (Option.bind (f_Ru_push a0 (-q23.1) q23.2) (fun q32 => k20 q32.2)) else gd (hK q23.2 a0 = 2) (Option.bind (f_Ru_pop a0 q23.2) (fun q27 => Option.bind (f_Ru_joined a1 q27.1 q23.1 q27.2) (fun q29 => gd (hK q29.2 a0 = 2) (Option.bind (f_Ru_push a0 q29.1 q29.2) (fun q30 => k20 q30.2))))))) else gd (hK h a0 = 2) (Option.bind (f_Ru_push a0 a1 h) (fun q38 => k20 q38.2)) else jn (fun (x40 : Int32) => gd (hK h a0 = 2) (Option.bind (f_Ru_push a0 x40 h) (fun q42 => k20 q42.2))) (fun k41 => if (6 : Int32) ≤ (a1 - (10000 : Int32)) then k41 (0 : Int32) else gd (hK h a0 = 2) (gd (hK h (hR h a0 2) = 12) (gd (¬ ((a1 - (10000 : Int32)) < 0 ∨ hL h (hR h a0 2) ≤ (a1 - (10000 : Int32)).toNatClampNeg)) (k41 (hI h (hR h a0 2) (a1 - (10000 : Int32)).toNatClampNeg))))))
theorem t_Ru_step {l : Launch} {z : xZ} {d mc ms : Nat} {Ph : Option xV → xH → Prop} {a0 : Nat} {a1 : Int32}  {h : xH} (hd : 2 ≤ d) (hk : OK (f_Ru_step a0 a1 h) (fun q => Ph (none) q.2)) : Sx l z d mc ms M_Ru_step 0 (x_en [xR a0, xI a1] 3) [] h Ph := by
  unfold f_Ru_step at hk
  refine sx_eq (lc2 := [some (xR a0), some (xI a1), none]) rfl rfl ?_
  refine sx_iload_n dc_Ru_step_0 rfl ?_
  refine sx_sipush (v := (10000 : Int32)) dc_Ru_step_1 (by decide) ?_
  refine hk.j (X := fun x19 => Sx l z d mc ms M_Ru_step 105 [some (xR a0), some (xI a1), none] [] x19 Ph) (fun x19 hk => ?_) (fun k20 jk20 hk => ?_)
  · exact sx_retV dc_Ru_step_105 rfl hk.val
  · refine sx_icmp_lt (tgt := 38) dc_Ru_step_4 (by decide) (fun c21 => ?_) (fun c21 => ?_)
    · replace hk := hk.t c21
      refine sx_iload_n dc_Ru_step_38 rfl ?_
      refine sx_if_lt (tgt := 50) dc_Ru_step_39 (by decide) (fun c22 => ?_) (fun c22 => ?_)
      · replace hk := hk.t c22
        refine sx_aload_n dc_Ru_step_50 rfl ?_
        obtain ⟨g24, hk⟩ := hk.g
        obtain ⟨q23, eq23, hk⟩ := hk.bind
        refine sx_callV (d2 := d - 1) (mc2 := 0) (ms2 := 0) (as := []) mk_Ru_pop rfl (x_rk (ci := 2) g24 rfl rfl) wM_Ru_91 mi_Ru_pop me_Ru_pop rfl (Nat.le_of_ble_eq_true rfl) (Nat.le_of_ble_eq_true rfl) dc_Ru_step_51 (by omega) (Nat.zero_le _) (Nat.zero_le _) ?_
        refine t_Ru_pop (by omega) ⟨q23, eq23, ?_⟩
        refine sx_eq0 (lc2 := [some (xR a0), some (xI a1), none]) (st2 := [xI q23.1]) rfl rfl ?_
        refine sx_istore_n dc_Ru_step_54 (by decide) (sx_eq (lc2 := [some (xR a0), some (xI a1), some (xI q23.1)]) rfl rfl ?_)
        refine sx_iload_n dc_Ru_step_55 rfl ?_
        refine sx_bipush (v := (-8 : Int32)) dc_Ru_step_56 (by decide) ?_
        refine sx_icmp_ne (tgt := 77) dc_Ru_step_58 (by decide) (fun c25 => ?_) (fun c25 => ?_)
        · replace hk := hk.f c25
          refine sx_iload_n dc_Ru_step_77 rfl ?_
          refine sx_bipush (v := (-9 : Int32)) dc_Ru_step_78 (by decide) ?_
          refine sx_icmp_ne (tgt := 92) dc_Ru_step_80 (by decide) (fun c26 => ?_) (fun c26 => ?_)
          · replace hk := hk.f c26
            refine sx_aload_n dc_Ru_step_92 rfl ?_
            refine sx_iload_n dc_Ru_step_93 rfl ?_
            refine sx_aload_n dc_Ru_step_94 rfl ?_
            obtain ⟨g28, hk⟩ := hk.g
            obtain ⟨q27, eq27, hk⟩ := hk.bind
            refine sx_callV (d2 := d - 1) (mc2 := 0) (ms2 := 0) (as := []) mk_Ru_pop rfl (x_rk (ci := 2) g28 rfl rfl) wM_Ru_91 mi_Ru_pop me_Ru_pop rfl (Nat.le_of_ble_eq_true rfl) (Nat.le_of_ble_eq_true rfl) dc_Ru_step_95 (by omega) (Nat.zero_le _) (Nat.zero_le _) ?_
            refine t_Ru_pop (by omega) ⟨q27, eq27, ?_⟩
            refine sx_eq0 (lc2 := [some (xR a0), some (xI a1), some (xI q23.1)]) (st2 := [xI q27.1, xI a1, xR a0]) rfl rfl ?_
            refine sx_iload_n dc_Ru_step_98 rfl ?_
            obtain ⟨q29, eq29, hk⟩ := hk.bind
            refine sx_callS (d2 := d - 1) (mc2 := 0) (ms2 := 0) (as := [xI a1, xI q27.1, xI q23.1]) mk_Ru_joined rfl wM_Ru_98 mt_Ru_joined rfl (Nat.le_of_ble_eq_true rfl) (Nat.le_of_ble_eq_true rfl) dc_Ru_step_99 (by omega) (Nat.zero_le _) (Nat.zero_le _) ?_
            refine t_Ru_joined (by omega) ⟨q29, eq29, ?_⟩
            refine sx_eq0 (lc2 := [some (xR a0), some (xI a1), some (xI q23.1)]) (st2 := [xI q29.1, xR a0]) rfl rfl ?_
            obtain ⟨g31, hk⟩ := hk.g
            obtain ⟨q30, eq30, hk⟩ := hk.bind
            refine sx_callV (d2 := d - 1) (mc2 := 0) (ms2 := 0) (as := [xI q29.1]) mk_Ru_push rfl (x_rk (ci := 2) g31 rfl rfl) wM_Ru_95 mi_Ru_push me_Ru_push rfl (Nat.le_of_ble_eq_true rfl) (Nat.le_of_ble_eq_true rfl) dc_Ru_step_102 (by omega) (Nat.zero_le _) (Nat.zero_le _) ?_
            refine t_Ru_push (by omega) ⟨q30, eq30, ?_⟩
            refine sx_eq0 (lc2 := [some (xR a0), some (xI a1), some (xI q23.1)]) (st2 := []) rfl rfl ?_
            exact sx_less (by simp [x_le]) (jk20 q30.2 hk)
          · replace hk := hk.t c26
            refine sx_aload_n dc_Ru_step_83 rfl ?_
            refine sx_iload_n dc_Ru_step_84 rfl ?_
            refine sx_ineg dc_Ru_step_85 ?_
            obtain ⟨g33, hk⟩ := hk.g
            obtain ⟨q32, eq32, hk⟩ := hk.bind
            refine sx_callV (d2 := d - 1) (mc2 := 0) (ms2 := 0) (as := [xI (-q23.1)]) mk_Ru_push rfl (x_rk (ci := 2) g33 rfl rfl) wM_Ru_95 mi_Ru_push me_Ru_push rfl (Nat.le_of_ble_eq_true rfl) (Nat.le_of_ble_eq_true rfl) dc_Ru_step_86 (by omega) (Nat.zero_le _) (Nat.zero_le _) ?_
            refine t_Ru_push (by omega) ⟨q32, eq32, ?_⟩
            refine sx_eq0 (lc2 := [some (xR a0), some (xI a1), some (xI q23.1)]) (st2 := []) rfl rfl ?_
            refine sx_goto (tgt := 105) dc_Ru_step_89 (by decide) ?_
            exact sx_less (by simp [x_le]) (jk20 q32.2 hk)
        · replace hk := hk.t c25
          refine sx_aload_n dc_Ru_step_61 rfl ?_
          refine sx_iload_n dc_Ru_step_62 rfl ?_
          suffices J34 : Sx l z d mc ms M_Ru_step 71 [some (xR a0), some (xI a1), some (xI q23.1)] [xI (if q23.1 = 0 then (1 : Int32) else (0 : Int32)), xR a0] q23.2 Ph by
            refine sx_if_ne (tgt := 70) dc_Ru_step_63 (by decide) (fun c35 => ?_) (fun c35 => ?_)
            · try simp only [if_neg c35] at J34
              refine sx_iconst (v := (0 : Int32)) dc_Ru_step_70 (by decide) ?_
              exact J34
            · try simp only [if_pos c35] at J34
              refine sx_iconst (v := (1 : Int32)) dc_Ru_step_66 (by decide) ?_
              refine sx_goto (tgt := 71) dc_Ru_step_67 (by decide) ?_
              exact J34
          obtain ⟨g37, hk⟩ := hk.g
          obtain ⟨q36, eq36, hk⟩ := hk.bind
          refine sx_callV (d2 := d - 1) (mc2 := 0) (ms2 := 0) (as := [xI (if q23.1 = 0 then (1 : Int32) else (0 : Int32))]) mk_Ru_push rfl (x_rk (ci := 2) g37 rfl rfl) wM_Ru_95 mi_Ru_push me_Ru_push rfl (Nat.le_of_ble_eq_true rfl) (Nat.le_of_ble_eq_true rfl) dc_Ru_step_71 (by omega) (Nat.zero_le _) (Nat.zero_le _) ?_
          refine t_Ru_push (by omega) ⟨q36, eq36, ?_⟩
          refine sx_eq0 (lc2 := [some (xR a0), some (xI a1), some (xI q23.1)]) (st2 := []) rfl rfl ?_
          refine sx_goto (tgt := 105) dc_Ru_step_74 (by decide) ?_
          exact sx_less (by simp [x_le]) (jk20 q36.2 hk)
      · replace hk := hk.f c22
        refine sx_aload_n dc_Ru_step_42 rfl ?_
        refine sx_iload_n dc_Ru_step_43 rfl ?_
        obtain ⟨g39, hk⟩ := hk.g
        obtain ⟨q38, eq38, hk⟩ := hk.bind
        refine sx_callV (d2 := d - 1) (mc2 := 0) (ms2 := 0) (as := [xI a1]) mk_Ru_push rfl (x_rk (ci := 2) g39 rfl rfl) wM_Ru_95 mi_Ru_push me_Ru_push rfl (Nat.le_of_ble_eq_true rfl) (Nat.le_of_ble_eq_true rfl) dc_Ru_step_44 (by omega) (Nat.zero_le _) (Nat.zero_le _) ?_
        refine t_Ru_push (by omega) ⟨q38, eq38, ?_⟩
        refine sx_eq0 (lc2 := [some (xR a0), some (xI a1), none]) (st2 := []) rfl rfl ?_
        refine sx_goto (tgt := 105) dc_Ru_step_47 (by decide) ?_
        exact jk20 q38.2 hk
    · replace hk := hk.f c21
      refine sx_aload_n dc_Ru_step_7 rfl ?_
      refine sx_iload_n dc_Ru_step_8 rfl ?_
      refine sx_sipush (v := (10000 : Int32)) dc_Ru_step_9 (by decide) ?_
      refine sx_isub dc_Ru_step_12 ?_
      refine sx_bipush (v := (6 : Int32)) dc_Ru_step_13 (by decide) ?_
      refine hk.j (X := fun x40 => Sx l z d mc ms M_Ru_step 32 [some (xR a0), some (xI a1), none] [xI x40, xR a0] h Ph) (fun x40 hk => ?_) (fun k41 jk41 hk => ?_)
      · obtain ⟨g43, hk⟩ := hk.g
        obtain ⟨q42, eq42, hk⟩ := hk.bind
        refine sx_callV (d2 := d - 1) (mc2 := 0) (ms2 := 0) (as := [xI x40]) mk_Ru_push rfl (x_rk (ci := 2) g43 rfl rfl) wM_Ru_95 mi_Ru_push me_Ru_push rfl (Nat.le_of_ble_eq_true rfl) (Nat.le_of_ble_eq_true rfl) dc_Ru_step_32 (by omega) (Nat.zero_le _) (Nat.zero_le _) ?_
        refine t_Ru_push (by omega) ⟨q42, eq42, ?_⟩
        refine sx_eq0 (lc2 := [some (xR a0), some (xI a1), none]) (st2 := []) rfl rfl ?_
        refine sx_goto (tgt := 105) dc_Ru_step_35 (by decide) ?_
        exact jk20 q42.2 hk
      · refine sx_icmp_ge (tgt := 31) dc_Ru_step_15 (by decide) (fun c44 => ?_) (fun c44 => ?_)
        · replace hk := hk.t c44
          refine sx_iconst (v := (0 : Int32)) dc_Ru_step_31 (by decide) ?_
          exact jk41 (0 : Int32) hk
        · replace hk := hk.f c44
          refine sx_aload_n dc_Ru_step_18 rfl ?_
          obtain ⟨g45, hk⟩ := hk.g
          refine sx_get (ci := 2) (k := 2) rfl (by decide) wF_Ru_9 g45 dc_Ru_step_19 ?_
          refine sx_iload_n dc_Ru_step_22 rfl ?_
          refine sx_sipush (v := (10000 : Int32)) dc_Ru_step_23 (by decide) ?_
          refine sx_isub dc_Ru_step_26 ?_
          obtain ⟨g46, hk⟩ := hk.g
          obtain ⟨g47, hk⟩ := hk.g
          refine sx_iald g46 g47 dc_Ru_step_27 ?_
          refine sx_goto (tgt := 32) dc_Ru_step_28 (by decide) ?_
          exact jk41 (hI h (hR h a0 2) (a1 - (10000 : Int32)).toNatClampNeg) hk
theorem dc_Ru_answer_0 : decode M_Ru_answer.2.1 0 = .ok (.aload_n 0, 1) := by decide +kernel
theorem dc_Ru_answer_1 : decode M_Ru_answer.2.1 1 = .ok (.getfield 24, 3) := by decide +kernel
theorem dc_Ru_answer_4 : decode M_Ru_answer.2.1 4 = .ok (.ifnonnull 5, 3) := by decide +kernel
theorem dc_Ru_answer_7 : decode M_Ru_answer.2.1 7 = .ok (.iconst 0, 1) := by decide +kernel
theorem dc_Ru_answer_8 : decode M_Ru_answer.2.1 8 = .ok (.ireturn, 1) := by decide +kernel
theorem dc_Ru_answer_9 : decode M_Ru_answer.2.1 9 = .ok (.aload_n 0, 1) := by decide +kernel
theorem dc_Ru_answer_10 : decode M_Ru_answer.2.1 10 = .ok (.iconst 0, 1) := by decide +kernel
theorem dc_Ru_answer_11 : decode M_Ru_answer.2.1 11 = .ok (.putfield 75, 3) := by decide +kernel
theorem dc_Ru_answer_14 : decode M_Ru_answer.2.1 14 = .ok (.aload_n 0, 1) := by decide +kernel
theorem dc_Ru_answer_15 : decode M_Ru_answer.2.1 15 = .ok (.getfield 24, 3) := by decide +kernel
theorem dc_Ru_answer_18 : decode M_Ru_answer.2.1 18 = .ok (.iload_n 1, 1) := by decide +kernel
theorem dc_Ru_answer_19 : decode M_Ru_answer.2.1 19 = .ok (.invokevirtual 78, 3) := by decide +kernel
theorem dc_Ru_answer_22 : decode M_Ru_answer.2.1 22 = .ok (.istore_n 2, 1) := by decide +kernel
theorem dc_Ru_answer_23 : decode M_Ru_answer.2.1 23 = .ok (.iload_n 2, 1) := by decide +kernel
theorem dc_Ru_answer_24 : decode M_Ru_answer.2.1 24 = .ok (.aload_n 0, 1) := by decide +kernel
theorem dc_Ru_answer_25 : decode M_Ru_answer.2.1 25 = .ok (.getfield 24, 3) := by decide +kernel
theorem dc_Ru_answer_28 : decode M_Ru_answer.2.1 28 = .ok (.iload_n 1, 1) := by decide +kernel
theorem dc_Ru_answer_29 : decode M_Ru_answer.2.1 29 = .ok (.invokevirtual 81, 3) := by decide +kernel
theorem dc_Ru_answer_32 : decode M_Ru_answer.2.1 32 = .ok (.if_icmp .ge 21, 3) := by decide +kernel
theorem dc_Ru_answer_35 : decode M_Ru_answer.2.1 35 = .ok (.aload_n 0, 1) := by decide +kernel
theorem dc_Ru_answer_36 : decode M_Ru_answer.2.1 36 = .ok (.aload_n 0, 1) := by decide +kernel
theorem dc_Ru_answer_37 : decode M_Ru_answer.2.1 37 = .ok (.getfield 24, 3) := by decide +kernel
theorem dc_Ru_answer_40 : decode M_Ru_answer.2.1 40 = .ok (.iload_n 2, 1) := by decide +kernel
theorem dc_Ru_answer_41 : decode M_Ru_answer.2.1 41 = .ok (.invokevirtual 84, 3) := by decide +kernel
theorem dc_Ru_answer_44 : decode M_Ru_answer.2.1 44 = .ok (.invokevirtual 87, 3) := by decide +kernel
theorem dc_Ru_answer_47 : decode M_Ru_answer.2.1 47 = .ok (.iinc 2 1, 3) := by decide +kernel
theorem dc_Ru_answer_50 : decode M_Ru_answer.2.1 50 = .ok (.goto (-27), 3) := by decide +kernel
theorem dc_Ru_answer_53 : decode M_Ru_answer.2.1 53 = .ok (.aload_n 0, 1) := by decide +kernel
theorem dc_Ru_answer_54 : decode M_Ru_answer.2.1 54 = .ok (.invokevirtual 91, 3) := by decide +kernel
theorem dc_Ru_answer_57 : decode M_Ru_answer.2.1 57 = .ok (.ireturn, 1) := by decide +kernel
def f_Ru_answer_L23 (a0 : Nat) (a1 : Int32) : Nat → Int32 → xH → (Int32 → xH → Option (Int32 × xH)) → Option (Int32 × xH)
  | 0, _, _, _ => none
  | n + 1, a2, h, K => gd (hK h a0 = 2) (gd (hK h (hR h a0 5) = 7) (Option.bind (f_Te_end (hR h a0 5) a1 h) (fun q19 => if q19.1 ≤ a2 then K a2 q19.2 else gd (hK q19.2 a0 = 2) (gd (hK q19.2 (hR q19.2 a0 5) = 7) (Option.bind (f_Te_code (hR q19.2 a0 5) a2 q19.2) (fun q23 => gd (hK q23.2 a0 = 2) (Option.bind (f_Ru_step a0 q23.1 q23.2) (fun q25 => f_Ru_answer_L23 a0 a1 n (a2 + (1 : Int32)) q25.2 K))))))))
def f_Ru_answer (a0 : Nat) (a1 : Int32) (h : xH) : Option (Int32 × xH) := gd (hK h a0 = 2) (if (hR h a0 5) = 0 then some ((0 : Int32), h) else gd (hK h (hR h a0 5) = 7) (Option.bind (f_Te_begin (hR h a0 5) a1 (hIu h a0 4 (0 : Int32))) (fun q16 => f_Ru_answer_L23 a0 a1 fu q16.1 q16.2 (fun v27 h28 => gd (hK h28 a0 = 2) (Option.bind (f_Ru_pop a0 h28) (fun q29 => some (q29.1, q29.2)))))))
theorem t_Ru_answer_L23 {l : Launch} {z : xZ} {d mc ms : Nat} {Ph : Option xV → xH → Prop} {a0 : Nat} {a1 : Int32}  (hd : 3 ≤ d) : ∀ (n : Nat) (a2 : Int32) (h : xH) (K : Int32 → xH → Option (Int32 × xH)), OK (f_Ru_answer_L23 a0 a1 n a2 h K) (fun q => Ph (some (xI q.1)) q.2) → (∀ (a2 : Int32) (h : xH), OK (K a2 h) (fun q => Ph (some (xI q.1)) q.2) → Sx l z d mc ms M_Ru_answer 53 [some (xR a0), some (xI a1), some (xI a2)] [] h Ph) → Sx l z d mc ms M_Ru_answer 23 [some (xR a0), some (xI a1), some (xI a2)] [] h Ph := by
  intro n
  induction n with
  | zero => intro a2 h K hk hE; exact hk.no
  | succ n ih =>
    intro a2 h K hk hE
    rw [f_Ru_answer_L23] at hk
    refine sx_iload_n dc_Ru_answer_23 rfl ?_
    refine sx_aload_n dc_Ru_answer_24 rfl ?_
    obtain ⟨g18, hk⟩ := hk.g
    refine sx_get (ci := 2) (k := 5) rfl (by decide) wF_Ru_24 g18 dc_Ru_answer_25 ?_
    refine sx_iload_n dc_Ru_answer_28 rfl ?_
    obtain ⟨g20, hk⟩ := hk.g
    obtain ⟨q19, eq19, hk⟩ := hk.bind
    refine sx_callV (d2 := d - 1) (mc2 := 0) (ms2 := 0) (as := [xI a1]) mk_Te_end rfl (x_rk (ci := 7) g20 rfl rfl) wM_Ru_81 mi_Te_end me_Te_end rfl (Nat.le_of_ble_eq_true rfl) (Nat.le_of_ble_eq_true rfl) dc_Ru_answer_29 (by omega) (Nat.zero_le _) (Nat.zero_le _) ?_
    refine t_Te_end (by omega) ⟨q19, eq19, ?_⟩
    refine sx_eq0 (lc2 := [some (xR a0), some (xI a1), some (xI a2)]) (st2 := [xI q19.1, xI a2]) rfl rfl ?_
    refine sx_icmp_ge (tgt := 53) dc_Ru_answer_32 (by decide) (fun c21 => ?_) (fun c21 => ?_)
    · replace hk := hk.t c21
      exact hE a2 q19.2 hk
    · replace hk := hk.f c21
      refine sx_aload_n dc_Ru_answer_35 rfl ?_
      refine sx_aload_n dc_Ru_answer_36 rfl ?_
      obtain ⟨g22, hk⟩ := hk.g
      refine sx_get (ci := 2) (k := 5) rfl (by decide) wF_Ru_24 g22 dc_Ru_answer_37 ?_
      refine sx_iload_n dc_Ru_answer_40 rfl ?_
      obtain ⟨g24, hk⟩ := hk.g
      obtain ⟨q23, eq23, hk⟩ := hk.bind
      refine sx_callV (d2 := d - 1) (mc2 := 0) (ms2 := 0) (as := [xI a2]) mk_Te_code rfl (x_rk (ci := 7) g24 rfl rfl) wM_Ru_84 mi_Te_code me_Te_code rfl (Nat.le_of_ble_eq_true rfl) (Nat.le_of_ble_eq_true rfl) dc_Ru_answer_41 (by omega) (Nat.zero_le _) (Nat.zero_le _) ?_
      refine t_Te_code (by omega) ⟨q23, eq23, ?_⟩
      refine sx_eq0 (lc2 := [some (xR a0), some (xI a1), some (xI a2)]) (st2 := [xI q23.1, xR a0]) rfl rfl ?_
      obtain ⟨g26, hk⟩ := hk.g
      obtain ⟨q25, eq25, hk⟩ := hk.bind
      refine sx_callV (d2 := d - 1) (mc2 := 0) (ms2 := 0) (as := [xI q23.1]) mk_Ru_step rfl (x_rk (ci := 2) g26 rfl rfl) wM_Ru_87 mi_Ru_step me_Ru_step rfl (Nat.le_of_ble_eq_true rfl) (Nat.le_of_ble_eq_true rfl) dc_Ru_answer_44 (by omega) (Nat.zero_le _) (Nat.zero_le _) ?_
      refine t_Ru_step (by omega) ⟨q25, eq25, ?_⟩
      refine sx_eq0 (lc2 := [some (xR a0), some (xI a1), some (xI a2)]) (st2 := []) rfl rfl ?_
      refine sx_iinc (v := (1 : Int32)) dc_Ru_answer_47 rfl (by decide) (by decide) (sx_eq (lc2 := [some (xR a0), some (xI a1), some (xI (a2 + (1 : Int32)))]) rfl rfl ?_)
      refine sx_goto (tgt := 23) dc_Ru_answer_50 (by decide) ?_
      exact ih (a2 + (1 : Int32)) q25.2 _ hk hE
theorem t_Ru_answer {l : Launch} {z : xZ} {d mc ms : Nat} {Ph : Option xV → xH → Prop} {a0 : Nat} {a1 : Int32}  {h : xH} (hd : 3 ≤ d) (hk : OK (f_Ru_answer a0 a1 h) (fun q => Ph (some (xI q.1)) q.2)) : Sx l z d mc ms M_Ru_answer 0 (x_en [xR a0, xI a1] 3) [] h Ph := by
  unfold f_Ru_answer at hk
  refine sx_eq (lc2 := [some (xR a0), some (xI a1), none]) rfl rfl ?_
  refine sx_aload_n dc_Ru_answer_0 rfl ?_
  obtain ⟨g14, hk⟩ := hk.g
  refine sx_get (ci := 2) (k := 5) rfl (by decide) wF_Ru_24 g14 dc_Ru_answer_1 ?_
  refine sx_ifnonnull (tgt := 9) dc_Ru_answer_4 (by decide) (fun c15 => ?_) (fun c15 => ?_)
  · replace hk := hk.f c15
    refine sx_aload_n dc_Ru_answer_9 rfl ?_
    refine sx_iconst (v := (0 : Int32)) dc_Ru_answer_10 (by decide) ?_
    refine sx_putI (ci := 2) (k := 4) rfl (by decide) wF_Ru_75 rfl g14 (Or.inl rfl) dc_Ru_answer_11 ?_
    refine sx_aload_n dc_Ru_answer_14 rfl ?_
    refine sx_get (ci := 2) (k := 5) rfl (by decide) wF_Ru_24 g14 dc_Ru_answer_15 ?_
    refine sx_iload_n dc_Ru_answer_18 rfl ?_
    obtain ⟨g17, hk⟩ := hk.g
    obtain ⟨q16, eq16, hk⟩ := hk.bind
    refine sx_callV (d2 := d - 1) (mc2 := 0) (ms2 := 0) (as := [xI a1]) mk_Te_begin rfl (x_rk (ci := 7) g17 rfl rfl) wM_Ru_78 mi_Te_begin me_Te_begin rfl (Nat.le_of_ble_eq_true rfl) (Nat.le_of_ble_eq_true rfl) dc_Ru_answer_19 (by omega) (Nat.zero_le _) (Nat.zero_le _) ?_
    refine t_Te_begin (by omega) ⟨q16, eq16, ?_⟩
    refine sx_eq0 (lc2 := [some (xR a0), some (xI a1), none]) (st2 := [xI q16.1]) rfl rfl ?_
    refine sx_istore_n dc_Ru_answer_22 (by decide) (sx_eq (lc2 := [some (xR a0), some (xI a1), some (xI q16.1)]) rfl rfl ?_)
    refine t_Ru_answer_L23 (by omega) _ _ _ _ hk (fun v27 h28 hk => ?_)
    refine sx_aload_n dc_Ru_answer_53 rfl ?_
    obtain ⟨g30, hk⟩ := hk.g
    obtain ⟨q29, eq29, hk⟩ := hk.bind
    refine sx_callV (d2 := d - 1) (mc2 := 0) (ms2 := 0) (as := []) mk_Ru_pop rfl (x_rk (ci := 2) g30 rfl rfl) wM_Ru_91 mi_Ru_pop me_Ru_pop rfl (Nat.le_of_ble_eq_true rfl) (Nat.le_of_ble_eq_true rfl) dc_Ru_answer_54 (by omega) (Nat.zero_le _) (Nat.zero_le _) ?_
    refine t_Ru_pop (by omega) ⟨q29, eq29, ?_⟩
    refine sx_eq0 (lc2 := [some (xR a0), some (xI a1), some (xI v27)]) (st2 := [xI q29.1]) rfl rfl ?_
    exact sx_retI dc_Ru_answer_57 rfl hk.val
  · replace hk := hk.t c15
    refine sx_iconst (v := (0 : Int32)) dc_Ru_answer_7 (by decide) ?_
    exact sx_retI dc_Ru_answer_8 rfl hk.val
theorem dc_Ru_bounded_0 : decode M_Ru_bounded.2.1 0 = .ok (.iconst 0, 1) := by decide +kernel
theorem dc_Ru_bounded_1 : decode M_Ru_bounded.2.1 1 = .ok (.bipush 99, 2) := by decide +kernel
theorem dc_Ru_bounded_3 : decode M_Ru_bounded.2.1 3 = .ok (.iload_n 0, 1) := by decide +kernel
theorem dc_Ru_bounded_4 : decode M_Ru_bounded.2.1 4 = .ok (.invokestatic 62, 3) := by decide +kernel
theorem dc_Ru_bounded_7 : decode M_Ru_bounded.2.1 7 = .ok (.invokestatic 68, 3) := by decide +kernel
theorem dc_Ru_bounded_10 : decode M_Ru_bounded.2.1 10 = .ok (.ireturn, 1) := by decide +kernel
def f_Ru_bounded (a0 : Int32) (h : xH) : Option (Int32 × xH) := some (jMax (0 : Int32) (jMin (99 : Int32) a0), h)
theorem t_Ru_bounded {l : Launch} {z : xZ} {d mc ms : Nat} {Ph : Option xV → xH → Prop} {a0 : Int32}  {h : xH} (hd : 2 ≤ d) (hk : OK (f_Ru_bounded a0 h) (fun q => Ph (some (xI q.1)) q.2)) : Sx l z d mc ms M_Ru_bounded 0 (x_en [xI a0] 1) [] h Ph := by
  unfold f_Ru_bounded at hk
  refine sx_eq (lc2 := [some (xI a0)]) rfl rfl ?_
  refine sx_iconst (v := (0 : Int32)) dc_Ru_bounded_0 (by decide) ?_
  refine sx_bipush (v := (99 : Int32)) dc_Ru_bounded_1 (by decide) ?_
  refine sx_iload_n dc_Ru_bounded_3 rfl ?_
  refine sx_min wM_Ru_62 mt_Mt_min wT_Mt wV_min (Nat.le_of_ble_eq_true rfl) (by omega) dc_Ru_bounded_4 ?_
  refine sx_max wM_Ru_68 mt_Mt_max wT_Mt wV_max (Nat.le_of_ble_eq_true rfl) (by omega) dc_Ru_bounded_7 ?_
  exact sx_retI dc_Ru_bounded_10 rfl hk.val
theorem dc_Ru_costs_0 : decode M_Ru_costs.2.1 0 = .ok (.aload_n 0, 1) := by decide +kernel
theorem dc_Ru_costs_1 : decode M_Ru_costs.2.1 1 = .ok (.getfield 20, 3) := by decide +kernel
theorem dc_Ru_costs_4 : decode M_Ru_costs.2.1 4 = .ok (.iload_n 1, 1) := by decide +kernel
theorem dc_Ru_costs_5 : decode M_Ru_costs.2.1 5 = .ok (.invokevirtual 38, 3) := by decide +kernel
theorem dc_Ru_costs_8 : decode M_Ru_costs.2.1 8 = .ok (.istore_n 2, 1) := by decide +kernel
theorem dc_Ru_costs_9 : decode M_Ru_costs.2.1 9 = .ok (.aload_n 0, 1) := by decide +kernel
theorem dc_Ru_costs_10 : decode M_Ru_costs.2.1 10 = .ok (.aload_n 0, 1) := by decide +kernel
theorem dc_Ru_costs_11 : decode M_Ru_costs.2.1 11 = .ok (.getfield 16, 3) := by decide +kernel
theorem dc_Ru_costs_14 : decode M_Ru_costs.2.1 14 = .ok (.iload_n 1, 1) := by decide +kernel
theorem dc_Ru_costs_15 : decode M_Ru_costs.2.1 15 = .ok (.invokevirtual 43, 3) := by decide +kernel
theorem dc_Ru_costs_18 : decode M_Ru_costs.2.1 18 = .ok (.aload_n 0, 1) := by decide +kernel
theorem dc_Ru_costs_19 : decode M_Ru_costs.2.1 19 = .ok (.getfield 16, 3) := by decide +kernel
theorem dc_Ru_costs_22 : decode M_Ru_costs.2.1 22 = .ok (.iload_n 1, 1) := by decide +kernel
theorem dc_Ru_costs_23 : decode M_Ru_costs.2.1 23 = .ok (.invokevirtual 48, 3) := by decide +kernel
theorem dc_Ru_costs_26 : decode M_Ru_costs.2.1 26 = .ok (.iconst 0, 1) := by decide +kernel
theorem dc_Ru_costs_27 : decode M_Ru_costs.2.1 27 = .ok (.iload_n 2, 1) := by decide +kernel
theorem dc_Ru_costs_28 : decode M_Ru_costs.2.1 28 = .ok (.iconst 1, 1) := by decide +kernel
theorem dc_Ru_costs_29 : decode M_Ru_costs.2.1 29 = .ok (.if_icmp .ne 7, 3) := by decide +kernel
theorem dc_Ru_costs_32 : decode M_Ru_costs.2.1 32 = .ok (.iconst 1, 1) := by decide +kernel
theorem dc_Ru_costs_33 : decode M_Ru_costs.2.1 33 = .ok (.goto 4, 3) := by decide +kernel
theorem dc_Ru_costs_36 : decode M_Ru_costs.2.1 36 = .ok (.iconst 0, 1) := by decide +kernel
theorem dc_Ru_costs_37 : decode M_Ru_costs.2.1 37 = .ok (.iload_n 2, 1) := by decide +kernel
theorem dc_Ru_costs_38 : decode M_Ru_costs.2.1 38 = .ok (.iconst 2, 1) := by decide +kernel
theorem dc_Ru_costs_39 : decode M_Ru_costs.2.1 39 = .ok (.if_icmp .ne 7, 3) := by decide +kernel
theorem dc_Ru_costs_42 : decode M_Ru_costs.2.1 42 = .ok (.iconst 0, 1) := by decide +kernel
theorem dc_Ru_costs_43 : decode M_Ru_costs.2.1 43 = .ok (.goto 4, 3) := by decide +kernel
theorem dc_Ru_costs_46 : decode M_Ru_costs.2.1 46 = .ok (.iconst 1, 1) := by decide +kernel
theorem dc_Ru_costs_47 : decode M_Ru_costs.2.1 47 = .ok (.invokevirtual 28, 3) := by decide +kernel
theorem dc_Ru_costs_50 : decode M_Ru_costs.2.1 50 = .ok (.aload_n 0, 1) := by decide +kernel
theorem dc_Ru_costs_51 : decode M_Ru_costs.2.1 51 = .ok (.iconst 1, 1) := by decide +kernel
theorem dc_Ru_costs_52 : decode M_Ru_costs.2.1 52 = .ok (.invokevirtual 34, 3) := by decide +kernel
theorem dc_Ru_costs_55 : decode M_Ru_costs.2.1 55 = .ok (.invokestatic 51, 3) := by decide +kernel
theorem dc_Ru_costs_58 : decode M_Ru_costs.2.1 58 = .ok (.ireturn, 1) := by decide +kernel
def f_Ru_costs (a0 : Nat) (a1 : Int32) (h : xH) : Option (Int32 × xH) := gd (hK h a0 = 2) (gd (hK h (hR h a0 1) = 6) (Option.bind (f_Ta_look (hR h a0 1) a1 h) (fun q16 => gd (hK q16.2 a0 = 2) (gd (hK q16.2 (hR q16.2 a0 0) = 3) (Option.bind (f_Se_lower (hR q16.2 a0 0) a1 q16.2) (fun q19 => gd (hK q19.2 a0 = 2) (gd (hK q19.2 (hR q19.2 a0 0) = 3) (Option.bind (f_Se_higher (hR q19.2 a0 0) a1 q19.2) (fun q22 => gd (hK q22.2 a0 = 2) (Option.bind (f_Ru_name a0 q19.1 q22.1 (0 : Int32) (if q16.1 = (1 : Int32) then (1 : Int32) else (0 : Int32)) (if q16.1 = (2 : Int32) then (0 : Int32) else (1 : Int32)) q22.2) (fun q28 => gd (hK q28.2 a0 = 2) (Option.bind (f_Ru_answer a0 (1 : Int32) q28.2) (fun q30 => Option.bind (f_Ru_bounded q30.1 q30.2) (fun q32 => some (q32.1, q32.2)))))))))))))))
theorem t_Ru_costs {l : Launch} {z : xZ} {d mc ms : Nat} {Ph : Option xV → xH → Prop} {a0 : Nat} {a1 : Int32}  {h : xH} (hd : 4 ≤ d) (hk : OK (f_Ru_costs a0 a1 h) (fun q => Ph (some (xI q.1)) q.2)) : Sx l z d mc ms M_Ru_costs 0 (x_en [xR a0, xI a1] 3) [] h Ph := by
  unfold f_Ru_costs at hk
  refine sx_eq (lc2 := [some (xR a0), some (xI a1), none]) rfl rfl ?_
  refine sx_aload_n dc_Ru_costs_0 rfl ?_
  obtain ⟨g15, hk⟩ := hk.g
  refine sx_get (ci := 2) (k := 1) rfl (by decide) wF_Ru_20 g15 dc_Ru_costs_1 ?_
  refine sx_iload_n dc_Ru_costs_4 rfl ?_
  obtain ⟨g17, hk⟩ := hk.g
  obtain ⟨q16, eq16, hk⟩ := hk.bind
  refine sx_callV (d2 := d - 1) (mc2 := 0) (ms2 := 0) (as := [xI a1]) mk_Ta_look rfl (x_rk (ci := 6) g17 rfl rfl) wM_Ru_38 mi_Ta_look me_Ta_look rfl (Nat.le_of_ble_eq_true rfl) (Nat.le_of_ble_eq_true rfl) dc_Ru_costs_5 (by omega) (Nat.zero_le _) (Nat.zero_le _) ?_
  refine t_Ta_look (by omega) ⟨q16, eq16, ?_⟩
  refine sx_eq0 (lc2 := [some (xR a0), some (xI a1), none]) (st2 := [xI q16.1]) rfl rfl ?_
  refine sx_istore_n dc_Ru_costs_8 (by decide) (sx_eq (lc2 := [some (xR a0), some (xI a1), some (xI q16.1)]) rfl rfl ?_)
  refine sx_aload_n dc_Ru_costs_9 rfl ?_
  refine sx_aload_n dc_Ru_costs_10 rfl ?_
  obtain ⟨g18, hk⟩ := hk.g
  refine sx_get (ci := 2) (k := 0) rfl (by decide) wF_Ru_16 g18 dc_Ru_costs_11 ?_
  refine sx_iload_n dc_Ru_costs_14 rfl ?_
  obtain ⟨g20, hk⟩ := hk.g
  obtain ⟨q19, eq19, hk⟩ := hk.bind
  refine sx_callV (d2 := d - 1) (mc2 := 0) (ms2 := 0) (as := [xI a1]) mk_Se_lower rfl (x_rk (ci := 3) g20 rfl rfl) wM_Ru_43 mi_Se_lower me_Se_lower rfl (Nat.le_of_ble_eq_true rfl) (Nat.le_of_ble_eq_true rfl) dc_Ru_costs_15 (by omega) (Nat.zero_le _) (Nat.zero_le _) ?_
  refine t_Se_lower (by omega) ⟨q19, eq19, ?_⟩
  refine sx_eq0 (lc2 := [some (xR a0), some (xI a1), some (xI q16.1)]) (st2 := [xI q19.1, xR a0]) rfl rfl ?_
  refine sx_aload_n dc_Ru_costs_18 rfl ?_
  obtain ⟨g21, hk⟩ := hk.g
  refine sx_get (ci := 2) (k := 0) rfl (by decide) wF_Ru_16 g21 dc_Ru_costs_19 ?_
  refine sx_iload_n dc_Ru_costs_22 rfl ?_
  obtain ⟨g23, hk⟩ := hk.g
  obtain ⟨q22, eq22, hk⟩ := hk.bind
  refine sx_callV (d2 := d - 1) (mc2 := 0) (ms2 := 0) (as := [xI a1]) mk_Se_higher rfl (x_rk (ci := 3) g23 rfl rfl) wM_Ru_48 mi_Se_higher me_Se_higher rfl (Nat.le_of_ble_eq_true rfl) (Nat.le_of_ble_eq_true rfl) dc_Ru_costs_23 (by omega) (Nat.zero_le _) (Nat.zero_le _) ?_
  refine t_Se_higher (by omega) ⟨q22, eq22, ?_⟩
  refine sx_eq0 (lc2 := [some (xR a0), some (xI a1), some (xI q16.1)]) (st2 := [xI q22.1, xI q19.1, xR a0]) rfl rfl ?_
  refine sx_iconst (v := (0 : Int32)) dc_Ru_costs_26 (by decide) ?_
  refine sx_iload_n dc_Ru_costs_27 rfl ?_
  refine sx_iconst (v := (1 : Int32)) dc_Ru_costs_28 (by decide) ?_
  suffices J24 : Sx l z d mc ms M_Ru_costs 37 [some (xR a0), some (xI a1), some (xI q16.1)] [xI (if q16.1 = (1 : Int32) then (1 : Int32) else (0 : Int32)), xI (0 : Int32), xI q22.1, xI q19.1, xR a0] q22.2 Ph by
    refine sx_icmp_ne (tgt := 36) dc_Ru_costs_29 (by decide) (fun c25 => ?_) (fun c25 => ?_)
    · try simp only [if_neg c25] at J24
      refine sx_iconst (v := (0 : Int32)) dc_Ru_costs_36 (by decide) ?_
      exact J24
    · try simp only [if_pos c25] at J24
      refine sx_iconst (v := (1 : Int32)) dc_Ru_costs_32 (by decide) ?_
      refine sx_goto (tgt := 37) dc_Ru_costs_33 (by decide) ?_
      exact J24
  refine sx_iload_n dc_Ru_costs_37 rfl ?_
  refine sx_iconst (v := (2 : Int32)) dc_Ru_costs_38 (by decide) ?_
  suffices J26 : Sx l z d mc ms M_Ru_costs 47 [some (xR a0), some (xI a1), some (xI q16.1)] [xI (if q16.1 = (2 : Int32) then (0 : Int32) else (1 : Int32)), xI (if q16.1 = (1 : Int32) then (1 : Int32) else (0 : Int32)), xI (0 : Int32), xI q22.1, xI q19.1, xR a0] q22.2 Ph by
    refine sx_icmp_ne (tgt := 46) dc_Ru_costs_39 (by decide) (fun c27 => ?_) (fun c27 => ?_)
    · try simp only [if_neg c27] at J26
      refine sx_iconst (v := (1 : Int32)) dc_Ru_costs_46 (by decide) ?_
      exact J26
    · try simp only [if_pos c27] at J26
      refine sx_iconst (v := (0 : Int32)) dc_Ru_costs_42 (by decide) ?_
      refine sx_goto (tgt := 47) dc_Ru_costs_43 (by decide) ?_
      exact J26
  obtain ⟨g29, hk⟩ := hk.g
  obtain ⟨q28, eq28, hk⟩ := hk.bind
  refine sx_callV (d2 := d - 1) (mc2 := 0) (ms2 := 0) (as := [xI q19.1, xI q22.1, xI (0 : Int32), xI (if q16.1 = (1 : Int32) then (1 : Int32) else (0 : Int32)), xI (if q16.1 = (2 : Int32) then (0 : Int32) else (1 : Int32))]) mk_Ru_name rfl (x_rk (ci := 2) g29 rfl rfl) wM_Ru_28 mi_Ru_name me_Ru_name rfl (Nat.le_of_ble_eq_true rfl) (Nat.le_of_ble_eq_true rfl) dc_Ru_costs_47 (by omega) (Nat.zero_le _) (Nat.zero_le _) ?_
  refine t_Ru_name (by omega) ⟨q28, eq28, ?_⟩
  refine sx_eq0 (lc2 := [some (xR a0), some (xI a1), some (xI q16.1)]) (st2 := []) rfl rfl ?_
  refine sx_aload_n dc_Ru_costs_50 rfl ?_
  refine sx_iconst (v := (1 : Int32)) dc_Ru_costs_51 (by decide) ?_
  obtain ⟨g31, hk⟩ := hk.g
  obtain ⟨q30, eq30, hk⟩ := hk.bind
  refine sx_callV (d2 := d - 1) (mc2 := 0) (ms2 := 0) (as := [xI (1 : Int32)]) mk_Ru_answer rfl (x_rk (ci := 2) g31 rfl rfl) wM_Ru_34 mi_Ru_answer me_Ru_answer rfl (Nat.le_of_ble_eq_true rfl) (Nat.le_of_ble_eq_true rfl) dc_Ru_costs_52 (by omega) (Nat.zero_le _) (Nat.zero_le _) ?_
  refine t_Ru_answer (by omega) ⟨q30, eq30, ?_⟩
  refine sx_eq0 (lc2 := [some (xR a0), some (xI a1), some (xI q16.1)]) (st2 := [xI q30.1]) rfl rfl ?_
  obtain ⟨q32, eq32, hk⟩ := hk.bind
  refine sx_callS (d2 := d - 1) (mc2 := 0) (ms2 := 0) (as := [xI q30.1]) mk_Ru_bounded rfl wM_Ru_51 mt_Ru_bounded rfl (Nat.le_of_ble_eq_true rfl) (Nat.le_of_ble_eq_true rfl) dc_Ru_costs_55 (by omega) (Nat.zero_le _) (Nat.zero_le _) ?_
  refine t_Ru_bounded (by omega) ⟨q32, eq32, ?_⟩
  refine sx_eq0 (lc2 := [some (xR a0), some (xI a1), some (xI q16.1)]) (st2 := [xI q32.1]) rfl rfl ?_
  exact sx_retI dc_Ru_costs_58 rfl hk.val
theorem dc_Se_three_0 : decode M_Se_three.2.1 0 = .ok (.iload_n 1, 1) := by decide +kernel
theorem dc_Se_three_1 : decode M_Se_three.2.1 1 = .ok (.ifCond .lt 18, 3) := by decide +kernel
theorem dc_Se_three_4 : decode M_Se_three.2.1 4 = .ok (.iload_n 1, 1) := by decide +kernel
theorem dc_Se_three_5 : decode M_Se_three.2.1 5 = .ok (.bipush 35, 2) := by decide +kernel
theorem dc_Se_three_7 : decode M_Se_three.2.1 7 = .ok (.if_icmp .ge 12, 3) := by decide +kernel
theorem dc_Se_three_10 : decode M_Se_three.2.1 10 = .ok (.aload_n 0, 1) := by decide +kernel
theorem dc_Se_three_11 : decode M_Se_three.2.1 11 = .ok (.getfield 19, 3) := by decide +kernel
theorem dc_Se_three_14 : decode M_Se_three.2.1 14 = .ok (.iload_n 1, 1) := by decide +kernel
theorem dc_Se_three_15 : decode M_Se_three.2.1 15 = .ok (.iaload, 1) := by decide +kernel
theorem dc_Se_three_16 : decode M_Se_three.2.1 16 = .ok (.goto 4, 3) := by decide +kernel
theorem dc_Se_three_19 : decode M_Se_three.2.1 19 = .ok (.iconst 0, 1) := by decide +kernel
theorem dc_Se_three_20 : decode M_Se_three.2.1 20 = .ok (.ireturn, 1) := by decide +kernel
def f_Se_three (a0 : Nat) (a1 : Int32) (h : xH) : Option (Int32 × xH) := jn (fun (x4 : Int32) => some (x4, h)) (fun k5 => jn (fun (x6 : Unit) => k5 (0 : Int32)) (fun k7 => if a1 < 0 then k7 () else if (35 : Int32) ≤ a1 then k7 () else gd (hK h a0 = 3) (gd (hK h (hR h a0 3) = 12) (gd (¬ (a1 < 0 ∨ hL h (hR h a0 3) ≤ a1.toNatClampNeg)) (k5 (hI h (hR h a0 3) a1.toNatClampNeg))))))
theorem t_Se_three {l : Launch} {z : xZ} {d mc ms : Nat} {Ph : Option xV → xH → Prop} {a0 : Nat} {a1 : Int32}  {h : xH} (hd : 1 ≤ d) (hk : OK (f_Se_three a0 a1 h) (fun q => Ph (some (xI q.1)) q.2)) : Sx l z d mc ms M_Se_three 0 (x_en [xR a0, xI a1] 2) [] h Ph := by
  unfold f_Se_three at hk
  refine sx_eq (lc2 := [some (xR a0), some (xI a1)]) rfl rfl ?_
  refine sx_iload_n dc_Se_three_0 rfl ?_
  refine hk.j (X := fun x4 => Sx l z d mc ms M_Se_three 20 [some (xR a0), some (xI a1)] [xI x4] h Ph) (fun x4 hk => ?_) (fun k5 jk5 hk => ?_)
  · exact sx_retI dc_Se_three_20 rfl hk.val
  · refine hk.j (X := fun x6 => Sx l z d mc ms M_Se_three 19 [some (xR a0), some (xI a1)] [] h Ph) (fun x6 hk => ?_) (fun k7 jk7 hk => ?_)
    · refine sx_iconst (v := (0 : Int32)) dc_Se_three_19 (by decide) ?_
      exact jk5 (0 : Int32) hk
    · refine sx_if_lt (tgt := 19) dc_Se_three_1 (by decide) (fun c8 => ?_) (fun c8 => ?_)
      · replace hk := hk.t c8
        exact jk7 () hk
      · replace hk := hk.f c8
        refine sx_iload_n dc_Se_three_4 rfl ?_
        refine sx_bipush (v := (35 : Int32)) dc_Se_three_5 (by decide) ?_
        refine sx_icmp_ge (tgt := 19) dc_Se_three_7 (by decide) (fun c9 => ?_) (fun c9 => ?_)
        · replace hk := hk.t c9
          exact jk7 () hk
        · replace hk := hk.f c9
          refine sx_aload_n dc_Se_three_10 rfl ?_
          obtain ⟨g10, hk⟩ := hk.g
          refine sx_get (ci := 3) (k := 3) rfl (by decide) wF_Se_19 g10 dc_Se_three_11 ?_
          refine sx_iload_n dc_Se_three_14 rfl ?_
          obtain ⟨g11, hk⟩ := hk.g
          obtain ⟨g12, hk⟩ := hk.g
          refine sx_iald g11 g12 dc_Se_three_15 ?_
          refine sx_goto (tgt := 20) dc_Se_three_16 (by decide) ?_
          exact jk5 (hI h (hR h a0 3) a1.toNatClampNeg) hk
theorem dc_Se_within_0 : decode M_Se_within.2.1 0 = .ok (.iload_n 1, 1) := by decide +kernel
theorem dc_Se_within_1 : decode M_Se_within.2.1 1 = .ok (.ifCond .lt 19, 3) := by decide +kernel
theorem dc_Se_within_4 : decode M_Se_within.2.1 4 = .ok (.iload_n 1, 1) := by decide +kernel
theorem dc_Se_within_5 : decode M_Se_within.2.1 5 = .ok (.sipush 128, 3) := by decide +kernel
theorem dc_Se_within_8 : decode M_Se_within.2.1 8 = .ok (.if_icmp .ge 12, 3) := by decide +kernel
theorem dc_Se_within_11 : decode M_Se_within.2.1 11 = .ok (.aload_n 0, 1) := by decide +kernel
theorem dc_Se_within_12 : decode M_Se_within.2.1 12 = .ok (.getfield 9, 3) := by decide +kernel
theorem dc_Se_within_15 : decode M_Se_within.2.1 15 = .ok (.iload_n 1, 1) := by decide +kernel
theorem dc_Se_within_16 : decode M_Se_within.2.1 16 = .ok (.iaload, 1) := by decide +kernel
theorem dc_Se_within_17 : decode M_Se_within.2.1 17 = .ok (.goto 4, 3) := by decide +kernel
theorem dc_Se_within_20 : decode M_Se_within.2.1 20 = .ok (.iconst 0, 1) := by decide +kernel
theorem dc_Se_within_21 : decode M_Se_within.2.1 21 = .ok (.ireturn, 1) := by decide +kernel
def f_Se_within (a0 : Nat) (a1 : Int32) (h : xH) : Option (Int32 × xH) := jn (fun (x4 : Int32) => some (x4, h)) (fun k5 => jn (fun (x6 : Unit) => k5 (0 : Int32)) (fun k7 => if a1 < 0 then k7 () else if (128 : Int32) ≤ a1 then k7 () else gd (hK h a0 = 3) (gd (hK h (hR h a0 0) = 12) (gd (¬ (a1 < 0 ∨ hL h (hR h a0 0) ≤ a1.toNatClampNeg)) (k5 (hI h (hR h a0 0) a1.toNatClampNeg))))))
theorem t_Se_within {l : Launch} {z : xZ} {d mc ms : Nat} {Ph : Option xV → xH → Prop} {a0 : Nat} {a1 : Int32}  {h : xH} (hd : 1 ≤ d) (hk : OK (f_Se_within a0 a1 h) (fun q => Ph (some (xI q.1)) q.2)) : Sx l z d mc ms M_Se_within 0 (x_en [xR a0, xI a1] 2) [] h Ph := by
  unfold f_Se_within at hk
  refine sx_eq (lc2 := [some (xR a0), some (xI a1)]) rfl rfl ?_
  refine sx_iload_n dc_Se_within_0 rfl ?_
  refine hk.j (X := fun x4 => Sx l z d mc ms M_Se_within 21 [some (xR a0), some (xI a1)] [xI x4] h Ph) (fun x4 hk => ?_) (fun k5 jk5 hk => ?_)
  · exact sx_retI dc_Se_within_21 rfl hk.val
  · refine hk.j (X := fun x6 => Sx l z d mc ms M_Se_within 20 [some (xR a0), some (xI a1)] [] h Ph) (fun x6 hk => ?_) (fun k7 jk7 hk => ?_)
    · refine sx_iconst (v := (0 : Int32)) dc_Se_within_20 (by decide) ?_
      exact jk5 (0 : Int32) hk
    · refine sx_if_lt (tgt := 20) dc_Se_within_1 (by decide) (fun c8 => ?_) (fun c8 => ?_)
      · replace hk := hk.t c8
        exact jk7 () hk
      · replace hk := hk.f c8
        refine sx_iload_n dc_Se_within_4 rfl ?_
        refine sx_sipush (v := (128 : Int32)) dc_Se_within_5 (by decide) ?_
        refine sx_icmp_ge (tgt := 20) dc_Se_within_8 (by decide) (fun c9 => ?_) (fun c9 => ?_)
        · replace hk := hk.t c9
          exact jk7 () hk
        · replace hk := hk.f c9
          refine sx_aload_n dc_Se_within_11 rfl ?_
          obtain ⟨g10, hk⟩ := hk.g
          refine sx_get (ci := 3) (k := 0) rfl (by decide) wF_Se_9 g10 dc_Se_within_12 ?_
          refine sx_iload_n dc_Se_within_15 rfl ?_
          obtain ⟨g11, hk⟩ := hk.g
          obtain ⟨g12, hk⟩ := hk.g
          refine sx_iald g11 g12 dc_Se_within_16 ?_
          refine sx_goto (tgt := 21) dc_Se_within_17 (by decide) ?_
          exact jk5 (hI h (hR h a0 0) a1.toNatClampNeg) hk
theorem dc_St_stands_0 : decode M_St_stands.2.1 0 = .ok (.iload_n 1, 1) := by decide +kernel
theorem dc_St_stands_1 : decode M_St_stands.2.1 1 = .ok (.ifCond .lt 10, 3) := by decide +kernel
theorem dc_St_stands_4 : decode M_St_stands.2.1 4 = .ok (.iload_n 1, 1) := by decide +kernel
theorem dc_St_stands_5 : decode M_St_stands.2.1 5 = .ok (.sipush 128, 3) := by decide +kernel
theorem dc_St_stands_8 : decode M_St_stands.2.1 8 = .ok (.if_icmp .lt 5, 3) := by decide +kernel
theorem dc_St_stands_11 : decode M_St_stands.2.1 11 = .ok (.iconst 0, 1) := by decide +kernel
theorem dc_St_stands_12 : decode M_St_stands.2.1 12 = .ok (.ireturn, 1) := by decide +kernel
theorem dc_St_stands_13 : decode M_St_stands.2.1 13 = .ok (.aload_n 0, 1) := by decide +kernel
theorem dc_St_stands_14 : decode M_St_stands.2.1 14 = .ok (.getfield 18, 3) := by decide +kernel
theorem dc_St_stands_17 : decode M_St_stands.2.1 17 = .ok (.iload_n 1, 1) := by decide +kernel
theorem dc_St_stands_18 : decode M_St_stands.2.1 18 = .ok (.invokevirtual 40, 3) := by decide +kernel
theorem dc_St_stands_21 : decode M_St_stands.2.1 21 = .ok (.istore 4, 2) := by decide +kernel
theorem dc_St_stands_23 : decode M_St_stands.2.1 23 = .ok (.iload_n 2, 1) := by decide +kernel
theorem dc_St_stands_24 : decode M_St_stands.2.1 24 = .ok (.iload 4, 2) := by decide +kernel
theorem dc_St_stands_26 : decode M_St_stands.2.1 26 = .ok (.iand, 1) := by decide +kernel
theorem dc_St_stands_27 : decode M_St_stands.2.1 27 = .ok (.iload 4, 2) := by decide +kernel
theorem dc_St_stands_29 : decode M_St_stands.2.1 29 = .ok (.if_icmp .ne 12, 3) := by decide +kernel
theorem dc_St_stands_32 : decode M_St_stands.2.1 32 = .ok (.aload_n 0, 1) := by decide +kernel
theorem dc_St_stands_33 : decode M_St_stands.2.1 33 = .ok (.getfield 9, 3) := by decide +kernel
theorem dc_St_stands_36 : decode M_St_stands.2.1 36 = .ok (.iload_n 1, 1) := by decide +kernel
theorem dc_St_stands_37 : decode M_St_stands.2.1 37 = .ok (.baload, 1) := by decide +kernel
theorem dc_St_stands_38 : decode M_St_stands.2.1 38 = .ok (.ifCond .ne 21, 3) := by decide +kernel
theorem dc_St_stands_41 : decode M_St_stands.2.1 41 = .ok (.iload_n 3, 1) := by decide +kernel
theorem dc_St_stands_42 : decode M_St_stands.2.1 42 = .ok (.iload 4, 2) := by decide +kernel
theorem dc_St_stands_44 : decode M_St_stands.2.1 44 = .ok (.iand, 1) := by decide +kernel
theorem dc_St_stands_45 : decode M_St_stands.2.1 45 = .ok (.iload 4, 2) := by decide +kernel
theorem dc_St_stands_47 : decode M_St_stands.2.1 47 = .ok (.if_icmp .ne 16, 3) := by decide +kernel
theorem dc_St_stands_50 : decode M_St_stands.2.1 50 = .ok (.aload_n 0, 1) := by decide +kernel
theorem dc_St_stands_51 : decode M_St_stands.2.1 51 = .ok (.getfield 15, 3) := by decide +kernel
theorem dc_St_stands_54 : decode M_St_stands.2.1 54 = .ok (.iload_n 1, 1) := by decide +kernel
theorem dc_St_stands_55 : decode M_St_stands.2.1 55 = .ok (.baload, 1) := by decide +kernel
theorem dc_St_stands_56 : decode M_St_stands.2.1 56 = .ok (.ifCond .eq 7, 3) := by decide +kernel
theorem dc_St_stands_59 : decode M_St_stands.2.1 59 = .ok (.iconst 1, 1) := by decide +kernel
theorem dc_St_stands_60 : decode M_St_stands.2.1 60 = .ok (.goto 4, 3) := by decide +kernel
theorem dc_St_stands_63 : decode M_St_stands.2.1 63 = .ok (.iconst 0, 1) := by decide +kernel
theorem dc_St_stands_64 : decode M_St_stands.2.1 64 = .ok (.ireturn, 1) := by decide +kernel
def f_St_stands (a0 : Nat) (a1 : Int32) (a2 : Int32) (a3 : Int32) (h : xH) : Option (Int32 × xH) := jn (fun (x10 : Unit) => some ((0 : Int32), h)) (fun k11 => if a1 < 0 then k11 () else if a1 < (128 : Int32) then gd (hK h a0 = 5) (gd (hK h (hR h a0 0) = 3) (Option.bind (f_Se_within (hR h a0 0) a1 h) (fun q15 => jn (fun (x17 : Int32) => some (nb x17, q15.2)) (fun k18 => jn (fun (x19 : Unit) => k18 (1 : Int32)) (fun k20 => jn (fun (x21 : Unit) => jn (fun (x23 : Unit) => k18 (0 : Int32)) (fun k24 => if (a3 &&& q15.1) = q15.1 then gd (hK q15.2 a0 = 5) (gd (hK q15.2 (hR q15.2 a0 2) = 13) (gd (¬ (a1 < 0 ∨ hL q15.2 (hR q15.2 a0 2) ≤ a1.toNatClampNeg)) (if (hI q15.2 (hR q15.2 a0 2) a1.toNatClampNeg) = 0 then k24 () else k20 ()))) else k24 ())) (fun k22 => if (a2 &&& q15.1) = q15.1 then gd (hK q15.2 a0 = 5) (gd (hK q15.2 (hR q15.2 a0 1) = 13) (gd (¬ (a1 < 0 ∨ hL q15.2 (hR q15.2 a0 1) ≤ a1.toNatClampNeg)) (if (hI q15.2 (hR q15.2 a0 1) a1.toNatClampNeg) = 0 then k22 () else k20 ()))) else k22 ())))))) else k11 ())
theorem t_St_stands {l : Launch} {z : xZ} {d mc ms : Nat} {Ph : Option xV → xH → Prop} {a0 : Nat} {a1 : Int32} {a2 : Int32} {a3 : Int32}  {h : xH} (hd : 2 ≤ d) (hk : OK (f_St_stands a0 a1 a2 a3 h) (fun q => Ph (some (xI q.1)) q.2)) : Sx l z d mc ms M_St_stands 0 (x_en [xR a0, xI a1, xI a2, xI a3] 5) [] h Ph := by
  unfold f_St_stands at hk
  refine sx_eq (lc2 := [some (xR a0), some (xI a1), some (xI a2), some (xI a3), none]) rfl rfl ?_
  refine sx_iload_n dc_St_stands_0 rfl ?_
  refine hk.j (X := fun x10 => Sx l z d mc ms M_St_stands 11 [some (xR a0), some (xI a1), some (xI a2), some (xI a3), none] [] h Ph) (fun x10 hk => ?_) (fun k11 jk11 hk => ?_)
  · refine sx_iconst (v := (0 : Int32)) dc_St_stands_11 (by decide) ?_
    exact sx_retT (v := (0 : Int32)) dc_St_stands_12 (Or.inl ⟨rfl, rfl⟩) (by decide) hk.val
  · refine sx_if_lt (tgt := 11) dc_St_stands_1 (by decide) (fun c12 => ?_) (fun c12 => ?_)
    · replace hk := hk.t c12
      exact jk11 () hk
    · replace hk := hk.f c12
      refine sx_iload_n dc_St_stands_4 rfl ?_
      refine sx_sipush (v := (128 : Int32)) dc_St_stands_5 (by decide) ?_
      refine sx_icmp_lt (tgt := 13) dc_St_stands_8 (by decide) (fun c13 => ?_) (fun c13 => ?_)
      · replace hk := hk.t c13
        refine sx_aload_n dc_St_stands_13 rfl ?_
        obtain ⟨g14, hk⟩ := hk.g
        refine sx_get (ci := 5) (k := 0) rfl (by decide) wF_St_18 g14 dc_St_stands_14 ?_
        refine sx_iload_n dc_St_stands_17 rfl ?_
        obtain ⟨g16, hk⟩ := hk.g
        obtain ⟨q15, eq15, hk⟩ := hk.bind
        refine sx_callV (d2 := d - 1) (mc2 := 0) (ms2 := 0) (as := [xI a1]) mk_Se_within rfl (x_rk (ci := 3) g16 rfl rfl) wM_St_40 mi_Se_within me_Se_within rfl (Nat.le_of_ble_eq_true rfl) (Nat.le_of_ble_eq_true rfl) dc_St_stands_18 (by omega) (Nat.zero_le _) (Nat.zero_le _) ?_
        refine t_Se_within (by omega) ⟨q15, eq15, ?_⟩
        refine sx_eq0 (lc2 := [some (xR a0), some (xI a1), some (xI a2), some (xI a3), none]) (st2 := [xI q15.1]) rfl rfl ?_
        refine sx_istore dc_St_stands_21 (by decide) (sx_eq (lc2 := [some (xR a0), some (xI a1), some (xI a2), some (xI a3), some (xI q15.1)]) rfl rfl ?_)
        refine sx_iload_n dc_St_stands_23 rfl ?_
        refine sx_iload dc_St_stands_24 rfl ?_
        refine sx_iand dc_St_stands_26 ?_
        refine sx_iload dc_St_stands_27 rfl ?_
        refine hk.j (X := fun x17 => Sx l z d mc ms M_St_stands 64 [some (xR a0), some (xI a1), some (xI a2), some (xI a3), some (xI q15.1)] [xI x17] q15.2 Ph) (fun x17 hk => ?_) (fun k18 jk18 hk => ?_)
        · exact sx_retT dc_St_stands_64 (Or.inl ⟨rfl, rfl⟩) rfl hk.val
        · refine hk.j (X := fun x19 => Sx l z d mc ms M_St_stands 59 [some (xR a0), some (xI a1), some (xI a2), some (xI a3), some (xI q15.1)] [] q15.2 Ph) (fun x19 hk => ?_) (fun k20 jk20 hk => ?_)
          · refine sx_iconst (v := (1 : Int32)) dc_St_stands_59 (by decide) ?_
            refine sx_goto (tgt := 64) dc_St_stands_60 (by decide) ?_
            exact jk18 (1 : Int32) hk
          · refine hk.j (X := fun x21 => Sx l z d mc ms M_St_stands 41 [some (xR a0), some (xI a1), some (xI a2), some (xI a3), some (xI q15.1)] [] q15.2 Ph) (fun x21 hk => ?_) (fun k22 jk22 hk => ?_)
            · refine sx_iload_n dc_St_stands_41 rfl ?_
              refine sx_iload dc_St_stands_42 rfl ?_
              refine sx_iand dc_St_stands_44 ?_
              refine sx_iload dc_St_stands_45 rfl ?_
              refine hk.j (X := fun x23 => Sx l z d mc ms M_St_stands 63 [some (xR a0), some (xI a1), some (xI a2), some (xI a3), some (xI q15.1)] [] q15.2 Ph) (fun x23 hk => ?_) (fun k24 jk24 hk => ?_)
              · refine sx_iconst (v := (0 : Int32)) dc_St_stands_63 (by decide) ?_
                exact jk18 (0 : Int32) hk
              · refine sx_icmp_ne (tgt := 63) dc_St_stands_47 (by decide) (fun c25 => ?_) (fun c25 => ?_)
                · replace hk := hk.f c25
                  exact jk24 () hk
                · replace hk := hk.t c25
                  refine sx_aload_n dc_St_stands_50 rfl ?_
                  obtain ⟨g26, hk⟩ := hk.g
                  refine sx_get (ci := 5) (k := 2) rfl (by decide) wF_St_15 g26 dc_St_stands_51 ?_
                  refine sx_iload_n dc_St_stands_54 rfl ?_
                  obtain ⟨g27, hk⟩ := hk.g
                  obtain ⟨g28, hk⟩ := hk.g
                  refine sx_zald g27 g28 dc_St_stands_55 ?_
                  refine sx_if_eq (tgt := 63) dc_St_stands_56 (by decide) (fun c29 => ?_) (fun c29 => ?_)
                  · replace hk := hk.t c29
                    exact jk24 () hk
                  · replace hk := hk.f c29
                    exact jk20 () hk
            · refine sx_icmp_ne (tgt := 41) dc_St_stands_29 (by decide) (fun c30 => ?_) (fun c30 => ?_)
              · replace hk := hk.f c30
                exact jk22 () hk
              · replace hk := hk.t c30
                refine sx_aload_n dc_St_stands_32 rfl ?_
                obtain ⟨g31, hk⟩ := hk.g
                refine sx_get (ci := 5) (k := 1) rfl (by decide) wF_St_9 g31 dc_St_stands_33 ?_
                refine sx_iload_n dc_St_stands_36 rfl ?_
                obtain ⟨g32, hk⟩ := hk.g
                obtain ⟨g33, hk⟩ := hk.g
                refine sx_zald g32 g33 dc_St_stands_37 ?_
                refine sx_if_ne (tgt := 59) dc_St_stands_38 (by decide) (fun c34 => ?_) (fun c34 => ?_)
                · replace hk := hk.f c34
                  exact jk20 () hk
                · replace hk := hk.t c34
                  exact jk22 () hk
      · replace hk := hk.f c13
        exact jk11 () hk
theorem dc_St_anyThree_0 : decode M_St_anyThree.2.1 0 = .ok (.iconst 0, 1) := by decide +kernel
theorem dc_St_anyThree_1 : decode M_St_anyThree.2.1 1 = .ok (.istore_n 3, 1) := by decide +kernel
theorem dc_St_anyThree_2 : decode M_St_anyThree.2.1 2 = .ok (.iload_n 3, 1) := by decide +kernel
theorem dc_St_anyThree_3 : decode M_St_anyThree.2.1 3 = .ok (.aload_n 0, 1) := by decide +kernel
theorem dc_St_anyThree_4 : decode M_St_anyThree.2.1 4 = .ok (.getfield 26, 3) := by decide +kernel
theorem dc_St_anyThree_7 : decode M_St_anyThree.2.1 7 = .ok (.if_icmp .ge 33, 3) := by decide +kernel
theorem dc_St_anyThree_10 : decode M_St_anyThree.2.1 10 = .ok (.aload_n 0, 1) := by decide +kernel
theorem dc_St_anyThree_11 : decode M_St_anyThree.2.1 11 = .ok (.getfield 18, 3) := by decide +kernel
theorem dc_St_anyThree_14 : decode M_St_anyThree.2.1 14 = .ok (.iload_n 3, 1) := by decide +kernel
theorem dc_St_anyThree_15 : decode M_St_anyThree.2.1 15 = .ok (.invokevirtual 43, 3) := by decide +kernel
theorem dc_St_anyThree_18 : decode M_St_anyThree.2.1 18 = .ok (.istore 4, 2) := by decide +kernel
theorem dc_St_anyThree_20 : decode M_St_anyThree.2.1 20 = .ok (.aload_n 0, 1) := by decide +kernel
theorem dc_St_anyThree_21 : decode M_St_anyThree.2.1 21 = .ok (.iload 4, 2) := by decide +kernel
theorem dc_St_anyThree_23 : decode M_St_anyThree.2.1 23 = .ok (.iload_n 1, 1) := by decide +kernel
theorem dc_St_anyThree_24 : decode M_St_anyThree.2.1 24 = .ok (.iload_n 2, 1) := by decide +kernel
theorem dc_St_anyThree_25 : decode M_St_anyThree.2.1 25 = .ok (.invokevirtual 46, 3) := by decide +kernel
theorem dc_St_anyThree_28 : decode M_St_anyThree.2.1 28 = .ok (.ifCond .eq 6, 3) := by decide +kernel
theorem dc_St_anyThree_31 : decode M_St_anyThree.2.1 31 = .ok (.iload 4, 2) := by decide +kernel
theorem dc_St_anyThree_33 : decode M_St_anyThree.2.1 33 = .ok (.ireturn, 1) := by decide +kernel
theorem dc_St_anyThree_34 : decode M_St_anyThree.2.1 34 = .ok (.iinc 3 1, 3) := by decide +kernel
theorem dc_St_anyThree_37 : decode M_St_anyThree.2.1 37 = .ok (.goto (-35), 3) := by decide +kernel
theorem dc_St_anyThree_40 : decode M_St_anyThree.2.1 40 = .ok (.iconst 0, 1) := by decide +kernel
theorem dc_St_anyThree_41 : decode M_St_anyThree.2.1 41 = .ok (.ireturn, 1) := by decide +kernel
def f_St_anyThree_L2 (a0 : Nat) (a1 : Int32) (a2 : Int32) : Nat → Int32 → xH → (Int32 → xH → Option (Int32 × xH)) → Option (Int32 × xH)
  | 0, _, _, _ => none
  | n + 1, a3, h, K => gd (hK h a0 = 5) (if (hI h a0 3) ≤ a3 then K a3 h else gd (hK h (hR h a0 0) = 3) (Option.bind (f_Se_three (hR h a0 0) a3 h) (fun q8 => gd (hK q8.2 a0 = 5) (Option.bind (f_St_stands a0 q8.1 a1 a2 q8.2) (fun q10 => if q10.1 = 0 then f_St_anyThree_L2 a0 a1 a2 n (a3 + (1 : Int32)) q10.2 K else some (q8.1, q10.2))))))
def f_St_anyThree (a0 : Nat) (a1 : Int32) (a2 : Int32) (h : xH) : Option (Int32 × xH) := f_St_anyThree_L2 a0 a1 a2 fu (0 : Int32) h (fun v13 h14 => some ((0 : Int32), h14))
theorem t_St_anyThree_L2 {l : Launch} {z : xZ} {d mc ms : Nat} {Ph : Option xV → xH → Prop} {a0 : Nat} {a1 : Int32} {a2 : Int32}  (hd : 3 ≤ d) : ∀ (n : Nat) (a3 : Int32) (h : xH) (K : Int32 → xH → Option (Int32 × xH)), OK (f_St_anyThree_L2 a0 a1 a2 n a3 h K) (fun q => Ph (some (xI q.1)) q.2) → (∀ (a3 : Int32) (h : xH), OK (K a3 h) (fun q => Ph (some (xI q.1)) q.2) → Sx l z d mc ms M_St_anyThree 40 [some (xR a0), some (xI a1), some (xI a2), some (xI a3), none] [] h Ph) → Sx l z d mc ms M_St_anyThree 2 [some (xR a0), some (xI a1), some (xI a2), some (xI a3), none] [] h Ph := by
  intro n
  induction n with
  | zero => intro a3 h K hk hE; exact hk.no
  | succ n ih =>
    intro a3 h K hk hE
    rw [f_St_anyThree_L2] at hk
    refine sx_iload_n dc_St_anyThree_2 rfl ?_
    refine sx_aload_n dc_St_anyThree_3 rfl ?_
    obtain ⟨g6, hk⟩ := hk.g
    refine sx_get (ci := 5) (k := 3) rfl (by decide) wF_St_26 g6 dc_St_anyThree_4 ?_
    refine sx_icmp_ge (tgt := 40) dc_St_anyThree_7 (by decide) (fun c7 => ?_) (fun c7 => ?_)
    · replace hk := hk.t c7
      exact hE a3 h hk
    · replace hk := hk.f c7
      refine sx_aload_n dc_St_anyThree_10 rfl ?_
      refine sx_get (ci := 5) (k := 0) rfl (by decide) wF_St_18 g6 dc_St_anyThree_11 ?_
      refine sx_iload_n dc_St_anyThree_14 rfl ?_
      obtain ⟨g9, hk⟩ := hk.g
      obtain ⟨q8, eq8, hk⟩ := hk.bind
      refine sx_callV (d2 := d - 1) (mc2 := 0) (ms2 := 0) (as := [xI a3]) mk_Se_three rfl (x_rk (ci := 3) g9 rfl rfl) wM_St_43 mi_Se_three me_Se_three rfl (Nat.le_of_ble_eq_true rfl) (Nat.le_of_ble_eq_true rfl) dc_St_anyThree_15 (by omega) (Nat.zero_le _) (Nat.zero_le _) ?_
      refine t_Se_three (by omega) ⟨q8, eq8, ?_⟩
      refine sx_eq0 (lc2 := [some (xR a0), some (xI a1), some (xI a2), some (xI a3), none]) (st2 := [xI q8.1]) rfl rfl ?_
      refine sx_istore dc_St_anyThree_18 (by decide) (sx_eq (lc2 := [some (xR a0), some (xI a1), some (xI a2), some (xI a3), some (xI q8.1)]) rfl rfl ?_)
      refine sx_aload_n dc_St_anyThree_20 rfl ?_
      refine sx_iload dc_St_anyThree_21 rfl ?_
      refine sx_iload_n dc_St_anyThree_23 rfl ?_
      refine sx_iload_n dc_St_anyThree_24 rfl ?_
      obtain ⟨g11, hk⟩ := hk.g
      obtain ⟨q10, eq10, hk⟩ := hk.bind
      refine sx_callV (d2 := d - 1) (mc2 := 0) (ms2 := 0) (as := [xI q8.1, xI a1, xI a2]) mk_St_stands rfl (x_rk (ci := 5) g11 rfl rfl) wM_St_46 mi_St_stands me_St_stands rfl (Nat.le_of_ble_eq_true rfl) (Nat.le_of_ble_eq_true rfl) dc_St_anyThree_25 (by omega) (Nat.zero_le _) (Nat.zero_le _) ?_
      refine t_St_stands (by omega) ⟨q10, eq10, ?_⟩
      refine sx_eq0 (lc2 := [some (xR a0), some (xI a1), some (xI a2), some (xI a3), some (xI q8.1)]) (st2 := [xI q10.1]) rfl rfl ?_
      refine sx_if_eq (tgt := 34) dc_St_anyThree_28 (by decide) (fun c12 => ?_) (fun c12 => ?_)
      · replace hk := hk.t c12
        refine sx_iinc (v := (1 : Int32)) dc_St_anyThree_34 rfl (by decide) (by decide) (sx_eq (lc2 := [some (xR a0), some (xI a1), some (xI a2), some (xI (a3 + (1 : Int32))), some (xI q8.1)]) rfl rfl ?_)
        refine sx_goto (tgt := 2) dc_St_anyThree_37 (by decide) ?_
        exact sx_less (by simp [x_le]) (ih (a3 + (1 : Int32)) q10.2 _ hk hE)
      · replace hk := hk.f c12
        refine sx_iload dc_St_anyThree_31 rfl ?_
        exact sx_retI dc_St_anyThree_33 rfl hk.val
theorem t_St_anyThree {l : Launch} {z : xZ} {d mc ms : Nat} {Ph : Option xV → xH → Prop} {a0 : Nat} {a1 : Int32} {a2 : Int32}  {h : xH} (hd : 3 ≤ d) (hk : OK (f_St_anyThree a0 a1 a2 h) (fun q => Ph (some (xI q.1)) q.2)) : Sx l z d mc ms M_St_anyThree 0 (x_en [xR a0, xI a1, xI a2] 5) [] h Ph := by
  unfold f_St_anyThree at hk
  refine sx_eq (lc2 := [some (xR a0), some (xI a1), some (xI a2), none, none]) rfl rfl ?_
  refine sx_iconst (v := (0 : Int32)) dc_St_anyThree_0 (by decide) ?_
  refine sx_istore_n dc_St_anyThree_1 (by decide) (sx_eq (lc2 := [some (xR a0), some (xI a1), some (xI a2), some (xI (0 : Int32)), none]) rfl rfl ?_)
  refine t_St_anyThree_L2 (by omega) _ _ _ _ hk (fun v13 h14 hk => ?_)
  refine sx_iconst (v := (0 : Int32)) dc_St_anyThree_40 (by decide) ?_
  exact sx_retI dc_St_anyThree_41 rfl hk.val
theorem dc_Ch_keepBest_0 : decode M_Ch_keepBest.2.1 0 = .ok (.iconst 0, 1) := by decide +kernel
theorem dc_Ch_keepBest_1 : decode M_Ch_keepBest.2.1 1 = .ok (.istore_n 2, 1) := by decide +kernel
theorem dc_Ch_keepBest_2 : decode M_Ch_keepBest.2.1 2 = .ok (.iconst 0, 1) := by decide +kernel
theorem dc_Ch_keepBest_3 : decode M_Ch_keepBest.2.1 3 = .ok (.istore_n 3, 1) := by decide +kernel
theorem dc_Ch_keepBest_4 : decode M_Ch_keepBest.2.1 4 = .ok (.iload_n 3, 1) := by decide +kernel
theorem dc_Ch_keepBest_5 : decode M_Ch_keepBest.2.1 5 = .ok (.bipush 21, 2) := by decide +kernel
theorem dc_Ch_keepBest_7 : decode M_Ch_keepBest.2.1 7 = .ok (.if_icmp .ge 27, 3) := by decide +kernel
theorem dc_Ch_keepBest_10 : decode M_Ch_keepBest.2.1 10 = .ok (.iload_n 1, 1) := by decide +kernel
theorem dc_Ch_keepBest_11 : decode M_Ch_keepBest.2.1 11 = .ok (.iload_n 3, 1) := by decide +kernel
theorem dc_Ch_keepBest_12 : decode M_Ch_keepBest.2.1 12 = .ok (.ishr, 1) := by decide +kernel
theorem dc_Ch_keepBest_13 : decode M_Ch_keepBest.2.1 13 = .ok (.iconst 1, 1) := by decide +kernel
theorem dc_Ch_keepBest_14 : decode M_Ch_keepBest.2.1 14 = .ok (.iand, 1) := by decide +kernel
theorem dc_Ch_keepBest_15 : decode M_Ch_keepBest.2.1 15 = .ok (.iconst 1, 1) := by decide +kernel
theorem dc_Ch_keepBest_16 : decode M_Ch_keepBest.2.1 16 = .ok (.if_icmp .ne 12, 3) := by decide +kernel
theorem dc_Ch_keepBest_19 : decode M_Ch_keepBest.2.1 19 = .ok (.iload_n 2, 1) := by decide +kernel
theorem dc_Ch_keepBest_20 : decode M_Ch_keepBest.2.1 20 = .ok (.aload_n 0, 1) := by decide +kernel
theorem dc_Ch_keepBest_21 : decode M_Ch_keepBest.2.1 21 = .ok (.getfield 9, 3) := by decide +kernel
theorem dc_Ch_keepBest_24 : decode M_Ch_keepBest.2.1 24 = .ok (.iload_n 3, 1) := by decide +kernel
theorem dc_Ch_keepBest_25 : decode M_Ch_keepBest.2.1 25 = .ok (.iaload, 1) := by decide +kernel
theorem dc_Ch_keepBest_26 : decode M_Ch_keepBest.2.1 26 = .ok (.iadd, 1) := by decide +kernel
theorem dc_Ch_keepBest_27 : decode M_Ch_keepBest.2.1 27 = .ok (.istore_n 2, 1) := by decide +kernel
theorem dc_Ch_keepBest_28 : decode M_Ch_keepBest.2.1 28 = .ok (.iinc 3 1, 3) := by decide +kernel
theorem dc_Ch_keepBest_31 : decode M_Ch_keepBest.2.1 31 = .ok (.goto (-27), 3) := by decide +kernel
theorem dc_Ch_keepBest_34 : decode M_Ch_keepBest.2.1 34 = .ok (.aload_n 0, 1) := by decide +kernel
theorem dc_Ch_keepBest_35 : decode M_Ch_keepBest.2.1 35 = .ok (.getfield 28, 3) := by decide +kernel
theorem dc_Ch_keepBest_38 : decode M_Ch_keepBest.2.1 38 = .ok (.ifCond .eq 28, 3) := by decide +kernel
theorem dc_Ch_keepBest_41 : decode M_Ch_keepBest.2.1 41 = .ok (.iload_n 2, 1) := by decide +kernel
theorem dc_Ch_keepBest_42 : decode M_Ch_keepBest.2.1 42 = .ok (.aload_n 0, 1) := by decide +kernel
theorem dc_Ch_keepBest_43 : decode M_Ch_keepBest.2.1 43 = .ok (.getfield 58, 3) := by decide +kernel
theorem dc_Ch_keepBest_46 : decode M_Ch_keepBest.2.1 46 = .ok (.if_icmp .gt 19, 3) := by decide +kernel
theorem dc_Ch_keepBest_49 : decode M_Ch_keepBest.2.1 49 = .ok (.iload_n 2, 1) := by decide +kernel
theorem dc_Ch_keepBest_50 : decode M_Ch_keepBest.2.1 50 = .ok (.aload_n 0, 1) := by decide +kernel
theorem dc_Ch_keepBest_51 : decode M_Ch_keepBest.2.1 51 = .ok (.getfield 58, 3) := by decide +kernel
theorem dc_Ch_keepBest_54 : decode M_Ch_keepBest.2.1 54 = .ok (.if_icmp .ne 12, 3) := by decide +kernel
theorem dc_Ch_keepBest_57 : decode M_Ch_keepBest.2.1 57 = .ok (.iload_n 1, 1) := by decide +kernel
theorem dc_Ch_keepBest_58 : decode M_Ch_keepBest.2.1 58 = .ok (.aload_n 0, 1) := by decide +kernel
theorem dc_Ch_keepBest_59 : decode M_Ch_keepBest.2.1 59 = .ok (.getfield 61, 3) := by decide +kernel
theorem dc_Ch_keepBest_62 : decode M_Ch_keepBest.2.1 62 = .ok (.if_icmp .le 4, 3) := by decide +kernel
theorem dc_Ch_keepBest_65 : decode M_Ch_keepBest.2.1 65 = .ok (.return_, 1) := by decide +kernel
theorem dc_Ch_keepBest_66 : decode M_Ch_keepBest.2.1 66 = .ok (.aload_n 0, 1) := by decide +kernel
theorem dc_Ch_keepBest_67 : decode M_Ch_keepBest.2.1 67 = .ok (.iconst 1, 1) := by decide +kernel
theorem dc_Ch_keepBest_68 : decode M_Ch_keepBest.2.1 68 = .ok (.putfield 28, 3) := by decide +kernel
theorem dc_Ch_keepBest_71 : decode M_Ch_keepBest.2.1 71 = .ok (.aload_n 0, 1) := by decide +kernel
theorem dc_Ch_keepBest_72 : decode M_Ch_keepBest.2.1 72 = .ok (.iload_n 1, 1) := by decide +kernel
theorem dc_Ch_keepBest_73 : decode M_Ch_keepBest.2.1 73 = .ok (.putfield 61, 3) := by decide +kernel
theorem dc_Ch_keepBest_76 : decode M_Ch_keepBest.2.1 76 = .ok (.aload_n 0, 1) := by decide +kernel
theorem dc_Ch_keepBest_77 : decode M_Ch_keepBest.2.1 77 = .ok (.iload_n 2, 1) := by decide +kernel
theorem dc_Ch_keepBest_78 : decode M_Ch_keepBest.2.1 78 = .ok (.putfield 58, 3) := by decide +kernel
theorem dc_Ch_keepBest_81 : decode M_Ch_keepBest.2.1 81 = .ok (.return_, 1) := by decide +kernel
def f_Ch_keepBest_L4 (a0 : Nat) (a1 : Int32) : Nat → Int32 → Int32 → xH → (Int32 → Int32 → xH → Option (Unit × xH)) → Option (Unit × xH)
  | 0, _, _, _, _ => none
  | n + 1, a2, a3, h, K => if (21 : Int32) ≤ a3 then K a2 a3 h else jn (fun (x6 : Int32) => f_Ch_keepBest_L4 a0 a1 n x6 (a3 + (1 : Int32)) h K) (fun k7 => if ((jShr a1 a3) &&& (1 : Int32)) = (1 : Int32) then gd (hK h a0 = 0) (gd (hK h (hR h a0 2) = 12) (gd (¬ (a3 < 0 ∨ hL h (hR h a0 2) ≤ a3.toNatClampNeg)) (k7 (a2 + (hI h (hR h a0 2) a3.toNatClampNeg))))) else k7 a2)
def f_Ch_keepBest (a0 : Nat) (a1 : Int32) (h : xH) : Option (Unit × xH) := f_Ch_keepBest_L4 a0 a1 fu (0 : Int32) (0 : Int32) h (fun v12 v13 h14 => gd (hK h14 a0 = 0) (jn (fun (x16 : Unit) => some ((), hIu (hIu (hIu h14 a0 3 (1 : Int32)) a0 4 a1) a0 5 v12)) (fun k17 => if (hI h14 a0 3) = 0 then k17 () else jn (fun (x19 : Unit) => some ((), h14)) (fun k20 => if (hI h14 a0 5) < v12 then k20 () else if v12 = (hI h14 a0 5) then if a1 ≤ (hI h14 a0 4) then k17 () else k20 () else k17 ()))))
theorem t_Ch_keepBest_L4 {l : Launch} {z : xZ} {d mc ms : Nat} {Ph : Option xV → xH → Prop} {a0 : Nat} {a1 : Int32}  (hd : 1 ≤ d) : ∀ (n : Nat) (a2 : Int32) (a3 : Int32) (h : xH) (K : Int32 → Int32 → xH → Option (Unit × xH)), OK (f_Ch_keepBest_L4 a0 a1 n a2 a3 h K) (fun q => Ph (none) q.2) → (∀ (a2 : Int32) (a3 : Int32) (h : xH), OK (K a2 a3 h) (fun q => Ph (none) q.2) → Sx l z d mc ms M_Ch_keepBest 34 [some (xR a0), some (xI a1), some (xI a2), some (xI a3)] [] h Ph) → Sx l z d mc ms M_Ch_keepBest 4 [some (xR a0), some (xI a1), some (xI a2), some (xI a3)] [] h Ph := by
  intro n
  induction n with
  | zero => intro a2 a3 h K hk hE; exact hk.no
  | succ n ih =>
    intro a2 a3 h K hk hE
    rw [f_Ch_keepBest_L4] at hk
    refine sx_iload_n dc_Ch_keepBest_4 rfl ?_
    refine sx_bipush (v := (21 : Int32)) dc_Ch_keepBest_5 (by decide) ?_
    refine sx_icmp_ge (tgt := 34) dc_Ch_keepBest_7 (by decide) (fun c5 => ?_) (fun c5 => ?_)
    · replace hk := hk.t c5
      exact hE a2 a3 h hk
    · replace hk := hk.f c5
      refine sx_iload_n dc_Ch_keepBest_10 rfl ?_
      refine sx_iload_n dc_Ch_keepBest_11 rfl ?_
      refine sx_ishr dc_Ch_keepBest_12 ?_
      refine sx_iconst (v := (1 : Int32)) dc_Ch_keepBest_13 (by decide) ?_
      refine sx_iand dc_Ch_keepBest_14 ?_
      refine sx_iconst (v := (1 : Int32)) dc_Ch_keepBest_15 (by decide) ?_
      refine hk.j (X := fun x6 => Sx l z d mc ms M_Ch_keepBest 28 [some (xR a0), some (xI a1), some (xI x6), some (xI a3)] [] h Ph) (fun x6 hk => ?_) (fun k7 jk7 hk => ?_)
      · refine sx_iinc (v := (1 : Int32)) dc_Ch_keepBest_28 rfl (by decide) (by decide) (sx_eq (lc2 := [some (xR a0), some (xI a1), some (xI x6), some (xI (a3 + (1 : Int32)))]) rfl rfl ?_)
        refine sx_goto (tgt := 4) dc_Ch_keepBest_31 (by decide) ?_
        exact ih x6 (a3 + (1 : Int32)) h _ hk hE
      · refine sx_icmp_ne (tgt := 28) dc_Ch_keepBest_16 (by decide) (fun c8 => ?_) (fun c8 => ?_)
        · replace hk := hk.f c8
          exact jk7 a2 hk
        · replace hk := hk.t c8
          refine sx_iload_n dc_Ch_keepBest_19 rfl ?_
          refine sx_aload_n dc_Ch_keepBest_20 rfl ?_
          obtain ⟨g9, hk⟩ := hk.g
          refine sx_get (ci := 0) (k := 2) rfl (by decide) wF_Ch_9 g9 dc_Ch_keepBest_21 ?_
          refine sx_iload_n dc_Ch_keepBest_24 rfl ?_
          obtain ⟨g10, hk⟩ := hk.g
          obtain ⟨g11, hk⟩ := hk.g
          refine sx_iald g10 g11 dc_Ch_keepBest_25 ?_
          refine sx_iadd dc_Ch_keepBest_26 ?_
          refine sx_istore_n dc_Ch_keepBest_27 (by decide) (sx_eq (lc2 := [some (xR a0), some (xI a1), some (xI (a2 + (hI h (hR h a0 2) a3.toNatClampNeg))), some (xI a3)]) rfl rfl ?_)
          exact jk7 (a2 + (hI h (hR h a0 2) a3.toNatClampNeg)) hk
theorem t_Ch_keepBest {l : Launch} {z : xZ} {d mc ms : Nat} {Ph : Option xV → xH → Prop} {a0 : Nat} {a1 : Int32}  {h : xH} (hd : 1 ≤ d) (hk : OK (f_Ch_keepBest a0 a1 h) (fun q => Ph (none) q.2)) : Sx l z d mc ms M_Ch_keepBest 0 (x_en [xR a0, xI a1] 4) [] h Ph := by
  unfold f_Ch_keepBest at hk
  refine sx_eq (lc2 := [some (xR a0), some (xI a1), none, none]) rfl rfl ?_
  refine sx_iconst (v := (0 : Int32)) dc_Ch_keepBest_0 (by decide) ?_
  refine sx_istore_n dc_Ch_keepBest_1 (by decide) (sx_eq (lc2 := [some (xR a0), some (xI a1), some (xI (0 : Int32)), none]) rfl rfl ?_)
  refine sx_iconst (v := (0 : Int32)) dc_Ch_keepBest_2 (by decide) ?_
  refine sx_istore_n dc_Ch_keepBest_3 (by decide) (sx_eq (lc2 := [some (xR a0), some (xI a1), some (xI (0 : Int32)), some (xI (0 : Int32))]) rfl rfl ?_)
  refine t_Ch_keepBest_L4 (by omega) _ _ _ _ _ hk (fun v12 v13 h14 hk => ?_)
  refine sx_aload_n dc_Ch_keepBest_34 rfl ?_
  obtain ⟨g15, hk⟩ := hk.g
  refine sx_get (ci := 0) (k := 3) rfl (by decide) wF_Ch_28 g15 dc_Ch_keepBest_35 ?_
  refine hk.j (X := fun x16 => Sx l z d mc ms M_Ch_keepBest 66 [some (xR a0), some (xI a1), some (xI v12), some (xI v13)] [] h14 Ph) (fun x16 hk => ?_) (fun k17 jk17 hk => ?_)
  · refine sx_aload_n dc_Ch_keepBest_66 rfl ?_
    refine sx_iconst (v := (1 : Int32)) dc_Ch_keepBest_67 (by decide) ?_
    refine sx_putI (ci := 0) (k := 3) rfl (by decide) wF_Ch_28 rfl g15 (Or.inr ⟨rfl, Or.inr rfl⟩) dc_Ch_keepBest_68 ?_
    refine sx_aload_n dc_Ch_keepBest_71 rfl ?_
    refine sx_iload_n dc_Ch_keepBest_72 rfl ?_
    refine sx_putI (ci := 0) (k := 4) rfl (by decide) wF_Ch_61 rfl g15 (Or.inl rfl) dc_Ch_keepBest_73 ?_
    refine sx_aload_n dc_Ch_keepBest_76 rfl ?_
    refine sx_iload_n dc_Ch_keepBest_77 rfl ?_
    refine sx_putI (ci := 0) (k := 5) rfl (by decide) wF_Ch_58 rfl g15 (Or.inl rfl) dc_Ch_keepBest_78 ?_
    exact sx_retV dc_Ch_keepBest_81 rfl hk.val
  · refine sx_if_eq (tgt := 66) dc_Ch_keepBest_38 (by decide) (fun c18 => ?_) (fun c18 => ?_)
    · replace hk := hk.t c18
      exact jk17 () hk
    · replace hk := hk.f c18
      refine sx_iload_n dc_Ch_keepBest_41 rfl ?_
      refine sx_aload_n dc_Ch_keepBest_42 rfl ?_
      refine sx_get (ci := 0) (k := 5) rfl (by decide) wF_Ch_58 g15 dc_Ch_keepBest_43 ?_
      refine hk.j (X := fun x19 => Sx l z d mc ms M_Ch_keepBest 65 [some (xR a0), some (xI a1), some (xI v12), some (xI v13)] [] h14 Ph) (fun x19 hk => ?_) (fun k20 jk20 hk => ?_)
      · exact sx_retV dc_Ch_keepBest_65 rfl hk.val
      · refine sx_icmp_gt (tgt := 65) dc_Ch_keepBest_46 (by decide) (fun c21 => ?_) (fun c21 => ?_)
        · replace hk := hk.t c21
          exact jk20 () hk
        · replace hk := hk.f c21
          refine sx_iload_n dc_Ch_keepBest_49 rfl ?_
          refine sx_aload_n dc_Ch_keepBest_50 rfl ?_
          refine sx_get (ci := 0) (k := 5) rfl (by decide) wF_Ch_58 g15 dc_Ch_keepBest_51 ?_
          refine sx_icmp_ne (tgt := 66) dc_Ch_keepBest_54 (by decide) (fun c22 => ?_) (fun c22 => ?_)
          · replace hk := hk.f c22
            exact jk17 () hk
          · replace hk := hk.t c22
            refine sx_iload_n dc_Ch_keepBest_57 rfl ?_
            refine sx_aload_n dc_Ch_keepBest_58 rfl ?_
            refine sx_get (ci := 0) (k := 4) rfl (by decide) wF_Ch_61 g15 dc_Ch_keepBest_59 ?_
            refine sx_icmp_le (tgt := 66) dc_Ch_keepBest_62 (by decide) (fun c23 => ?_) (fun c23 => ?_)
            · replace hk := hk.t c23
              exact jk17 () hk
            · replace hk := hk.f c23
              exact jk20 () hk
theorem dc_Ch_tryChanges_0 : decode M_Ch_tryChanges.2.1 0 = .ok (.aload_n 0, 1) := by decide +kernel
theorem dc_Ch_tryChanges_1 : decode M_Ch_tryChanges.2.1 1 = .ok (.getfield 19, 3) := by decide +kernel
theorem dc_Ch_tryChanges_4 : decode M_Ch_tryChanges.2.1 4 = .ok (.iload_n 1, 1) := by decide +kernel
theorem dc_Ch_tryChanges_5 : decode M_Ch_tryChanges.2.1 5 = .ok (.iload_n 2, 1) := by decide +kernel
theorem dc_Ch_tryChanges_6 : decode M_Ch_tryChanges.2.1 6 = .ok (.invokevirtual 45, 3) := by decide +kernel
theorem dc_Ch_tryChanges_9 : decode M_Ch_tryChanges.2.1 9 = .ok (.istore 5, 2) := by decide +kernel
theorem dc_Ch_tryChanges_11 : decode M_Ch_tryChanges.2.1 11 = .ok (.iload 5, 2) := by decide +kernel
theorem dc_Ch_tryChanges_13 : decode M_Ch_tryChanges.2.1 13 = .ok (.ifCond .ne 9, 3) := by decide +kernel
theorem dc_Ch_tryChanges_16 : decode M_Ch_tryChanges.2.1 16 = .ok (.aload_n 0, 1) := by decide +kernel
theorem dc_Ch_tryChanges_17 : decode M_Ch_tryChanges.2.1 17 = .ok (.iload_n 3, 1) := by decide +kernel
theorem dc_Ch_tryChanges_18 : decode M_Ch_tryChanges.2.1 18 = .ok (.invokevirtual 51, 3) := by decide +kernel
theorem dc_Ch_tryChanges_21 : decode M_Ch_tryChanges.2.1 21 = .ok (.return_, 1) := by decide +kernel
theorem dc_Ch_tryChanges_22 : decode M_Ch_tryChanges.2.1 22 = .ok (.iload 4, 2) := by decide +kernel
theorem dc_Ch_tryChanges_24 : decode M_Ch_tryChanges.2.1 24 = .ok (.ifCond .gt 4, 3) := by decide +kernel
theorem dc_Ch_tryChanges_27 : decode M_Ch_tryChanges.2.1 27 = .ok (.return_, 1) := by decide +kernel
theorem dc_Ch_tryChanges_28 : decode M_Ch_tryChanges.2.1 28 = .ok (.aload_n 0, 1) := by decide +kernel
theorem dc_Ch_tryChanges_29 : decode M_Ch_tryChanges.2.1 29 = .ok (.getfield 15, 3) := by decide +kernel
theorem dc_Ch_tryChanges_32 : decode M_Ch_tryChanges.2.1 32 = .ok (.iload 5, 2) := by decide +kernel
theorem dc_Ch_tryChanges_34 : decode M_Ch_tryChanges.2.1 34 = .ok (.invokevirtual 55, 3) := by decide +kernel
theorem dc_Ch_tryChanges_37 : decode M_Ch_tryChanges.2.1 37 = .ok (.iload_n 3, 1) := by decide +kernel
theorem dc_Ch_tryChanges_38 : decode M_Ch_tryChanges.2.1 38 = .ok (.iconst (-1), 1) := by decide +kernel
theorem dc_Ch_tryChanges_39 : decode M_Ch_tryChanges.2.1 39 = .ok (.ixor, 1) := by decide +kernel
theorem dc_Ch_tryChanges_40 : decode M_Ch_tryChanges.2.1 40 = .ok (.iand, 1) := by decide +kernel
theorem dc_Ch_tryChanges_41 : decode M_Ch_tryChanges.2.1 41 = .ok (.istore 6, 2) := by decide +kernel
theorem dc_Ch_tryChanges_43 : decode M_Ch_tryChanges.2.1 43 = .ok (.iconst 0, 1) := by decide +kernel
theorem dc_Ch_tryChanges_44 : decode M_Ch_tryChanges.2.1 44 = .ok (.istore 7, 2) := by decide +kernel
theorem dc_Ch_tryChanges_46 : decode M_Ch_tryChanges.2.1 46 = .ok (.iload 7, 2) := by decide +kernel
theorem dc_Ch_tryChanges_48 : decode M_Ch_tryChanges.2.1 48 = .ok (.bipush 21, 2) := by decide +kernel
theorem dc_Ch_tryChanges_50 : decode M_Ch_tryChanges.2.1 50 = .ok (.if_icmp .ge 43, 3) := by decide +kernel
theorem dc_Ch_tryChanges_53 : decode M_Ch_tryChanges.2.1 53 = .ok (.iconst 1, 1) := by decide +kernel
theorem dc_Ch_tryChanges_54 : decode M_Ch_tryChanges.2.1 54 = .ok (.iload 7, 2) := by decide +kernel
theorem dc_Ch_tryChanges_56 : decode M_Ch_tryChanges.2.1 56 = .ok (.ishl, 1) := by decide +kernel
theorem dc_Ch_tryChanges_57 : decode M_Ch_tryChanges.2.1 57 = .ok (.istore 8, 2) := by decide +kernel
theorem dc_Ch_tryChanges_59 : decode M_Ch_tryChanges.2.1 59 = .ok (.iload 6, 2) := by decide +kernel
theorem dc_Ch_tryChanges_61 : decode M_Ch_tryChanges.2.1 61 = .ok (.iload 8, 2) := by decide +kernel
theorem dc_Ch_tryChanges_63 : decode M_Ch_tryChanges.2.1 63 = .ok (.iand, 1) := by decide +kernel
theorem dc_Ch_tryChanges_64 : decode M_Ch_tryChanges.2.1 64 = .ok (.ifCond .eq 23, 3) := by decide +kernel
theorem dc_Ch_tryChanges_67 : decode M_Ch_tryChanges.2.1 67 = .ok (.aload_n 0, 1) := by decide +kernel
theorem dc_Ch_tryChanges_68 : decode M_Ch_tryChanges.2.1 68 = .ok (.iload_n 1, 1) := by decide +kernel
theorem dc_Ch_tryChanges_69 : decode M_Ch_tryChanges.2.1 69 = .ok (.iload 8, 2) := by decide +kernel
theorem dc_Ch_tryChanges_71 : decode M_Ch_tryChanges.2.1 71 = .ok (.ixor, 1) := by decide +kernel
theorem dc_Ch_tryChanges_72 : decode M_Ch_tryChanges.2.1 72 = .ok (.iload_n 2, 1) := by decide +kernel
theorem dc_Ch_tryChanges_73 : decode M_Ch_tryChanges.2.1 73 = .ok (.iload 8, 2) := by decide +kernel
theorem dc_Ch_tryChanges_75 : decode M_Ch_tryChanges.2.1 75 = .ok (.ixor, 1) := by decide +kernel
theorem dc_Ch_tryChanges_76 : decode M_Ch_tryChanges.2.1 76 = .ok (.iload_n 3, 1) := by decide +kernel
theorem dc_Ch_tryChanges_77 : decode M_Ch_tryChanges.2.1 77 = .ok (.iload 8, 2) := by decide +kernel
theorem dc_Ch_tryChanges_79 : decode M_Ch_tryChanges.2.1 79 = .ok (.ior, 1) := by decide +kernel
theorem dc_Ch_tryChanges_80 : decode M_Ch_tryChanges.2.1 80 = .ok (.iload 4, 2) := by decide +kernel
theorem dc_Ch_tryChanges_82 : decode M_Ch_tryChanges.2.1 82 = .ok (.iconst 1, 1) := by decide +kernel
theorem dc_Ch_tryChanges_83 : decode M_Ch_tryChanges.2.1 83 = .ok (.isub, 1) := by decide +kernel
theorem dc_Ch_tryChanges_84 : decode M_Ch_tryChanges.2.1 84 = .ok (.invokestatic 41, 3) := by decide +kernel
theorem dc_Ch_tryChanges_87 : decode M_Ch_tryChanges.2.1 87 = .ok (.iinc 7 1, 3) := by decide +kernel
theorem dc_Ch_tryChanges_90 : decode M_Ch_tryChanges.2.1 90 = .ok (.goto (-44), 3) := by decide +kernel
theorem dc_Ch_tryChanges_93 : decode M_Ch_tryChanges.2.1 93 = .ok (.return_, 1) := by decide +kernel
def f_Ch_tryChanges_L46 (R0 : Nat → Int32 → Int32 → Int32 → Int32 → xH → Option (Unit × xH)) (a0 : Nat) (a1 : Int32) (a2 : Int32) (a3 : Int32) (a4 : Int32) (a5 : Int32) (a6 : Int32) : Nat → Int32 → xH → (Int32 → xH → Option (Unit × xH)) → Option (Unit × xH)
  | 0, _, _, _ => none
  | n + 1, a7, h, K => if (21 : Int32) ≤ a7 then K a7 h else jn (fun (x19 : xH) => f_Ch_tryChanges_L46 R0 a0 a1 a2 a3 a4 a5 a6 n (a7 + (1 : Int32)) x19 K) (fun k20 => if (a6 &&& (jShl (1 : Int32) a7)) = 0 then k20 h else Option.bind (R0 a0 (a1 ^^^ (jShl (1 : Int32) a7)) (a2 ^^^ (jShl (1 : Int32) a7)) (a3 ||| (jShl (1 : Int32) a7)) (a4 - (1 : Int32)) h) (fun q22 => k20 q22.2))
def fb_Ch_tryChanges (R0 : Nat → Int32 → Int32 → Int32 → Int32 → xH → Option (Unit × xH)) (a0 : Nat) (a1 : Int32) (a2 : Int32) (a3 : Int32) (a4 : Int32) (h : xH) : Option (Unit × xH) := gd (hK h a0 = 0) (gd (hK h (hR h a0 1) = 5) (Option.bind (f_St_anyThree (hR h a0 1) a1 a2 h) (fun q11 => if q11.1 = 0 then gd (hK q11.2 a0 = 0) (Option.bind (f_Ch_keepBest a0 a3 q11.2) (fun q25 => some ((), q25.2))) else if 0 < a4 then gd (hK q11.2 a0 = 0) (gd (hK q11.2 (hR q11.2 a0 0) = 3) (Option.bind (f_Se_within (hR q11.2 a0 0) q11.1 q11.2) (fun q16 => f_Ch_tryChanges_L46 R0 a0 a1 a2 a3 a4 q11.1 (q16.1 &&& (a3 ^^^ (-1 : Int32))) fu (0 : Int32) q16.2 (fun v23 h24 => some ((), h24))))) else some ((), q11.2))))
def G_Ch_tryChanges : Nat → Nat → Int32 → Int32 → Int32 → Int32 → xH → Option (Unit × xH)
  | 0 => fun _ _ _ _ _ _ => none
  | g + 1 => fun a0 a1 a2 a3 a4 h => fb_Ch_tryChanges (G_Ch_tryChanges g) a0 a1 a2 a3 a4 h
def f_Ch_tryChanges (a0 : Nat) (a1 : Int32) (a2 : Int32) (a3 : Int32) (a4 : Int32) (h : xH) : Option (Unit × xH) := G_Ch_tryChanges 24 a0 a1 a2 a3 a4 h
theorem t_Ch_tryChanges_L46 {l : Launch} {z : xZ} {d mc ms : Nat} {Ph : Option xV → xH → Prop} {R0 : Nat → Int32 → Int32 → Int32 → Int32 → xH → Option (Unit × xH)} {a0 : Nat} {a1 : Int32} {a2 : Int32} {a3 : Int32} {a4 : Int32} {a5 : Int32} {a6 : Int32} {B : Nat} (hR0 : ∀ {d mc ms : Nat} {Ph : Option xV → xH → Prop} {a0 : Nat} {a1 : Int32} {a2 : Int32} {a3 : Int32} {a4 : Int32} {h : xH}, B ≤ d → OK (R0 a0 a1 a2 a3 a4 h) (fun q => Ph (none) q.2) → Sx l z d mc ms M_Ch_tryChanges 0 (x_en [xR a0, xI a1, xI a2, xI a3, xI a4] 9) [] h Ph) (hd : B + 1 ≤ d) : ∀ (n : Nat) (a7 : Int32) (h : xH) (K : Int32 → xH → Option (Unit × xH)), OK (f_Ch_tryChanges_L46 R0 a0 a1 a2 a3 a4 a5 a6 n a7 h K) (fun q => Ph (none) q.2) → (∀ (a7 : Int32) (h : xH), OK (K a7 h) (fun q => Ph (none) q.2) → Sx l z d mc ms M_Ch_tryChanges 93 [some (xR a0), some (xI a1), some (xI a2), some (xI a3), some (xI a4), some (xI a5), some (xI a6), some (xI a7), none] [] h Ph) → Sx l z d mc ms M_Ch_tryChanges 46 [some (xR a0), some (xI a1), some (xI a2), some (xI a3), some (xI a4), some (xI a5), some (xI a6), some (xI a7), none] [] h Ph := by
  intro n
  induction n with
  | zero => intro a7 h K hk hE; exact hk.no
  | succ n ih =>
    intro a7 h K hk hE
    rw [f_Ch_tryChanges_L46] at hk
    refine sx_iload dc_Ch_tryChanges_46 rfl ?_
    refine sx_bipush (v := (21 : Int32)) dc_Ch_tryChanges_48 (by decide) ?_
    refine sx_icmp_ge (tgt := 93) dc_Ch_tryChanges_50 (by decide) (fun c18 => ?_) (fun c18 => ?_)
    · replace hk := hk.t c18
      exact hE a7 h hk
    · replace hk := hk.f c18
      refine sx_iconst (v := (1 : Int32)) dc_Ch_tryChanges_53 (by decide) ?_
      refine sx_iload dc_Ch_tryChanges_54 rfl ?_
      refine sx_ishl dc_Ch_tryChanges_56 ?_
      refine sx_istore dc_Ch_tryChanges_57 (by decide) (sx_eq (lc2 := [some (xR a0), some (xI a1), some (xI a2), some (xI a3), some (xI a4), some (xI a5), some (xI a6), some (xI a7), some (xI (jShl (1 : Int32) a7))]) rfl rfl ?_)
      refine sx_iload dc_Ch_tryChanges_59 rfl ?_
      refine sx_iload dc_Ch_tryChanges_61 rfl ?_
      refine sx_iand dc_Ch_tryChanges_63 ?_
      refine hk.j (X := fun x19 => Sx l z d mc ms M_Ch_tryChanges 87 [some (xR a0), some (xI a1), some (xI a2), some (xI a3), some (xI a4), some (xI a5), some (xI a6), some (xI a7), some (xI (jShl (1 : Int32) a7))] [] x19 Ph) (fun x19 hk => ?_) (fun k20 jk20 hk => ?_)
      · refine sx_iinc (v := (1 : Int32)) dc_Ch_tryChanges_87 rfl (by decide) (by decide) (sx_eq (lc2 := [some (xR a0), some (xI a1), some (xI a2), some (xI a3), some (xI a4), some (xI a5), some (xI a6), some (xI (a7 + (1 : Int32))), some (xI (jShl (1 : Int32) a7))]) rfl rfl ?_)
        refine sx_goto (tgt := 46) dc_Ch_tryChanges_90 (by decide) ?_
        exact sx_less (by simp [x_le]) (ih (a7 + (1 : Int32)) x19 _ hk hE)
      · refine sx_if_eq (tgt := 87) dc_Ch_tryChanges_64 (by decide) (fun c21 => ?_) (fun c21 => ?_)
        · replace hk := hk.t c21
          exact jk20 h hk
        · replace hk := hk.f c21
          refine sx_aload_n dc_Ch_tryChanges_67 rfl ?_
          refine sx_iload_n dc_Ch_tryChanges_68 rfl ?_
          refine sx_iload dc_Ch_tryChanges_69 rfl ?_
          refine sx_ixor dc_Ch_tryChanges_71 ?_
          refine sx_iload_n dc_Ch_tryChanges_72 rfl ?_
          refine sx_iload dc_Ch_tryChanges_73 rfl ?_
          refine sx_ixor dc_Ch_tryChanges_75 ?_
          refine sx_iload_n dc_Ch_tryChanges_76 rfl ?_
          refine sx_iload dc_Ch_tryChanges_77 rfl ?_
          refine sx_ior dc_Ch_tryChanges_79 ?_
          refine sx_iload dc_Ch_tryChanges_80 rfl ?_
          refine sx_iconst (v := (1 : Int32)) dc_Ch_tryChanges_82 (by decide) ?_
          refine sx_isub dc_Ch_tryChanges_83 ?_
          obtain ⟨q22, eq22, hk⟩ := hk.bind
          refine sx_callS (d2 := d - 1) (mc2 := 0) (ms2 := 0) (as := [xR a0, xI (a1 ^^^ (jShl (1 : Int32) a7)), xI (a2 ^^^ (jShl (1 : Int32) a7)), xI (a3 ||| (jShl (1 : Int32) a7)), xI (a4 - (1 : Int32))]) mk_Ch_tryChanges rfl wM_Ch_41 mt_Ch_tryChanges rfl (Nat.le_of_ble_eq_true rfl) (Nat.le_of_ble_eq_true rfl) dc_Ch_tryChanges_84 (by omega) (Nat.zero_le _) (Nat.zero_le _) ?_
          refine hR0 (by omega) ⟨q22, eq22, ?_⟩
          refine sx_eq0 (lc2 := [some (xR a0), some (xI a1), some (xI a2), some (xI a3), some (xI a4), some (xI a5), some (xI a6), some (xI a7), some (xI (jShl (1 : Int32) a7))]) (st2 := []) rfl rfl ?_
          exact jk20 q22.2 hk
theorem tb_Ch_tryChanges {l : Launch} {z : xZ} {d mc ms : Nat} {Ph : Option xV → xH → Prop} {R0 : Nat → Int32 → Int32 → Int32 → Int32 → xH → Option (Unit × xH)} {B : Nat} (hR0 : ∀ {d mc ms : Nat} {Ph : Option xV → xH → Prop} {a0 : Nat} {a1 : Int32} {a2 : Int32} {a3 : Int32} {a4 : Int32} {h : xH}, B ≤ d → OK (R0 a0 a1 a2 a3 a4 h) (fun q => Ph (none) q.2) → Sx l z d mc ms M_Ch_tryChanges 0 (x_en [xR a0, xI a1, xI a2, xI a3, xI a4] 9) [] h Ph) {a0 : Nat} {a1 : Int32} {a2 : Int32} {a3 : Int32} {a4 : Int32}  {h : xH} (hd : B + 4 ≤ d) (hk : OK (fb_Ch_tryChanges R0 a0 a1 a2 a3 a4 h) (fun q => Ph (none) q.2)) : Sx l z d mc ms M_Ch_tryChanges 0 (x_en [xR a0, xI a1, xI a2, xI a3, xI a4] 9) [] h Ph := by
  unfold fb_Ch_tryChanges at hk
  refine sx_eq (lc2 := [some (xR a0), some (xI a1), some (xI a2), some (xI a3), some (xI a4), none, none, none, none]) rfl rfl ?_
  refine sx_aload_n dc_Ch_tryChanges_0 rfl ?_
  obtain ⟨g10, hk⟩ := hk.g
  refine sx_get (ci := 0) (k := 1) rfl (by decide) wF_Ch_19 g10 dc_Ch_tryChanges_1 ?_
  refine sx_iload_n dc_Ch_tryChanges_4 rfl ?_
  refine sx_iload_n dc_Ch_tryChanges_5 rfl ?_
  obtain ⟨g12, hk⟩ := hk.g
  obtain ⟨q11, eq11, hk⟩ := hk.bind
  refine sx_callV (d2 := d - 1) (mc2 := 0) (ms2 := 0) (as := [xI a1, xI a2]) mk_St_anyThree rfl (x_rk (ci := 5) g12 rfl rfl) wM_Ch_45 mi_St_anyThree me_St_anyThree rfl (Nat.le_of_ble_eq_true rfl) (Nat.le_of_ble_eq_true rfl) dc_Ch_tryChanges_6 (by omega) (Nat.zero_le _) (Nat.zero_le _) ?_
  refine t_St_anyThree (by omega) ⟨q11, eq11, ?_⟩
  refine sx_eq0 (lc2 := [some (xR a0), some (xI a1), some (xI a2), some (xI a3), some (xI a4), none, none, none, none]) (st2 := [xI q11.1]) rfl rfl ?_
  refine sx_istore dc_Ch_tryChanges_9 (by decide) (sx_eq (lc2 := [some (xR a0), some (xI a1), some (xI a2), some (xI a3), some (xI a4), some (xI q11.1), none, none, none]) rfl rfl ?_)
  refine sx_iload dc_Ch_tryChanges_11 rfl ?_
  refine sx_if_ne (tgt := 22) dc_Ch_tryChanges_13 (by decide) (fun c13 => ?_) (fun c13 => ?_)
  · replace hk := hk.f c13
    refine sx_iload dc_Ch_tryChanges_22 rfl ?_
    refine sx_if_gt (tgt := 28) dc_Ch_tryChanges_24 (by decide) (fun c14 => ?_) (fun c14 => ?_)
    · replace hk := hk.t c14
      refine sx_aload_n dc_Ch_tryChanges_28 rfl ?_
      obtain ⟨g15, hk⟩ := hk.g
      refine sx_get (ci := 0) (k := 0) rfl (by decide) wF_Ch_15 g15 dc_Ch_tryChanges_29 ?_
      refine sx_iload dc_Ch_tryChanges_32 rfl ?_
      obtain ⟨g17, hk⟩ := hk.g
      obtain ⟨q16, eq16, hk⟩ := hk.bind
      refine sx_callV (d2 := d - 1) (mc2 := 0) (ms2 := 0) (as := [xI q11.1]) mk_Se_within rfl (x_rk (ci := 3) g17 rfl rfl) wM_Ch_55 mi_Se_within me_Se_within rfl (Nat.le_of_ble_eq_true rfl) (Nat.le_of_ble_eq_true rfl) dc_Ch_tryChanges_34 (by omega) (Nat.zero_le _) (Nat.zero_le _) ?_
      refine t_Se_within (by omega) ⟨q16, eq16, ?_⟩
      refine sx_eq0 (lc2 := [some (xR a0), some (xI a1), some (xI a2), some (xI a3), some (xI a4), some (xI q11.1), none, none, none]) (st2 := [xI q16.1]) rfl rfl ?_
      refine sx_iload_n dc_Ch_tryChanges_37 rfl ?_
      refine sx_iconst (v := (-1 : Int32)) dc_Ch_tryChanges_38 (by decide) ?_
      refine sx_ixor dc_Ch_tryChanges_39 ?_
      refine sx_iand dc_Ch_tryChanges_40 ?_
      refine sx_istore dc_Ch_tryChanges_41 (by decide) (sx_eq (lc2 := [some (xR a0), some (xI a1), some (xI a2), some (xI a3), some (xI a4), some (xI q11.1), some (xI (q16.1 &&& (a3 ^^^ (-1 : Int32)))), none, none]) rfl rfl ?_)
      refine sx_iconst (v := (0 : Int32)) dc_Ch_tryChanges_43 (by decide) ?_
      refine sx_istore dc_Ch_tryChanges_44 (by decide) (sx_eq (lc2 := [some (xR a0), some (xI a1), some (xI a2), some (xI a3), some (xI a4), some (xI q11.1), some (xI (q16.1 &&& (a3 ^^^ (-1 : Int32)))), some (xI (0 : Int32)), none]) rfl rfl ?_)
      refine t_Ch_tryChanges_L46 hR0 (by omega) _ _ _ _ hk (fun v23 h24 hk => ?_)
      exact sx_retV dc_Ch_tryChanges_93 rfl hk.val
    · replace hk := hk.f c14
      exact sx_retV dc_Ch_tryChanges_27 rfl hk.val
  · replace hk := hk.t c13
    refine sx_aload_n dc_Ch_tryChanges_16 rfl ?_
    refine sx_iload_n dc_Ch_tryChanges_17 rfl ?_
    obtain ⟨g26, hk⟩ := hk.g
    obtain ⟨q25, eq25, hk⟩ := hk.bind
    refine sx_callV (d2 := d - 1) (mc2 := 0) (ms2 := 0) (as := [xI a3]) mk_Ch_keepBest rfl (x_rk (ci := 0) g26 rfl rfl) wM_Ch_51 mi_Ch_keepBest me_Ch_keepBest rfl (Nat.le_of_ble_eq_true rfl) (Nat.le_of_ble_eq_true rfl) dc_Ch_tryChanges_18 (by omega) (Nat.zero_le _) (Nat.zero_le _) ?_
    refine t_Ch_keepBest (by omega) ⟨q25, eq25, ?_⟩
    refine sx_eq0 (lc2 := [some (xR a0), some (xI a1), some (xI a2), some (xI a3), some (xI a4), some (xI q11.1), none, none, none]) (st2 := []) rfl rfl ?_
    exact sx_retV dc_Ch_tryChanges_21 rfl hk.val
theorem tg_Ch_tryChanges {l : Launch} {z : xZ} : ∀ (g : Nat) {d mc ms : Nat} {Ph : Option xV → xH → Prop} {a0 : Nat} {a1 : Int32} {a2 : Int32} {a3 : Int32} {a4 : Int32} {h : xH}, 4 * g ≤ d → OK (G_Ch_tryChanges g a0 a1 a2 a3 a4 h) (fun q => Ph (none) q.2) → Sx l z d mc ms M_Ch_tryChanges 0 (x_en [xR a0, xI a1, xI a2, xI a3, xI a4] 9) [] h Ph
  | 0 => fun _ hk => hk.no
  | g + 1 => fun hd hk => tb_Ch_tryChanges (R0 := G_Ch_tryChanges g) (B := 4 * g) (fun hd hk => tg_Ch_tryChanges g hd hk) (by omega) hk
theorem t_Ch_tryChanges {l : Launch} {z : xZ} {d mc ms : Nat} {Ph : Option xV → xH → Prop} {a0 : Nat} {a1 : Int32} {a2 : Int32} {a3 : Int32} {a4 : Int32} {h : xH} (hd : 96 ≤ d) (hk : OK (f_Ch_tryChanges a0 a1 a2 a3 a4 h) (fun q => Ph (none) q.2)) : Sx l z d mc ms M_Ch_tryChanges 0 (x_en [xR a0, xI a1, xI a2, xI a3, xI a4] 9) [] h Ph := tg_Ch_tryChanges 24 (by omega) hk
theorem dc_Ch_seek_0 : decode M_Ch_seek.2.1 0 = .ok (.iconst 0, 1) := by decide +kernel
theorem dc_Ch_seek_1 : decode M_Ch_seek.2.1 1 = .ok (.istore_n 3, 1) := by decide +kernel
theorem dc_Ch_seek_2 : decode M_Ch_seek.2.1 2 = .ok (.iload_n 3, 1) := by decide +kernel
theorem dc_Ch_seek_3 : decode M_Ch_seek.2.1 3 = .ok (.bipush 21, 2) := by decide +kernel
theorem dc_Ch_seek_5 : decode M_Ch_seek.2.1 5 = .ok (.if_icmp .ge 20, 3) := by decide +kernel
theorem dc_Ch_seek_8 : decode M_Ch_seek.2.1 8 = .ok (.aload_n 0, 1) := by decide +kernel
theorem dc_Ch_seek_9 : decode M_Ch_seek.2.1 9 = .ok (.getfield 9, 3) := by decide +kernel
theorem dc_Ch_seek_12 : decode M_Ch_seek.2.1 12 = .ok (.iload_n 3, 1) := by decide +kernel
theorem dc_Ch_seek_13 : decode M_Ch_seek.2.1 13 = .ok (.aload_n 2, 1) := by decide +kernel
theorem dc_Ch_seek_14 : decode M_Ch_seek.2.1 14 = .ok (.iload_n 3, 1) := by decide +kernel
theorem dc_Ch_seek_15 : decode M_Ch_seek.2.1 15 = .ok (.invokevirtual 23, 3) := by decide +kernel
theorem dc_Ch_seek_18 : decode M_Ch_seek.2.1 18 = .ok (.iastore, 1) := by decide +kernel
theorem dc_Ch_seek_19 : decode M_Ch_seek.2.1 19 = .ok (.iinc 3 1, 3) := by decide +kernel
theorem dc_Ch_seek_22 : decode M_Ch_seek.2.1 22 = .ok (.goto (-20), 3) := by decide +kernel
theorem dc_Ch_seek_25 : decode M_Ch_seek.2.1 25 = .ok (.aload_n 0, 1) := by decide +kernel
theorem dc_Ch_seek_26 : decode M_Ch_seek.2.1 26 = .ok (.iconst 0, 1) := by decide +kernel
theorem dc_Ch_seek_27 : decode M_Ch_seek.2.1 27 = .ok (.putfield 28, 3) := by decide +kernel
theorem dc_Ch_seek_30 : decode M_Ch_seek.2.1 30 = .ok (.iconst 0, 1) := by decide +kernel
theorem dc_Ch_seek_31 : decode M_Ch_seek.2.1 31 = .ok (.istore_n 3, 1) := by decide +kernel
theorem dc_Ch_seek_32 : decode M_Ch_seek.2.1 32 = .ok (.iload_n 3, 1) := by decide +kernel
theorem dc_Ch_seek_33 : decode M_Ch_seek.2.1 33 = .ok (.iconst 3, 1) := by decide +kernel
theorem dc_Ch_seek_34 : decode M_Ch_seek.2.1 34 = .ok (.if_icmp .gt 30, 3) := by decide +kernel
theorem dc_Ch_seek_37 : decode M_Ch_seek.2.1 37 = .ok (.aload_n 0, 1) := by decide +kernel
theorem dc_Ch_seek_38 : decode M_Ch_seek.2.1 38 = .ok (.getfield 28, 3) := by decide +kernel
theorem dc_Ch_seek_41 : decode M_Ch_seek.2.1 41 = .ok (.ifCond .ne 23, 3) := by decide +kernel
theorem dc_Ch_seek_44 : decode M_Ch_seek.2.1 44 = .ok (.aload_n 0, 1) := by decide +kernel
theorem dc_Ch_seek_45 : decode M_Ch_seek.2.1 45 = .ok (.aload_n 1, 1) := by decide +kernel
theorem dc_Ch_seek_46 : decode M_Ch_seek.2.1 46 = .ok (.getfield 32, 3) := by decide +kernel
theorem dc_Ch_seek_49 : decode M_Ch_seek.2.1 49 = .ok (.aload_n 1, 1) := by decide +kernel
theorem dc_Ch_seek_50 : decode M_Ch_seek.2.1 50 = .ok (.getfield 38, 3) := by decide +kernel
theorem dc_Ch_seek_53 : decode M_Ch_seek.2.1 53 = .ok (.iconst 0, 1) := by decide +kernel
theorem dc_Ch_seek_54 : decode M_Ch_seek.2.1 54 = .ok (.iload_n 3, 1) := by decide +kernel
theorem dc_Ch_seek_55 : decode M_Ch_seek.2.1 55 = .ok (.invokestatic 41, 3) := by decide +kernel
theorem dc_Ch_seek_58 : decode M_Ch_seek.2.1 58 = .ok (.iinc 3 1, 3) := by decide +kernel
theorem dc_Ch_seek_61 : decode M_Ch_seek.2.1 61 = .ok (.goto (-29), 3) := by decide +kernel
theorem dc_Ch_seek_64 : decode M_Ch_seek.2.1 64 = .ok (.aload_n 0, 1) := by decide +kernel
theorem dc_Ch_seek_65 : decode M_Ch_seek.2.1 65 = .ok (.getfield 28, 3) := by decide +kernel
theorem dc_Ch_seek_68 : decode M_Ch_seek.2.1 68 = .ok (.ireturn, 1) := by decide +kernel
def f_Ch_seek_L2 (a0 : Nat) (a1 : Nat) (a2 : Nat) : Nat → Int32 → xH → (Int32 → xH → Option (Int32 × xH)) → Option (Int32 × xH)
  | 0, _, _, _ => none
  | n + 1, a3, h, K => if (21 : Int32) ≤ a3 then K a3 h else gd (hK h a0 = 0) (gd (hK h a2 = 2) (Option.bind (f_Ru_costs a2 a3 h) (fun q11 => gd (hK q11.2 (hR h a0 2) = 12) (gd (¬ (a3 < 0 ∨ hL q11.2 (hR h a0 2) ≤ a3.toNatClampNeg)) (f_Ch_seek_L2 a0 a1 a2 n (a3 + (1 : Int32)) (hIu q11.2 (hR h a0 2) a3.toNatClampNeg q11.1) K)))))
def f_Ch_seek_L32 (a0 : Nat) (a1 : Nat) (a2 : Nat) : Nat → Int32 → xH → (Int32 → xH → Option (Int32 × xH)) → Option (Int32 × xH)
  | 0, _, _, _ => none
  | n + 1, a3, h, K => if (3 : Int32) < a3 then K a3 h else gd (hK h a0 = 0) (if (hI h a0 3) = 0 then gd (hK h a1 = 6) (Option.bind (f_Ch_tryChanges a0 (hI h a1 2) (hI h a1 3) (0 : Int32) a3 h) (fun q22 => f_Ch_seek_L32 a0 a1 a2 n (a3 + (1 : Int32)) q22.2 K)) else K a3 h)
def f_Ch_seek (a0 : Nat) (a1 : Nat) (a2 : Nat) (h : xH) : Option (Int32 × xH) := f_Ch_seek_L2 a0 a1 a2 fu (0 : Int32) h (fun v15 h16 => gd (hK h16 a0 = 0) (f_Ch_seek_L32 a0 a1 a2 fu (0 : Int32) (hIu h16 a0 3 (0 : Int32)) (fun v23 h24 => gd (hK h24 a0 = 0) (some (nb (hI h24 a0 3), h24)))))
theorem t_Ch_seek_L2 {l : Launch} {z : xZ} {d mc ms : Nat} {Ph : Option xV → xH → Prop} {a0 : Nat} {a1 : Nat} {a2 : Nat}  (hd : 5 ≤ d) : ∀ (n : Nat) (a3 : Int32) (h : xH) (K : Int32 → xH → Option (Int32 × xH)), OK (f_Ch_seek_L2 a0 a1 a2 n a3 h K) (fun q => Ph (some (xI q.1)) q.2) → (∀ (a3 : Int32) (h : xH), OK (K a3 h) (fun q => Ph (some (xI q.1)) q.2) → Sx l z d mc ms M_Ch_seek 25 [some (xR a0), some (xR a1), some (xR a2), some (xI a3)] [] h Ph) → Sx l z d mc ms M_Ch_seek 2 [some (xR a0), some (xR a1), some (xR a2), some (xI a3)] [] h Ph := by
  intro n
  induction n with
  | zero => intro a3 h K hk hE; exact hk.no
  | succ n ih =>
    intro a3 h K hk hE
    rw [f_Ch_seek_L2] at hk
    refine sx_iload_n dc_Ch_seek_2 rfl ?_
    refine sx_bipush (v := (21 : Int32)) dc_Ch_seek_3 (by decide) ?_
    refine sx_icmp_ge (tgt := 25) dc_Ch_seek_5 (by decide) (fun c9 => ?_) (fun c9 => ?_)
    · replace hk := hk.t c9
      exact hE a3 h hk
    · replace hk := hk.f c9
      refine sx_aload_n dc_Ch_seek_8 rfl ?_
      obtain ⟨g10, hk⟩ := hk.g
      refine sx_get (ci := 0) (k := 2) rfl (by decide) wF_Ch_9 g10 dc_Ch_seek_9 ?_
      refine sx_iload_n dc_Ch_seek_12 rfl ?_
      refine sx_aload_n dc_Ch_seek_13 rfl ?_
      refine sx_iload_n dc_Ch_seek_14 rfl ?_
      obtain ⟨g12, hk⟩ := hk.g
      obtain ⟨q11, eq11, hk⟩ := hk.bind
      refine sx_callV (d2 := d - 1) (mc2 := 0) (ms2 := 0) (as := [xI a3]) mk_Ru_costs rfl (x_rk (ci := 2) g12 rfl rfl) wM_Ch_23 mi_Ru_costs me_Ru_costs rfl (Nat.le_of_ble_eq_true rfl) (Nat.le_of_ble_eq_true rfl) dc_Ch_seek_15 (by omega) (Nat.zero_le _) (Nat.zero_le _) ?_
      refine t_Ru_costs (by omega) ⟨q11, eq11, ?_⟩
      refine sx_eq0 (lc2 := [some (xR a0), some (xR a1), some (xR a2), some (xI a3)]) (st2 := [xI q11.1, xI a3, xR (hR h a0 2)]) rfl rfl ?_
      obtain ⟨g13, hk⟩ := hk.g
      obtain ⟨g14, hk⟩ := hk.g
      refine sx_iast g13 g14 dc_Ch_seek_18 ?_
      refine sx_iinc (v := (1 : Int32)) dc_Ch_seek_19 rfl (by decide) (by decide) (sx_eq (lc2 := [some (xR a0), some (xR a1), some (xR a2), some (xI (a3 + (1 : Int32)))]) rfl rfl ?_)
      refine sx_goto (tgt := 2) dc_Ch_seek_22 (by decide) ?_
      exact ih (a3 + (1 : Int32)) (hIu q11.2 (hR h a0 2) a3.toNatClampNeg q11.1) _ hk hE
theorem t_Ch_seek_L32 {l : Launch} {z : xZ} {d mc ms : Nat} {Ph : Option xV → xH → Prop} {a0 : Nat} {a1 : Nat} {a2 : Nat}  (hd : 97 ≤ d) : ∀ (n : Nat) (a3 : Int32) (h : xH) (K : Int32 → xH → Option (Int32 × xH)), OK (f_Ch_seek_L32 a0 a1 a2 n a3 h K) (fun q => Ph (some (xI q.1)) q.2) → (∀ (a3 : Int32) (h : xH), OK (K a3 h) (fun q => Ph (some (xI q.1)) q.2) → Sx l z d mc ms M_Ch_seek 64 [some (xR a0), some (xR a1), some (xR a2), some (xI a3)] [] h Ph) → Sx l z d mc ms M_Ch_seek 32 [some (xR a0), some (xR a1), some (xR a2), some (xI a3)] [] h Ph := by
  intro n
  induction n with
  | zero => intro a3 h K hk hE; exact hk.no
  | succ n ih =>
    intro a3 h K hk hE
    rw [f_Ch_seek_L32] at hk
    refine sx_iload_n dc_Ch_seek_32 rfl ?_
    refine sx_iconst (v := (3 : Int32)) dc_Ch_seek_33 (by decide) ?_
    refine sx_icmp_gt (tgt := 64) dc_Ch_seek_34 (by decide) (fun c18 => ?_) (fun c18 => ?_)
    · replace hk := hk.t c18
      exact hE a3 h hk
    · replace hk := hk.f c18
      refine sx_aload_n dc_Ch_seek_37 rfl ?_
      obtain ⟨g19, hk⟩ := hk.g
      refine sx_get (ci := 0) (k := 3) rfl (by decide) wF_Ch_28 g19 dc_Ch_seek_38 ?_
      refine sx_if_ne (tgt := 64) dc_Ch_seek_41 (by decide) (fun c20 => ?_) (fun c20 => ?_)
      · replace hk := hk.f c20
        exact hE a3 h hk
      · replace hk := hk.t c20
        refine sx_aload_n dc_Ch_seek_44 rfl ?_
        refine sx_aload_n dc_Ch_seek_45 rfl ?_
        obtain ⟨g21, hk⟩ := hk.g
        refine sx_get (ci := 6) (k := 2) rfl (by decide) wF_Ch_32 g21 dc_Ch_seek_46 ?_
        refine sx_aload_n dc_Ch_seek_49 rfl ?_
        refine sx_get (ci := 6) (k := 3) rfl (by decide) wF_Ch_38 g21 dc_Ch_seek_50 ?_
        refine sx_iconst (v := (0 : Int32)) dc_Ch_seek_53 (by decide) ?_
        refine sx_iload_n dc_Ch_seek_54 rfl ?_
        obtain ⟨q22, eq22, hk⟩ := hk.bind
        refine sx_callS (d2 := d - 1) (mc2 := 0) (ms2 := 0) (as := [xR a0, xI (hI h a1 2), xI (hI h a1 3), xI (0 : Int32), xI a3]) mk_Ch_tryChanges rfl wM_Ch_41 mt_Ch_tryChanges rfl (Nat.le_of_ble_eq_true rfl) (Nat.le_of_ble_eq_true rfl) dc_Ch_seek_55 (by omega) (Nat.zero_le _) (Nat.zero_le _) ?_
        refine t_Ch_tryChanges (by omega) ⟨q22, eq22, ?_⟩
        refine sx_eq0 (lc2 := [some (xR a0), some (xR a1), some (xR a2), some (xI a3)]) (st2 := []) rfl rfl ?_
        refine sx_iinc (v := (1 : Int32)) dc_Ch_seek_58 rfl (by decide) (by decide) (sx_eq (lc2 := [some (xR a0), some (xR a1), some (xR a2), some (xI (a3 + (1 : Int32)))]) rfl rfl ?_)
        refine sx_goto (tgt := 32) dc_Ch_seek_61 (by decide) ?_
        exact ih (a3 + (1 : Int32)) q22.2 _ hk hE
theorem t_Ch_seek {l : Launch} {z : xZ} {d mc ms : Nat} {Ph : Option xV → xH → Prop} {a0 : Nat} {a1 : Nat} {a2 : Nat}  {h : xH} (hd : 97 ≤ d) (hk : OK (f_Ch_seek a0 a1 a2 h) (fun q => Ph (some (xI q.1)) q.2)) : Sx l z d mc ms M_Ch_seek 0 (x_en [xR a0, xR a1, xR a2] 4) [] h Ph := by
  unfold f_Ch_seek at hk
  refine sx_eq (lc2 := [some (xR a0), some (xR a1), some (xR a2), none]) rfl rfl ?_
  refine sx_iconst (v := (0 : Int32)) dc_Ch_seek_0 (by decide) ?_
  refine sx_istore_n dc_Ch_seek_1 (by decide) (sx_eq (lc2 := [some (xR a0), some (xR a1), some (xR a2), some (xI (0 : Int32))]) rfl rfl ?_)
  refine t_Ch_seek_L2 (by omega) _ _ _ _ hk (fun v15 h16 hk => ?_)
  refine sx_aload_n dc_Ch_seek_25 rfl ?_
  refine sx_iconst (v := (0 : Int32)) dc_Ch_seek_26 (by decide) ?_
  obtain ⟨g17, hk⟩ := hk.g
  refine sx_putI (ci := 0) (k := 3) rfl (by decide) wF_Ch_28 rfl g17 (Or.inr ⟨rfl, Or.inl rfl⟩) dc_Ch_seek_27 ?_
  refine sx_iconst (v := (0 : Int32)) dc_Ch_seek_30 (by decide) ?_
  refine sx_istore_n dc_Ch_seek_31 (by decide) (sx_eq (lc2 := [some (xR a0), some (xR a1), some (xR a2), some (xI (0 : Int32))]) rfl rfl ?_)
  refine t_Ch_seek_L32 (by omega) _ _ _ _ hk (fun v23 h24 hk => ?_)
  refine sx_aload_n dc_Ch_seek_64 rfl ?_
  obtain ⟨g25, hk⟩ := hk.g
  refine sx_get (ci := 0) (k := 3) rfl (by decide) wF_Ch_28 g25 dc_Ch_seek_65 ?_
  exact sx_retT dc_Ch_seek_68 (Or.inl ⟨rfl, rfl⟩) rfl hk.val
theorem dc_Ta_everyone_0 : decode M_Ta_everyone.2.1 0 = .ok (.iconst 1, 1) := by decide +kernel
theorem dc_Ta_everyone_1 : decode M_Ta_everyone.2.1 1 = .ok (.aload_n 0, 1) := by decide +kernel
theorem dc_Ta_everyone_2 : decode M_Ta_everyone.2.1 2 = .ok (.getfield 13, 3) := by decide +kernel
theorem dc_Ta_everyone_5 : decode M_Ta_everyone.2.1 5 = .ok (.ishl, 1) := by decide +kernel
theorem dc_Ta_everyone_6 : decode M_Ta_everyone.2.1 6 = .ok (.iconst 1, 1) := by decide +kernel
theorem dc_Ta_everyone_7 : decode M_Ta_everyone.2.1 7 = .ok (.isub, 1) := by decide +kernel
theorem dc_Ta_everyone_8 : decode M_Ta_everyone.2.1 8 = .ok (.ireturn, 1) := by decide +kernel
def f_Ta_everyone (a0 : Nat) (h : xH) : Option (Int32 × xH) := gd (hK h a0 = 6) (some ((jShl (1 : Int32) (hI h a0 1)) - (1 : Int32), h))
theorem t_Ta_everyone {l : Launch} {z : xZ} {d mc ms : Nat} {Ph : Option xV → xH → Prop} {a0 : Nat}  {h : xH} (hd : 1 ≤ d) (hk : OK (f_Ta_everyone a0 h) (fun q => Ph (some (xI q.1)) q.2)) : Sx l z d mc ms M_Ta_everyone 0 (x_en [xR a0] 1) [] h Ph := by
  unfold f_Ta_everyone at hk
  refine sx_eq (lc2 := [some (xR a0)]) rfl rfl ?_
  refine sx_iconst (v := (1 : Int32)) dc_Ta_everyone_0 (by decide) ?_
  refine sx_aload_n dc_Ta_everyone_1 rfl ?_
  obtain ⟨g2, hk⟩ := hk.g
  refine sx_get (ci := 6) (k := 1) rfl (by decide) wF_Ta_13 g2 dc_Ta_everyone_2 ?_
  refine sx_ishl dc_Ta_everyone_5 ?_
  refine sx_iconst (v := (1 : Int32)) dc_Ta_everyone_6 (by decide) ?_
  refine sx_isub dc_Ta_everyone_7 ?_
  exact sx_retI dc_Ta_everyone_8 rfl hk.val
theorem dc_Ta_everyPair_0 : decode M_Ta_everyPair.2.1 0 = .ok (.aload_n 0, 1) := by decide +kernel
theorem dc_Ta_everyPair_1 : decode M_Ta_everyPair.2.1 1 = .ok (.getfield 7, 3) := by decide +kernel
theorem dc_Ta_everyPair_4 : decode M_Ta_everyPair.2.1 4 = .ok (.aload_n 0, 1) := by decide +kernel
theorem dc_Ta_everyPair_5 : decode M_Ta_everyPair.2.1 5 = .ok (.invokevirtual 31, 3) := by decide +kernel
theorem dc_Ta_everyPair_8 : decode M_Ta_everyPair.2.1 8 = .ok (.invokevirtual 34, 3) := by decide +kernel
theorem dc_Ta_everyPair_11 : decode M_Ta_everyPair.2.1 11 = .ok (.ireturn, 1) := by decide +kernel
def f_Ta_everyPair (a0 : Nat) (h : xH) : Option (Int32 × xH) := gd (hK h a0 = 6) (Option.bind (f_Ta_everyone a0 h) (fun q6 => gd (hK q6.2 (hR h a0 0) = 3) (Option.bind (f_Se_within (hR h a0 0) q6.1 q6.2) (fun q7 => some (q7.1, q7.2)))))
theorem t_Ta_everyPair {l : Launch} {z : xZ} {d mc ms : Nat} {Ph : Option xV → xH → Prop} {a0 : Nat}  {h : xH} (hd : 2 ≤ d) (hk : OK (f_Ta_everyPair a0 h) (fun q => Ph (some (xI q.1)) q.2)) : Sx l z d mc ms M_Ta_everyPair 0 (x_en [xR a0] 1) [] h Ph := by
  unfold f_Ta_everyPair at hk
  refine sx_eq (lc2 := [some (xR a0)]) rfl rfl ?_
  refine sx_aload_n dc_Ta_everyPair_0 rfl ?_
  obtain ⟨g5, hk⟩ := hk.g
  refine sx_get (ci := 6) (k := 0) rfl (by decide) wF_Ta_7 g5 dc_Ta_everyPair_1 ?_
  refine sx_aload_n dc_Ta_everyPair_4 rfl ?_
  obtain ⟨q6, eq6, hk⟩ := hk.bind
  refine sx_callV (d2 := d - 1) (mc2 := 0) (ms2 := 0) (as := []) mk_Ta_everyone rfl (x_rk (ci := 6) g5 rfl rfl) wM_Ta_31 mi_Ta_everyone me_Ta_everyone rfl (Nat.le_of_ble_eq_true rfl) (Nat.le_of_ble_eq_true rfl) dc_Ta_everyPair_5 (by omega) (Nat.zero_le _) (Nat.zero_le _) ?_
  refine t_Ta_everyone (by omega) ⟨q6, eq6, ?_⟩
  refine sx_eq0 (lc2 := [some (xR a0)]) (st2 := [xI q6.1, xR (hR h a0 0)]) rfl rfl ?_
  obtain ⟨g8, hk⟩ := hk.g
  obtain ⟨q7, eq7, hk⟩ := hk.bind
  refine sx_callV (d2 := d - 1) (mc2 := 0) (ms2 := 0) (as := [xI q6.1]) mk_Se_within rfl (x_rk (ci := 3) g8 rfl rfl) wM_Ta_34 mi_Se_within me_Se_within rfl (Nat.le_of_ble_eq_true rfl) (Nat.le_of_ble_eq_true rfl) dc_Ta_everyPair_8 (by omega) (Nat.zero_le _) (Nat.zero_le _) ?_
  refine t_Se_within (by omega) ⟨q7, eq7, ?_⟩
  refine sx_eq0 (lc2 := [some (xR a0)]) (st2 := [xI q7.1]) rfl rfl ?_
  exact sx_retI dc_Ta_everyPair_11 rfl hk.val
theorem dc_Se_closes_0 : decode M_Se_closes.2.1 0 = .ok (.iconst 1, 1) := by decide +kernel
theorem dc_Se_closes_1 : decode M_Se_closes.2.1 1 = .ok (.aload_n 0, 1) := by decide +kernel
theorem dc_Se_closes_2 : decode M_Se_closes.2.1 2 = .ok (.iload_n 1, 1) := by decide +kernel
theorem dc_Se_closes_3 : decode M_Se_closes.2.1 3 = .ok (.invokevirtual 43, 3) := by decide +kernel
theorem dc_Se_closes_6 : decode M_Se_closes.2.1 6 = .ok (.ishl, 1) := by decide +kernel
theorem dc_Se_closes_7 : decode M_Se_closes.2.1 7 = .ok (.iconst 1, 1) := by decide +kernel
theorem dc_Se_closes_8 : decode M_Se_closes.2.1 8 = .ok (.aload_n 0, 1) := by decide +kernel
theorem dc_Se_closes_9 : decode M_Se_closes.2.1 9 = .ok (.iload_n 1, 1) := by decide +kernel
theorem dc_Se_closes_10 : decode M_Se_closes.2.1 10 = .ok (.invokevirtual 45, 3) := by decide +kernel
theorem dc_Se_closes_13 : decode M_Se_closes.2.1 13 = .ok (.ishl, 1) := by decide +kernel
theorem dc_Se_closes_14 : decode M_Se_closes.2.1 14 = .ok (.ior, 1) := by decide +kernel
theorem dc_Se_closes_15 : decode M_Se_closes.2.1 15 = .ok (.istore_n 3, 1) := by decide +kernel
theorem dc_Se_closes_16 : decode M_Se_closes.2.1 16 = .ok (.iconst 0, 1) := by decide +kernel
theorem dc_Se_closes_17 : decode M_Se_closes.2.1 17 = .ok (.istore 4, 2) := by decide +kernel
theorem dc_Se_closes_19 : decode M_Se_closes.2.1 19 = .ok (.iload 4, 2) := by decide +kernel
theorem dc_Se_closes_21 : decode M_Se_closes.2.1 21 = .ok (.bipush 7, 2) := by decide +kernel
theorem dc_Se_closes_23 : decode M_Se_closes.2.1 23 = .ok (.if_icmp .ge 41, 3) := by decide +kernel
theorem dc_Se_closes_26 : decode M_Se_closes.2.1 26 = .ok (.aload_n 0, 1) := by decide +kernel
theorem dc_Se_closes_27 : decode M_Se_closes.2.1 27 = .ok (.iload_n 3, 1) := by decide +kernel
theorem dc_Se_closes_28 : decode M_Se_closes.2.1 28 = .ok (.iconst 1, 1) := by decide +kernel
theorem dc_Se_closes_29 : decode M_Se_closes.2.1 29 = .ok (.iload 4, 2) := by decide +kernel
theorem dc_Se_closes_31 : decode M_Se_closes.2.1 31 = .ok (.ishl, 1) := by decide +kernel
theorem dc_Se_closes_32 : decode M_Se_closes.2.1 32 = .ok (.ior, 1) := by decide +kernel
theorem dc_Se_closes_33 : decode M_Se_closes.2.1 33 = .ok (.invokevirtual 47, 3) := by decide +kernel
theorem dc_Se_closes_36 : decode M_Se_closes.2.1 36 = .ok (.istore 5, 2) := by decide +kernel
theorem dc_Se_closes_38 : decode M_Se_closes.2.1 38 = .ok (.iload_n 3, 1) := by decide +kernel
theorem dc_Se_closes_39 : decode M_Se_closes.2.1 39 = .ok (.iload 4, 2) := by decide +kernel
theorem dc_Se_closes_41 : decode M_Se_closes.2.1 41 = .ok (.ishr, 1) := by decide +kernel
theorem dc_Se_closes_42 : decode M_Se_closes.2.1 42 = .ok (.iconst 1, 1) := by decide +kernel
theorem dc_Se_closes_43 : decode M_Se_closes.2.1 43 = .ok (.iand, 1) := by decide +kernel
theorem dc_Se_closes_44 : decode M_Se_closes.2.1 44 = .ok (.ifCond .ne 14, 3) := by decide +kernel
theorem dc_Se_closes_47 : decode M_Se_closes.2.1 47 = .ok (.iload_n 2, 1) := by decide +kernel
theorem dc_Se_closes_48 : decode M_Se_closes.2.1 48 = .ok (.iload 5, 2) := by decide +kernel
theorem dc_Se_closes_50 : decode M_Se_closes.2.1 50 = .ok (.iand, 1) := by decide +kernel
theorem dc_Se_closes_51 : decode M_Se_closes.2.1 51 = .ok (.iload 5, 2) := by decide +kernel
theorem dc_Se_closes_53 : decode M_Se_closes.2.1 53 = .ok (.if_icmp .ne 5, 3) := by decide +kernel
theorem dc_Se_closes_56 : decode M_Se_closes.2.1 56 = .ok (.iconst 1, 1) := by decide +kernel
theorem dc_Se_closes_57 : decode M_Se_closes.2.1 57 = .ok (.ireturn, 1) := by decide +kernel
theorem dc_Se_closes_58 : decode M_Se_closes.2.1 58 = .ok (.iinc 4 1, 3) := by decide +kernel
theorem dc_Se_closes_61 : decode M_Se_closes.2.1 61 = .ok (.goto (-42), 3) := by decide +kernel
theorem dc_Se_closes_64 : decode M_Se_closes.2.1 64 = .ok (.iconst 0, 1) := by decide +kernel
theorem dc_Se_closes_65 : decode M_Se_closes.2.1 65 = .ok (.ireturn, 1) := by decide +kernel
def f_Se_closes_L19 (a0 : Nat) (a1 : Int32) (a2 : Int32) (a3 : Int32) : Nat → Int32 → xH → (Int32 → xH → Option (Int32 × xH)) → Option (Int32 × xH)
  | 0, _, _, _ => none
  | n + 1, a4, h, K => if (7 : Int32) ≤ a4 then K a4 h else gd (hK h a0 = 3) (Option.bind (f_Se_within a0 (a3 ||| (jShl (1 : Int32) a4)) h) (fun q12 => jn (fun (x14 : Unit) => f_Se_closes_L19 a0 a1 a2 a3 n (a4 + (1 : Int32)) q12.2 K) (fun k15 => if ((jShr a3 a4) &&& (1 : Int32)) = 0 then if (a2 &&& q12.1) = q12.1 then some ((1 : Int32), q12.2) else k15 () else k15 ())))
def f_Se_closes (a0 : Nat) (a1 : Int32) (a2 : Int32) (h : xH) : Option (Int32 × xH) := gd (hK h a0 = 3) (Option.bind (f_Se_lower a0 a1 h) (fun q7 => gd (hK q7.2 a0 = 3) (Option.bind (f_Se_higher a0 a1 q7.2) (fun q9 => f_Se_closes_L19 a0 a1 a2 ((jShl (1 : Int32) q7.1) ||| (jShl (1 : Int32) q9.1)) fu (0 : Int32) q9.2 (fun v18 h19 => some ((0 : Int32), h19))))))
theorem t_Se_closes_L19 {l : Launch} {z : xZ} {d mc ms : Nat} {Ph : Option xV → xH → Prop} {a0 : Nat} {a1 : Int32} {a2 : Int32} {a3 : Int32}  (hd : 2 ≤ d) : ∀ (n : Nat) (a4 : Int32) (h : xH) (K : Int32 → xH → Option (Int32 × xH)), OK (f_Se_closes_L19 a0 a1 a2 a3 n a4 h K) (fun q => Ph (some (xI q.1)) q.2) → (∀ (a4 : Int32) (h : xH), OK (K a4 h) (fun q => Ph (some (xI q.1)) q.2) → Sx l z d mc ms M_Se_closes 64 [some (xR a0), some (xI a1), some (xI a2), some (xI a3), some (xI a4), none] [] h Ph) → Sx l z d mc ms M_Se_closes 19 [some (xR a0), some (xI a1), some (xI a2), some (xI a3), some (xI a4), none] [] h Ph := by
  intro n
  induction n with
  | zero => intro a4 h K hk hE; exact hk.no
  | succ n ih =>
    intro a4 h K hk hE
    rw [f_Se_closes_L19] at hk
    refine sx_iload dc_Se_closes_19 rfl ?_
    refine sx_bipush (v := (7 : Int32)) dc_Se_closes_21 (by decide) ?_
    refine sx_icmp_ge (tgt := 64) dc_Se_closes_23 (by decide) (fun c11 => ?_) (fun c11 => ?_)
    · replace hk := hk.t c11
      exact hE a4 h hk
    · replace hk := hk.f c11
      refine sx_aload_n dc_Se_closes_26 rfl ?_
      refine sx_iload_n dc_Se_closes_27 rfl ?_
      refine sx_iconst (v := (1 : Int32)) dc_Se_closes_28 (by decide) ?_
      refine sx_iload dc_Se_closes_29 rfl ?_
      refine sx_ishl dc_Se_closes_31 ?_
      refine sx_ior dc_Se_closes_32 ?_
      obtain ⟨g13, hk⟩ := hk.g
      obtain ⟨q12, eq12, hk⟩ := hk.bind
      refine sx_callV (d2 := d - 1) (mc2 := 0) (ms2 := 0) (as := [xI (a3 ||| (jShl (1 : Int32) a4))]) mk_Se_within rfl (x_rk (ci := 3) g13 rfl rfl) wM_Se_47 mi_Se_within me_Se_within rfl (Nat.le_of_ble_eq_true rfl) (Nat.le_of_ble_eq_true rfl) dc_Se_closes_33 (by omega) (Nat.zero_le _) (Nat.zero_le _) ?_
      refine t_Se_within (by omega) ⟨q12, eq12, ?_⟩
      refine sx_eq0 (lc2 := [some (xR a0), some (xI a1), some (xI a2), some (xI a3), some (xI a4), none]) (st2 := [xI q12.1]) rfl rfl ?_
      refine sx_istore dc_Se_closes_36 (by decide) (sx_eq (lc2 := [some (xR a0), some (xI a1), some (xI a2), some (xI a3), some (xI a4), some (xI q12.1)]) rfl rfl ?_)
      refine sx_iload_n dc_Se_closes_38 rfl ?_
      refine sx_iload dc_Se_closes_39 rfl ?_
      refine sx_ishr dc_Se_closes_41 ?_
      refine sx_iconst (v := (1 : Int32)) dc_Se_closes_42 (by decide) ?_
      refine sx_iand dc_Se_closes_43 ?_
      refine hk.j (X := fun x14 => Sx l z d mc ms M_Se_closes 58 [some (xR a0), some (xI a1), some (xI a2), some (xI a3), some (xI a4), some (xI q12.1)] [] q12.2 Ph) (fun x14 hk => ?_) (fun k15 jk15 hk => ?_)
      · refine sx_iinc (v := (1 : Int32)) dc_Se_closes_58 rfl (by decide) (by decide) (sx_eq (lc2 := [some (xR a0), some (xI a1), some (xI a2), some (xI a3), some (xI (a4 + (1 : Int32))), some (xI q12.1)]) rfl rfl ?_)
        refine sx_goto (tgt := 19) dc_Se_closes_61 (by decide) ?_
        exact sx_less (by simp [x_le]) (ih (a4 + (1 : Int32)) q12.2 _ hk hE)
      · refine sx_if_ne (tgt := 58) dc_Se_closes_44 (by decide) (fun c16 => ?_) (fun c16 => ?_)
        · replace hk := hk.f c16
          exact jk15 () hk
        · replace hk := hk.t c16
          refine sx_iload_n dc_Se_closes_47 rfl ?_
          refine sx_iload dc_Se_closes_48 rfl ?_
          refine sx_iand dc_Se_closes_50 ?_
          refine sx_iload dc_Se_closes_51 rfl ?_
          refine sx_icmp_ne (tgt := 58) dc_Se_closes_53 (by decide) (fun c17 => ?_) (fun c17 => ?_)
          · replace hk := hk.f c17
            exact jk15 () hk
          · replace hk := hk.t c17
            refine sx_iconst (v := (1 : Int32)) dc_Se_closes_56 (by decide) ?_
            exact sx_retT (v := (1 : Int32)) dc_Se_closes_57 (Or.inl ⟨rfl, rfl⟩) (by decide) hk.val
theorem t_Se_closes {l : Launch} {z : xZ} {d mc ms : Nat} {Ph : Option xV → xH → Prop} {a0 : Nat} {a1 : Int32} {a2 : Int32}  {h : xH} (hd : 2 ≤ d) (hk : OK (f_Se_closes a0 a1 a2 h) (fun q => Ph (some (xI q.1)) q.2)) : Sx l z d mc ms M_Se_closes 0 (x_en [xR a0, xI a1, xI a2] 6) [] h Ph := by
  unfold f_Se_closes at hk
  refine sx_eq (lc2 := [some (xR a0), some (xI a1), some (xI a2), none, none, none]) rfl rfl ?_
  refine sx_iconst (v := (1 : Int32)) dc_Se_closes_0 (by decide) ?_
  refine sx_aload_n dc_Se_closes_1 rfl ?_
  refine sx_iload_n dc_Se_closes_2 rfl ?_
  obtain ⟨g8, hk⟩ := hk.g
  obtain ⟨q7, eq7, hk⟩ := hk.bind
  refine sx_callV (d2 := d - 1) (mc2 := 0) (ms2 := 0) (as := [xI a1]) mk_Se_lower rfl (x_rk (ci := 3) g8 rfl rfl) wM_Se_43 mi_Se_lower me_Se_lower rfl (Nat.le_of_ble_eq_true rfl) (Nat.le_of_ble_eq_true rfl) dc_Se_closes_3 (by omega) (Nat.zero_le _) (Nat.zero_le _) ?_
  refine t_Se_lower (by omega) ⟨q7, eq7, ?_⟩
  refine sx_eq0 (lc2 := [some (xR a0), some (xI a1), some (xI a2), none, none, none]) (st2 := [xI q7.1, xI (1 : Int32)]) rfl rfl ?_
  refine sx_ishl dc_Se_closes_6 ?_
  refine sx_iconst (v := (1 : Int32)) dc_Se_closes_7 (by decide) ?_
  refine sx_aload_n dc_Se_closes_8 rfl ?_
  refine sx_iload_n dc_Se_closes_9 rfl ?_
  obtain ⟨g10, hk⟩ := hk.g
  obtain ⟨q9, eq9, hk⟩ := hk.bind
  refine sx_callV (d2 := d - 1) (mc2 := 0) (ms2 := 0) (as := [xI a1]) mk_Se_higher rfl (x_rk (ci := 3) g10 rfl rfl) wM_Se_45 mi_Se_higher me_Se_higher rfl (Nat.le_of_ble_eq_true rfl) (Nat.le_of_ble_eq_true rfl) dc_Se_closes_10 (by omega) (Nat.zero_le _) (Nat.zero_le _) ?_
  refine t_Se_higher (by omega) ⟨q9, eq9, ?_⟩
  refine sx_eq0 (lc2 := [some (xR a0), some (xI a1), some (xI a2), none, none, none]) (st2 := [xI q9.1, xI (1 : Int32), xI (jShl (1 : Int32) q7.1)]) rfl rfl ?_
  refine sx_ishl dc_Se_closes_13 ?_
  refine sx_ior dc_Se_closes_14 ?_
  refine sx_istore_n dc_Se_closes_15 (by decide) (sx_eq (lc2 := [some (xR a0), some (xI a1), some (xI a2), some (xI ((jShl (1 : Int32) q7.1) ||| (jShl (1 : Int32) q9.1))), none, none]) rfl rfl ?_)
  refine sx_iconst (v := (0 : Int32)) dc_Se_closes_16 (by decide) ?_
  refine sx_istore dc_Se_closes_17 (by decide) (sx_eq (lc2 := [some (xR a0), some (xI a1), some (xI a2), some (xI ((jShl (1 : Int32) q7.1) ||| (jShl (1 : Int32) q9.1))), some (xI (0 : Int32)), none]) rfl rfl ?_)
  refine t_Se_closes_L19 (by omega) _ _ _ _ hk (fun v18 h19 hk => ?_)
  refine sx_iconst (v := (0 : Int32)) dc_Se_closes_64 (by decide) ?_
  exact sx_retT (v := (0 : Int32)) dc_Se_closes_65 (Or.inl ⟨rfl, rfl⟩) (by decide) hk.val
theorem dc_Ga_worth_0 : decode M_Ga_worth.2.1 0 = .ok (.iload_n 3, 1) := by decide +kernel
theorem dc_Ga_worth_1 : decode M_Ga_worth.2.1 1 = .ok (.iload_n 1, 1) := by decide +kernel
theorem dc_Ga_worth_2 : decode M_Ga_worth.2.1 2 = .ok (.iload_n 2, 1) := by decide +kernel
theorem dc_Ga_worth_3 : decode M_Ga_worth.2.1 3 = .ok (.ior, 1) := by decide +kernel
theorem dc_Ga_worth_4 : decode M_Ga_worth.2.1 4 = .ok (.iconst (-1), 1) := by decide +kernel
theorem dc_Ga_worth_5 : decode M_Ga_worth.2.1 5 = .ok (.ixor, 1) := by decide +kernel
theorem dc_Ga_worth_6 : decode M_Ga_worth.2.1 6 = .ok (.iand, 1) := by decide +kernel
theorem dc_Ga_worth_7 : decode M_Ga_worth.2.1 7 = .ok (.istore 5, 2) := by decide +kernel
theorem dc_Ga_worth_9 : decode M_Ga_worth.2.1 9 = .ok (.iload 5, 2) := by decide +kernel
theorem dc_Ga_worth_11 : decode M_Ga_worth.2.1 11 = .ok (.ifCond .eq 8, 3) := by decide +kernel
theorem dc_Ga_worth_14 : decode M_Ga_worth.2.1 14 = .ok (.iload 4, 2) := by decide +kernel
theorem dc_Ga_worth_16 : decode M_Ga_worth.2.1 16 = .ok (.ifCond .gt 5, 3) := by decide +kernel
theorem dc_Ga_worth_19 : decode M_Ga_worth.2.1 19 = .ok (.iconst 0, 1) := by decide +kernel
theorem dc_Ga_worth_20 : decode M_Ga_worth.2.1 20 = .ok (.ireturn, 1) := by decide +kernel
theorem dc_Ga_worth_21 : decode M_Ga_worth.2.1 21 = .ok (.iconst (-1), 1) := by decide +kernel
theorem dc_Ga_worth_22 : decode M_Ga_worth.2.1 22 = .ok (.istore 6, 2) := by decide +kernel
theorem dc_Ga_worth_24 : decode M_Ga_worth.2.1 24 = .ok (.iconst 0, 1) := by decide +kernel
theorem dc_Ga_worth_25 : decode M_Ga_worth.2.1 25 = .ok (.istore 7, 2) := by decide +kernel
theorem dc_Ga_worth_27 : decode M_Ga_worth.2.1 27 = .ok (.iload 7, 2) := by decide +kernel
theorem dc_Ga_worth_29 : decode M_Ga_worth.2.1 29 = .ok (.bipush 6, 2) := by decide +kernel
theorem dc_Ga_worth_31 : decode M_Ga_worth.2.1 31 = .ok (.if_icmp .ge 51, 3) := by decide +kernel
theorem dc_Ga_worth_34 : decode M_Ga_worth.2.1 34 = .ok (.iload 6, 2) := by decide +kernel
theorem dc_Ga_worth_36 : decode M_Ga_worth.2.1 36 = .ok (.iconst 1, 1) := by decide +kernel
theorem dc_Ga_worth_37 : decode M_Ga_worth.2.1 37 = .ok (.if_icmp .ge 45, 3) := by decide +kernel
theorem dc_Ga_worth_40 : decode M_Ga_worth.2.1 40 = .ok (.iload 5, 2) := by decide +kernel
theorem dc_Ga_worth_42 : decode M_Ga_worth.2.1 42 = .ok (.iload 7, 2) := by decide +kernel
theorem dc_Ga_worth_44 : decode M_Ga_worth.2.1 44 = .ok (.ishr, 1) := by decide +kernel
theorem dc_Ga_worth_45 : decode M_Ga_worth.2.1 45 = .ok (.iconst 1, 1) := by decide +kernel
theorem dc_Ga_worth_46 : decode M_Ga_worth.2.1 46 = .ok (.iand, 1) := by decide +kernel
theorem dc_Ga_worth_47 : decode M_Ga_worth.2.1 47 = .ok (.ifCond .ne 6, 3) := by decide +kernel
theorem dc_Ga_worth_50 : decode M_Ga_worth.2.1 50 = .ok (.goto 26, 3) := by decide +kernel
theorem dc_Ga_worth_53 : decode M_Ga_worth.2.1 53 = .ok (.iload 6, 2) := by decide +kernel
theorem dc_Ga_worth_55 : decode M_Ga_worth.2.1 55 = .ok (.aload_n 0, 1) := by decide +kernel
theorem dc_Ga_worth_56 : decode M_Ga_worth.2.1 56 = .ok (.iload 7, 2) := by decide +kernel
theorem dc_Ga_worth_58 : decode M_Ga_worth.2.1 58 = .ok (.iload_n 1, 1) := by decide +kernel
theorem dc_Ga_worth_59 : decode M_Ga_worth.2.1 59 = .ok (.iconst 1, 1) := by decide +kernel
theorem dc_Ga_worth_60 : decode M_Ga_worth.2.1 60 = .ok (.iload 7, 2) := by decide +kernel
theorem dc_Ga_worth_62 : decode M_Ga_worth.2.1 62 = .ok (.ishl, 1) := by decide +kernel
theorem dc_Ga_worth_63 : decode M_Ga_worth.2.1 63 = .ok (.ior, 1) := by decide +kernel
theorem dc_Ga_worth_64 : decode M_Ga_worth.2.1 64 = .ok (.iload_n 2, 1) := by decide +kernel
theorem dc_Ga_worth_65 : decode M_Ga_worth.2.1 65 = .ok (.iload_n 3, 1) := by decide +kernel
theorem dc_Ga_worth_66 : decode M_Ga_worth.2.1 66 = .ok (.iload 4, 2) := by decide +kernel
theorem dc_Ga_worth_68 : decode M_Ga_worth.2.1 68 = .ok (.invokestatic 32, 3) := by decide +kernel
theorem dc_Ga_worth_71 : decode M_Ga_worth.2.1 71 = .ok (.invokestatic 36, 3) := by decide +kernel
theorem dc_Ga_worth_74 : decode M_Ga_worth.2.1 74 = .ok (.istore 6, 2) := by decide +kernel
theorem dc_Ga_worth_76 : decode M_Ga_worth.2.1 76 = .ok (.iinc 7 1, 3) := by decide +kernel
theorem dc_Ga_worth_79 : decode M_Ga_worth.2.1 79 = .ok (.goto (-52), 3) := by decide +kernel
theorem dc_Ga_worth_82 : decode M_Ga_worth.2.1 82 = .ok (.iload 6, 2) := by decide +kernel
theorem dc_Ga_worth_84 : decode M_Ga_worth.2.1 84 = .ok (.ireturn, 1) := by decide +kernel
theorem dc_Ga_worthOfTurn_0 : decode M_Ga_worthOfTurn.2.1 0 = .ok (.aload_n 0, 1) := by decide +kernel
theorem dc_Ga_worthOfTurn_1 : decode M_Ga_worthOfTurn.2.1 1 = .ok (.iload_n 1, 1) := by decide +kernel
theorem dc_Ga_worthOfTurn_2 : decode M_Ga_worthOfTurn.2.1 2 = .ok (.iload_n 2, 1) := by decide +kernel
theorem dc_Ga_worthOfTurn_3 : decode M_Ga_worthOfTurn.2.1 3 = .ok (.invokevirtual 42, 3) := by decide +kernel
theorem dc_Ga_worthOfTurn_6 : decode M_Ga_worthOfTurn.2.1 6 = .ok (.ifCond .eq 7, 3) := by decide +kernel
theorem dc_Ga_worthOfTurn_9 : decode M_Ga_worthOfTurn.2.1 9 = .ok (.iconst (-1), 1) := by decide +kernel
theorem dc_Ga_worthOfTurn_10 : decode M_Ga_worthOfTurn.2.1 10 = .ok (.goto 16, 3) := by decide +kernel
theorem dc_Ga_worthOfTurn_13 : decode M_Ga_worthOfTurn.2.1 13 = .ok (.aload_n 0, 1) := by decide +kernel
theorem dc_Ga_worthOfTurn_14 : decode M_Ga_worthOfTurn.2.1 14 = .ok (.iload_n 3, 1) := by decide +kernel
theorem dc_Ga_worthOfTurn_15 : decode M_Ga_worthOfTurn.2.1 15 = .ok (.iload_n 2, 1) := by decide +kernel
theorem dc_Ga_worthOfTurn_16 : decode M_Ga_worthOfTurn.2.1 16 = .ok (.iload 4, 2) := by decide +kernel
theorem dc_Ga_worthOfTurn_18 : decode M_Ga_worthOfTurn.2.1 18 = .ok (.iload 5, 2) := by decide +kernel
theorem dc_Ga_worthOfTurn_20 : decode M_Ga_worthOfTurn.2.1 20 = .ok (.iconst 1, 1) := by decide +kernel
theorem dc_Ga_worthOfTurn_21 : decode M_Ga_worthOfTurn.2.1 21 = .ok (.isub, 1) := by decide +kernel
theorem dc_Ga_worthOfTurn_22 : decode M_Ga_worthOfTurn.2.1 22 = .ok (.invokestatic 24, 3) := by decide +kernel
theorem dc_Ga_worthOfTurn_25 : decode M_Ga_worthOfTurn.2.1 25 = .ok (.ineg, 1) := by decide +kernel
theorem dc_Ga_worthOfTurn_26 : decode M_Ga_worthOfTurn.2.1 26 = .ok (.ireturn, 1) := by decide +kernel
def f_Ga_worthOfTurn (R0 : Nat → Int32 → Int32 → Int32 → Int32 → xH → Option (Int32 × xH)) (a0 : Nat) (a1 : Int32) (a2 : Int32) (a3 : Int32) (a4 : Int32) (a5 : Int32) (h : xH) : Option (Int32 × xH) := gd (hK h a0 = 3) (Option.bind (f_Se_closes a0 a1 a2 h) (fun q4 => jn (fun (x6 : Int32 × xH) => some (x6.1, x6.2)) (fun k7 => if q4.1 = 0 then Option.bind (R0 a0 a3 a2 a4 (a5 - (1 : Int32)) q4.2) (fun q9 => k7 ((-q9.1), q9.2)) else k7 ((-1 : Int32), q4.2))))
def f_Ga_worth_L27 (R0 : Nat → Int32 → Int32 → Int32 → Int32 → xH → Option (Int32 × xH)) (a0 : Nat) (a1 : Int32) (a2 : Int32) (a3 : Int32) (a4 : Int32) (a5 : Int32) : Nat → Int32 → Int32 → xH → (Int32 → Int32 → xH → Option (Int32 × xH)) → Option (Int32 × xH)
  | 0, _, _, _, _ => none
  | n + 1, a6, a7, h, K => if (6 : Int32) ≤ a7 then K a6 a7 h else if (1 : Int32) ≤ a6 then K a6 a7 h else jn (fun (x8 : Int32 × xH) => f_Ga_worth_L27 R0 a0 a1 a2 a3 a4 a5 n x8.1 (a7 + (1 : Int32)) x8.2 K) (fun k9 => if ((jShr a5 a7) &&& (1 : Int32)) = 0 then k9 (a6, h) else Option.bind (f_Ga_worthOfTurn R0 a0 a7 (a1 ||| (jShl (1 : Int32) a7)) a2 a3 a4 h) (fun q11 => k9 ((jMax a6 q11.1), q11.2)))
def fb_Ga_worth (R0 : Nat → Int32 → Int32 → Int32 → Int32 → xH → Option (Int32 × xH)) (a0 : Nat) (a1 : Int32) (a2 : Int32) (a3 : Int32) (a4 : Int32) (h : xH) : Option (Int32 × xH) := jn (fun (x2 : Unit) => some ((0 : Int32), h)) (fun k3 => if (a3 &&& ((a1 ||| a2) ^^^ (-1 : Int32))) = 0 then k3 () else if 0 < a4 then f_Ga_worth_L27 R0 a0 a1 a2 a3 a4 (a3 &&& ((a1 ||| a2) ^^^ (-1 : Int32))) fu (-1 : Int32) (0 : Int32) h (fun v12 v13 h14 => some (v12, h14)) else k3 ())
def G_Ga : Nat → Nat → Int32 → Int32 → Int32 → Int32 → xH → Option (Int32 × xH)
  | 0 => fun _ _ _ _ _ _ => none
  | g + 1 => fun a0 a1 a2 a3 a4 h => fb_Ga_worth (G_Ga g) a0 a1 a2 a3 a4 h
def f_Ga_worth (a0 : Nat) (a1 : Int32) (a2 : Int32) (a3 : Int32) (a4 : Int32) (h : xH) : Option (Int32 × xH) := G_Ga 24 a0 a1 a2 a3 a4 h
def fo_Ga_worthOfTurn (a0 : Nat) (a1 : Int32) (a2 : Int32) (a3 : Int32) (a4 : Int32) (a5 : Int32) (h : xH) : Option (Int32 × xH) := f_Ga_worthOfTurn (G_Ga 24) a0 a1 a2 a3 a4 a5 h
theorem t_Ga_worthOfTurn {l : Launch} {z : xZ} {d mc ms : Nat} {Ph : Option xV → xH → Prop} {R0 : Nat → Int32 → Int32 → Int32 → Int32 → xH → Option (Int32 × xH)} {B : Nat} (hR0 : ∀ {d mc ms : Nat} {Ph : Option xV → xH → Prop} {a0 : Nat} {a1 : Int32} {a2 : Int32} {a3 : Int32} {a4 : Int32} {h : xH}, B ≤ d → OK (R0 a0 a1 a2 a3 a4 h) (fun q => Ph (some (xI q.1)) q.2) → Sx l z d mc ms M_Ga_worth 0 (x_en [xR a0, xI a1, xI a2, xI a3, xI a4] 8) [] h Ph) {a0 : Nat} {a1 : Int32} {a2 : Int32} {a3 : Int32} {a4 : Int32} {a5 : Int32}  {h : xH} (hd : B + 3 ≤ d) (hk : OK (f_Ga_worthOfTurn R0 a0 a1 a2 a3 a4 a5 h) (fun q => Ph (some (xI q.1)) q.2)) : Sx l z d mc ms M_Ga_worthOfTurn 0 (x_en [xR a0, xI a1, xI a2, xI a3, xI a4, xI a5] 6) [] h Ph := by
  unfold f_Ga_worthOfTurn at hk
  refine sx_eq (lc2 := [some (xR a0), some (xI a1), some (xI a2), some (xI a3), some (xI a4), some (xI a5)]) rfl rfl ?_
  refine sx_aload_n dc_Ga_worthOfTurn_0 rfl ?_
  refine sx_iload_n dc_Ga_worthOfTurn_1 rfl ?_
  refine sx_iload_n dc_Ga_worthOfTurn_2 rfl ?_
  obtain ⟨g5, hk⟩ := hk.g
  obtain ⟨q4, eq4, hk⟩ := hk.bind
  refine sx_callV (d2 := d - 1) (mc2 := 0) (ms2 := 0) (as := [xI a1, xI a2]) mk_Se_closes rfl (x_rk (ci := 3) g5 rfl rfl) wM_Ga_42 mi_Se_closes me_Se_closes rfl (Nat.le_of_ble_eq_true rfl) (Nat.le_of_ble_eq_true rfl) dc_Ga_worthOfTurn_3 (by omega) (Nat.zero_le _) (Nat.zero_le _) ?_
  refine t_Se_closes (by omega) ⟨q4, eq4, ?_⟩
  refine sx_eq0 (lc2 := [some (xR a0), some (xI a1), some (xI a2), some (xI a3), some (xI a4), some (xI a5)]) (st2 := [xI q4.1]) rfl rfl ?_
  refine hk.j (X := fun x6 => Sx l z d mc ms M_Ga_worthOfTurn 26 [some (xR a0), some (xI a1), some (xI a2), some (xI a3), some (xI a4), some (xI a5)] [xI x6.1] x6.2 Ph) (fun x6 hk => ?_) (fun k7 jk7 hk => ?_)
  · exact sx_retI dc_Ga_worthOfTurn_26 rfl hk.val
  · refine sx_if_eq (tgt := 13) dc_Ga_worthOfTurn_6 (by decide) (fun c8 => ?_) (fun c8 => ?_)
    · replace hk := hk.t c8
      refine sx_aload_n dc_Ga_worthOfTurn_13 rfl ?_
      refine sx_iload_n dc_Ga_worthOfTurn_14 rfl ?_
      refine sx_iload_n dc_Ga_worthOfTurn_15 rfl ?_
      refine sx_iload dc_Ga_worthOfTurn_16 rfl ?_
      refine sx_iload dc_Ga_worthOfTurn_18 rfl ?_
      refine sx_iconst (v := (1 : Int32)) dc_Ga_worthOfTurn_20 (by decide) ?_
      refine sx_isub dc_Ga_worthOfTurn_21 ?_
      obtain ⟨q9, eq9, hk⟩ := hk.bind
      refine sx_callS (d2 := d - 1) (mc2 := 0) (ms2 := 0) (as := [xR a0, xI a3, xI a2, xI a4, xI (a5 - (1 : Int32))]) mk_Ga_worth rfl wM_Ga_24 mt_Ga_worth rfl (Nat.le_of_ble_eq_true rfl) (Nat.le_of_ble_eq_true rfl) dc_Ga_worthOfTurn_22 (by omega) (Nat.zero_le _) (Nat.zero_le _) ?_
      refine hR0 (by omega) ⟨q9, eq9, ?_⟩
      refine sx_eq0 (lc2 := [some (xR a0), some (xI a1), some (xI a2), some (xI a3), some (xI a4), some (xI a5)]) (st2 := [xI q9.1]) rfl rfl ?_
      refine sx_ineg dc_Ga_worthOfTurn_25 ?_
      exact jk7 ((-q9.1), q9.2) hk
    · replace hk := hk.f c8
      refine sx_iconst (v := (-1 : Int32)) dc_Ga_worthOfTurn_9 (by decide) ?_
      refine sx_goto (tgt := 26) dc_Ga_worthOfTurn_10 (by decide) ?_
      exact jk7 ((-1 : Int32), q4.2) hk
theorem t_Ga_worth_L27 {l : Launch} {z : xZ} {d mc ms : Nat} {Ph : Option xV → xH → Prop} {R0 : Nat → Int32 → Int32 → Int32 → Int32 → xH → Option (Int32 × xH)} {a0 : Nat} {a1 : Int32} {a2 : Int32} {a3 : Int32} {a4 : Int32} {a5 : Int32} {B : Nat} (hR0 : ∀ {d mc ms : Nat} {Ph : Option xV → xH → Prop} {a0 : Nat} {a1 : Int32} {a2 : Int32} {a3 : Int32} {a4 : Int32} {h : xH}, B ≤ d → OK (R0 a0 a1 a2 a3 a4 h) (fun q => Ph (some (xI q.1)) q.2) → Sx l z d mc ms M_Ga_worth 0 (x_en [xR a0, xI a1, xI a2, xI a3, xI a4] 8) [] h Ph) (hd : B + 4 ≤ d) : ∀ (n : Nat) (a6 : Int32) (a7 : Int32) (h : xH) (K : Int32 → Int32 → xH → Option (Int32 × xH)), OK (f_Ga_worth_L27 R0 a0 a1 a2 a3 a4 a5 n a6 a7 h K) (fun q => Ph (some (xI q.1)) q.2) → (∀ (a6 : Int32) (a7 : Int32) (h : xH), OK (K a6 a7 h) (fun q => Ph (some (xI q.1)) q.2) → Sx l z d mc ms M_Ga_worth 82 [some (xR a0), some (xI a1), some (xI a2), some (xI a3), some (xI a4), some (xI a5), some (xI a6), some (xI a7)] [] h Ph) → Sx l z d mc ms M_Ga_worth 27 [some (xR a0), some (xI a1), some (xI a2), some (xI a3), some (xI a4), some (xI a5), some (xI a6), some (xI a7)] [] h Ph := by
  intro n
  induction n with
  | zero => intro a6 a7 h K hk hE; exact hk.no
  | succ n ih =>
    intro a6 a7 h K hk hE
    rw [f_Ga_worth_L27] at hk
    refine sx_iload dc_Ga_worth_27 rfl ?_
    refine sx_bipush (v := (6 : Int32)) dc_Ga_worth_29 (by decide) ?_
    refine sx_icmp_ge (tgt := 82) dc_Ga_worth_31 (by decide) (fun c6 => ?_) (fun c6 => ?_)
    · replace hk := hk.t c6
      exact hE a6 a7 h hk
    · replace hk := hk.f c6
      refine sx_iload dc_Ga_worth_34 rfl ?_
      refine sx_iconst (v := (1 : Int32)) dc_Ga_worth_36 (by decide) ?_
      refine sx_icmp_ge (tgt := 82) dc_Ga_worth_37 (by decide) (fun c7 => ?_) (fun c7 => ?_)
      · replace hk := hk.t c7
        exact hE a6 a7 h hk
      · replace hk := hk.f c7
        refine sx_iload dc_Ga_worth_40 rfl ?_
        refine sx_iload dc_Ga_worth_42 rfl ?_
        refine sx_ishr dc_Ga_worth_44 ?_
        refine sx_iconst (v := (1 : Int32)) dc_Ga_worth_45 (by decide) ?_
        refine sx_iand dc_Ga_worth_46 ?_
        refine hk.j (X := fun x8 => Sx l z d mc ms M_Ga_worth 76 [some (xR a0), some (xI a1), some (xI a2), some (xI a3), some (xI a4), some (xI a5), some (xI x8.1), some (xI a7)] [] x8.2 Ph) (fun x8 hk => ?_) (fun k9 jk9 hk => ?_)
        · refine sx_iinc (v := (1 : Int32)) dc_Ga_worth_76 rfl (by decide) (by decide) (sx_eq (lc2 := [some (xR a0), some (xI a1), some (xI a2), some (xI a3), some (xI a4), some (xI a5), some (xI x8.1), some (xI (a7 + (1 : Int32)))]) rfl rfl ?_)
          refine sx_goto (tgt := 27) dc_Ga_worth_79 (by decide) ?_
          exact ih x8.1 (a7 + (1 : Int32)) x8.2 _ hk hE
        · refine sx_if_ne (tgt := 53) dc_Ga_worth_47 (by decide) (fun c10 => ?_) (fun c10 => ?_)
          · replace hk := hk.f c10
            refine sx_iload dc_Ga_worth_53 rfl ?_
            refine sx_aload_n dc_Ga_worth_55 rfl ?_
            refine sx_iload dc_Ga_worth_56 rfl ?_
            refine sx_iload_n dc_Ga_worth_58 rfl ?_
            refine sx_iconst (v := (1 : Int32)) dc_Ga_worth_59 (by decide) ?_
            refine sx_iload dc_Ga_worth_60 rfl ?_
            refine sx_ishl dc_Ga_worth_62 ?_
            refine sx_ior dc_Ga_worth_63 ?_
            refine sx_iload_n dc_Ga_worth_64 rfl ?_
            refine sx_iload_n dc_Ga_worth_65 rfl ?_
            refine sx_iload dc_Ga_worth_66 rfl ?_
            obtain ⟨q11, eq11, hk⟩ := hk.bind
            refine sx_callS (d2 := d - 1) (mc2 := 0) (ms2 := 0) (as := [xR a0, xI a7, xI (a1 ||| (jShl (1 : Int32) a7)), xI a2, xI a3, xI a4]) mk_Ga_worthOfTurn rfl wM_Ga_32 mt_Ga_worthOfTurn rfl (Nat.le_of_ble_eq_true rfl) (Nat.le_of_ble_eq_true rfl) dc_Ga_worth_68 (by omega) (Nat.zero_le _) (Nat.zero_le _) ?_
            refine t_Ga_worthOfTurn hR0 (by omega) ⟨q11, eq11, ?_⟩
            refine sx_eq0 (lc2 := [some (xR a0), some (xI a1), some (xI a2), some (xI a3), some (xI a4), some (xI a5), some (xI a6), some (xI a7)]) (st2 := [xI q11.1, xI a6]) rfl rfl ?_
            refine sx_max wM_Ga_36 mt_Mt_max wT_Mt wV_max (Nat.le_of_ble_eq_true rfl) (by omega) dc_Ga_worth_71 ?_
            refine sx_istore dc_Ga_worth_74 (by decide) (sx_eq (lc2 := [some (xR a0), some (xI a1), some (xI a2), some (xI a3), some (xI a4), some (xI a5), some (xI (jMax a6 q11.1)), some (xI a7)]) rfl rfl ?_)
            exact jk9 ((jMax a6 q11.1), q11.2) hk
          · replace hk := hk.t c10
            refine sx_goto (tgt := 76) dc_Ga_worth_50 (by decide) ?_
            exact jk9 (a6, h) hk
theorem tb_Ga_worth {l : Launch} {z : xZ} {d mc ms : Nat} {Ph : Option xV → xH → Prop} {R0 : Nat → Int32 → Int32 → Int32 → Int32 → xH → Option (Int32 × xH)} {B : Nat} (hR0 : ∀ {d mc ms : Nat} {Ph : Option xV → xH → Prop} {a0 : Nat} {a1 : Int32} {a2 : Int32} {a3 : Int32} {a4 : Int32} {h : xH}, B ≤ d → OK (R0 a0 a1 a2 a3 a4 h) (fun q => Ph (some (xI q.1)) q.2) → Sx l z d mc ms M_Ga_worth 0 (x_en [xR a0, xI a1, xI a2, xI a3, xI a4] 8) [] h Ph) {a0 : Nat} {a1 : Int32} {a2 : Int32} {a3 : Int32} {a4 : Int32}  {h : xH} (hd : B + 4 ≤ d) (hk : OK (fb_Ga_worth R0 a0 a1 a2 a3 a4 h) (fun q => Ph (some (xI q.1)) q.2)) : Sx l z d mc ms M_Ga_worth 0 (x_en [xR a0, xI a1, xI a2, xI a3, xI a4] 8) [] h Ph := by
  unfold fb_Ga_worth at hk
  refine sx_eq (lc2 := [some (xR a0), some (xI a1), some (xI a2), some (xI a3), some (xI a4), none, none, none]) rfl rfl ?_
  refine sx_iload_n dc_Ga_worth_0 rfl ?_
  refine sx_iload_n dc_Ga_worth_1 rfl ?_
  refine sx_iload_n dc_Ga_worth_2 rfl ?_
  refine sx_ior dc_Ga_worth_3 ?_
  refine sx_iconst (v := (-1 : Int32)) dc_Ga_worth_4 (by decide) ?_
  refine sx_ixor dc_Ga_worth_5 ?_
  refine sx_iand dc_Ga_worth_6 ?_
  refine sx_istore dc_Ga_worth_7 (by decide) (sx_eq (lc2 := [some (xR a0), some (xI a1), some (xI a2), some (xI a3), some (xI a4), some (xI (a3 &&& ((a1 ||| a2) ^^^ (-1 : Int32)))), none, none]) rfl rfl ?_)
  refine sx_iload dc_Ga_worth_9 rfl ?_
  refine hk.j (X := fun x2 => Sx l z d mc ms M_Ga_worth 19 [some (xR a0), some (xI a1), some (xI a2), some (xI a3), some (xI a4), some (xI (a3 &&& ((a1 ||| a2) ^^^ (-1 : Int32)))), none, none] [] h Ph) (fun x2 hk => ?_) (fun k3 jk3 hk => ?_)
  · refine sx_iconst (v := (0 : Int32)) dc_Ga_worth_19 (by decide) ?_
    exact sx_retI dc_Ga_worth_20 rfl hk.val
  · refine sx_if_eq (tgt := 19) dc_Ga_worth_11 (by decide) (fun c4 => ?_) (fun c4 => ?_)
    · replace hk := hk.t c4
      exact jk3 () hk
    · replace hk := hk.f c4
      refine sx_iload dc_Ga_worth_14 rfl ?_
      refine sx_if_gt (tgt := 21) dc_Ga_worth_16 (by decide) (fun c5 => ?_) (fun c5 => ?_)
      · replace hk := hk.t c5
        refine sx_iconst (v := (-1 : Int32)) dc_Ga_worth_21 (by decide) ?_
        refine sx_istore dc_Ga_worth_22 (by decide) (sx_eq (lc2 := [some (xR a0), some (xI a1), some (xI a2), some (xI a3), some (xI a4), some (xI (a3 &&& ((a1 ||| a2) ^^^ (-1 : Int32)))), some (xI (-1 : Int32)), none]) rfl rfl ?_)
        refine sx_iconst (v := (0 : Int32)) dc_Ga_worth_24 (by decide) ?_
        refine sx_istore dc_Ga_worth_25 (by decide) (sx_eq (lc2 := [some (xR a0), some (xI a1), some (xI a2), some (xI a3), some (xI a4), some (xI (a3 &&& ((a1 ||| a2) ^^^ (-1 : Int32)))), some (xI (-1 : Int32)), some (xI (0 : Int32))]) rfl rfl ?_)
        refine t_Ga_worth_L27 hR0 (by omega) _ _ _ _ _ hk (fun v12 v13 h14 hk => ?_)
        refine sx_iload dc_Ga_worth_82 rfl ?_
        exact sx_retI dc_Ga_worth_84 rfl hk.val
      · replace hk := hk.f c5
        exact jk3 () hk
theorem tg_Ga_worth {l : Launch} {z : xZ} : ∀ (g : Nat) {d mc ms : Nat} {Ph : Option xV → xH → Prop} {a0 : Nat} {a1 : Int32} {a2 : Int32} {a3 : Int32} {a4 : Int32} {h : xH}, 4 * g ≤ d → OK (G_Ga g a0 a1 a2 a3 a4 h) (fun q => Ph (some (xI q.1)) q.2) → Sx l z d mc ms M_Ga_worth 0 (x_en [xR a0, xI a1, xI a2, xI a3, xI a4] 8) [] h Ph
  | 0 => fun _ hk => hk.no
  | g + 1 => fun hd hk => tb_Ga_worth (R0 := G_Ga g) (B := 4 * g) (fun hd hk => tg_Ga_worth g hd hk) (by omega) hk
theorem t_Ga_worth {l : Launch} {z : xZ} {d mc ms : Nat} {Ph : Option xV → xH → Prop} {a0 : Nat} {a1 : Int32} {a2 : Int32} {a3 : Int32} {a4 : Int32} {h : xH} (hd : 96 ≤ d) (hk : OK (f_Ga_worth a0 a1 a2 a3 a4 h) (fun q => Ph (some (xI q.1)) q.2)) : Sx l z d mc ms M_Ga_worth 0 (x_en [xR a0, xI a1, xI a2, xI a3, xI a4] 8) [] h Ph := tg_Ga_worth 24 (by omega) hk
theorem to_Ga_worthOfTurn {l : Launch} {z : xZ} {d mc ms : Nat} {Ph : Option xV → xH → Prop} {a0 : Nat} {a1 : Int32} {a2 : Int32} {a3 : Int32} {a4 : Int32} {a5 : Int32} {h : xH} (hd : 99 ≤ d) (hk : OK (fo_Ga_worthOfTurn a0 a1 a2 a3 a4 a5 h) (fun q => Ph (some (xI q.1)) q.2)) : Sx l z d mc ms M_Ga_worthOfTurn 0 (x_en [xR a0, xI a1, xI a2, xI a3, xI a4, xI a5] 6) [] h Ph := t_Ga_worthOfTurn (B := 96) (fun hd hk => tg_Ga_worth 24 hd hk) (by omega) hk
theorem dc_Ga_value_0 : decode M_Ga_value.2.1 0 = .ok (.aload_n 0, 1) := by decide +kernel
theorem dc_Ga_value_1 : decode M_Ga_value.2.1 1 = .ok (.aload_n 1, 1) := by decide +kernel
theorem dc_Ga_value_2 : decode M_Ga_value.2.1 2 = .ok (.getfield 9, 3) := by decide +kernel
theorem dc_Ga_value_5 : decode M_Ga_value.2.1 5 = .ok (.aload_n 1, 1) := by decide +kernel
theorem dc_Ga_value_6 : decode M_Ga_value.2.1 6 = .ok (.getfield 15, 3) := by decide +kernel
theorem dc_Ga_value_9 : decode M_Ga_value.2.1 9 = .ok (.aload_n 1, 1) := by decide +kernel
theorem dc_Ga_value_10 : decode M_Ga_value.2.1 10 = .ok (.invokevirtual 18, 3) := by decide +kernel
theorem dc_Ga_value_13 : decode M_Ga_value.2.1 13 = .ok (.bipush 6, 2) := by decide +kernel
theorem dc_Ga_value_15 : decode M_Ga_value.2.1 15 = .ok (.invokestatic 24, 3) := by decide +kernel
theorem dc_Ga_value_18 : decode M_Ga_value.2.1 18 = .ok (.ireturn, 1) := by decide +kernel
def f_Ga_value (a0 : Nat) (a1 : Nat) (h : xH) : Option (Int32 × xH) := gd (hK h a1 = 6) (Option.bind (f_Ta_everyPair a1 h) (fun q5 => Option.bind (f_Ga_worth a0 (hI h a1 2) (hI h a1 3) q5.1 (6 : Int32) q5.2) (fun q6 => some (q6.1, q6.2))))
theorem t_Ga_value {l : Launch} {z : xZ} {d mc ms : Nat} {Ph : Option xV → xH → Prop} {a0 : Nat} {a1 : Nat}  {h : xH} (hd : 97 ≤ d) (hk : OK (f_Ga_value a0 a1 h) (fun q => Ph (some (xI q.1)) q.2)) : Sx l z d mc ms M_Ga_value 0 (x_en [xR a0, xR a1] 2) [] h Ph := by
  unfold f_Ga_value at hk
  refine sx_eq (lc2 := [some (xR a0), some (xR a1)]) rfl rfl ?_
  refine sx_aload_n dc_Ga_value_0 rfl ?_
  refine sx_aload_n dc_Ga_value_1 rfl ?_
  obtain ⟨g4, hk⟩ := hk.g
  refine sx_get (ci := 6) (k := 2) rfl (by decide) wF_Ga_9 g4 dc_Ga_value_2 ?_
  refine sx_aload_n dc_Ga_value_5 rfl ?_
  refine sx_get (ci := 6) (k := 3) rfl (by decide) wF_Ga_15 g4 dc_Ga_value_6 ?_
  refine sx_aload_n dc_Ga_value_9 rfl ?_
  obtain ⟨q5, eq5, hk⟩ := hk.bind
  refine sx_callV (d2 := d - 1) (mc2 := 0) (ms2 := 0) (as := []) mk_Ta_everyPair rfl (x_rk (ci := 6) g4 rfl rfl) wM_Ga_18 mi_Ta_everyPair me_Ta_everyPair rfl (Nat.le_of_ble_eq_true rfl) (Nat.le_of_ble_eq_true rfl) dc_Ga_value_10 (by omega) (Nat.zero_le _) (Nat.zero_le _) ?_
  refine t_Ta_everyPair (by omega) ⟨q5, eq5, ?_⟩
  refine sx_eq0 (lc2 := [some (xR a0), some (xR a1)]) (st2 := [xI q5.1, xI (hI h a1 3), xI (hI h a1 2), xR a0]) rfl rfl ?_
  refine sx_bipush (v := (6 : Int32)) dc_Ga_value_13 (by decide) ?_
  obtain ⟨q6, eq6, hk⟩ := hk.bind
  refine sx_callS (d2 := d - 1) (mc2 := 0) (ms2 := 0) (as := [xR a0, xI (hI h a1 2), xI (hI h a1 3), xI q5.1, xI (6 : Int32)]) mk_Ga_worth rfl wM_Ga_24 mt_Ga_worth rfl (Nat.le_of_ble_eq_true rfl) (Nat.le_of_ble_eq_true rfl) dc_Ga_value_15 (by omega) (Nat.zero_le _) (Nat.zero_le _) ?_
  refine t_Ga_worth (by omega) ⟨q6, eq6, ?_⟩
  refine sx_eq0 (lc2 := [some (xR a0), some (xR a1)]) (st2 := [xI q6.1]) rfl rfl ?_
  exact sx_retI dc_Ga_value_18 rfl hk.val
theorem dc_Ga_pair_0 : decode M_Ga_pair.2.1 0 = .ok (.aload_n 0, 1) := by decide +kernel
theorem dc_Ga_pair_1 : decode M_Ga_pair.2.1 1 = .ok (.aload_n 1, 1) := by decide +kernel
theorem dc_Ga_pair_2 : decode M_Ga_pair.2.1 2 = .ok (.invokestatic 28, 3) := by decide +kernel
theorem dc_Ga_pair_5 : decode M_Ga_pair.2.1 5 = .ok (.istore_n 2, 1) := by decide +kernel
theorem dc_Ga_pair_6 : decode M_Ga_pair.2.1 6 = .ok (.aload_n 1, 1) := by decide +kernel
theorem dc_Ga_pair_7 : decode M_Ga_pair.2.1 7 = .ok (.invokevirtual 18, 3) := by decide +kernel
theorem dc_Ga_pair_10 : decode M_Ga_pair.2.1 10 = .ok (.aload_n 1, 1) := by decide +kernel
theorem dc_Ga_pair_11 : decode M_Ga_pair.2.1 11 = .ok (.getfield 9, 3) := by decide +kernel
theorem dc_Ga_pair_14 : decode M_Ga_pair.2.1 14 = .ok (.aload_n 1, 1) := by decide +kernel
theorem dc_Ga_pair_15 : decode M_Ga_pair.2.1 15 = .ok (.getfield 15, 3) := by decide +kernel
theorem dc_Ga_pair_18 : decode M_Ga_pair.2.1 18 = .ok (.ior, 1) := by decide +kernel
theorem dc_Ga_pair_19 : decode M_Ga_pair.2.1 19 = .ok (.iconst (-1), 1) := by decide +kernel
theorem dc_Ga_pair_20 : decode M_Ga_pair.2.1 20 = .ok (.ixor, 1) := by decide +kernel
theorem dc_Ga_pair_21 : decode M_Ga_pair.2.1 21 = .ok (.iand, 1) := by decide +kernel
theorem dc_Ga_pair_22 : decode M_Ga_pair.2.1 22 = .ok (.istore_n 3, 1) := by decide +kernel
theorem dc_Ga_pair_23 : decode M_Ga_pair.2.1 23 = .ok (.iconst 0, 1) := by decide +kernel
theorem dc_Ga_pair_24 : decode M_Ga_pair.2.1 24 = .ok (.istore 4, 2) := by decide +kernel
theorem dc_Ga_pair_26 : decode M_Ga_pair.2.1 26 = .ok (.iload 4, 2) := by decide +kernel
theorem dc_Ga_pair_28 : decode M_Ga_pair.2.1 28 = .ok (.bipush 6, 2) := by decide +kernel
theorem dc_Ga_pair_30 : decode M_Ga_pair.2.1 30 = .ok (.if_icmp .ge 57, 3) := by decide +kernel
theorem dc_Ga_pair_33 : decode M_Ga_pair.2.1 33 = .ok (.iload_n 3, 1) := by decide +kernel
theorem dc_Ga_pair_34 : decode M_Ga_pair.2.1 34 = .ok (.iload 4, 2) := by decide +kernel
theorem dc_Ga_pair_36 : decode M_Ga_pair.2.1 36 = .ok (.ishr, 1) := by decide +kernel
theorem dc_Ga_pair_37 : decode M_Ga_pair.2.1 37 = .ok (.iconst 1, 1) := by decide +kernel
theorem dc_Ga_pair_38 : decode M_Ga_pair.2.1 38 = .ok (.iand, 1) := by decide +kernel
theorem dc_Ga_pair_39 : decode M_Ga_pair.2.1 39 = .ok (.ifCond .ne 6, 3) := by decide +kernel
theorem dc_Ga_pair_42 : decode M_Ga_pair.2.1 42 = .ok (.goto 39, 3) := by decide +kernel
theorem dc_Ga_pair_45 : decode M_Ga_pair.2.1 45 = .ok (.aload_n 1, 1) := by decide +kernel
theorem dc_Ga_pair_46 : decode M_Ga_pair.2.1 46 = .ok (.getfield 9, 3) := by decide +kernel
theorem dc_Ga_pair_49 : decode M_Ga_pair.2.1 49 = .ok (.iconst 1, 1) := by decide +kernel
theorem dc_Ga_pair_50 : decode M_Ga_pair.2.1 50 = .ok (.iload 4, 2) := by decide +kernel
theorem dc_Ga_pair_52 : decode M_Ga_pair.2.1 52 = .ok (.ishl, 1) := by decide +kernel
theorem dc_Ga_pair_53 : decode M_Ga_pair.2.1 53 = .ok (.ior, 1) := by decide +kernel
theorem dc_Ga_pair_54 : decode M_Ga_pair.2.1 54 = .ok (.istore 5, 2) := by decide +kernel
theorem dc_Ga_pair_56 : decode M_Ga_pair.2.1 56 = .ok (.aload_n 0, 1) := by decide +kernel
theorem dc_Ga_pair_57 : decode M_Ga_pair.2.1 57 = .ok (.iload 4, 2) := by decide +kernel
theorem dc_Ga_pair_59 : decode M_Ga_pair.2.1 59 = .ok (.iload 5, 2) := by decide +kernel
theorem dc_Ga_pair_61 : decode M_Ga_pair.2.1 61 = .ok (.aload_n 1, 1) := by decide +kernel
theorem dc_Ga_pair_62 : decode M_Ga_pair.2.1 62 = .ok (.getfield 15, 3) := by decide +kernel
theorem dc_Ga_pair_65 : decode M_Ga_pair.2.1 65 = .ok (.aload_n 1, 1) := by decide +kernel
theorem dc_Ga_pair_66 : decode M_Ga_pair.2.1 66 = .ok (.invokevirtual 18, 3) := by decide +kernel
theorem dc_Ga_pair_69 : decode M_Ga_pair.2.1 69 = .ok (.bipush 6, 2) := by decide +kernel
theorem dc_Ga_pair_71 : decode M_Ga_pair.2.1 71 = .ok (.invokestatic 32, 3) := by decide +kernel
theorem dc_Ga_pair_74 : decode M_Ga_pair.2.1 74 = .ok (.iload_n 2, 1) := by decide +kernel
theorem dc_Ga_pair_75 : decode M_Ga_pair.2.1 75 = .ok (.if_icmp .ne 6, 3) := by decide +kernel
theorem dc_Ga_pair_78 : decode M_Ga_pair.2.1 78 = .ok (.iload 4, 2) := by decide +kernel
theorem dc_Ga_pair_80 : decode M_Ga_pair.2.1 80 = .ok (.ireturn, 1) := by decide +kernel
theorem dc_Ga_pair_81 : decode M_Ga_pair.2.1 81 = .ok (.iinc 4 1, 3) := by decide +kernel
theorem dc_Ga_pair_84 : decode M_Ga_pair.2.1 84 = .ok (.goto (-58), 3) := by decide +kernel
theorem dc_Ga_pair_87 : decode M_Ga_pair.2.1 87 = .ok (.iconst (-1), 1) := by decide +kernel
theorem dc_Ga_pair_88 : decode M_Ga_pair.2.1 88 = .ok (.ireturn, 1) := by decide +kernel
def f_Ga_pair_L26 (a0 : Nat) (a1 : Nat) (a2 : Int32) (a3 : Int32) : Nat → Int32 → xH → (Int32 → xH → Option (Int32 × xH)) → Option (Int32 × xH)
  | 0, _, _, _ => none
  | n + 1, a4, h, K => if (6 : Int32) ≤ a4 then K a4 h else jn (fun (x12 : xH) => f_Ga_pair_L26 a0 a1 a2 a3 n (a4 + (1 : Int32)) x12 K) (fun k13 => if ((jShr a3 a4) &&& (1 : Int32)) = 0 then k13 h else gd (hK h a1 = 6) (Option.bind (f_Ta_everyPair a1 h) (fun q16 => Option.bind (fo_Ga_worthOfTurn a0 a4 ((hI h a1 2) ||| (jShl (1 : Int32) a4)) (hI h a1 3) q16.1 (6 : Int32) q16.2) (fun q17 => if q17.1 = a2 then some (a4, q17.2) else k13 q17.2))))
def f_Ga_pair (a0 : Nat) (a1 : Nat) (h : xH) : Option (Int32 × xH) := Option.bind (f_Ga_value a0 a1 h) (fun q7 => gd (hK q7.2 a1 = 6) (Option.bind (f_Ta_everyPair a1 q7.2) (fun q8 => gd (hK q8.2 a1 = 6) (f_Ga_pair_L26 a0 a1 q7.1 (q8.1 &&& (((hI q8.2 a1 2) ||| (hI q8.2 a1 3)) ^^^ (-1 : Int32))) fu (0 : Int32) q8.2 (fun v19 h20 => some ((-1 : Int32), h20))))))
theorem t_Ga_pair_L26 {l : Launch} {z : xZ} {d mc ms : Nat} {Ph : Option xV → xH → Prop} {a0 : Nat} {a1 : Nat} {a2 : Int32} {a3 : Int32}  (hd : 100 ≤ d) : ∀ (n : Nat) (a4 : Int32) (h : xH) (K : Int32 → xH → Option (Int32 × xH)), OK (f_Ga_pair_L26 a0 a1 a2 a3 n a4 h K) (fun q => Ph (some (xI q.1)) q.2) → (∀ (a4 : Int32) (h : xH), OK (K a4 h) (fun q => Ph (some (xI q.1)) q.2) → Sx l z d mc ms M_Ga_pair 87 [some (xR a0), some (xR a1), some (xI a2), some (xI a3), some (xI a4), none] [] h Ph) → Sx l z d mc ms M_Ga_pair 26 [some (xR a0), some (xR a1), some (xI a2), some (xI a3), some (xI a4), none] [] h Ph := by
  intro n
  induction n with
  | zero => intro a4 h K hk hE; exact hk.no
  | succ n ih =>
    intro a4 h K hk hE
    rw [f_Ga_pair_L26] at hk
    refine sx_iload dc_Ga_pair_26 rfl ?_
    refine sx_bipush (v := (6 : Int32)) dc_Ga_pair_28 (by decide) ?_
    refine sx_icmp_ge (tgt := 87) dc_Ga_pair_30 (by decide) (fun c11 => ?_) (fun c11 => ?_)
    · replace hk := hk.t c11
      exact hE a4 h hk
    · replace hk := hk.f c11
      refine sx_iload_n dc_Ga_pair_33 rfl ?_
      refine sx_iload dc_Ga_pair_34 rfl ?_
      refine sx_ishr dc_Ga_pair_36 ?_
      refine sx_iconst (v := (1 : Int32)) dc_Ga_pair_37 (by decide) ?_
      refine sx_iand dc_Ga_pair_38 ?_
      refine hk.j (X := fun x12 => Sx l z d mc ms M_Ga_pair 81 [some (xR a0), some (xR a1), some (xI a2), some (xI a3), some (xI a4), none] [] x12 Ph) (fun x12 hk => ?_) (fun k13 jk13 hk => ?_)
      · refine sx_iinc (v := (1 : Int32)) dc_Ga_pair_81 rfl (by decide) (by decide) (sx_eq (lc2 := [some (xR a0), some (xR a1), some (xI a2), some (xI a3), some (xI (a4 + (1 : Int32))), none]) rfl rfl ?_)
        refine sx_goto (tgt := 26) dc_Ga_pair_84 (by decide) ?_
        exact ih (a4 + (1 : Int32)) x12 _ hk hE
      · refine sx_if_ne (tgt := 45) dc_Ga_pair_39 (by decide) (fun c14 => ?_) (fun c14 => ?_)
        · replace hk := hk.f c14
          refine sx_aload_n dc_Ga_pair_45 rfl ?_
          obtain ⟨g15, hk⟩ := hk.g
          refine sx_get (ci := 6) (k := 2) rfl (by decide) wF_Ga_9 g15 dc_Ga_pair_46 ?_
          refine sx_iconst (v := (1 : Int32)) dc_Ga_pair_49 (by decide) ?_
          refine sx_iload dc_Ga_pair_50 rfl ?_
          refine sx_ishl dc_Ga_pair_52 ?_
          refine sx_ior dc_Ga_pair_53 ?_
          refine sx_istore dc_Ga_pair_54 (by decide) (sx_eq (lc2 := [some (xR a0), some (xR a1), some (xI a2), some (xI a3), some (xI a4), some (xI ((hI h a1 2) ||| (jShl (1 : Int32) a4)))]) rfl rfl ?_)
          refine sx_aload_n dc_Ga_pair_56 rfl ?_
          refine sx_iload dc_Ga_pair_57 rfl ?_
          refine sx_iload dc_Ga_pair_59 rfl ?_
          refine sx_aload_n dc_Ga_pair_61 rfl ?_
          refine sx_get (ci := 6) (k := 3) rfl (by decide) wF_Ga_15 g15 dc_Ga_pair_62 ?_
          refine sx_aload_n dc_Ga_pair_65 rfl ?_
          obtain ⟨q16, eq16, hk⟩ := hk.bind
          refine sx_callV (d2 := d - 1) (mc2 := 0) (ms2 := 0) (as := []) mk_Ta_everyPair rfl (x_rk (ci := 6) g15 rfl rfl) wM_Ga_18 mi_Ta_everyPair me_Ta_everyPair rfl (Nat.le_of_ble_eq_true rfl) (Nat.le_of_ble_eq_true rfl) dc_Ga_pair_66 (by omega) (Nat.zero_le _) (Nat.zero_le _) ?_
          refine t_Ta_everyPair (by omega) ⟨q16, eq16, ?_⟩
          refine sx_eq0 (lc2 := [some (xR a0), some (xR a1), some (xI a2), some (xI a3), some (xI a4), some (xI ((hI h a1 2) ||| (jShl (1 : Int32) a4)))]) (st2 := [xI q16.1, xI (hI h a1 3), xI ((hI h a1 2) ||| (jShl (1 : Int32) a4)), xI a4, xR a0]) rfl rfl ?_
          refine sx_bipush (v := (6 : Int32)) dc_Ga_pair_69 (by decide) ?_
          obtain ⟨q17, eq17, hk⟩ := hk.bind
          refine sx_callS (d2 := d - 1) (mc2 := 0) (ms2 := 0) (as := [xR a0, xI a4, xI ((hI h a1 2) ||| (jShl (1 : Int32) a4)), xI (hI h a1 3), xI q16.1, xI (6 : Int32)]) mk_Ga_worthOfTurn rfl wM_Ga_32 mt_Ga_worthOfTurn rfl (Nat.le_of_ble_eq_true rfl) (Nat.le_of_ble_eq_true rfl) dc_Ga_pair_71 (by omega) (Nat.zero_le _) (Nat.zero_le _) ?_
          refine to_Ga_worthOfTurn (by omega) ⟨q17, eq17, ?_⟩
          refine sx_eq0 (lc2 := [some (xR a0), some (xR a1), some (xI a2), some (xI a3), some (xI a4), some (xI ((hI h a1 2) ||| (jShl (1 : Int32) a4)))]) (st2 := [xI q17.1]) rfl rfl ?_
          refine sx_iload_n dc_Ga_pair_74 rfl ?_
          refine sx_icmp_ne (tgt := 81) dc_Ga_pair_75 (by decide) (fun c18 => ?_) (fun c18 => ?_)
          · replace hk := hk.f c18
            exact sx_less (by simp [x_le]) (jk13 q17.2 hk)
          · replace hk := hk.t c18
            refine sx_iload dc_Ga_pair_78 rfl ?_
            exact sx_retI dc_Ga_pair_80 rfl hk.val
        · replace hk := hk.t c14
          refine sx_goto (tgt := 81) dc_Ga_pair_42 (by decide) ?_
          exact jk13 h hk
theorem t_Ga_pair {l : Launch} {z : xZ} {d mc ms : Nat} {Ph : Option xV → xH → Prop} {a0 : Nat} {a1 : Nat}  {h : xH} (hd : 100 ≤ d) (hk : OK (f_Ga_pair a0 a1 h) (fun q => Ph (some (xI q.1)) q.2)) : Sx l z d mc ms M_Ga_pair 0 (x_en [xR a0, xR a1] 6) [] h Ph := by
  unfold f_Ga_pair at hk
  refine sx_eq (lc2 := [some (xR a0), some (xR a1), none, none, none, none]) rfl rfl ?_
  refine sx_aload_n dc_Ga_pair_0 rfl ?_
  refine sx_aload_n dc_Ga_pair_1 rfl ?_
  obtain ⟨q7, eq7, hk⟩ := hk.bind
  refine sx_callS (d2 := d - 1) (mc2 := 0) (ms2 := 0) (as := [xR a0, xR a1]) mk_Ga_value rfl wM_Ga_28 mt_Ga_value rfl (Nat.le_of_ble_eq_true rfl) (Nat.le_of_ble_eq_true rfl) dc_Ga_pair_2 (by omega) (Nat.zero_le _) (Nat.zero_le _) ?_
  refine t_Ga_value (by omega) ⟨q7, eq7, ?_⟩
  refine sx_eq0 (lc2 := [some (xR a0), some (xR a1), none, none, none, none]) (st2 := [xI q7.1]) rfl rfl ?_
  refine sx_istore_n dc_Ga_pair_5 (by decide) (sx_eq (lc2 := [some (xR a0), some (xR a1), some (xI q7.1), none, none, none]) rfl rfl ?_)
  refine sx_aload_n dc_Ga_pair_6 rfl ?_
  obtain ⟨g9, hk⟩ := hk.g
  obtain ⟨q8, eq8, hk⟩ := hk.bind
  refine sx_callV (d2 := d - 1) (mc2 := 0) (ms2 := 0) (as := []) mk_Ta_everyPair rfl (x_rk (ci := 6) g9 rfl rfl) wM_Ga_18 mi_Ta_everyPair me_Ta_everyPair rfl (Nat.le_of_ble_eq_true rfl) (Nat.le_of_ble_eq_true rfl) dc_Ga_pair_7 (by omega) (Nat.zero_le _) (Nat.zero_le _) ?_
  refine t_Ta_everyPair (by omega) ⟨q8, eq8, ?_⟩
  refine sx_eq0 (lc2 := [some (xR a0), some (xR a1), some (xI q7.1), none, none, none]) (st2 := [xI q8.1]) rfl rfl ?_
  refine sx_aload_n dc_Ga_pair_10 rfl ?_
  obtain ⟨g10, hk⟩ := hk.g
  refine sx_get (ci := 6) (k := 2) rfl (by decide) wF_Ga_9 g10 dc_Ga_pair_11 ?_
  refine sx_aload_n dc_Ga_pair_14 rfl ?_
  refine sx_get (ci := 6) (k := 3) rfl (by decide) wF_Ga_15 g10 dc_Ga_pair_15 ?_
  refine sx_ior dc_Ga_pair_18 ?_
  refine sx_iconst (v := (-1 : Int32)) dc_Ga_pair_19 (by decide) ?_
  refine sx_ixor dc_Ga_pair_20 ?_
  refine sx_iand dc_Ga_pair_21 ?_
  refine sx_istore_n dc_Ga_pair_22 (by decide) (sx_eq (lc2 := [some (xR a0), some (xR a1), some (xI q7.1), some (xI (q8.1 &&& (((hI q8.2 a1 2) ||| (hI q8.2 a1 3)) ^^^ (-1 : Int32)))), none, none]) rfl rfl ?_)
  refine sx_iconst (v := (0 : Int32)) dc_Ga_pair_23 (by decide) ?_
  refine sx_istore dc_Ga_pair_24 (by decide) (sx_eq (lc2 := [some (xR a0), some (xR a1), some (xI q7.1), some (xI (q8.1 &&& (((hI q8.2 a1 2) ||| (hI q8.2 a1 3)) ^^^ (-1 : Int32)))), some (xI (0 : Int32)), none]) rfl rfl ?_)
  refine t_Ga_pair_L26 (by omega) _ _ _ _ hk (fun v19 h20 hk => ?_)
  refine sx_iconst (v := (-1 : Int32)) dc_Ga_pair_87 (by decide) ?_
  exact sx_retI dc_Ga_pair_88 rfl hk.val
end
section
theorem dc_Re_init_0 : decode M_Re_init.2.1 0 = .ok (.aload_n 0, 1) := by decide +kernel
theorem dc_Re_init_1 : decode M_Re_init.2.1 1 = .ok (.invokespecial 5, 3) := by decide +kernel
theorem dc_Re_init_4 : decode M_Re_init.2.1 4 = .ok (.aload_n 0, 1) := by decide +kernel
theorem dc_Re_init_5 : decode M_Re_init.2.1 5 = .ok (.sipush 160, 3) := by decide +kernel
theorem dc_Re_init_8 : decode M_Re_init.2.1 8 = .ok (.newarray .int, 2) := by decide +kernel
theorem dc_Re_init_10 : decode M_Re_init.2.1 10 = .ok (.putfield 11, 3) := by decide +kernel
theorem dc_Re_init_13 : decode M_Re_init.2.1 13 = .ok (.aload_n 0, 1) := by decide +kernel
theorem dc_Re_init_14 : decode M_Re_init.2.1 14 = .ok (.sipush 160, 3) := by decide +kernel
theorem dc_Re_init_17 : decode M_Re_init.2.1 17 = .ok (.newarray .int, 2) := by decide +kernel
theorem dc_Re_init_19 : decode M_Re_init.2.1 19 = .ok (.putfield 15, 3) := by decide +kernel
theorem dc_Re_init_22 : decode M_Re_init.2.1 22 = .ok (.aload_n 0, 1) := by decide +kernel
theorem dc_Re_init_23 : decode M_Re_init.2.1 23 = .ok (.iconst 3, 1) := by decide +kernel
theorem dc_Re_init_24 : decode M_Re_init.2.1 24 = .ok (.newarray .int, 2) := by decide +kernel
theorem dc_Re_init_26 : decode M_Re_init.2.1 26 = .ok (.putfield 20, 3) := by decide +kernel
theorem dc_Re_init_29 : decode M_Re_init.2.1 29 = .ok (.return_, 1) := by decide +kernel
def f_Re_init (a0 : Nat) (h : xH) : Option (Unit × xH) := gd (hK h a0 = 1) (hp (hNw h 12 160) (fun h6 => gd (hK h6 a0 = 1) (hp (hNw (hRu h6 a0 0 (hN h)) 12 160) (fun h9 => gd (hK h9 a0 = 1) (hp (hNw (hRu h9 a0 6 (hN (hRu h6 a0 0 (hN h)))) 12 3) (fun h12 => gd (hK h12 a0 = 1) (some ((), hRu h12 a0 8 (hN (hRu h9 a0 6 (hN (hRu h6 a0 0 (hN h)))))))))))))
theorem t_Re_init {l : Launch} {z : xZ} {d mc ms : Nat} {Ph : Option xV → xH → Prop} {a0 : Nat}  {h : xH} (hd : 2 ≤ d) (hmc : 3 ≤ mc) (hms : 323 ≤ ms) (hk : OK (f_Re_init a0 h) (fun q => Ph (none) q.2)) : Sx l z d mc ms M_Re_init 0 (x_en [xR a0] 1) [] h Ph := by
  unfold f_Re_init at hk
  refine sx_eq (lc2 := [some (xR a0)]) rfl rfl ?_
  refine sx_aload_n dc_Re_init_0 rfl ?_
  obtain ⟨g5, hk⟩ := hk.g
  refine sx_objInit g5 (by decide) wM_Re_5 wO wP (Nat.le_of_ble_eq_true rfl) (by omega) dc_Re_init_1 ?_
  refine sx_aload_n dc_Re_init_4 rfl ?_
  refine sx_sipush (v := (160 : Int32)) dc_Re_init_5 (by decide) ?_
  refine sx_newI (N := 160) (by decide) (by decide) (by decide) wA_int dc_Re_init_8 (by omega) (by omega) ?_
  obtain ⟨h6, eh6, hk⟩ := hk.h
  refine sx_hp eh6 ?_
  have g7 : hK h6 (hN h) = 12 := by rw [eh6]; exact (show hK (hNw h 12 160) (hN h) = 12 from if_pos rfl)
  obtain ⟨g8, hk⟩ := hk.g
  refine sx_putRF (ci := 1) (k := 0) rfl (by decide) wF_Re_11 rfl (by rfl) rfl g8 rfl dc_Re_init_10 ?_
  refine sx_aload_n dc_Re_init_13 rfl ?_
  refine sx_sipush (v := (160 : Int32)) dc_Re_init_14 (by decide) ?_
  refine sx_newI (N := 160) (by decide) (by decide) (by decide) wA_int dc_Re_init_17 (by omega) (by omega) ?_
  obtain ⟨h9, eh9, hk⟩ := hk.h
  refine sx_hp eh9 ?_
  have g10 : hK h9 (hN (hRu h6 a0 0 (hN h))) = 12 := by rw [eh9]; exact (show hK (hNw (hRu h6 a0 0 (hN h)) 12 160) (hN (hRu h6 a0 0 (hN h))) = 12 from if_pos rfl)
  obtain ⟨g11, hk⟩ := hk.g
  refine sx_putRF (ci := 1) (k := 6) rfl (by decide) wF_Re_15 rfl (by rfl) rfl g11 rfl dc_Re_init_19 ?_
  refine sx_aload_n dc_Re_init_22 rfl ?_
  refine sx_iconst (v := (3 : Int32)) dc_Re_init_23 (by decide) ?_
  refine sx_newI (N := 3) (by decide) (by decide) (by decide) wA_int dc_Re_init_24 (by omega) (by omega) ?_
  obtain ⟨h12, eh12, hk⟩ := hk.h
  refine sx_hp eh12 ?_
  have g13 : hK h12 (hN (hRu h9 a0 6 (hN (hRu h6 a0 0 (hN h))))) = 12 := by rw [eh12]; exact (show hK (hNw (hRu h9 a0 6 (hN (hRu h6 a0 0 (hN h)))) 12 3) (hN (hRu h9 a0 6 (hN (hRu h6 a0 0 (hN h))))) = 12 from if_pos rfl)
  obtain ⟨g14, hk⟩ := hk.g
  refine sx_putRF (ci := 1) (k := 8) rfl (by decide) wF_Re_20 rfl (by rfl) rfl g14 rfl dc_Re_init_26 ?_
  exact sx_retV dc_Re_init_29 rfl hk.val
theorem dc_Re_size_0 : decode M_Re_size.2.1 0 = .ok (.aload_n 0, 1) := by decide +kernel
theorem dc_Re_size_1 : decode M_Re_size.2.1 1 = .ok (.getfield 23, 3) := by decide +kernel
theorem dc_Re_size_4 : decode M_Re_size.2.1 4 = .ok (.ireturn, 1) := by decide +kernel
def f_Re_size (a0 : Nat) (h : xH) : Option (Int32 × xH) := gd (hK h a0 = 1) (some (hI h a0 1, h))
theorem t_Re_size {l : Launch} {z : xZ} {d mc ms : Nat} {Ph : Option xV → xH → Prop} {a0 : Nat}  {h : xH} (hd : 1 ≤ d) (hk : OK (f_Re_size a0 h) (fun q => Ph (some (xI q.1)) q.2)) : Sx l z d mc ms M_Re_size 0 (x_en [xR a0] 1) [] h Ph := by
  unfold f_Re_size at hk
  refine sx_eq (lc2 := [some (xR a0)]) rfl rfl ?_
  refine sx_aload_n dc_Re_size_0 rfl ?_
  obtain ⟨g2, hk⟩ := hk.g
  refine sx_get (ci := 1) (k := 1) rfl (by decide) wF_Re_23 g2 dc_Re_size_1 ?_
  exact sx_retI dc_Re_size_4 rfl hk.val
theorem dc_Re_empty_0 : decode M_Re_empty.2.1 0 = .ok (.aload_n 0, 1) := by decide +kernel
theorem dc_Re_empty_1 : decode M_Re_empty.2.1 1 = .ok (.iconst 0, 1) := by decide +kernel
theorem dc_Re_empty_2 : decode M_Re_empty.2.1 2 = .ok (.putfield 23, 3) := by decide +kernel
theorem dc_Re_empty_5 : decode M_Re_empty.2.1 5 = .ok (.return_, 1) := by decide +kernel
def f_Re_empty (a0 : Nat) (h : xH) : Option (Unit × xH) := gd (hK h a0 = 1) (some ((), hIu h a0 1 (0 : Int32)))
theorem t_Re_empty {l : Launch} {z : xZ} {d mc ms : Nat} {Ph : Option xV → xH → Prop} {a0 : Nat}  {h : xH} (hd : 1 ≤ d) (hk : OK (f_Re_empty a0 h) (fun q => Ph (none) q.2)) : Sx l z d mc ms M_Re_empty 0 (x_en [xR a0] 1) [] h Ph := by
  unfold f_Re_empty at hk
  refine sx_eq (lc2 := [some (xR a0)]) rfl rfl ?_
  refine sx_aload_n dc_Re_empty_0 rfl ?_
  refine sx_iconst (v := (0 : Int32)) dc_Re_empty_1 (by decide) ?_
  obtain ⟨g2, hk⟩ := hk.g
  refine sx_putI (ci := 1) (k := 1) rfl (by decide) wF_Re_23 rfl g2 (Or.inl rfl) dc_Re_empty_2 ?_
  exact sx_retV dc_Re_empty_5 rfl hk.val
theorem dc_Re_put_0 : decode M_Re_put.2.1 0 = .ok (.aload_n 0, 1) := by decide +kernel
theorem dc_Re_put_1 : decode M_Re_put.2.1 1 = .ok (.getfield 23, 3) := by decide +kernel
theorem dc_Re_put_4 : decode M_Re_put.2.1 4 = .ok (.sipush 160, 3) := by decide +kernel
theorem dc_Re_put_7 : decode M_Re_put.2.1 7 = .ok (.if_icmp .lt 5, 3) := by decide +kernel
theorem dc_Re_put_10 : decode M_Re_put.2.1 10 = .ok (.iconst 0, 1) := by decide +kernel
theorem dc_Re_put_11 : decode M_Re_put.2.1 11 = .ok (.ireturn, 1) := by decide +kernel
theorem dc_Re_put_12 : decode M_Re_put.2.1 12 = .ok (.aload_n 0, 1) := by decide +kernel
theorem dc_Re_put_13 : decode M_Re_put.2.1 13 = .ok (.getfield 11, 3) := by decide +kernel
theorem dc_Re_put_16 : decode M_Re_put.2.1 16 = .ok (.aload_n 0, 1) := by decide +kernel
theorem dc_Re_put_17 : decode M_Re_put.2.1 17 = .ok (.dup, 1) := by decide +kernel
theorem dc_Re_put_18 : decode M_Re_put.2.1 18 = .ok (.getfield 23, 3) := by decide +kernel
theorem dc_Re_put_21 : decode M_Re_put.2.1 21 = .ok (.dup_x1, 1) := by decide +kernel
theorem dc_Re_put_22 : decode M_Re_put.2.1 22 = .ok (.iconst 1, 1) := by decide +kernel
theorem dc_Re_put_23 : decode M_Re_put.2.1 23 = .ok (.iadd, 1) := by decide +kernel
theorem dc_Re_put_24 : decode M_Re_put.2.1 24 = .ok (.putfield 23, 3) := by decide +kernel
theorem dc_Re_put_27 : decode M_Re_put.2.1 27 = .ok (.iload_n 1, 1) := by decide +kernel
theorem dc_Re_put_28 : decode M_Re_put.2.1 28 = .ok (.iastore, 1) := by decide +kernel
theorem dc_Re_put_29 : decode M_Re_put.2.1 29 = .ok (.iconst 1, 1) := by decide +kernel
theorem dc_Re_put_30 : decode M_Re_put.2.1 30 = .ok (.ireturn, 1) := by decide +kernel
def f_Re_put (a0 : Nat) (a1 : Int32) (h : xH) : Option (Int32 × xH) := gd (hK h a0 = 1) (if (hI h a0 1) < (160 : Int32) then gd (hK h (hR h a0 0) = 12) (gd (¬ ((hI h a0 1) < 0 ∨ hL h (hR h a0 0) ≤ (hI h a0 1).toNatClampNeg)) (some ((1 : Int32), hIu (hIu h a0 1 ((hI h a0 1) + (1 : Int32))) (hR h a0 0) (hI h a0 1).toNatClampNeg a1))) else some ((0 : Int32), h))
theorem t_Re_put {l : Launch} {z : xZ} {d mc ms : Nat} {Ph : Option xV → xH → Prop} {a0 : Nat} {a1 : Int32}  {h : xH} (hd : 1 ≤ d) (hk : OK (f_Re_put a0 a1 h) (fun q => Ph (some (xI q.1)) q.2)) : Sx l z d mc ms M_Re_put 0 (x_en [xR a0, xI a1] 2) [] h Ph := by
  unfold f_Re_put at hk
  refine sx_eq (lc2 := [some (xR a0), some (xI a1)]) rfl rfl ?_
  refine sx_aload_n dc_Re_put_0 rfl ?_
  obtain ⟨g4, hk⟩ := hk.g
  refine sx_get (ci := 1) (k := 1) rfl (by decide) wF_Re_23 g4 dc_Re_put_1 ?_
  refine sx_sipush (v := (160 : Int32)) dc_Re_put_4 (by decide) ?_
  refine sx_icmp_lt (tgt := 12) dc_Re_put_7 (by decide) (fun c5 => ?_) (fun c5 => ?_)
  · replace hk := hk.t c5
    refine sx_aload_n dc_Re_put_12 rfl ?_
    refine sx_get (ci := 1) (k := 0) rfl (by decide) wF_Re_11 g4 dc_Re_put_13 ?_
    refine sx_aload_n dc_Re_put_16 rfl ?_
    refine sx_dup dc_Re_put_17 rfl ?_
    refine sx_get (ci := 1) (k := 1) rfl (by decide) wF_Re_23 g4 dc_Re_put_18 ?_
    refine sx_dup_x1 dc_Re_put_21 rfl rfl ?_
    refine sx_iconst (v := (1 : Int32)) dc_Re_put_22 (by decide) ?_
    refine sx_iadd dc_Re_put_23 ?_
    refine sx_putI (ci := 1) (k := 1) rfl (by decide) wF_Re_23 rfl g4 (Or.inl rfl) dc_Re_put_24 ?_
    refine sx_iload_n dc_Re_put_27 rfl ?_
    obtain ⟨g6, hk⟩ := hk.g
    obtain ⟨g7, hk⟩ := hk.g
    refine sx_iast g6 g7 dc_Re_put_28 ?_
    refine sx_iconst (v := (1 : Int32)) dc_Re_put_29 (by decide) ?_
    exact sx_retT (v := (1 : Int32)) dc_Re_put_30 (Or.inl ⟨rfl, rfl⟩) (by decide) hk.val
  · replace hk := hk.f c5
    refine sx_iconst (v := (0 : Int32)) dc_Re_put_10 (by decide) ?_
    exact sx_retT (v := (0 : Int32)) dc_Re_put_11 (Or.inl ⟨rfl, rfl⟩) (by decide) hk.val
theorem dc_Ar_copyOf_0 : decode M_Ar_copyOf.2.1 0 = .ok (.iload_n 1, 1) := by decide +kernel
theorem dc_Ar_copyOf_1 : decode M_Ar_copyOf.2.1 1 = .ok (.aload_n 0, 1) := by decide +kernel
theorem dc_Ar_copyOf_2 : decode M_Ar_copyOf.2.1 2 = .ok (.arraylength, 1) := by decide +kernel
theorem dc_Ar_copyOf_3 : decode M_Ar_copyOf.2.1 3 = .ok (.if_icmp .ne 11, 3) := by decide +kernel
theorem dc_Ar_copyOf_6 : decode M_Ar_copyOf.2.1 6 = .ok (.aload_n 0, 1) := by decide +kernel
theorem dc_Ar_copyOf_7 : decode M_Ar_copyOf.2.1 7 = .ok (.invokevirtual 316, 3) := by decide +kernel
theorem dc_Ar_copyOf_10 : decode M_Ar_copyOf.2.1 10 = .ok (.checkcast 317, 3) := by decide +kernel
theorem dc_Ar_copyOf_13 : decode M_Ar_copyOf.2.1 13 = .ok (.areturn, 1) := by decide +kernel
theorem dc_Ar_copyOf_14 : decode M_Ar_copyOf.2.1 14 = .ok (.iload_n 1, 1) := by decide +kernel
theorem dc_Ar_copyOf_15 : decode M_Ar_copyOf.2.1 15 = .ok (.newarray .int, 2) := by decide +kernel
theorem dc_Ar_copyOf_17 : decode M_Ar_copyOf.2.1 17 = .ok (.astore_n 2, 1) := by decide +kernel
theorem dc_Ar_copyOf_18 : decode M_Ar_copyOf.2.1 18 = .ok (.aload_n 0, 1) := by decide +kernel
theorem dc_Ar_copyOf_19 : decode M_Ar_copyOf.2.1 19 = .ok (.iconst 0, 1) := by decide +kernel
theorem dc_Ar_copyOf_20 : decode M_Ar_copyOf.2.1 20 = .ok (.aload_n 2, 1) := by decide +kernel
theorem dc_Ar_copyOf_21 : decode M_Ar_copyOf.2.1 21 = .ok (.iconst 0, 1) := by decide +kernel
theorem dc_Ar_copyOf_22 : decode M_Ar_copyOf.2.1 22 = .ok (.aload_n 0, 1) := by decide +kernel
theorem dc_Ar_copyOf_23 : decode M_Ar_copyOf.2.1 23 = .ok (.arraylength, 1) := by decide +kernel
theorem dc_Ar_copyOf_24 : decode M_Ar_copyOf.2.1 24 = .ok (.iload_n 1, 1) := by decide +kernel
theorem dc_Ar_copyOf_25 : decode M_Ar_copyOf.2.1 25 = .ok (.invokestatic 304, 3) := by decide +kernel
theorem dc_Ar_copyOf_28 : decode M_Ar_copyOf.2.1 28 = .ok (.invokestatic 150, 3) := by decide +kernel
theorem dc_Ar_copyOf_31 : decode M_Ar_copyOf.2.1 31 = .ok (.aload_n 2, 1) := by decide +kernel
theorem dc_Ar_copyOf_32 : decode M_Ar_copyOf.2.1 32 = .ok (.areturn, 1) := by decide +kernel
def f_Ar_copyOf (a0 : Nat) (a1 : Int32) (h : xH) : Option (Nat × xH) := gd (hK h a0 = 12) (if a1 = (Int32.ofNat (hL h a0)) then gd (hL h a0 ≤ 200) (hp (hCl h a0) (fun h25 => some (hN h, h25))) else gd (¬ (a1 < 0 ∨ 200 < a1.toNatClampNeg)) (hp (hNw h 12 a1.toNatClampNeg) (fun h13 => gd (hK h13 a0 = 12) (gd (¬ (0 : Int32) < 0) (gd (¬ (0 : Int32) < 0) (gd (¬ (jMin (Int32.ofNat (hL h13 a0)) a1) < 0) (gd ((0 : Int32).toNatClampNeg + (jMin (Int32.ofNat (hL h13 a0)) a1).toNatClampNeg ≤ hL h13 a0) (gd ((0 : Int32).toNatClampNeg + (jMin (Int32.ofNat (hL h13 a0)) a1).toNatClampNeg ≤ hL h13 (hN h)) (hp (hIr h13 (hN h) (va_cpy (hI h13 a0) (hI h13 (hN h)) (0 : Int32).toNatClampNeg (0 : Int32).toNatClampNeg (jMin (Int32.ofNat (hL h13 a0)) a1).toNatClampNeg)) (fun h21 => some (hN h, h21)))))))))))
theorem t_Ar_copyOf {l : Launch} {z : xZ} {d mc ms : Nat} {Ph : Option xV → xH → Prop} {a0 : Nat} {a1 : Int32}  {h : xH} (hd : 2 ≤ d) (hmc : 1 ≤ mc) (hms : 200 ≤ ms) (hk : OK (f_Ar_copyOf a0 a1 h) (fun q => Ph (some (xR q.1)) q.2)) : Sx l z d mc ms M_Ar_copyOf 0 (x_en [xR a0, xI a1] 3) [] h Ph := by
  unfold f_Ar_copyOf at hk
  refine sx_eq (lc2 := [some (xR a0), some (xI a1), none]) rfl rfl ?_
  refine sx_iload_n dc_Ar_copyOf_0 rfl ?_
  refine sx_aload_n dc_Ar_copyOf_1 rfl ?_
  obtain ⟨g10, hk⟩ := hk.g
  refine sx_alen g10 (by decide) dc_Ar_copyOf_2 ?_
  refine sx_icmp_ne (tgt := 14) dc_Ar_copyOf_3 (by decide) (fun c11 => ?_) (fun c11 => ?_)
  · replace hk := hk.f c11
    refine sx_iload_n dc_Ar_copyOf_14 rfl ?_
    obtain ⟨g12, hk⟩ := hk.g
    refine sx_newI (N := a1.toNatClampNeg) (fun q => g12 (Or.inl q)) rfl (by have := fun q => g12 (Or.inr q); show _ * 4 ≤ _; omega) wA_int dc_Ar_copyOf_15 (by omega) (by have := fun q => g12 (Or.inr q); omega) ?_
    obtain ⟨h13, eh13, hk⟩ := hk.h
    refine sx_hp eh13 ?_
    have g14 : hK h13 (hN h) = 12 := by rw [eh13]; exact (show hK (hNw h 12 a1.toNatClampNeg) (hN h) = 12 from if_pos rfl)
    refine sx_astore_n dc_Ar_copyOf_17 (by decide) (sx_eq (lc2 := [some (xR a0), some (xI a1), some (xR (hN h))]) rfl rfl ?_)
    refine sx_aload_n dc_Ar_copyOf_18 rfl ?_
    refine sx_iconst (v := (0 : Int32)) dc_Ar_copyOf_19 (by decide) ?_
    refine sx_aload_n dc_Ar_copyOf_20 rfl ?_
    refine sx_iconst (v := (0 : Int32)) dc_Ar_copyOf_21 (by decide) ?_
    refine sx_aload_n dc_Ar_copyOf_22 rfl ?_
    obtain ⟨g15, hk⟩ := hk.g
    refine sx_alen g15 (by decide) dc_Ar_copyOf_23 ?_
    refine sx_iload_n dc_Ar_copyOf_24 rfl ?_
    refine sx_min wM_Ar_304 mt_Mt_min wT_Mt wV_min (Nat.le_of_ble_eq_true rfl) (by omega) dc_Ar_copyOf_25 ?_
    obtain ⟨g16, hk⟩ := hk.g
    obtain ⟨g17, hk⟩ := hk.g
    obtain ⟨g18, hk⟩ := hk.g
    obtain ⟨g19, hk⟩ := hk.g
    obtain ⟨g20, hk⟩ := hk.g
    refine sx_copy g15 g14 g16 g17 g18 g19 g20 wM_Ar_150 wQ wR wS (Nat.le_of_ble_eq_true rfl) (by omega) dc_Ar_copyOf_28 ?_
    obtain ⟨h21, eh21, hk⟩ := hk.h
    refine sx_hp eh21 ?_
    have g22 : hK h21 (hN h) = 12 := by rw [eh21]; exact g14
    have g23 : hK h21 a0 = 12 := by rw [eh21]; exact g15
    refine sx_aload_n dc_Ar_copyOf_31 rfl ?_
    exact sx_retR dc_Ar_copyOf_32 (by first | exact Or.inl ⟨_, rfl⟩ | exact Or.inr ⟨_, rfl⟩) hk.val
  · replace hk := hk.t c11
    refine sx_aload_n dc_Ar_copyOf_6 rfl ?_
    obtain ⟨g24, hk⟩ := hk.g
    refine sx_clone g10 wM_Ar_316 w1 w2 w3 w4 (Nat.le_of_ble_eq_true rfl) (by omega) (by omega) (Nat.le_trans g24 (by omega)) dc_Ar_copyOf_7 ?_
    obtain ⟨h25, eh25, hk⟩ := hk.h
    refine sx_hp eh25 ?_
    have g26 : hK h25 (hN h) = 12 := by rw [eh25]; exact (show hK (hCl h a0) (hN h) = 12 from if_pos rfl)
    refine sx_castI g26 wC_Ar_317 dc_Ar_copyOf_10 ?_
    exact sx_retR dc_Ar_copyOf_13 (by first | exact Or.inl ⟨_, rfl⟩ | exact Or.inr ⟨_, rfl⟩) hk.val
theorem dc_Te_init_0 : decode M_Te_init.2.1 0 = .ok (.aload_n 0, 1) := by decide +kernel
theorem dc_Te_init_1 : decode M_Te_init.2.1 1 = .ok (.invokespecial 1, 3) := by decide +kernel
theorem dc_Te_init_4 : decode M_Te_init.2.1 4 = .ok (.aload_n 0, 1) := by decide +kernel
theorem dc_Te_init_5 : decode M_Te_init.2.1 5 = .ok (.aload_n 1, 1) := by decide +kernel
theorem dc_Te_init_6 : decode M_Te_init.2.1 6 = .ok (.putfield 7, 3) := by decide +kernel
theorem dc_Te_init_9 : decode M_Te_init.2.1 9 = .ok (.aload_n 0, 1) := by decide +kernel
theorem dc_Te_init_10 : decode M_Te_init.2.1 10 = .ok (.aload_n 2, 1) := by decide +kernel
theorem dc_Te_init_11 : decode M_Te_init.2.1 11 = .ok (.putfield 13, 3) := by decide +kernel
theorem dc_Te_init_14 : decode M_Te_init.2.1 14 = .ok (.return_, 1) := by decide +kernel
def f_Te_init (a0 : Nat) (a1 : Nat) (a2 : Nat) (h : xH) : Option (Unit × xH) := gd (hK h a0 = 7) (some ((), hRu (hRu h a0 0 a1) a0 1 a2))
theorem t_Te_init {l : Launch} {z : xZ} {d mc ms : Nat} {Ph : Option xV → xH → Prop} {a0 : Nat} {a1 : Nat} {a2 : Nat}  {h : xH} (hd : 2 ≤ d) (hk : OK (f_Te_init a0 a1 a2 h) (fun q => Ph (none) q.2)) : Sx l z d mc ms M_Te_init 0 (x_en [xR a0, xR a1, xR a2] 3) [] h Ph := by
  unfold f_Te_init at hk
  refine sx_eq (lc2 := [some (xR a0), some (xR a1), some (xR a2)]) rfl rfl ?_
  refine sx_aload_n dc_Te_init_0 rfl ?_
  obtain ⟨g2, hk⟩ := hk.g
  refine sx_objInit g2 (by decide) wM_Te_1 wO wP (Nat.le_of_ble_eq_true rfl) (by omega) dc_Te_init_1 ?_
  refine sx_aload_n dc_Te_init_4 rfl ?_
  refine sx_aload_n dc_Te_init_5 rfl ?_
  refine sx_putRF (ci := 7) (k := 0) rfl (by decide) wF_Te_7 rfl (by rfl) rfl g2 rfl dc_Te_init_6 ?_
  refine sx_aload_n dc_Te_init_9 rfl ?_
  refine sx_aload_n dc_Te_init_10 rfl ?_
  refine sx_putRF (ci := 7) (k := 1) rfl (by decide) wF_Te_13 rfl (by rfl) rfl g2 rfl dc_Te_init_11 ?_
  exact sx_retV dc_Te_init_14 rfl hk.val
theorem dc_Re_written_0 : decode M_Re_written.2.1 0 = .ok (.new 18, 3) := by decide +kernel
theorem dc_Re_written_3 : decode M_Re_written.2.1 3 = .ok (.dup, 1) := by decide +kernel
theorem dc_Re_written_4 : decode M_Re_written.2.1 4 = .ok (.aload_n 0, 1) := by decide +kernel
theorem dc_Re_written_5 : decode M_Re_written.2.1 5 = .ok (.getfield 15, 3) := by decide +kernel
theorem dc_Re_written_8 : decode M_Re_written.2.1 8 = .ok (.aload_n 0, 1) := by decide +kernel
theorem dc_Re_written_9 : decode M_Re_written.2.1 9 = .ok (.getfield 27, 3) := by decide +kernel
theorem dc_Re_written_12 : decode M_Re_written.2.1 12 = .ok (.invokestatic 30, 3) := by decide +kernel
theorem dc_Re_written_15 : decode M_Re_written.2.1 15 = .ok (.aload_n 0, 1) := by decide +kernel
theorem dc_Re_written_16 : decode M_Re_written.2.1 16 = .ok (.getfield 20, 3) := by decide +kernel
theorem dc_Re_written_19 : decode M_Re_written.2.1 19 = .ok (.invokevirtual 36, 3) := by decide +kernel
theorem dc_Re_written_22 : decode M_Re_written.2.1 22 = .ok (.checkcast 37, 3) := by decide +kernel
theorem dc_Re_written_25 : decode M_Re_written.2.1 25 = .ok (.invokespecial 41, 3) := by decide +kernel
theorem dc_Re_written_28 : decode M_Re_written.2.1 28 = .ok (.areturn, 1) := by decide +kernel
def f_Re_written (a0 : Nat) (h : xH) : Option (Nat × xH) := hp (hNw h 7 0) (fun h8 => gd (hK h8 a0 = 1) (Option.bind (f_Ar_copyOf (hR h8 a0 6) (hI h8 a0 7) h8) (fun q11 => gd (hK q11.2 a0 = 1) (gd (hK q11.2 (hR q11.2 a0 8) = 12) (gd (hL q11.2 (hR q11.2 a0 8) ≤ 200) (hp (hCl q11.2 (hR q11.2 a0 8)) (fun h15 => gd (hK h15 (hN h) = 7) (Option.bind (f_Te_init (hN h) q11.1 (hN q11.2) h15) (fun q17 => some (hN h, q17.2))))))))))
theorem t_Re_written {l : Launch} {z : xZ} {d mc ms : Nat} {Ph : Option xV → xH → Prop} {a0 : Nat}  {h : xH} (hd : 3 ≤ d) (hmc : 3 ≤ mc) (hms : 402 ≤ ms) (hk : OK (f_Re_written a0 h) (fun q => Ph (some (xR q.1)) q.2)) : Sx l z d mc ms M_Re_written 0 (x_en [xR a0] 1) [] h Ph := by
  unfold f_Re_written at hk
  refine sx_eq (lc2 := [some (xR a0)]) rfl rfl ?_
  refine sx_newN (ci := 7) (N := 2) rfl rfl wC_Re_18 wI_Te wT_Te dc_Re_written_0 (by omega) (by omega) ?_
  obtain ⟨h8, eh8, hk⟩ := hk.h
  refine sx_hp eh8 ?_
  have g9 : hK h8 (hN h) = 7 := by rw [eh8]; exact (show hK (hNw h 7 0) (hN h) = 7 from if_pos rfl)
  refine sx_dup dc_Re_written_3 rfl ?_
  refine sx_aload_n dc_Re_written_4 rfl ?_
  obtain ⟨g10, hk⟩ := hk.g
  refine sx_get (ci := 1) (k := 6) rfl (by decide) wF_Re_15 g10 dc_Re_written_5 ?_
  refine sx_aload_n dc_Re_written_8 rfl ?_
  refine sx_get (ci := 1) (k := 7) rfl (by decide) wF_Re_27 g10 dc_Re_written_9 ?_
  obtain ⟨q11, eq11, hk⟩ := hk.bind
  refine sx_callS (d2 := d - 1) (mc2 := 1) (ms2 := 200) (as := [xR (hR h8 a0 6), xI (hI h8 a0 7)]) mk_Ar_copyOf rfl wM_Re_30 mt_Ar_copyOf rfl (Nat.le_of_ble_eq_true rfl) (Nat.le_of_ble_eq_true rfl) dc_Re_written_12 (by omega) (by omega) (by omega) ?_
  refine t_Ar_copyOf (by omega) (by omega) (by omega) ⟨q11, eq11, ?_⟩
  refine sx_eq (lc2 := [some (xR a0)]) (st2 := [xR q11.1, xR (hN h), xR (hN h)]) rfl rfl ?_
  refine sx_aload_n dc_Re_written_15 rfl ?_
  obtain ⟨g12, hk⟩ := hk.g
  refine sx_get (ci := 1) (k := 8) rfl (by decide) wF_Re_20 g12 dc_Re_written_16 ?_
  obtain ⟨g13, hk⟩ := hk.g
  obtain ⟨g14, hk⟩ := hk.g
  refine sx_clone g13 wM_Re_36 w1 w2 w3 w4 (Nat.le_of_ble_eq_true rfl) (by omega) (by omega) (Nat.le_trans g14 (by omega)) dc_Re_written_19 ?_
  obtain ⟨h15, eh15, hk⟩ := hk.h
  refine sx_hp eh15 ?_
  have g16 : hK h15 (hN q11.2) = 12 := by rw [eh15]; exact (show hK (hCl q11.2 (hR q11.2 a0 8)) (hN q11.2) = 12 from if_pos rfl)
  refine sx_castI g16 wC_Re_37 dc_Re_written_22 ?_
  obtain ⟨g18, hk⟩ := hk.g
  obtain ⟨q17, eq17, hk⟩ := hk.bind
  refine sx_callI (d2 := d - 1) (mc2 := 0) (ms2 := 0) (as := [xR q11.1, xR (hN q11.2)]) mk_Te_init rfl wM_Re_41 mi_Te_init ⟨rfl, rfl⟩ g18 (by decide) rfl (Nat.le_of_ble_eq_true rfl) (Nat.le_of_ble_eq_true rfl) dc_Re_written_25 (by omega) (Nat.zero_le _) (Nat.zero_le _) ?_
  refine t_Te_init (by omega) ⟨q17, eq17, ?_⟩
  refine sx_eq0 (lc2 := [some (xR a0)]) (st2 := [xR (hN h)]) rfl rfl ?_
  exact sx_retR dc_Re_written_28 (by first | exact Or.inl ⟨_, rfl⟩ | exact Or.inr ⟨_, rfl⟩) hk.val
theorem dc_Re_isLetter_0 : decode M_Re_isLetter.2.1 0 = .ok (.iload_n 0, 1) := by decide +kernel
theorem dc_Re_isLetter_1 : decode M_Re_isLetter.2.1 1 = .ok (.bipush 97, 2) := by decide +kernel
theorem dc_Re_isLetter_3 : decode M_Re_isLetter.2.1 3 = .ok (.if_icmp .lt 13, 3) := by decide +kernel
theorem dc_Re_isLetter_6 : decode M_Re_isLetter.2.1 6 = .ok (.iload_n 0, 1) := by decide +kernel
theorem dc_Re_isLetter_7 : decode M_Re_isLetter.2.1 7 = .ok (.bipush 122, 2) := by decide +kernel
theorem dc_Re_isLetter_9 : decode M_Re_isLetter.2.1 9 = .ok (.if_icmp .gt 7, 3) := by decide +kernel
theorem dc_Re_isLetter_12 : decode M_Re_isLetter.2.1 12 = .ok (.iconst 1, 1) := by decide +kernel
theorem dc_Re_isLetter_13 : decode M_Re_isLetter.2.1 13 = .ok (.goto 4, 3) := by decide +kernel
theorem dc_Re_isLetter_16 : decode M_Re_isLetter.2.1 16 = .ok (.iconst 0, 1) := by decide +kernel
theorem dc_Re_isLetter_17 : decode M_Re_isLetter.2.1 17 = .ok (.ireturn, 1) := by decide +kernel
def f_Re_isLetter (a0 : Int32) (h : xH) : Option (Int32 × xH) := jn (fun (x1 : Int32) => some (nb x1, h)) (fun k2 => jn (fun (x3 : Unit) => k2 (0 : Int32)) (fun k4 => if a0 < (97 : Int32) then k4 () else if (122 : Int32) < a0 then k4 () else k2 (1 : Int32)))
theorem t_Re_isLetter {l : Launch} {z : xZ} {d mc ms : Nat} {Ph : Option xV → xH → Prop} {a0 : Int32}  {h : xH} (hd : 1 ≤ d) (hk : OK (f_Re_isLetter a0 h) (fun q => Ph (some (xI q.1)) q.2)) : Sx l z d mc ms M_Re_isLetter 0 (x_en [xI a0] 1) [] h Ph := by
  unfold f_Re_isLetter at hk
  refine sx_eq (lc2 := [some (xI a0)]) rfl rfl ?_
  refine sx_iload_n dc_Re_isLetter_0 rfl ?_
  refine sx_bipush (v := (97 : Int32)) dc_Re_isLetter_1 (by decide) ?_
  refine hk.j (X := fun x1 => Sx l z d mc ms M_Re_isLetter 17 [some (xI a0)] [xI x1] h Ph) (fun x1 hk => ?_) (fun k2 jk2 hk => ?_)
  · exact sx_retT dc_Re_isLetter_17 (Or.inl ⟨rfl, rfl⟩) rfl hk.val
  · refine hk.j (X := fun x3 => Sx l z d mc ms M_Re_isLetter 16 [some (xI a0)] [] h Ph) (fun x3 hk => ?_) (fun k4 jk4 hk => ?_)
    · refine sx_iconst (v := (0 : Int32)) dc_Re_isLetter_16 (by decide) ?_
      exact jk2 (0 : Int32) hk
    · refine sx_icmp_lt (tgt := 16) dc_Re_isLetter_3 (by decide) (fun c5 => ?_) (fun c5 => ?_)
      · replace hk := hk.t c5
        exact jk4 () hk
      · replace hk := hk.f c5
        refine sx_iload_n dc_Re_isLetter_6 rfl ?_
        refine sx_bipush (v := (122 : Int32)) dc_Re_isLetter_7 (by decide) ?_
        refine sx_icmp_gt (tgt := 16) dc_Re_isLetter_9 (by decide) (fun c6 => ?_) (fun c6 => ?_)
        · replace hk := hk.t c6
          exact jk4 () hk
        · replace hk := hk.f c6
          refine sx_iconst (v := (1 : Int32)) dc_Re_isLetter_12 (by decide) ?_
          refine sx_goto (tgt := 17) dc_Re_isLetter_13 (by decide) ?_
          exact jk2 (1 : Int32) hk
theorem dc_Re_wordOf_0 : decode M_Re_wordOf.2.1 0 = .ok (.iload_n 0, 1) := by decide +kernel
theorem dc_Re_wordOf_1 : decode M_Re_wordOf.2.1 1 = .ok (.tableswitch 99 0 11 #[63, 66, 69, 72, 75, 78, 81, 84, 87, 90, 93, 96], 63) := by decide +kernel
theorem dc_Re_wordOf_64 : decode M_Re_wordOf.2.1 64 = .ok (.ldc 124, 2) := by decide +kernel
theorem dc_Re_wordOf_66 : decode M_Re_wordOf.2.1 66 = .ok (.areturn, 1) := by decide +kernel
theorem dc_Re_wordOf_67 : decode M_Re_wordOf.2.1 67 = .ok (.ldc 126, 2) := by decide +kernel
theorem dc_Re_wordOf_69 : decode M_Re_wordOf.2.1 69 = .ok (.areturn, 1) := by decide +kernel
theorem dc_Re_wordOf_70 : decode M_Re_wordOf.2.1 70 = .ok (.ldc 128, 2) := by decide +kernel
theorem dc_Re_wordOf_72 : decode M_Re_wordOf.2.1 72 = .ok (.areturn, 1) := by decide +kernel
theorem dc_Re_wordOf_73 : decode M_Re_wordOf.2.1 73 = .ok (.ldc 130, 2) := by decide +kernel
theorem dc_Re_wordOf_75 : decode M_Re_wordOf.2.1 75 = .ok (.areturn, 1) := by decide +kernel
theorem dc_Re_wordOf_76 : decode M_Re_wordOf.2.1 76 = .ok (.ldc 132, 2) := by decide +kernel
theorem dc_Re_wordOf_78 : decode M_Re_wordOf.2.1 78 = .ok (.areturn, 1) := by decide +kernel
theorem dc_Re_wordOf_79 : decode M_Re_wordOf.2.1 79 = .ok (.ldc 134, 2) := by decide +kernel
theorem dc_Re_wordOf_81 : decode M_Re_wordOf.2.1 81 = .ok (.areturn, 1) := by decide +kernel
theorem dc_Re_wordOf_82 : decode M_Re_wordOf.2.1 82 = .ok (.ldc 136, 2) := by decide +kernel
theorem dc_Re_wordOf_84 : decode M_Re_wordOf.2.1 84 = .ok (.areturn, 1) := by decide +kernel
theorem dc_Re_wordOf_85 : decode M_Re_wordOf.2.1 85 = .ok (.ldc 138, 2) := by decide +kernel
theorem dc_Re_wordOf_87 : decode M_Re_wordOf.2.1 87 = .ok (.areturn, 1) := by decide +kernel
theorem dc_Re_wordOf_88 : decode M_Re_wordOf.2.1 88 = .ok (.ldc 140, 2) := by decide +kernel
theorem dc_Re_wordOf_90 : decode M_Re_wordOf.2.1 90 = .ok (.areturn, 1) := by decide +kernel
theorem dc_Re_wordOf_91 : decode M_Re_wordOf.2.1 91 = .ok (.ldc 142, 2) := by decide +kernel
theorem dc_Re_wordOf_93 : decode M_Re_wordOf.2.1 93 = .ok (.areturn, 1) := by decide +kernel
theorem dc_Re_wordOf_94 : decode M_Re_wordOf.2.1 94 = .ok (.ldc 144, 2) := by decide +kernel
theorem dc_Re_wordOf_96 : decode M_Re_wordOf.2.1 96 = .ok (.areturn, 1) := by decide +kernel
theorem dc_Re_wordOf_97 : decode M_Re_wordOf.2.1 97 = .ok (.ldc 146, 2) := by decide +kernel
theorem dc_Re_wordOf_99 : decode M_Re_wordOf.2.1 99 = .ok (.areturn, 1) := by decide +kernel
theorem dc_Re_wordOf_100 : decode M_Re_wordOf.2.1 100 = .ok (.ldc 148, 2) := by decide +kernel
theorem dc_Re_wordOf_102 : decode M_Re_wordOf.2.1 102 = .ok (.areturn, 1) := by decide +kernel
def f_Re_wordOf (a0 : Int32) (h : xH) : Option (Nat × xH) := if a0 = (0 : Int32) then some (1, h) else if a0 = (1 : Int32) then some (2, h) else if a0 = (2 : Int32) then some (3, h) else if a0 = (3 : Int32) then some (4, h) else if a0 = (4 : Int32) then some (5, h) else if a0 = (5 : Int32) then some (6, h) else if a0 = (6 : Int32) then some (7, h) else if a0 = (7 : Int32) then some (8, h) else if a0 = (8 : Int32) then some (9, h) else if a0 = (9 : Int32) then some (10, h) else if a0 = (10 : Int32) then some (11, h) else if a0 = (11 : Int32) then some (12, h) else some (13, h)
theorem t_Re_wordOf {l : Launch} {z : xZ} {d mc ms : Nat} {Ph : Option xV → xH → Prop} {a0 : Int32}  {h : xH} (hd : 1 ≤ d) (hk : OK (f_Re_wordOf a0 h) (fun q => Ph (some (xS q.1)) q.2)) : Sx l z d mc ms M_Re_wordOf 0 (x_en [xI a0] 1) [] h Ph := by
  unfold f_Re_wordOf at hk
  refine sx_eq (lc2 := [some (xI a0)]) rfl rfl ?_
  refine sx_iload_n dc_Re_wordOf_0 rfl ?_
  by_cases c1 : a0 = (0 : Int32)
  · replace hk := hk.t c1
    refine sx_tabIn (off := 63) (tgt := 64) dc_Re_wordOf_1 (by rw [c1]; decide) (by rw [c1]; decide) (by rw [c1]; rfl) (by decide) ?_
    refine sx_ldcS (i := 1) rfl (by decide) dc_Re_wordOf_64 ?_
    exact sx_retR dc_Re_wordOf_66 (by first | exact Or.inl ⟨_, rfl⟩ | exact Or.inr ⟨_, rfl⟩) hk.val
  · replace hk := hk.f c1
    by_cases c2 : a0 = (1 : Int32)
    · replace hk := hk.t c2
      refine sx_tabIn (off := 66) (tgt := 67) dc_Re_wordOf_1 (by rw [c2]; decide) (by rw [c2]; decide) (by rw [c2]; rfl) (by decide) ?_
      refine sx_ldcS (i := 2) rfl (by decide) dc_Re_wordOf_67 ?_
      exact sx_retR dc_Re_wordOf_69 (by first | exact Or.inl ⟨_, rfl⟩ | exact Or.inr ⟨_, rfl⟩) hk.val
    · replace hk := hk.f c2
      by_cases c3 : a0 = (2 : Int32)
      · replace hk := hk.t c3
        refine sx_tabIn (off := 69) (tgt := 70) dc_Re_wordOf_1 (by rw [c3]; decide) (by rw [c3]; decide) (by rw [c3]; rfl) (by decide) ?_
        refine sx_ldcS (i := 3) rfl (by decide) dc_Re_wordOf_70 ?_
        exact sx_retR dc_Re_wordOf_72 (by first | exact Or.inl ⟨_, rfl⟩ | exact Or.inr ⟨_, rfl⟩) hk.val
      · replace hk := hk.f c3
        by_cases c4 : a0 = (3 : Int32)
        · replace hk := hk.t c4
          refine sx_tabIn (off := 72) (tgt := 73) dc_Re_wordOf_1 (by rw [c4]; decide) (by rw [c4]; decide) (by rw [c4]; rfl) (by decide) ?_
          refine sx_ldcS (i := 4) rfl (by decide) dc_Re_wordOf_73 ?_
          exact sx_retR dc_Re_wordOf_75 (by first | exact Or.inl ⟨_, rfl⟩ | exact Or.inr ⟨_, rfl⟩) hk.val
        · replace hk := hk.f c4
          by_cases c5 : a0 = (4 : Int32)
          · replace hk := hk.t c5
            refine sx_tabIn (off := 75) (tgt := 76) dc_Re_wordOf_1 (by rw [c5]; decide) (by rw [c5]; decide) (by rw [c5]; rfl) (by decide) ?_
            refine sx_ldcS (i := 5) rfl (by decide) dc_Re_wordOf_76 ?_
            exact sx_retR dc_Re_wordOf_78 (by first | exact Or.inl ⟨_, rfl⟩ | exact Or.inr ⟨_, rfl⟩) hk.val
          · replace hk := hk.f c5
            by_cases c6 : a0 = (5 : Int32)
            · replace hk := hk.t c6
              refine sx_tabIn (off := 78) (tgt := 79) dc_Re_wordOf_1 (by rw [c6]; decide) (by rw [c6]; decide) (by rw [c6]; rfl) (by decide) ?_
              refine sx_ldcS (i := 6) rfl (by decide) dc_Re_wordOf_79 ?_
              exact sx_retR dc_Re_wordOf_81 (by first | exact Or.inl ⟨_, rfl⟩ | exact Or.inr ⟨_, rfl⟩) hk.val
            · replace hk := hk.f c6
              by_cases c7 : a0 = (6 : Int32)
              · replace hk := hk.t c7
                refine sx_tabIn (off := 81) (tgt := 82) dc_Re_wordOf_1 (by rw [c7]; decide) (by rw [c7]; decide) (by rw [c7]; rfl) (by decide) ?_
                refine sx_ldcS (i := 7) rfl (by decide) dc_Re_wordOf_82 ?_
                exact sx_retR dc_Re_wordOf_84 (by first | exact Or.inl ⟨_, rfl⟩ | exact Or.inr ⟨_, rfl⟩) hk.val
              · replace hk := hk.f c7
                by_cases c8 : a0 = (7 : Int32)
                · replace hk := hk.t c8
                  refine sx_tabIn (off := 84) (tgt := 85) dc_Re_wordOf_1 (by rw [c8]; decide) (by rw [c8]; decide) (by rw [c8]; rfl) (by decide) ?_
                  refine sx_ldcS (i := 8) rfl (by decide) dc_Re_wordOf_85 ?_
                  exact sx_retR dc_Re_wordOf_87 (by first | exact Or.inl ⟨_, rfl⟩ | exact Or.inr ⟨_, rfl⟩) hk.val
                · replace hk := hk.f c8
                  by_cases c9 : a0 = (8 : Int32)
                  · replace hk := hk.t c9
                    refine sx_tabIn (off := 87) (tgt := 88) dc_Re_wordOf_1 (by rw [c9]; decide) (by rw [c9]; decide) (by rw [c9]; rfl) (by decide) ?_
                    refine sx_ldcS (i := 9) rfl (by decide) dc_Re_wordOf_88 ?_
                    exact sx_retR dc_Re_wordOf_90 (by first | exact Or.inl ⟨_, rfl⟩ | exact Or.inr ⟨_, rfl⟩) hk.val
                  · replace hk := hk.f c9
                    by_cases c10 : a0 = (9 : Int32)
                    · replace hk := hk.t c10
                      refine sx_tabIn (off := 90) (tgt := 91) dc_Re_wordOf_1 (by rw [c10]; decide) (by rw [c10]; decide) (by rw [c10]; rfl) (by decide) ?_
                      refine sx_ldcS (i := 10) rfl (by decide) dc_Re_wordOf_91 ?_
                      exact sx_retR dc_Re_wordOf_93 (by first | exact Or.inl ⟨_, rfl⟩ | exact Or.inr ⟨_, rfl⟩) hk.val
                    · replace hk := hk.f c10
                      by_cases c11 : a0 = (10 : Int32)
                      · replace hk := hk.t c11
                        refine sx_tabIn (off := 93) (tgt := 94) dc_Re_wordOf_1 (by rw [c11]; decide) (by rw [c11]; decide) (by rw [c11]; rfl) (by decide) ?_
                        refine sx_ldcS (i := 11) rfl (by decide) dc_Re_wordOf_94 ?_
                        exact sx_retR dc_Re_wordOf_96 (by first | exact Or.inl ⟨_, rfl⟩ | exact Or.inr ⟨_, rfl⟩) hk.val
                      · replace hk := hk.f c11
                        by_cases c12 : a0 = (11 : Int32)
                        · replace hk := hk.t c12
                          refine sx_tabIn (off := 96) (tgt := 97) dc_Re_wordOf_1 (by rw [c12]; decide) (by rw [c12]; decide) (by rw [c12]; rfl) (by decide) ?_
                          refine sx_ldcS (i := 12) rfl (by decide) dc_Re_wordOf_97 ?_
                          exact sx_retR dc_Re_wordOf_99 (by first | exact Or.inl ⟨_, rfl⟩ | exact Or.inr ⟨_, rfl⟩) hk.val
                        · replace hk := hk.f c12
                          refine sx_tabOut (tgt := 100) dc_Re_wordOf_1 (sw_out (fun k h1 h2 => ?_)) (by decide) ?_
                          · have h3 : k = 0 ∨ k = 1 ∨ k = 2 ∨ k = 3 ∨ k = 4 ∨ k = 5 ∨ k = 6 ∨ k = 7 ∨ k = 8 ∨ k = 9 ∨ k = 10 ∨ k = 11 := by omega
                            rcases h3 with rfl | rfl | rfl | rfl | rfl | rfl | rfl | rfl | rfl | rfl | rfl | rfl
                            · exact c1
                            · exact c2
                            · exact c3
                            · exact c4
                            · exact c5
                            · exact c6
                            · exact c7
                            · exact c8
                            · exact c9
                            · exact c10
                            · exact c11
                            · exact c12
                          · refine sx_ldcS (i := 13) rfl (by decide) dc_Re_wordOf_100 ?_
                            exact sx_retR dc_Re_wordOf_102 (by first | exact Or.inl ⟨_, rfl⟩ | exact Or.inr ⟨_, rfl⟩) hk.val
theorem dc_Sg_coder_0 : decode M_Sg_coder.2.1 0 = .ok (.getstatic 38, 3) := by decide +kernel
theorem dc_Sg_coder_3 : decode M_Sg_coder.2.1 3 = .ok (.ifCond .eq 10, 3) := by decide +kernel
theorem dc_Sg_coder_6 : decode M_Sg_coder.2.1 6 = .ok (.aload_n 0, 1) := by decide +kernel
theorem dc_Sg_coder_7 : decode M_Sg_coder.2.1 7 = .ok (.getfield 15, 3) := by decide +kernel
theorem dc_Sg_coder_10 : decode M_Sg_coder.2.1 10 = .ok (.goto 4, 3) := by decide +kernel
theorem dc_Sg_coder_13 : decode M_Sg_coder.2.1 13 = .ok (.iconst 1, 1) := by decide +kernel
theorem dc_Sg_coder_14 : decode M_Sg_coder.2.1 14 = .ok (.ireturn, 1) := by decide +kernel
def f_Sg_coder (a0 : Nat) (h : xH) : Option (Int32 × xH) := jn (fun (x2 : Int32) => some (vp_nar .byte x2, h)) (fun k3 => if (1 : Int32) = 0 then k3 (1 : Int32) else gd (a0 < 14) (k3 (0 : Int32)))
theorem t_Sg_coder {l : Launch} {z : xZ} {d mc ms : Nat} {Ph : Option xV → xH → Prop} {a0 : Nat}  {h : xH} (hd : 1 ≤ d) (hk : OK (f_Sg_coder a0 h) (fun q => Ph (some (xI q.1)) q.2)) : Sx l z d mc ms M_Sg_coder 0 (x_en [xS a0] 1) [] h Ph := by
  unfold f_Sg_coder at hk
  refine sx_eq (lc2 := [some (xS a0)]) rfl rfl ?_
  refine sx_compact wF_Sg_38 dc_Sg_coder_0 ?_
  refine hk.j (X := fun x2 => Sx l z d mc ms M_Sg_coder 14 [some (xS a0)] [xI x2] h Ph) (fun x2 hk => ?_) (fun k3 jk3 hk => ?_)
  · exact sx_retT dc_Sg_coder_14 (Or.inr (Or.inl ⟨rfl, rfl⟩)) rfl hk.val
  · refine sx_if_eq (tgt := 13) dc_Sg_coder_3 (by decide) (fun c4 => ?_) (fun c4 => ?_)
    · replace hk := hk.t c4
      refine sx_iconst (v := (1 : Int32)) dc_Sg_coder_13 (by decide) ?_
      exact jk3 (1 : Int32) hk
    · replace hk := hk.f c4
      refine sx_aload_n dc_Sg_coder_6 rfl ?_
      obtain ⟨g5, hk⟩ := hk.g
      refine sx_scod g5 wF_Sg_15 dc_Sg_coder_7 ?_
      refine sx_goto (tgt := 14) dc_Sg_coder_10 (by decide) ?_
      exact jk3 (0 : Int32) hk
theorem dc_Sg_length_0 : decode M_Sg_length.2.1 0 = .ok (.aload_n 0, 1) := by decide +kernel
theorem dc_Sg_length_1 : decode M_Sg_length.2.1 1 = .ok (.getfield 9, 3) := by decide +kernel
theorem dc_Sg_length_4 : decode M_Sg_length.2.1 4 = .ok (.arraylength, 1) := by decide +kernel
theorem dc_Sg_length_5 : decode M_Sg_length.2.1 5 = .ok (.aload_n 0, 1) := by decide +kernel
theorem dc_Sg_length_6 : decode M_Sg_length.2.1 6 = .ok (.invokevirtual 335, 3) := by decide +kernel
theorem dc_Sg_length_9 : decode M_Sg_length.2.1 9 = .ok (.ishr, 1) := by decide +kernel
theorem dc_Sg_length_10 : decode M_Sg_length.2.1 10 = .ok (.ireturn, 1) := by decide +kernel
def f_Sg_length (a0 : Nat) (h : xH) : Option (Int32 × xH) := gd (a0 < 14) (gd (16 ≤ (16 + a0) ∧ (16 + a0) < 30) (gd (a0 < 14) (Option.bind (f_Sg_coder a0 h) (fun q7 => some (jShr (Int32.ofNat (x_bl (16 + a0))) q7.1, q7.2)))))
theorem t_Sg_length {l : Launch} {z : xZ} {d mc ms : Nat} {Ph : Option xV → xH → Prop} {a0 : Nat}  {h : xH} (hd : 2 ≤ d) (hk : OK (f_Sg_length a0 h) (fun q => Ph (some (xI q.1)) q.2)) : Sx l z d mc ms M_Sg_length 0 (x_en [xS a0] 1) [] h Ph := by
  unfold f_Sg_length at hk
  refine sx_eq (lc2 := [some (xS a0)]) rfl rfl ?_
  refine sx_aload_n dc_Sg_length_0 rfl ?_
  obtain ⟨g5, hk⟩ := hk.g
  refine sx_sval g5 wF_Sg_9 dc_Sg_length_1 ?_
  obtain ⟨g6, hk⟩ := hk.g
  refine sx_bblen g6 dc_Sg_length_4 ?_
  refine sx_aload_n dc_Sg_length_5 rfl ?_
  obtain ⟨g8, hk⟩ := hk.g
  obtain ⟨q7, eq7, hk⟩ := hk.bind
  refine sx_callX (d2 := d - 1) (mc2 := 0) (ms2 := 0) (as := []) mk_Sg_coder rfl g8 rfl wM_Sg_335 mi_Sg_coder me_Sg_coder rfl (Nat.le_of_ble_eq_true rfl) (Nat.le_of_ble_eq_true rfl) dc_Sg_length_6 (by omega) (Nat.zero_le _) (Nat.zero_le _) ?_
  refine t_Sg_coder (by omega) ⟨q7, eq7, ?_⟩
  refine sx_eq0 (lc2 := [some (xS a0)]) (st2 := [xI q7.1, xI (Int32.ofNat (x_bl (16 + a0)))]) rfl rfl ?_
  refine sx_ishr dc_Sg_length_9 ?_
  exact sx_retI dc_Sg_length_10 rfl hk.val
theorem dc_Sg_isLatin1_0 : decode M_Sg_isLatin1.2.1 0 = .ok (.getstatic 38, 3) := by decide +kernel
theorem dc_Sg_isLatin1_3 : decode M_Sg_isLatin1.2.1 3 = .ok (.ifCond .eq 14, 3) := by decide +kernel
theorem dc_Sg_isLatin1_6 : decode M_Sg_isLatin1.2.1 6 = .ok (.aload_n 0, 1) := by decide +kernel
theorem dc_Sg_isLatin1_7 : decode M_Sg_isLatin1.2.1 7 = .ok (.getfield 15, 3) := by decide +kernel
theorem dc_Sg_isLatin1_10 : decode M_Sg_isLatin1.2.1 10 = .ok (.ifCond .ne 7, 3) := by decide +kernel
theorem dc_Sg_isLatin1_13 : decode M_Sg_isLatin1.2.1 13 = .ok (.iconst 1, 1) := by decide +kernel
theorem dc_Sg_isLatin1_14 : decode M_Sg_isLatin1.2.1 14 = .ok (.goto 4, 3) := by decide +kernel
theorem dc_Sg_isLatin1_17 : decode M_Sg_isLatin1.2.1 17 = .ok (.iconst 0, 1) := by decide +kernel
theorem dc_Sg_isLatin1_18 : decode M_Sg_isLatin1.2.1 18 = .ok (.ireturn, 1) := by decide +kernel
def f_Sg_isLatin1 (a0 : Nat) (h : xH) : Option (Int32 × xH) := jn (fun (x2 : Int32) => some (nb x2, h)) (fun k3 => jn (fun (x4 : Unit) => k3 (0 : Int32)) (fun k5 => if (1 : Int32) = 0 then k5 () else gd (a0 < 14) (if (0 : Int32) = 0 then k3 (1 : Int32) else k5 ())))
theorem t_Sg_isLatin1 {l : Launch} {z : xZ} {d mc ms : Nat} {Ph : Option xV → xH → Prop} {a0 : Nat}  {h : xH} (hd : 1 ≤ d) (hk : OK (f_Sg_isLatin1 a0 h) (fun q => Ph (some (xI q.1)) q.2)) : Sx l z d mc ms M_Sg_isLatin1 0 (x_en [xS a0] 1) [] h Ph := by
  unfold f_Sg_isLatin1 at hk
  refine sx_eq (lc2 := [some (xS a0)]) rfl rfl ?_
  refine sx_compact wF_Sg_38 dc_Sg_isLatin1_0 ?_
  refine hk.j (X := fun x2 => Sx l z d mc ms M_Sg_isLatin1 18 [some (xS a0)] [xI x2] h Ph) (fun x2 hk => ?_) (fun k3 jk3 hk => ?_)
  · exact sx_retT dc_Sg_isLatin1_18 (Or.inl ⟨rfl, rfl⟩) rfl hk.val
  · refine hk.j (X := fun x4 => Sx l z d mc ms M_Sg_isLatin1 17 [some (xS a0)] [] h Ph) (fun x4 hk => ?_) (fun k5 jk5 hk => ?_)
    · refine sx_iconst (v := (0 : Int32)) dc_Sg_isLatin1_17 (by decide) ?_
      exact jk3 (0 : Int32) hk
    · refine sx_if_eq (tgt := 17) dc_Sg_isLatin1_3 (by decide) (fun c6 => ?_) (fun c6 => ?_)
      · replace hk := hk.t c6
        exact jk5 () hk
      · replace hk := hk.f c6
        refine sx_aload_n dc_Sg_isLatin1_6 rfl ?_
        obtain ⟨g7, hk⟩ := hk.g
        refine sx_scod g7 wF_Sg_15 dc_Sg_isLatin1_7 ?_
        refine sx_if_ne (tgt := 17) dc_Sg_isLatin1_10 (by decide) (fun c8 => ?_) (fun c8 => ?_)
        · replace hk := hk.f c8
          exact jk5 () hk
        · replace hk := hk.t c8
          refine sx_iconst (v := (1 : Int32)) dc_Sg_isLatin1_13 (by decide) ?_
          refine sx_goto (tgt := 18) dc_Sg_isLatin1_14 (by decide) ?_
          exact jk3 (1 : Int32) hk
theorem dc_Pc_checkIndex_0 : decode M_Pc_checkIndex.2.1 0 = .ok (.iload_n 0, 1) := by decide +kernel
theorem dc_Pc_checkIndex_1 : decode M_Pc_checkIndex.2.1 1 = .ok (.ifCond .lt 8, 3) := by decide +kernel
theorem dc_Pc_checkIndex_4 : decode M_Pc_checkIndex.2.1 4 = .ok (.iload_n 0, 1) := by decide +kernel
theorem dc_Pc_checkIndex_5 : decode M_Pc_checkIndex.2.1 5 = .ok (.iload_n 1, 1) := by decide +kernel
theorem dc_Pc_checkIndex_6 : decode M_Pc_checkIndex.2.1 6 = .ok (.if_icmp .lt 10, 3) := by decide +kernel
theorem dc_Pc_checkIndex_9 : decode M_Pc_checkIndex.2.1 9 = .ok (.aload_n 2, 1) := by decide +kernel
theorem dc_Pc_checkIndex_10 : decode M_Pc_checkIndex.2.1 10 = .ok (.iload_n 0, 1) := by decide +kernel
theorem dc_Pc_checkIndex_11 : decode M_Pc_checkIndex.2.1 11 = .ok (.iload_n 1, 1) := by decide +kernel
theorem dc_Pc_checkIndex_16 : decode M_Pc_checkIndex.2.1 16 = .ok (.iload_n 0, 1) := by decide +kernel
theorem dc_Pc_checkIndex_17 : decode M_Pc_checkIndex.2.1 17 = .ok (.ireturn, 1) := by decide +kernel
def f_Pc_checkIndex (a0 : Int32) (a1 : Int32) (a2 : Nat) (h : xH) : Option (Int32 × xH) := jn (fun (x1 : Unit) => none) (fun k2 => if a0 < 0 then k2 () else if a0 < a1 then some (a0, h) else k2 ())
theorem t_Pc_checkIndex {l : Launch} {z : xZ} {d mc ms : Nat} {Ph : Option xV → xH → Prop} {a0 : Int32} {a1 : Int32} {a2 : Nat}  {h : xH} (hd : 1 ≤ d) (hk : OK (f_Pc_checkIndex a0 a1 a2 h) (fun q => Ph (some (xI q.1)) q.2)) : Sx l z d mc ms M_Pc_checkIndex 0 (x_en [xI a0, xI a1, xS a2] 3) [] h Ph := by
  unfold f_Pc_checkIndex at hk
  refine sx_eq (lc2 := [some (xI a0), some (xI a1), some (xS a2)]) rfl rfl ?_
  refine sx_iload_n dc_Pc_checkIndex_0 rfl ?_
  refine hk.j (X := fun x1 => Sx l z d mc ms M_Pc_checkIndex 9 [some (xI a0), some (xI a1), some (xS a2)] [] h Ph) (fun x1 hk => ?_) (fun k2 jk2 hk => ?_)
  · refine sx_aload_n dc_Pc_checkIndex_9 rfl ?_
    refine sx_iload_n dc_Pc_checkIndex_10 rfl ?_
    refine sx_iload_n dc_Pc_checkIndex_11 rfl ?_
    exact hk.no
  · refine sx_if_lt (tgt := 9) dc_Pc_checkIndex_1 (by decide) (fun c3 => ?_) (fun c3 => ?_)
    · replace hk := hk.t c3
      exact jk2 () hk
    · replace hk := hk.f c3
      refine sx_iload_n dc_Pc_checkIndex_4 rfl ?_
      refine sx_iload_n dc_Pc_checkIndex_5 rfl ?_
      refine sx_icmp_lt (tgt := 16) dc_Pc_checkIndex_6 (by decide) (fun c4 => ?_) (fun c4 => ?_)
      · replace hk := hk.t c4
        refine sx_iload_n dc_Pc_checkIndex_16 rfl ?_
        exact sx_retI dc_Pc_checkIndex_17 rfl hk.val
      · replace hk := hk.f c4
        exact jk2 () hk
theorem dc_Sg_checkIndex_0 : decode M_Sg_checkIndex.2.1 0 = .ok (.iload_n 0, 1) := by decide +kernel
theorem dc_Sg_checkIndex_1 : decode M_Sg_checkIndex.2.1 1 = .ok (.iload_n 1, 1) := by decide +kernel
theorem dc_Sg_checkIndex_2 : decode M_Sg_checkIndex.2.1 2 = .ok (.getstatic 1053, 3) := by decide +kernel
theorem dc_Sg_checkIndex_5 : decode M_Sg_checkIndex.2.1 5 = .ok (.invokestatic 1059, 3) := by decide +kernel
theorem dc_Sg_checkIndex_8 : decode M_Sg_checkIndex.2.1 8 = .ok (.pop, 1) := by decide +kernel
theorem dc_Sg_checkIndex_9 : decode M_Sg_checkIndex.2.1 9 = .ok (.return_, 1) := by decide +kernel
def f_Sg_checkIndex (a0 : Int32) (a1 : Int32) (h : xH) : Option (Unit × xH) := Option.bind (f_Pc_checkIndex a0 a1 31 h) (fun q2 => some ((), q2.2))
theorem t_Sg_checkIndex {l : Launch} {z : xZ} {d mc ms : Nat} {Ph : Option xV → xH → Prop} {a0 : Int32} {a1 : Int32}  {h : xH} (hd : 2 ≤ d) (hk : OK (f_Sg_checkIndex a0 a1 h) (fun q => Ph (none) q.2)) : Sx l z d mc ms M_Sg_checkIndex 0 (x_en [xI a0, xI a1] 2) [] h Ph := by
  unfold f_Sg_checkIndex at hk
  refine sx_eq (lc2 := [some (xI a0), some (xI a1)]) rfl rfl ?_
  refine sx_iload_n dc_Sg_checkIndex_0 rfl ?_
  refine sx_iload_n dc_Sg_checkIndex_1 rfl ?_
  refine sx_sioobe wF_Sg_1053 dc_Sg_checkIndex_2 ?_
  obtain ⟨q2, eq2, hk⟩ := hk.bind
  refine sx_callS (d2 := d - 1) (mc2 := 0) (ms2 := 0) (as := [xI a0, xI a1, xS 31]) mk_Pc_checkIndex rfl wM_Sg_1059 mt_Pc_checkIndex rfl (Nat.le_of_ble_eq_true rfl) (Nat.le_of_ble_eq_true rfl) dc_Sg_checkIndex_5 (by omega) (Nat.zero_le _) (Nat.zero_le _) ?_
  refine t_Pc_checkIndex (by omega) ⟨q2, eq2, ?_⟩
  refine sx_eq0 (lc2 := [some (xI a0), some (xI a1)]) (st2 := [xI q2.1]) rfl rfl ?_
  refine sx_pop dc_Sg_checkIndex_8 rfl ?_
  exact sx_retV dc_Sg_checkIndex_9 rfl hk.val
theorem dc_Sl_charAt_0 : decode M_Sl_charAt.2.1 0 = .ok (.iload_n 1, 1) := by decide +kernel
theorem dc_Sl_charAt_1 : decode M_Sl_charAt.2.1 1 = .ok (.aload_n 0, 1) := by decide +kernel
theorem dc_Sl_charAt_2 : decode M_Sl_charAt.2.1 2 = .ok (.arraylength, 1) := by decide +kernel
theorem dc_Sl_charAt_3 : decode M_Sl_charAt.2.1 3 = .ok (.invokestatic 9, 3) := by decide +kernel
theorem dc_Sl_charAt_6 : decode M_Sl_charAt.2.1 6 = .ok (.aload_n 0, 1) := by decide +kernel
theorem dc_Sl_charAt_7 : decode M_Sl_charAt.2.1 7 = .ok (.iload_n 1, 1) := by decide +kernel
theorem dc_Sl_charAt_8 : decode M_Sl_charAt.2.1 8 = .ok (.baload, 1) := by decide +kernel
theorem dc_Sl_charAt_9 : decode M_Sl_charAt.2.1 9 = .ok (.sipush 255, 3) := by decide +kernel
theorem dc_Sl_charAt_12 : decode M_Sl_charAt.2.1 12 = .ok (.iand, 1) := by decide +kernel
theorem dc_Sl_charAt_13 : decode M_Sl_charAt.2.1 13 = .ok (.i2c, 1) := by decide +kernel
theorem dc_Sl_charAt_14 : decode M_Sl_charAt.2.1 14 = .ok (.ireturn, 1) := by decide +kernel
def f_Sl_charAt (a0 : Nat) (a1 : Int32) (h : xH) : Option (Int32 × xH) := gd (16 ≤ a0 ∧ a0 < 30) (Option.bind (f_Sg_checkIndex a1 (Int32.ofNat (x_bl a0)) h) (fun q5 => gd (¬ (a1 < 0 ∨ x_bl a0 ≤ a1.toNatClampNeg)) (some (vp_nar .char (jCh ((x_bb a0 a1.toNatClampNeg) &&& (255 : Int32))), q5.2))))
theorem t_Sl_charAt {l : Launch} {z : xZ} {d mc ms : Nat} {Ph : Option xV → xH → Prop} {a0 : Nat} {a1 : Int32}  {h : xH} (hd : 3 ≤ d) (hk : OK (f_Sl_charAt a0 a1 h) (fun q => Ph (some (xI q.1)) q.2)) : Sx l z d mc ms M_Sl_charAt 0 (x_en [xS a0, xI a1] 2) [] h Ph := by
  unfold f_Sl_charAt at hk
  refine sx_eq (lc2 := [some (xS a0), some (xI a1)]) rfl rfl ?_
  refine sx_iload_n dc_Sl_charAt_0 rfl ?_
  refine sx_aload_n dc_Sl_charAt_1 rfl ?_
  obtain ⟨g4, hk⟩ := hk.g
  refine sx_bblen g4 dc_Sl_charAt_2 ?_
  obtain ⟨q5, eq5, hk⟩ := hk.bind
  refine sx_callS (d2 := d - 1) (mc2 := 0) (ms2 := 0) (as := [xI a1, xI (Int32.ofNat (x_bl a0))]) mk_Sg_checkIndex rfl wM_Sl_9 mt_Sg_checkIndex rfl (Nat.le_of_ble_eq_true rfl) (Nat.le_of_ble_eq_true rfl) dc_Sl_charAt_3 (by omega) (Nat.zero_le _) (Nat.zero_le _) ?_
  refine t_Sg_checkIndex (by omega) ⟨q5, eq5, ?_⟩
  refine sx_eq0 (lc2 := [some (xS a0), some (xI a1)]) (st2 := []) rfl rfl ?_
  refine sx_aload_n dc_Sl_charAt_6 rfl ?_
  refine sx_iload_n dc_Sl_charAt_7 rfl ?_
  obtain ⟨g6, hk⟩ := hk.g
  refine sx_bbld g6 dc_Sl_charAt_8 ?_
  refine sx_sipush (v := (255 : Int32)) dc_Sl_charAt_9 (by decide) ?_
  refine sx_iand dc_Sl_charAt_12 ?_
  refine sx_i2c dc_Sl_charAt_13 ?_
  exact sx_retT dc_Sl_charAt_14 (Or.inr (Or.inr ⟨rfl, rfl⟩)) rfl hk.val
theorem dc_Sg_charAt_0 : decode M_Sg_charAt.2.1 0 = .ok (.aload_n 0, 1) := by decide +kernel
theorem dc_Sg_charAt_1 : decode M_Sg_charAt.2.1 1 = .ok (.invokevirtual 492, 3) := by decide +kernel
theorem dc_Sg_charAt_4 : decode M_Sg_charAt.2.1 4 = .ok (.ifCond .eq 12, 3) := by decide +kernel
theorem dc_Sg_charAt_7 : decode M_Sg_charAt.2.1 7 = .ok (.aload_n 0, 1) := by decide +kernel
theorem dc_Sg_charAt_8 : decode M_Sg_charAt.2.1 8 = .ok (.getfield 9, 3) := by decide +kernel
theorem dc_Sg_charAt_11 : decode M_Sg_charAt.2.1 11 = .ok (.iload_n 1, 1) := by decide +kernel
theorem dc_Sg_charAt_12 : decode M_Sg_charAt.2.1 12 = .ok (.invokestatic 495, 3) := by decide +kernel
theorem dc_Sg_charAt_15 : decode M_Sg_charAt.2.1 15 = .ok (.ireturn, 1) := by decide +kernel
theorem dc_Sg_charAt_16 : decode M_Sg_charAt.2.1 16 = .ok (.aload_n 0, 1) := by decide +kernel
theorem dc_Sg_charAt_17 : decode M_Sg_charAt.2.1 17 = .ok (.getfield 9, 3) := by decide +kernel
theorem dc_Sg_charAt_20 : decode M_Sg_charAt.2.1 20 = .ok (.iload_n 1, 1) := by decide +kernel
def f_Sg_charAt (a0 : Nat) (a1 : Int32) (h : xH) : Option (Int32 × xH) := gd (a0 < 14) (Option.bind (f_Sg_isLatin1 a0 h) (fun q6 => if q6.1 = 0 then gd (a0 < 14) (none) else gd (a0 < 14) (Option.bind (f_Sl_charAt (16 + a0) a1 q6.2) (fun q11 => some (vp_nar .char q11.1, q11.2)))))
theorem t_Sg_charAt {l : Launch} {z : xZ} {d mc ms : Nat} {Ph : Option xV → xH → Prop} {a0 : Nat} {a1 : Int32}  {h : xH} (hd : 4 ≤ d) (hk : OK (f_Sg_charAt a0 a1 h) (fun q => Ph (some (xI q.1)) q.2)) : Sx l z d mc ms M_Sg_charAt 0 (x_en [xS a0, xI a1] 2) [] h Ph := by
  unfold f_Sg_charAt at hk
  refine sx_eq (lc2 := [some (xS a0), some (xI a1)]) rfl rfl ?_
  refine sx_aload_n dc_Sg_charAt_0 rfl ?_
  obtain ⟨g7, hk⟩ := hk.g
  obtain ⟨q6, eq6, hk⟩ := hk.bind
  refine sx_callX (d2 := d - 1) (mc2 := 0) (ms2 := 0) (as := []) mk_Sg_isLatin1 rfl g7 rfl wM_Sg_492 mi_Sg_isLatin1 me_Sg_isLatin1 rfl (Nat.le_of_ble_eq_true rfl) (Nat.le_of_ble_eq_true rfl) dc_Sg_charAt_1 (by omega) (Nat.zero_le _) (Nat.zero_le _) ?_
  refine t_Sg_isLatin1 (by omega) ⟨q6, eq6, ?_⟩
  refine sx_eq0 (lc2 := [some (xS a0), some (xI a1)]) (st2 := [xI q6.1]) rfl rfl ?_
  refine sx_if_eq (tgt := 16) dc_Sg_charAt_4 (by decide) (fun c8 => ?_) (fun c8 => ?_)
  · replace hk := hk.t c8
    refine sx_aload_n dc_Sg_charAt_16 rfl ?_
    obtain ⟨g9, hk⟩ := hk.g
    refine sx_sval g9 wF_Sg_9 dc_Sg_charAt_17 ?_
    refine sx_iload_n dc_Sg_charAt_20 rfl ?_
    exact hk.no
  · replace hk := hk.f c8
    refine sx_aload_n dc_Sg_charAt_7 rfl ?_
    obtain ⟨g10, hk⟩ := hk.g
    refine sx_sval g10 wF_Sg_9 dc_Sg_charAt_8 ?_
    refine sx_iload_n dc_Sg_charAt_11 rfl ?_
    obtain ⟨q11, eq11, hk⟩ := hk.bind
    refine sx_callS (d2 := d - 1) (mc2 := 0) (ms2 := 0) (as := [xS (16 + a0), xI a1]) mk_Sl_charAt rfl wM_Sg_495 mt_Sl_charAt rfl (Nat.le_of_ble_eq_true rfl) (Nat.le_of_ble_eq_true rfl) dc_Sg_charAt_12 (by omega) (Nat.zero_le _) (Nat.zero_le _) ?_
    refine t_Sl_charAt (by omega) ⟨q11, eq11, ?_⟩
    refine sx_eq0 (lc2 := [some (xS a0), some (xI a1)]) (st2 := [xI q11.1]) rfl rfl ?_
    exact sx_retT dc_Sg_charAt_15 (Or.inr (Or.inr ⟨rfl, rfl⟩)) rfl hk.val
theorem dc_Re_spells_0 : decode M_Re_spells.2.1 0 = .ok (.aload_n 1, 1) := by decide +kernel
theorem dc_Re_spells_1 : decode M_Re_spells.2.1 1 = .ok (.invokevirtual 115, 3) := by decide +kernel
theorem dc_Re_spells_4 : decode M_Re_spells.2.1 4 = .ok (.aload_n 0, 1) := by decide +kernel
theorem dc_Re_spells_5 : decode M_Re_spells.2.1 5 = .ok (.getfield 44, 3) := by decide +kernel
theorem dc_Re_spells_8 : decode M_Re_spells.2.1 8 = .ok (.aload_n 0, 1) := by decide +kernel
theorem dc_Re_spells_9 : decode M_Re_spells.2.1 9 = .ok (.getfield 57, 3) := by decide +kernel
theorem dc_Re_spells_12 : decode M_Re_spells.2.1 12 = .ok (.isub, 1) := by decide +kernel
theorem dc_Re_spells_13 : decode M_Re_spells.2.1 13 = .ok (.if_icmp .eq 5, 3) := by decide +kernel
theorem dc_Re_spells_16 : decode M_Re_spells.2.1 16 = .ok (.iconst 0, 1) := by decide +kernel
theorem dc_Re_spells_17 : decode M_Re_spells.2.1 17 = .ok (.ireturn, 1) := by decide +kernel
theorem dc_Re_spells_18 : decode M_Re_spells.2.1 18 = .ok (.iconst 0, 1) := by decide +kernel
theorem dc_Re_spells_19 : decode M_Re_spells.2.1 19 = .ok (.istore_n 2, 1) := by decide +kernel
theorem dc_Re_spells_20 : decode M_Re_spells.2.1 20 = .ok (.iload_n 2, 1) := by decide +kernel
theorem dc_Re_spells_21 : decode M_Re_spells.2.1 21 = .ok (.aload_n 1, 1) := by decide +kernel
theorem dc_Re_spells_22 : decode M_Re_spells.2.1 22 = .ok (.invokevirtual 115, 3) := by decide +kernel
theorem dc_Re_spells_25 : decode M_Re_spells.2.1 25 = .ok (.if_icmp .ge 30, 3) := by decide +kernel
theorem dc_Re_spells_28 : decode M_Re_spells.2.1 28 = .ok (.aload_n 0, 1) := by decide +kernel
theorem dc_Re_spells_29 : decode M_Re_spells.2.1 29 = .ok (.getfield 11, 3) := by decide +kernel
theorem dc_Re_spells_32 : decode M_Re_spells.2.1 32 = .ok (.aload_n 0, 1) := by decide +kernel
theorem dc_Re_spells_33 : decode M_Re_spells.2.1 33 = .ok (.getfield 57, 3) := by decide +kernel
theorem dc_Re_spells_36 : decode M_Re_spells.2.1 36 = .ok (.iload_n 2, 1) := by decide +kernel
theorem dc_Re_spells_37 : decode M_Re_spells.2.1 37 = .ok (.iadd, 1) := by decide +kernel
theorem dc_Re_spells_38 : decode M_Re_spells.2.1 38 = .ok (.iaload, 1) := by decide +kernel
theorem dc_Re_spells_39 : decode M_Re_spells.2.1 39 = .ok (.aload_n 1, 1) := by decide +kernel
theorem dc_Re_spells_40 : decode M_Re_spells.2.1 40 = .ok (.iload_n 2, 1) := by decide +kernel
theorem dc_Re_spells_41 : decode M_Re_spells.2.1 41 = .ok (.invokevirtual 120, 3) := by decide +kernel
theorem dc_Re_spells_44 : decode M_Re_spells.2.1 44 = .ok (.if_icmp .eq 5, 3) := by decide +kernel
theorem dc_Re_spells_47 : decode M_Re_spells.2.1 47 = .ok (.iconst 0, 1) := by decide +kernel
theorem dc_Re_spells_48 : decode M_Re_spells.2.1 48 = .ok (.ireturn, 1) := by decide +kernel
theorem dc_Re_spells_49 : decode M_Re_spells.2.1 49 = .ok (.iinc 2 1, 3) := by decide +kernel
theorem dc_Re_spells_52 : decode M_Re_spells.2.1 52 = .ok (.goto (-32), 3) := by decide +kernel
theorem dc_Re_spells_55 : decode M_Re_spells.2.1 55 = .ok (.iconst 1, 1) := by decide +kernel
theorem dc_Re_spells_56 : decode M_Re_spells.2.1 56 = .ok (.ireturn, 1) := by decide +kernel
def f_Re_spells_L20 (a0 : Nat) (a1 : Nat) : Nat → Int32 → xH → (Int32 → xH → Option (Int32 × xH)) → Option (Int32 × xH)
  | 0, _, _, _ => none
  | n + 1, a2, h, K => gd (a1 < 14) (Option.bind (f_Sg_length a1 h) (fun q15 => if q15.1 ≤ a2 then K a2 q15.2 else gd (hK q15.2 a0 = 1) (gd (hK q15.2 (hR q15.2 a0 0) = 12) (gd (¬ (((hI q15.2 a0 2) + a2) < 0 ∨ hL q15.2 (hR q15.2 a0 0) ≤ ((hI q15.2 a0 2) + a2).toNatClampNeg)) (gd (a1 < 14) (Option.bind (f_Sg_charAt a1 a2 q15.2) (fun q21 => if (hI q15.2 (hR q15.2 a0 0) ((hI q15.2 a0 2) + a2).toNatClampNeg) = q21.1 then f_Re_spells_L20 a0 a1 n (a2 + (1 : Int32)) q21.2 K else some ((0 : Int32), q21.2))))))))
def f_Re_spells (a0 : Nat) (a1 : Nat) (h : xH) : Option (Int32 × xH) := gd (a1 < 14) (Option.bind (f_Sg_length a1 h) (fun q11 => gd (hK q11.2 a0 = 1) (if q11.1 = ((hI q11.2 a0 3) - (hI q11.2 a0 2)) then f_Re_spells_L20 a0 a1 fu (0 : Int32) q11.2 (fun v24 h25 => some ((1 : Int32), h25)) else some ((0 : Int32), q11.2))))
theorem t_Re_spells_L20 {l : Launch} {z : xZ} {d mc ms : Nat} {Ph : Option xV → xH → Prop} {a0 : Nat} {a1 : Nat}  (hd : 5 ≤ d) : ∀ (n : Nat) (a2 : Int32) (h : xH) (K : Int32 → xH → Option (Int32 × xH)), OK (f_Re_spells_L20 a0 a1 n a2 h K) (fun q => Ph (some (xI q.1)) q.2) → (∀ (a2 : Int32) (h : xH), OK (K a2 h) (fun q => Ph (some (xI q.1)) q.2) → Sx l z d mc ms M_Re_spells 55 [some (xR a0), some (xS a1), some (xI a2)] [] h Ph) → Sx l z d mc ms M_Re_spells 20 [some (xR a0), some (xS a1), some (xI a2)] [] h Ph := by
  intro n
  induction n with
  | zero => intro a2 h K hk hE; exact hk.no
  | succ n ih =>
    intro a2 h K hk hE
    rw [f_Re_spells_L20] at hk
    refine sx_iload_n dc_Re_spells_20 rfl ?_
    refine sx_aload_n dc_Re_spells_21 rfl ?_
    obtain ⟨g16, hk⟩ := hk.g
    obtain ⟨q15, eq15, hk⟩ := hk.bind
    refine sx_callX (d2 := d - 1) (mc2 := 0) (ms2 := 0) (as := []) mk_Sg_length rfl g16 rfl wM_Re_115 mi_Sg_length me_Sg_length rfl (Nat.le_of_ble_eq_true rfl) (Nat.le_of_ble_eq_true rfl) dc_Re_spells_22 (by omega) (Nat.zero_le _) (Nat.zero_le _) ?_
    refine t_Sg_length (by omega) ⟨q15, eq15, ?_⟩
    refine sx_eq0 (lc2 := [some (xR a0), some (xS a1), some (xI a2)]) (st2 := [xI q15.1, xI a2]) rfl rfl ?_
    refine sx_icmp_ge (tgt := 55) dc_Re_spells_25 (by decide) (fun c17 => ?_) (fun c17 => ?_)
    · replace hk := hk.t c17
      exact hE a2 q15.2 hk
    · replace hk := hk.f c17
      refine sx_aload_n dc_Re_spells_28 rfl ?_
      obtain ⟨g18, hk⟩ := hk.g
      refine sx_get (ci := 1) (k := 0) rfl (by decide) wF_Re_11 g18 dc_Re_spells_29 ?_
      refine sx_aload_n dc_Re_spells_32 rfl ?_
      refine sx_get (ci := 1) (k := 2) rfl (by decide) wF_Re_57 g18 dc_Re_spells_33 ?_
      refine sx_iload_n dc_Re_spells_36 rfl ?_
      refine sx_iadd dc_Re_spells_37 ?_
      obtain ⟨g19, hk⟩ := hk.g
      obtain ⟨g20, hk⟩ := hk.g
      refine sx_iald g19 g20 dc_Re_spells_38 ?_
      refine sx_aload_n dc_Re_spells_39 rfl ?_
      refine sx_iload_n dc_Re_spells_40 rfl ?_
      obtain ⟨g22, hk⟩ := hk.g
      obtain ⟨q21, eq21, hk⟩ := hk.bind
      refine sx_callX (d2 := d - 1) (mc2 := 0) (ms2 := 0) (as := [xI a2]) mk_Sg_charAt rfl g22 rfl wM_Re_120 mi_Sg_charAt me_Sg_charAt rfl (Nat.le_of_ble_eq_true rfl) (Nat.le_of_ble_eq_true rfl) dc_Re_spells_41 (by omega) (Nat.zero_le _) (Nat.zero_le _) ?_
      refine t_Sg_charAt (by omega) ⟨q21, eq21, ?_⟩
      refine sx_eq0 (lc2 := [some (xR a0), some (xS a1), some (xI a2)]) (st2 := [xI q21.1, xI (hI q15.2 (hR q15.2 a0 0) ((hI q15.2 a0 2) + a2).toNatClampNeg)]) rfl rfl ?_
      refine sx_icmp_eq (tgt := 49) dc_Re_spells_44 (by decide) (fun c23 => ?_) (fun c23 => ?_)
      · replace hk := hk.t c23
        refine sx_iinc (v := (1 : Int32)) dc_Re_spells_49 rfl (by decide) (by decide) (sx_eq (lc2 := [some (xR a0), some (xS a1), some (xI (a2 + (1 : Int32)))]) rfl rfl ?_)
        refine sx_goto (tgt := 20) dc_Re_spells_52 (by decide) ?_
        exact ih (a2 + (1 : Int32)) q21.2 _ hk hE
      · replace hk := hk.f c23
        refine sx_iconst (v := (0 : Int32)) dc_Re_spells_47 (by decide) ?_
        exact sx_retT (v := (0 : Int32)) dc_Re_spells_48 (Or.inl ⟨rfl, rfl⟩) (by decide) hk.val
theorem t_Re_spells {l : Launch} {z : xZ} {d mc ms : Nat} {Ph : Option xV → xH → Prop} {a0 : Nat} {a1 : Nat}  {h : xH} (hd : 5 ≤ d) (hk : OK (f_Re_spells a0 a1 h) (fun q => Ph (some (xI q.1)) q.2)) : Sx l z d mc ms M_Re_spells 0 (x_en [xR a0, xS a1] 3) [] h Ph := by
  unfold f_Re_spells at hk
  refine sx_eq (lc2 := [some (xR a0), some (xS a1), none]) rfl rfl ?_
  refine sx_aload_n dc_Re_spells_0 rfl ?_
  obtain ⟨g12, hk⟩ := hk.g
  obtain ⟨q11, eq11, hk⟩ := hk.bind
  refine sx_callX (d2 := d - 1) (mc2 := 0) (ms2 := 0) (as := []) mk_Sg_length rfl g12 rfl wM_Re_115 mi_Sg_length me_Sg_length rfl (Nat.le_of_ble_eq_true rfl) (Nat.le_of_ble_eq_true rfl) dc_Re_spells_1 (by omega) (Nat.zero_le _) (Nat.zero_le _) ?_
  refine t_Sg_length (by omega) ⟨q11, eq11, ?_⟩
  refine sx_eq0 (lc2 := [some (xR a0), some (xS a1), none]) (st2 := [xI q11.1]) rfl rfl ?_
  refine sx_aload_n dc_Re_spells_4 rfl ?_
  obtain ⟨g13, hk⟩ := hk.g
  refine sx_get (ci := 1) (k := 3) rfl (by decide) wF_Re_44 g13 dc_Re_spells_5 ?_
  refine sx_aload_n dc_Re_spells_8 rfl ?_
  refine sx_get (ci := 1) (k := 2) rfl (by decide) wF_Re_57 g13 dc_Re_spells_9 ?_
  refine sx_isub dc_Re_spells_12 ?_
  refine sx_icmp_eq (tgt := 18) dc_Re_spells_13 (by decide) (fun c14 => ?_) (fun c14 => ?_)
  · replace hk := hk.t c14
    refine sx_iconst (v := (0 : Int32)) dc_Re_spells_18 (by decide) ?_
    refine sx_istore_n dc_Re_spells_19 (by decide) (sx_eq (lc2 := [some (xR a0), some (xS a1), some (xI (0 : Int32))]) rfl rfl ?_)
    refine t_Re_spells_L20 (by omega) _ _ _ _ hk (fun v24 h25 hk => ?_)
    refine sx_iconst (v := (1 : Int32)) dc_Re_spells_55 (by decide) ?_
    exact sx_retT (v := (1 : Int32)) dc_Re_spells_56 (Or.inl ⟨rfl, rfl⟩) (by decide) hk.val
  · replace hk := hk.f c14
    refine sx_iconst (v := (0 : Int32)) dc_Re_spells_16 (by decide) ?_
    exact sx_retT (v := (0 : Int32)) dc_Re_spells_17 (Or.inl ⟨rfl, rfl⟩) (by decide) hk.val
theorem dc_Re_wordToken_0 : decode M_Re_wordToken.2.1 0 = .ok (.aload_n 0, 1) := by decide +kernel
theorem dc_Re_wordToken_1 : decode M_Re_wordToken.2.1 1 = .ok (.getfield 44, 3) := by decide +kernel
theorem dc_Re_wordToken_4 : decode M_Re_wordToken.2.1 4 = .ok (.aload_n 0, 1) := by decide +kernel
theorem dc_Re_wordToken_5 : decode M_Re_wordToken.2.1 5 = .ok (.getfield 23, 3) := by decide +kernel
theorem dc_Re_wordToken_8 : decode M_Re_wordToken.2.1 8 = .ok (.if_icmp .ge 31, 3) := by decide +kernel
theorem dc_Re_wordToken_11 : decode M_Re_wordToken.2.1 11 = .ok (.aload_n 0, 1) := by decide +kernel
theorem dc_Re_wordToken_12 : decode M_Re_wordToken.2.1 12 = .ok (.getfield 11, 3) := by decide +kernel
theorem dc_Re_wordToken_15 : decode M_Re_wordToken.2.1 15 = .ok (.aload_n 0, 1) := by decide +kernel
theorem dc_Re_wordToken_16 : decode M_Re_wordToken.2.1 16 = .ok (.getfield 44, 3) := by decide +kernel
theorem dc_Re_wordToken_19 : decode M_Re_wordToken.2.1 19 = .ok (.iaload, 1) := by decide +kernel
theorem dc_Re_wordToken_20 : decode M_Re_wordToken.2.1 20 = .ok (.invokestatic 91, 3) := by decide +kernel
theorem dc_Re_wordToken_23 : decode M_Re_wordToken.2.1 23 = .ok (.ifCond .eq 16, 3) := by decide +kernel
theorem dc_Re_wordToken_26 : decode M_Re_wordToken.2.1 26 = .ok (.aload_n 0, 1) := by decide +kernel
theorem dc_Re_wordToken_27 : decode M_Re_wordToken.2.1 27 = .ok (.dup, 1) := by decide +kernel
theorem dc_Re_wordToken_28 : decode M_Re_wordToken.2.1 28 = .ok (.getfield 44, 3) := by decide +kernel
theorem dc_Re_wordToken_31 : decode M_Re_wordToken.2.1 31 = .ok (.iconst 1, 1) := by decide +kernel
theorem dc_Re_wordToken_32 : decode M_Re_wordToken.2.1 32 = .ok (.iadd, 1) := by decide +kernel
theorem dc_Re_wordToken_33 : decode M_Re_wordToken.2.1 33 = .ok (.putfield 44, 3) := by decide +kernel
theorem dc_Re_wordToken_36 : decode M_Re_wordToken.2.1 36 = .ok (.goto (-36), 3) := by decide +kernel
theorem dc_Re_wordToken_39 : decode M_Re_wordToken.2.1 39 = .ok (.iconst 0, 1) := by decide +kernel
theorem dc_Re_wordToken_40 : decode M_Re_wordToken.2.1 40 = .ok (.istore_n 1, 1) := by decide +kernel
theorem dc_Re_wordToken_41 : decode M_Re_wordToken.2.1 41 = .ok (.iload_n 1, 1) := by decide +kernel
theorem dc_Re_wordToken_42 : decode M_Re_wordToken.2.1 42 = .ok (.bipush 12, 2) := by decide +kernel
theorem dc_Re_wordToken_44 : decode M_Re_wordToken.2.1 44 = .ok (.if_icmp .ge 26, 3) := by decide +kernel
theorem dc_Re_wordToken_47 : decode M_Re_wordToken.2.1 47 = .ok (.aload_n 0, 1) := by decide +kernel
theorem dc_Re_wordToken_48 : decode M_Re_wordToken.2.1 48 = .ok (.iload_n 1, 1) := by decide +kernel
theorem dc_Re_wordToken_49 : decode M_Re_wordToken.2.1 49 = .ok (.invokestatic 107, 3) := by decide +kernel
theorem dc_Re_wordToken_52 : decode M_Re_wordToken.2.1 52 = .ok (.invokevirtual 111, 3) := by decide +kernel
theorem dc_Re_wordToken_55 : decode M_Re_wordToken.2.1 55 = .ok (.ifCond .eq 9, 3) := by decide +kernel
theorem dc_Re_wordToken_58 : decode M_Re_wordToken.2.1 58 = .ok (.sipush 256, 3) := by decide +kernel
theorem dc_Re_wordToken_61 : decode M_Re_wordToken.2.1 61 = .ok (.iload_n 1, 1) := by decide +kernel
theorem dc_Re_wordToken_62 : decode M_Re_wordToken.2.1 62 = .ok (.iadd, 1) := by decide +kernel
theorem dc_Re_wordToken_63 : decode M_Re_wordToken.2.1 63 = .ok (.ireturn, 1) := by decide +kernel
theorem dc_Re_wordToken_64 : decode M_Re_wordToken.2.1 64 = .ok (.iinc 1 1, 3) := by decide +kernel
theorem dc_Re_wordToken_67 : decode M_Re_wordToken.2.1 67 = .ok (.goto (-26), 3) := by decide +kernel
theorem dc_Re_wordToken_70 : decode M_Re_wordToken.2.1 70 = .ok (.iconst 2, 1) := by decide +kernel
theorem dc_Re_wordToken_71 : decode M_Re_wordToken.2.1 71 = .ok (.ireturn, 1) := by decide +kernel
def f_Re_wordToken_L0 (a0 : Nat) : Nat → xH → (xH → Option (Int32 × xH)) → Option (Int32 × xH)
  | 0, _, _ => none
  | n + 1, h, K => gd (hK h a0 = 1) (if (hI h a0 1) ≤ (hI h a0 3) then K h else gd (hK h (hR h a0 0) = 12) (gd (¬ ((hI h a0 3) < 0 ∨ hL h (hR h a0 0) ≤ (hI h a0 3).toNatClampNeg)) (Option.bind (f_Re_isLetter (hI h (hR h a0 0) (hI h a0 3).toNatClampNeg) h) (fun q13 => if q13.1 = 0 then K q13.2 else gd (hK q13.2 a0 = 1) (f_Re_wordToken_L0 a0 n (hIu q13.2 a0 3 ((hI q13.2 a0 3) + (1 : Int32))) K)))))
def f_Re_wordToken_L41 (a0 : Nat) : Nat → Int32 → xH → (Int32 → xH → Option (Int32 × xH)) → Option (Int32 × xH)
  | 0, _, _, _ => none
  | n + 1, a1, h, K => if (12 : Int32) ≤ a1 then K a1 h else Option.bind (f_Re_wordOf a1 h) (fun q18 => gd (hK q18.2 a0 = 1) (Option.bind (f_Re_spells a0 q18.1 q18.2) (fun q19 => if q19.1 = 0 then f_Re_wordToken_L41 a0 n (a1 + (1 : Int32)) q19.2 K else some ((256 : Int32) + a1, q19.2))))
def f_Re_wordToken (a0 : Nat) (h : xH) : Option (Int32 × xH) := f_Re_wordToken_L0 a0 fu h (fun h16 => f_Re_wordToken_L41 a0 fu (0 : Int32) h16 (fun v22 h23 => some ((2 : Int32), h23)))
theorem t_Re_wordToken_L0 {l : Launch} {z : xZ} {d mc ms : Nat} {Ph : Option xV → xH → Prop} {a0 : Nat}  (hd : 2 ≤ d) : ∀ (n : Nat)  (h : xH) (K : xH → Option (Int32 × xH)), OK (f_Re_wordToken_L0 a0 n h K) (fun q => Ph (some (xI q.1)) q.2) → (∀  (h : xH), OK (K  h) (fun q => Ph (some (xI q.1)) q.2) → Sx l z d mc ms M_Re_wordToken 39 [some (xR a0), none] [] h Ph) → Sx l z d mc ms M_Re_wordToken 0 [some (xR a0), none] [] h Ph := by
  intro n
  induction n with
  | zero => intro  h K hk hE; exact hk.no
  | succ n ih =>
    intro  h K hk hE
    rw [f_Re_wordToken_L0] at hk
    refine sx_aload_n dc_Re_wordToken_0 rfl ?_
    obtain ⟨g9, hk⟩ := hk.g
    refine sx_get (ci := 1) (k := 3) rfl (by decide) wF_Re_44 g9 dc_Re_wordToken_1 ?_
    refine sx_aload_n dc_Re_wordToken_4 rfl ?_
    refine sx_get (ci := 1) (k := 1) rfl (by decide) wF_Re_23 g9 dc_Re_wordToken_5 ?_
    refine sx_icmp_ge (tgt := 39) dc_Re_wordToken_8 (by decide) (fun c10 => ?_) (fun c10 => ?_)
    · replace hk := hk.t c10
      exact hE  h hk
    · replace hk := hk.f c10
      refine sx_aload_n dc_Re_wordToken_11 rfl ?_
      refine sx_get (ci := 1) (k := 0) rfl (by decide) wF_Re_11 g9 dc_Re_wordToken_12 ?_
      refine sx_aload_n dc_Re_wordToken_15 rfl ?_
      refine sx_get (ci := 1) (k := 3) rfl (by decide) wF_Re_44 g9 dc_Re_wordToken_16 ?_
      obtain ⟨g11, hk⟩ := hk.g
      obtain ⟨g12, hk⟩ := hk.g
      refine sx_iald g11 g12 dc_Re_wordToken_19 ?_
      obtain ⟨q13, eq13, hk⟩ := hk.bind
      refine sx_callS (d2 := d - 1) (mc2 := 0) (ms2 := 0) (as := [xI (hI h (hR h a0 0) (hI h a0 3).toNatClampNeg)]) mk_Re_isLetter rfl wM_Re_91 mt_Re_isLetter rfl (Nat.le_of_ble_eq_true rfl) (Nat.le_of_ble_eq_true rfl) dc_Re_wordToken_20 (by omega) (Nat.zero_le _) (Nat.zero_le _) ?_
      refine t_Re_isLetter (by omega) ⟨q13, eq13, ?_⟩
      refine sx_eq0 (lc2 := [some (xR a0), none]) (st2 := [xI q13.1]) rfl rfl ?_
      refine sx_if_eq (tgt := 39) dc_Re_wordToken_23 (by decide) (fun c14 => ?_) (fun c14 => ?_)
      · replace hk := hk.t c14
        exact hE  q13.2 hk
      · replace hk := hk.f c14
        refine sx_aload_n dc_Re_wordToken_26 rfl ?_
        refine sx_dup dc_Re_wordToken_27 rfl ?_
        obtain ⟨g15, hk⟩ := hk.g
        refine sx_get (ci := 1) (k := 3) rfl (by decide) wF_Re_44 g15 dc_Re_wordToken_28 ?_
        refine sx_iconst (v := (1 : Int32)) dc_Re_wordToken_31 (by decide) ?_
        refine sx_iadd dc_Re_wordToken_32 ?_
        refine sx_putI (ci := 1) (k := 3) rfl (by decide) wF_Re_44 rfl g15 (Or.inl rfl) dc_Re_wordToken_33 ?_
        refine sx_goto (tgt := 0) dc_Re_wordToken_36 (by decide) ?_
        exact ih  (hIu q13.2 a0 3 ((hI q13.2 a0 3) + (1 : Int32))) _ hk hE
theorem t_Re_wordToken_L41 {l : Launch} {z : xZ} {d mc ms : Nat} {Ph : Option xV → xH → Prop} {a0 : Nat}  (hd : 6 ≤ d) : ∀ (n : Nat) (a1 : Int32) (h : xH) (K : Int32 → xH → Option (Int32 × xH)), OK (f_Re_wordToken_L41 a0 n a1 h K) (fun q => Ph (some (xI q.1)) q.2) → (∀ (a1 : Int32) (h : xH), OK (K a1 h) (fun q => Ph (some (xI q.1)) q.2) → Sx l z d mc ms M_Re_wordToken 70 [some (xR a0), some (xI a1)] [] h Ph) → Sx l z d mc ms M_Re_wordToken 41 [some (xR a0), some (xI a1)] [] h Ph := by
  intro n
  induction n with
  | zero => intro a1 h K hk hE; exact hk.no
  | succ n ih =>
    intro a1 h K hk hE
    rw [f_Re_wordToken_L41] at hk
    refine sx_iload_n dc_Re_wordToken_41 rfl ?_
    refine sx_bipush (v := (12 : Int32)) dc_Re_wordToken_42 (by decide) ?_
    refine sx_icmp_ge (tgt := 70) dc_Re_wordToken_44 (by decide) (fun c17 => ?_) (fun c17 => ?_)
    · replace hk := hk.t c17
      exact hE a1 h hk
    · replace hk := hk.f c17
      refine sx_aload_n dc_Re_wordToken_47 rfl ?_
      refine sx_iload_n dc_Re_wordToken_48 rfl ?_
      obtain ⟨q18, eq18, hk⟩ := hk.bind
      refine sx_callS (d2 := d - 1) (mc2 := 0) (ms2 := 0) (as := [xI a1]) mk_Re_wordOf rfl wM_Re_107 mt_Re_wordOf rfl (Nat.le_of_ble_eq_true rfl) (Nat.le_of_ble_eq_true rfl) dc_Re_wordToken_49 (by omega) (Nat.zero_le _) (Nat.zero_le _) ?_
      refine t_Re_wordOf (by omega) ⟨q18, eq18, ?_⟩
      refine sx_eq0 (lc2 := [some (xR a0), some (xI a1)]) (st2 := [xS q18.1, xR a0]) rfl rfl ?_
      obtain ⟨g20, hk⟩ := hk.g
      obtain ⟨q19, eq19, hk⟩ := hk.bind
      refine sx_callV (d2 := d - 1) (mc2 := 0) (ms2 := 0) (as := [xS q18.1]) mk_Re_spells rfl (x_rk (ci := 1) g20 rfl rfl) wM_Re_111 mi_Re_spells me_Re_spells rfl (Nat.le_of_ble_eq_true rfl) (Nat.le_of_ble_eq_true rfl) dc_Re_wordToken_52 (by omega) (Nat.zero_le _) (Nat.zero_le _) ?_
      refine t_Re_spells (by omega) ⟨q19, eq19, ?_⟩
      refine sx_eq0 (lc2 := [some (xR a0), some (xI a1)]) (st2 := [xI q19.1]) rfl rfl ?_
      refine sx_if_eq (tgt := 64) dc_Re_wordToken_55 (by decide) (fun c21 => ?_) (fun c21 => ?_)
      · replace hk := hk.t c21
        refine sx_iinc (v := (1 : Int32)) dc_Re_wordToken_64 rfl (by decide) (by decide) (sx_eq (lc2 := [some (xR a0), some (xI (a1 + (1 : Int32)))]) rfl rfl ?_)
        refine sx_goto (tgt := 41) dc_Re_wordToken_67 (by decide) ?_
        exact ih (a1 + (1 : Int32)) q19.2 _ hk hE
      · replace hk := hk.f c21
        refine sx_sipush (v := (256 : Int32)) dc_Re_wordToken_58 (by decide) ?_
        refine sx_iload_n dc_Re_wordToken_61 rfl ?_
        refine sx_iadd dc_Re_wordToken_62 ?_
        exact sx_retI dc_Re_wordToken_63 rfl hk.val
theorem t_Re_wordToken {l : Launch} {z : xZ} {d mc ms : Nat} {Ph : Option xV → xH → Prop} {a0 : Nat}  {h : xH} (hd : 6 ≤ d) (hk : OK (f_Re_wordToken a0 h) (fun q => Ph (some (xI q.1)) q.2)) : Sx l z d mc ms M_Re_wordToken 0 (x_en [xR a0] 2) [] h Ph := by
  unfold f_Re_wordToken at hk
  refine sx_eq (lc2 := [some (xR a0), none]) rfl rfl ?_
  refine t_Re_wordToken_L0 (by omega) _  _ _ hk (fun  h16 hk => ?_)
  refine sx_iconst (v := (0 : Int32)) dc_Re_wordToken_39 (by decide) ?_
  refine sx_istore_n dc_Re_wordToken_40 (by decide) (sx_eq (lc2 := [some (xR a0), some (xI (0 : Int32))]) rfl rfl ?_)
  refine t_Re_wordToken_L41 (by omega) _ _ _ _ hk (fun v22 h23 hk => ?_)
  refine sx_iconst (v := (2 : Int32)) dc_Re_wordToken_70 (by decide) ?_
  exact sx_retI dc_Re_wordToken_71 rfl hk.val
theorem dc_Re_isDigit_0 : decode M_Re_isDigit.2.1 0 = .ok (.iload_n 0, 1) := by decide +kernel
theorem dc_Re_isDigit_1 : decode M_Re_isDigit.2.1 1 = .ok (.bipush 48, 2) := by decide +kernel
theorem dc_Re_isDigit_3 : decode M_Re_isDigit.2.1 3 = .ok (.if_icmp .lt 13, 3) := by decide +kernel
theorem dc_Re_isDigit_6 : decode M_Re_isDigit.2.1 6 = .ok (.iload_n 0, 1) := by decide +kernel
theorem dc_Re_isDigit_7 : decode M_Re_isDigit.2.1 7 = .ok (.bipush 57, 2) := by decide +kernel
theorem dc_Re_isDigit_9 : decode M_Re_isDigit.2.1 9 = .ok (.if_icmp .gt 7, 3) := by decide +kernel
theorem dc_Re_isDigit_12 : decode M_Re_isDigit.2.1 12 = .ok (.iconst 1, 1) := by decide +kernel
theorem dc_Re_isDigit_13 : decode M_Re_isDigit.2.1 13 = .ok (.goto 4, 3) := by decide +kernel
theorem dc_Re_isDigit_16 : decode M_Re_isDigit.2.1 16 = .ok (.iconst 0, 1) := by decide +kernel
theorem dc_Re_isDigit_17 : decode M_Re_isDigit.2.1 17 = .ok (.ireturn, 1) := by decide +kernel
def f_Re_isDigit (a0 : Int32) (h : xH) : Option (Int32 × xH) := jn (fun (x1 : Int32) => some (nb x1, h)) (fun k2 => jn (fun (x3 : Unit) => k2 (0 : Int32)) (fun k4 => if a0 < (48 : Int32) then k4 () else if (57 : Int32) < a0 then k4 () else k2 (1 : Int32)))
theorem t_Re_isDigit {l : Launch} {z : xZ} {d mc ms : Nat} {Ph : Option xV → xH → Prop} {a0 : Int32}  {h : xH} (hd : 1 ≤ d) (hk : OK (f_Re_isDigit a0 h) (fun q => Ph (some (xI q.1)) q.2)) : Sx l z d mc ms M_Re_isDigit 0 (x_en [xI a0] 1) [] h Ph := by
  unfold f_Re_isDigit at hk
  refine sx_eq (lc2 := [some (xI a0)]) rfl rfl ?_
  refine sx_iload_n dc_Re_isDigit_0 rfl ?_
  refine sx_bipush (v := (48 : Int32)) dc_Re_isDigit_1 (by decide) ?_
  refine hk.j (X := fun x1 => Sx l z d mc ms M_Re_isDigit 17 [some (xI a0)] [xI x1] h Ph) (fun x1 hk => ?_) (fun k2 jk2 hk => ?_)
  · exact sx_retT dc_Re_isDigit_17 (Or.inl ⟨rfl, rfl⟩) rfl hk.val
  · refine hk.j (X := fun x3 => Sx l z d mc ms M_Re_isDigit 16 [some (xI a0)] [] h Ph) (fun x3 hk => ?_) (fun k4 jk4 hk => ?_)
    · refine sx_iconst (v := (0 : Int32)) dc_Re_isDigit_16 (by decide) ?_
      exact jk2 (0 : Int32) hk
    · refine sx_icmp_lt (tgt := 16) dc_Re_isDigit_3 (by decide) (fun c5 => ?_) (fun c5 => ?_)
      · replace hk := hk.t c5
        exact jk4 () hk
      · replace hk := hk.f c5
        refine sx_iload_n dc_Re_isDigit_6 rfl ?_
        refine sx_bipush (v := (57 : Int32)) dc_Re_isDigit_7 (by decide) ?_
        refine sx_icmp_gt (tgt := 16) dc_Re_isDigit_9 (by decide) (fun c6 => ?_) (fun c6 => ?_)
        · replace hk := hk.t c6
          exact jk4 () hk
        · replace hk := hk.f c6
          refine sx_iconst (v := (1 : Int32)) dc_Re_isDigit_12 (by decide) ?_
          refine sx_goto (tgt := 17) dc_Re_isDigit_13 (by decide) ?_
          exact jk2 (1 : Int32) hk
theorem dc_Re_numberToken_0 : decode M_Re_numberToken.2.1 0 = .ok (.aload_n 0, 1) := by decide +kernel
theorem dc_Re_numberToken_1 : decode M_Re_numberToken.2.1 1 = .ok (.iconst 0, 1) := by decide +kernel
theorem dc_Re_numberToken_2 : decode M_Re_numberToken.2.1 2 = .ok (.putfield 88, 3) := by decide +kernel
theorem dc_Re_numberToken_5 : decode M_Re_numberToken.2.1 5 = .ok (.aload_n 0, 1) := by decide +kernel
theorem dc_Re_numberToken_6 : decode M_Re_numberToken.2.1 6 = .ok (.getfield 44, 3) := by decide +kernel
theorem dc_Re_numberToken_9 : decode M_Re_numberToken.2.1 9 = .ok (.aload_n 0, 1) := by decide +kernel
theorem dc_Re_numberToken_10 : decode M_Re_numberToken.2.1 10 = .ok (.getfield 23, 3) := by decide +kernel
theorem dc_Re_numberToken_13 : decode M_Re_numberToken.2.1 13 = .ok (.if_icmp .ge 55, 3) := by decide +kernel
theorem dc_Re_numberToken_16 : decode M_Re_numberToken.2.1 16 = .ok (.aload_n 0, 1) := by decide +kernel
theorem dc_Re_numberToken_17 : decode M_Re_numberToken.2.1 17 = .ok (.getfield 11, 3) := by decide +kernel
theorem dc_Re_numberToken_20 : decode M_Re_numberToken.2.1 20 = .ok (.aload_n 0, 1) := by decide +kernel
theorem dc_Re_numberToken_21 : decode M_Re_numberToken.2.1 21 = .ok (.getfield 44, 3) := by decide +kernel
theorem dc_Re_numberToken_24 : decode M_Re_numberToken.2.1 24 = .ok (.iaload, 1) := by decide +kernel
theorem dc_Re_numberToken_25 : decode M_Re_numberToken.2.1 25 = .ok (.invokestatic 98, 3) := by decide +kernel
theorem dc_Re_numberToken_28 : decode M_Re_numberToken.2.1 28 = .ok (.ifCond .eq 40, 3) := by decide +kernel
theorem dc_Re_numberToken_31 : decode M_Re_numberToken.2.1 31 = .ok (.aload_n 0, 1) := by decide +kernel
theorem dc_Re_numberToken_32 : decode M_Re_numberToken.2.1 32 = .ok (.aload_n 0, 1) := by decide +kernel
theorem dc_Re_numberToken_33 : decode M_Re_numberToken.2.1 33 = .ok (.getfield 88, 3) := by decide +kernel
theorem dc_Re_numberToken_36 : decode M_Re_numberToken.2.1 36 = .ok (.bipush 10, 2) := by decide +kernel
theorem dc_Re_numberToken_38 : decode M_Re_numberToken.2.1 38 = .ok (.imul, 1) := by decide +kernel
theorem dc_Re_numberToken_39 : decode M_Re_numberToken.2.1 39 = .ok (.aload_n 0, 1) := by decide +kernel
theorem dc_Re_numberToken_40 : decode M_Re_numberToken.2.1 40 = .ok (.getfield 11, 3) := by decide +kernel
theorem dc_Re_numberToken_43 : decode M_Re_numberToken.2.1 43 = .ok (.aload_n 0, 1) := by decide +kernel
theorem dc_Re_numberToken_44 : decode M_Re_numberToken.2.1 44 = .ok (.getfield 44, 3) := by decide +kernel
theorem dc_Re_numberToken_47 : decode M_Re_numberToken.2.1 47 = .ok (.iaload, 1) := by decide +kernel
theorem dc_Re_numberToken_48 : decode M_Re_numberToken.2.1 48 = .ok (.iadd, 1) := by decide +kernel
theorem dc_Re_numberToken_49 : decode M_Re_numberToken.2.1 49 = .ok (.bipush 48, 2) := by decide +kernel
theorem dc_Re_numberToken_51 : decode M_Re_numberToken.2.1 51 = .ok (.isub, 1) := by decide +kernel
theorem dc_Re_numberToken_52 : decode M_Re_numberToken.2.1 52 = .ok (.putfield 88, 3) := by decide +kernel
theorem dc_Re_numberToken_55 : decode M_Re_numberToken.2.1 55 = .ok (.aload_n 0, 1) := by decide +kernel
theorem dc_Re_numberToken_56 : decode M_Re_numberToken.2.1 56 = .ok (.dup, 1) := by decide +kernel
theorem dc_Re_numberToken_57 : decode M_Re_numberToken.2.1 57 = .ok (.getfield 44, 3) := by decide +kernel
theorem dc_Re_numberToken_60 : decode M_Re_numberToken.2.1 60 = .ok (.iconst 1, 1) := by decide +kernel
theorem dc_Re_numberToken_61 : decode M_Re_numberToken.2.1 61 = .ok (.iadd, 1) := by decide +kernel
theorem dc_Re_numberToken_62 : decode M_Re_numberToken.2.1 62 = .ok (.putfield 44, 3) := by decide +kernel
theorem dc_Re_numberToken_65 : decode M_Re_numberToken.2.1 65 = .ok (.goto (-60), 3) := by decide +kernel
theorem dc_Re_numberToken_68 : decode M_Re_numberToken.2.1 68 = .ok (.aload_n 0, 1) := by decide +kernel
theorem dc_Re_numberToken_69 : decode M_Re_numberToken.2.1 69 = .ok (.getfield 44, 3) := by decide +kernel
theorem dc_Re_numberToken_72 : decode M_Re_numberToken.2.1 72 = .ok (.aload_n 0, 1) := by decide +kernel
theorem dc_Re_numberToken_73 : decode M_Re_numberToken.2.1 73 = .ok (.getfield 57, 3) := by decide +kernel
theorem dc_Re_numberToken_76 : decode M_Re_numberToken.2.1 76 = .ok (.isub, 1) := by decide +kernel
theorem dc_Re_numberToken_77 : decode M_Re_numberToken.2.1 77 = .ok (.iconst 4, 1) := by decide +kernel
theorem dc_Re_numberToken_78 : decode M_Re_numberToken.2.1 78 = .ok (.if_icmp .le 7, 3) := by decide +kernel
theorem dc_Re_numberToken_81 : decode M_Re_numberToken.2.1 81 = .ok (.iconst 2, 1) := by decide +kernel
theorem dc_Re_numberToken_82 : decode M_Re_numberToken.2.1 82 = .ok (.goto 4, 3) := by decide +kernel
theorem dc_Re_numberToken_85 : decode M_Re_numberToken.2.1 85 = .ok (.iconst 1, 1) := by decide +kernel
theorem dc_Re_numberToken_86 : decode M_Re_numberToken.2.1 86 = .ok (.ireturn, 1) := by decide +kernel
def f_Re_numberToken_L5 (a0 : Nat) : Nat → xH → (xH → Option (Int32 × xH)) → Option (Int32 × xH)
  | 0, _, _ => none
  | n + 1, h, K => gd (hK h a0 = 1) (if (hI h a0 1) ≤ (hI h a0 3) then K h else gd (hK h (hR h a0 0) = 12) (gd (¬ ((hI h a0 3) < 0 ∨ hL h (hR h a0 0) ≤ (hI h a0 3).toNatClampNeg)) (Option.bind (f_Re_isDigit (hI h (hR h a0 0) (hI h a0 3).toNatClampNeg) h) (fun q13 => if q13.1 = 0 then K q13.2 else gd (hK q13.2 a0 = 1) (gd (hK q13.2 (hR q13.2 a0 0) = 12) (gd (¬ ((hI q13.2 a0 3) < 0 ∨ hL q13.2 (hR q13.2 a0 0) ≤ (hI q13.2 a0 3).toNatClampNeg)) (hp (hIu (hIu q13.2 a0 5 ((((hI q13.2 a0 5) * (10 : Int32)) + (hI q13.2 (hR q13.2 a0 0) (hI q13.2 a0 3).toNatClampNeg)) - (48 : Int32))) a0 3 ((hI (hIu q13.2 a0 5 ((((hI q13.2 a0 5) * (10 : Int32)) + (hI q13.2 (hR q13.2 a0 0) (hI q13.2 a0 3).toNatClampNeg)) - (48 : Int32))) a0 3) + (1 : Int32))) (fun h18 => f_Re_numberToken_L5 a0 n h18 K))))))))
def f_Re_numberToken (a0 : Nat) (h : xH) : Option (Int32 × xH) := gd (hK h a0 = 1) (f_Re_numberToken_L5 a0 fu (hIu h a0 5 (0 : Int32)) (fun h21 => gd (hK h21 a0 = 1) (some ((if ((hI h21 a0 3) - (hI h21 a0 2)) ≤ (4 : Int32) then (1 : Int32) else (2 : Int32)), h21))))
theorem t_Re_numberToken_L5 {l : Launch} {z : xZ} {d mc ms : Nat} {Ph : Option xV → xH → Prop} {a0 : Nat}  (hd : 2 ≤ d) : ∀ (n : Nat)  (h : xH) (K : xH → Option (Int32 × xH)), OK (f_Re_numberToken_L5 a0 n h K) (fun q => Ph (some (xI q.1)) q.2) → (∀  (h : xH), OK (K  h) (fun q => Ph (some (xI q.1)) q.2) → Sx l z d mc ms M_Re_numberToken 68 [some (xR a0)] [] h Ph) → Sx l z d mc ms M_Re_numberToken 5 [some (xR a0)] [] h Ph := by
  intro n
  induction n with
  | zero => intro  h K hk hE; exact hk.no
  | succ n ih =>
    intro  h K hk hE
    rw [f_Re_numberToken_L5] at hk
    refine sx_aload_n dc_Re_numberToken_5 rfl ?_
    obtain ⟨g9, hk⟩ := hk.g
    refine sx_get (ci := 1) (k := 3) rfl (by decide) wF_Re_44 g9 dc_Re_numberToken_6 ?_
    refine sx_aload_n dc_Re_numberToken_9 rfl ?_
    refine sx_get (ci := 1) (k := 1) rfl (by decide) wF_Re_23 g9 dc_Re_numberToken_10 ?_
    refine sx_icmp_ge (tgt := 68) dc_Re_numberToken_13 (by decide) (fun c10 => ?_) (fun c10 => ?_)
    · replace hk := hk.t c10
      exact hE  h hk
    · replace hk := hk.f c10
      refine sx_aload_n dc_Re_numberToken_16 rfl ?_
      refine sx_get (ci := 1) (k := 0) rfl (by decide) wF_Re_11 g9 dc_Re_numberToken_17 ?_
      refine sx_aload_n dc_Re_numberToken_20 rfl ?_
      refine sx_get (ci := 1) (k := 3) rfl (by decide) wF_Re_44 g9 dc_Re_numberToken_21 ?_
      obtain ⟨g11, hk⟩ := hk.g
      obtain ⟨g12, hk⟩ := hk.g
      refine sx_iald g11 g12 dc_Re_numberToken_24 ?_
      obtain ⟨q13, eq13, hk⟩ := hk.bind
      refine sx_callS (d2 := d - 1) (mc2 := 0) (ms2 := 0) (as := [xI (hI h (hR h a0 0) (hI h a0 3).toNatClampNeg)]) mk_Re_isDigit rfl wM_Re_98 mt_Re_isDigit rfl (Nat.le_of_ble_eq_true rfl) (Nat.le_of_ble_eq_true rfl) dc_Re_numberToken_25 (by omega) (Nat.zero_le _) (Nat.zero_le _) ?_
      refine t_Re_isDigit (by omega) ⟨q13, eq13, ?_⟩
      refine sx_eq0 (lc2 := [some (xR a0)]) (st2 := [xI q13.1]) rfl rfl ?_
      refine sx_if_eq (tgt := 68) dc_Re_numberToken_28 (by decide) (fun c14 => ?_) (fun c14 => ?_)
      · replace hk := hk.t c14
        exact hE  q13.2 hk
      · replace hk := hk.f c14
        refine sx_aload_n dc_Re_numberToken_31 rfl ?_
        refine sx_aload_n dc_Re_numberToken_32 rfl ?_
        obtain ⟨g15, hk⟩ := hk.g
        refine sx_get (ci := 1) (k := 5) rfl (by decide) wF_Re_88 g15 dc_Re_numberToken_33 ?_
        refine sx_bipush (v := (10 : Int32)) dc_Re_numberToken_36 (by decide) ?_
        refine sx_imul dc_Re_numberToken_38 ?_
        refine sx_aload_n dc_Re_numberToken_39 rfl ?_
        refine sx_get (ci := 1) (k := 0) rfl (by decide) wF_Re_11 g15 dc_Re_numberToken_40 ?_
        refine sx_aload_n dc_Re_numberToken_43 rfl ?_
        refine sx_get (ci := 1) (k := 3) rfl (by decide) wF_Re_44 g15 dc_Re_numberToken_44 ?_
        obtain ⟨g16, hk⟩ := hk.g
        obtain ⟨g17, hk⟩ := hk.g
        refine sx_iald g16 g17 dc_Re_numberToken_47 ?_
        refine sx_iadd dc_Re_numberToken_48 ?_
        refine sx_bipush (v := (48 : Int32)) dc_Re_numberToken_49 (by decide) ?_
        refine sx_isub dc_Re_numberToken_51 ?_
        refine sx_putI (ci := 1) (k := 5) rfl (by decide) wF_Re_88 rfl g15 (Or.inl rfl) dc_Re_numberToken_52 ?_
        refine sx_aload_n dc_Re_numberToken_55 rfl ?_
        refine sx_dup dc_Re_numberToken_56 rfl ?_
        refine sx_get (ci := 1) (k := 3) rfl (by decide) wF_Re_44 g15 dc_Re_numberToken_57 ?_
        refine sx_iconst (v := (1 : Int32)) dc_Re_numberToken_60 (by decide) ?_
        refine sx_iadd dc_Re_numberToken_61 ?_
        refine sx_putI (ci := 1) (k := 3) rfl (by decide) wF_Re_44 rfl g15 (Or.inl rfl) dc_Re_numberToken_62 ?_
        obtain ⟨h18, eh18, hk⟩ := hk.h
        refine sx_hp eh18 ?_
        have g19 : hK h18 a0 = 1 := by rw [eh18]; exact g15
        have g20 : hK h18 (hR q13.2 a0 0) = 12 := by rw [eh18]; exact g16
        refine sx_goto (tgt := 5) dc_Re_numberToken_65 (by decide) ?_
        exact ih  h18 _ hk hE
theorem t_Re_numberToken {l : Launch} {z : xZ} {d mc ms : Nat} {Ph : Option xV → xH → Prop} {a0 : Nat}  {h : xH} (hd : 2 ≤ d) (hk : OK (f_Re_numberToken a0 h) (fun q => Ph (some (xI q.1)) q.2)) : Sx l z d mc ms M_Re_numberToken 0 (x_en [xR a0] 1) [] h Ph := by
  unfold f_Re_numberToken at hk
  refine sx_eq (lc2 := [some (xR a0)]) rfl rfl ?_
  refine sx_aload_n dc_Re_numberToken_0 rfl ?_
  refine sx_iconst (v := (0 : Int32)) dc_Re_numberToken_1 (by decide) ?_
  obtain ⟨g8, hk⟩ := hk.g
  refine sx_putI (ci := 1) (k := 5) rfl (by decide) wF_Re_88 rfl g8 (Or.inl rfl) dc_Re_numberToken_2 ?_
  refine t_Re_numberToken_L5 (by omega) _  _ _ hk (fun  h21 hk => ?_)
  refine sx_aload_n dc_Re_numberToken_68 rfl ?_
  obtain ⟨g22, hk⟩ := hk.g
  refine sx_get (ci := 1) (k := 3) rfl (by decide) wF_Re_44 g22 dc_Re_numberToken_69 ?_
  refine sx_aload_n dc_Re_numberToken_72 rfl ?_
  refine sx_get (ci := 1) (k := 2) rfl (by decide) wF_Re_57 g22 dc_Re_numberToken_73 ?_
  refine sx_isub dc_Re_numberToken_76 ?_
  refine sx_iconst (v := (4 : Int32)) dc_Re_numberToken_77 (by decide) ?_
  suffices J23 : Sx l z d mc ms M_Re_numberToken 86 [some (xR a0)] [xI (if ((hI h21 a0 3) - (hI h21 a0 2)) ≤ (4 : Int32) then (1 : Int32) else (2 : Int32))] h21 Ph by
    refine sx_icmp_le (tgt := 85) dc_Re_numberToken_78 (by decide) (fun c24 => ?_) (fun c24 => ?_)
    · try simp only [if_pos c24] at J23
      refine sx_iconst (v := (1 : Int32)) dc_Re_numberToken_85 (by decide) ?_
      exact J23
    · try simp only [if_neg c24] at J23
      refine sx_iconst (v := (2 : Int32)) dc_Re_numberToken_81 (by decide) ?_
      refine sx_goto (tgt := 86) dc_Re_numberToken_82 (by decide) ?_
      exact J23
  exact sx_retI dc_Re_numberToken_86 rfl hk.val
theorem dc_Re_isSign_0 : decode M_Re_isSign.2.1 0 = .ok (.iload_n 0, 1) := by decide +kernel
theorem dc_Re_isSign_1 : decode M_Re_isSign.2.1 1 = .ok (.bipush 40, 2) := by decide +kernel
theorem dc_Re_isSign_3 : decode M_Re_isSign.2.1 3 = .ok (.if_icmp .lt 9, 3) := by decide +kernel
theorem dc_Re_isSign_6 : decode M_Re_isSign.2.1 6 = .ok (.iload_n 0, 1) := by decide +kernel
theorem dc_Re_isSign_7 : decode M_Re_isSign.2.1 7 = .ok (.bipush 43, 2) := by decide +kernel
theorem dc_Re_isSign_9 : decode M_Re_isSign.2.1 9 = .ok (.if_icmp .le 21, 3) := by decide +kernel
theorem dc_Re_isSign_12 : decode M_Re_isSign.2.1 12 = .ok (.iload_n 0, 1) := by decide +kernel
theorem dc_Re_isSign_13 : decode M_Re_isSign.2.1 13 = .ok (.bipush 59, 2) := by decide +kernel
theorem dc_Re_isSign_15 : decode M_Re_isSign.2.1 15 = .ok (.if_icmp .lt 9, 3) := by decide +kernel
theorem dc_Re_isSign_18 : decode M_Re_isSign.2.1 18 = .ok (.iload_n 0, 1) := by decide +kernel
theorem dc_Re_isSign_19 : decode M_Re_isSign.2.1 19 = .ok (.bipush 61, 2) := by decide +kernel
theorem dc_Re_isSign_21 : decode M_Re_isSign.2.1 21 = .ok (.if_icmp .le 9, 3) := by decide +kernel
theorem dc_Re_isSign_24 : decode M_Re_isSign.2.1 24 = .ok (.iload_n 0, 1) := by decide +kernel
theorem dc_Re_isSign_25 : decode M_Re_isSign.2.1 25 = .ok (.bipush 45, 2) := by decide +kernel
theorem dc_Re_isSign_27 : decode M_Re_isSign.2.1 27 = .ok (.if_icmp .ne 7, 3) := by decide +kernel
theorem dc_Re_isSign_30 : decode M_Re_isSign.2.1 30 = .ok (.iconst 1, 1) := by decide +kernel
theorem dc_Re_isSign_31 : decode M_Re_isSign.2.1 31 = .ok (.goto 4, 3) := by decide +kernel
theorem dc_Re_isSign_34 : decode M_Re_isSign.2.1 34 = .ok (.iconst 0, 1) := by decide +kernel
theorem dc_Re_isSign_35 : decode M_Re_isSign.2.1 35 = .ok (.ireturn, 1) := by decide +kernel
def f_Re_isSign (a0 : Int32) (h : xH) : Option (Int32 × xH) := jn (fun (x1 : Int32) => some (nb x1, h)) (fun k2 => jn (fun (x3 : Unit) => k2 (1 : Int32)) (fun k4 => jn (fun (x5 : Unit) => jn (fun (x7 : Unit) => if a0 = (45 : Int32) then k4 () else k2 (0 : Int32)) (fun k8 => if a0 < (59 : Int32) then k8 () else if a0 ≤ (61 : Int32) then k4 () else k8 ())) (fun k6 => if a0 < (40 : Int32) then k6 () else if a0 ≤ (43 : Int32) then k4 () else k6 ())))
theorem t_Re_isSign {l : Launch} {z : xZ} {d mc ms : Nat} {Ph : Option xV → xH → Prop} {a0 : Int32}  {h : xH} (hd : 1 ≤ d) (hk : OK (f_Re_isSign a0 h) (fun q => Ph (some (xI q.1)) q.2)) : Sx l z d mc ms M_Re_isSign 0 (x_en [xI a0] 1) [] h Ph := by
  unfold f_Re_isSign at hk
  refine sx_eq (lc2 := [some (xI a0)]) rfl rfl ?_
  refine sx_iload_n dc_Re_isSign_0 rfl ?_
  refine sx_bipush (v := (40 : Int32)) dc_Re_isSign_1 (by decide) ?_
  refine hk.j (X := fun x1 => Sx l z d mc ms M_Re_isSign 35 [some (xI a0)] [xI x1] h Ph) (fun x1 hk => ?_) (fun k2 jk2 hk => ?_)
  · exact sx_retT dc_Re_isSign_35 (Or.inl ⟨rfl, rfl⟩) rfl hk.val
  · refine hk.j (X := fun x3 => Sx l z d mc ms M_Re_isSign 30 [some (xI a0)] [] h Ph) (fun x3 hk => ?_) (fun k4 jk4 hk => ?_)
    · refine sx_iconst (v := (1 : Int32)) dc_Re_isSign_30 (by decide) ?_
      refine sx_goto (tgt := 35) dc_Re_isSign_31 (by decide) ?_
      exact jk2 (1 : Int32) hk
    · refine hk.j (X := fun x5 => Sx l z d mc ms M_Re_isSign 12 [some (xI a0)] [] h Ph) (fun x5 hk => ?_) (fun k6 jk6 hk => ?_)
      · refine sx_iload_n dc_Re_isSign_12 rfl ?_
        refine sx_bipush (v := (59 : Int32)) dc_Re_isSign_13 (by decide) ?_
        refine hk.j (X := fun x7 => Sx l z d mc ms M_Re_isSign 24 [some (xI a0)] [] h Ph) (fun x7 hk => ?_) (fun k8 jk8 hk => ?_)
        · refine sx_iload_n dc_Re_isSign_24 rfl ?_
          refine sx_bipush (v := (45 : Int32)) dc_Re_isSign_25 (by decide) ?_
          refine sx_icmp_ne (tgt := 34) dc_Re_isSign_27 (by decide) (fun c9 => ?_) (fun c9 => ?_)
          · replace hk := hk.f c9
            refine sx_iconst (v := (0 : Int32)) dc_Re_isSign_34 (by decide) ?_
            exact jk2 (0 : Int32) hk
          · replace hk := hk.t c9
            exact jk4 () hk
        · refine sx_icmp_lt (tgt := 24) dc_Re_isSign_15 (by decide) (fun c10 => ?_) (fun c10 => ?_)
          · replace hk := hk.t c10
            exact jk8 () hk
          · replace hk := hk.f c10
            refine sx_iload_n dc_Re_isSign_18 rfl ?_
            refine sx_bipush (v := (61 : Int32)) dc_Re_isSign_19 (by decide) ?_
            refine sx_icmp_le (tgt := 30) dc_Re_isSign_21 (by decide) (fun c11 => ?_) (fun c11 => ?_)
            · replace hk := hk.t c11
              exact jk4 () hk
            · replace hk := hk.f c11
              exact jk8 () hk
      · refine sx_icmp_lt (tgt := 12) dc_Re_isSign_3 (by decide) (fun c12 => ?_) (fun c12 => ?_)
        · replace hk := hk.t c12
          exact jk6 () hk
        · replace hk := hk.f c12
          refine sx_iload_n dc_Re_isSign_6 rfl ?_
          refine sx_bipush (v := (43 : Int32)) dc_Re_isSign_7 (by decide) ?_
          refine sx_icmp_le (tgt := 30) dc_Re_isSign_9 (by decide) (fun c13 => ?_) (fun c13 => ?_)
          · replace hk := hk.t c13
            exact jk4 () hk
          · replace hk := hk.f c13
            exact jk6 () hk
theorem dc_Re_advance_0 : decode M_Re_advance.2.1 0 = .ok (.aload_n 0, 1) := by decide +kernel
theorem dc_Re_advance_1 : decode M_Re_advance.2.1 1 = .ok (.getfield 44, 3) := by decide +kernel
theorem dc_Re_advance_4 : decode M_Re_advance.2.1 4 = .ok (.aload_n 0, 1) := by decide +kernel
theorem dc_Re_advance_5 : decode M_Re_advance.2.1 5 = .ok (.getfield 23, 3) := by decide +kernel
theorem dc_Re_advance_8 : decode M_Re_advance.2.1 8 = .ok (.if_icmp .ge 44, 3) := by decide +kernel
theorem dc_Re_advance_11 : decode M_Re_advance.2.1 11 = .ok (.aload_n 0, 1) := by decide +kernel
theorem dc_Re_advance_12 : decode M_Re_advance.2.1 12 = .ok (.getfield 11, 3) := by decide +kernel
theorem dc_Re_advance_15 : decode M_Re_advance.2.1 15 = .ok (.aload_n 0, 1) := by decide +kernel
theorem dc_Re_advance_16 : decode M_Re_advance.2.1 16 = .ok (.getfield 44, 3) := by decide +kernel
theorem dc_Re_advance_19 : decode M_Re_advance.2.1 19 = .ok (.iaload, 1) := by decide +kernel
theorem dc_Re_advance_20 : decode M_Re_advance.2.1 20 = .ok (.bipush 32, 2) := by decide +kernel
theorem dc_Re_advance_22 : decode M_Re_advance.2.1 22 = .ok (.if_icmp .eq 17, 3) := by decide +kernel
theorem dc_Re_advance_25 : decode M_Re_advance.2.1 25 = .ok (.aload_n 0, 1) := by decide +kernel
theorem dc_Re_advance_26 : decode M_Re_advance.2.1 26 = .ok (.getfield 11, 3) := by decide +kernel
theorem dc_Re_advance_29 : decode M_Re_advance.2.1 29 = .ok (.aload_n 0, 1) := by decide +kernel
theorem dc_Re_advance_30 : decode M_Re_advance.2.1 30 = .ok (.getfield 44, 3) := by decide +kernel
theorem dc_Re_advance_33 : decode M_Re_advance.2.1 33 = .ok (.iaload, 1) := by decide +kernel
theorem dc_Re_advance_34 : decode M_Re_advance.2.1 34 = .ok (.bipush 10, 2) := by decide +kernel
theorem dc_Re_advance_36 : decode M_Re_advance.2.1 36 = .ok (.if_icmp .ne 16, 3) := by decide +kernel
theorem dc_Re_advance_39 : decode M_Re_advance.2.1 39 = .ok (.aload_n 0, 1) := by decide +kernel
theorem dc_Re_advance_40 : decode M_Re_advance.2.1 40 = .ok (.dup, 1) := by decide +kernel
theorem dc_Re_advance_41 : decode M_Re_advance.2.1 41 = .ok (.getfield 44, 3) := by decide +kernel
theorem dc_Re_advance_44 : decode M_Re_advance.2.1 44 = .ok (.iconst 1, 1) := by decide +kernel
theorem dc_Re_advance_45 : decode M_Re_advance.2.1 45 = .ok (.iadd, 1) := by decide +kernel
theorem dc_Re_advance_46 : decode M_Re_advance.2.1 46 = .ok (.putfield 44, 3) := by decide +kernel
theorem dc_Re_advance_49 : decode M_Re_advance.2.1 49 = .ok (.goto (-49), 3) := by decide +kernel
theorem dc_Re_advance_52 : decode M_Re_advance.2.1 52 = .ok (.aload_n 0, 1) := by decide +kernel
theorem dc_Re_advance_53 : decode M_Re_advance.2.1 53 = .ok (.aload_n 0, 1) := by decide +kernel
theorem dc_Re_advance_54 : decode M_Re_advance.2.1 54 = .ok (.getfield 44, 3) := by decide +kernel
theorem dc_Re_advance_57 : decode M_Re_advance.2.1 57 = .ok (.putfield 57, 3) := by decide +kernel
theorem dc_Re_advance_60 : decode M_Re_advance.2.1 60 = .ok (.aload_n 0, 1) := by decide +kernel
theorem dc_Re_advance_61 : decode M_Re_advance.2.1 61 = .ok (.getfield 57, 3) := by decide +kernel
theorem dc_Re_advance_64 : decode M_Re_advance.2.1 64 = .ok (.aload_n 0, 1) := by decide +kernel
theorem dc_Re_advance_65 : decode M_Re_advance.2.1 65 = .ok (.getfield 23, 3) := by decide +kernel
theorem dc_Re_advance_68 : decode M_Re_advance.2.1 68 = .ok (.if_icmp .lt 11, 3) := by decide +kernel
theorem dc_Re_advance_71 : decode M_Re_advance.2.1 71 = .ok (.aload_n 0, 1) := by decide +kernel
theorem dc_Re_advance_72 : decode M_Re_advance.2.1 72 = .ok (.iconst 0, 1) := by decide +kernel
theorem dc_Re_advance_73 : decode M_Re_advance.2.1 73 = .ok (.putfield 60, 3) := by decide +kernel
theorem dc_Re_advance_76 : decode M_Re_advance.2.1 76 = .ok (.goto 97, 3) := by decide +kernel
theorem dc_Re_advance_79 : decode M_Re_advance.2.1 79 = .ok (.aload_n 0, 1) := by decide +kernel
theorem dc_Re_advance_80 : decode M_Re_advance.2.1 80 = .ok (.getfield 11, 3) := by decide +kernel
theorem dc_Re_advance_83 : decode M_Re_advance.2.1 83 = .ok (.aload_n 0, 1) := by decide +kernel
theorem dc_Re_advance_84 : decode M_Re_advance.2.1 84 = .ok (.getfield 57, 3) := by decide +kernel
theorem dc_Re_advance_87 : decode M_Re_advance.2.1 87 = .ok (.iaload, 1) := by decide +kernel
theorem dc_Re_advance_88 : decode M_Re_advance.2.1 88 = .ok (.invokestatic 91, 3) := by decide +kernel
theorem dc_Re_advance_91 : decode M_Re_advance.2.1 91 = .ok (.ifCond .eq 14, 3) := by decide +kernel
theorem dc_Re_advance_94 : decode M_Re_advance.2.1 94 = .ok (.aload_n 0, 1) := by decide +kernel
theorem dc_Re_advance_95 : decode M_Re_advance.2.1 95 = .ok (.aload_n 0, 1) := by decide +kernel
theorem dc_Re_advance_96 : decode M_Re_advance.2.1 96 = .ok (.invokevirtual 94, 3) := by decide +kernel
theorem dc_Re_advance_99 : decode M_Re_advance.2.1 99 = .ok (.putfield 60, 3) := by decide +kernel
theorem dc_Re_advance_102 : decode M_Re_advance.2.1 102 = .ok (.goto 71, 3) := by decide +kernel
theorem dc_Re_advance_105 : decode M_Re_advance.2.1 105 = .ok (.aload_n 0, 1) := by decide +kernel
theorem dc_Re_advance_106 : decode M_Re_advance.2.1 106 = .ok (.getfield 11, 3) := by decide +kernel
theorem dc_Re_advance_109 : decode M_Re_advance.2.1 109 = .ok (.aload_n 0, 1) := by decide +kernel
theorem dc_Re_advance_110 : decode M_Re_advance.2.1 110 = .ok (.getfield 57, 3) := by decide +kernel
theorem dc_Re_advance_113 : decode M_Re_advance.2.1 113 = .ok (.iaload, 1) := by decide +kernel
theorem dc_Re_advance_114 : decode M_Re_advance.2.1 114 = .ok (.invokestatic 98, 3) := by decide +kernel
theorem dc_Re_advance_117 : decode M_Re_advance.2.1 117 = .ok (.ifCond .eq 14, 3) := by decide +kernel
theorem dc_Re_advance_120 : decode M_Re_advance.2.1 120 = .ok (.aload_n 0, 1) := by decide +kernel
theorem dc_Re_advance_121 : decode M_Re_advance.2.1 121 = .ok (.aload_n 0, 1) := by decide +kernel
theorem dc_Re_advance_122 : decode M_Re_advance.2.1 122 = .ok (.invokevirtual 101, 3) := by decide +kernel
theorem dc_Re_advance_125 : decode M_Re_advance.2.1 125 = .ok (.putfield 60, 3) := by decide +kernel
theorem dc_Re_advance_128 : decode M_Re_advance.2.1 128 = .ok (.goto 45, 3) := by decide +kernel
theorem dc_Re_advance_131 : decode M_Re_advance.2.1 131 = .ok (.aload_n 0, 1) := by decide +kernel
theorem dc_Re_advance_132 : decode M_Re_advance.2.1 132 = .ok (.aload_n 0, 1) := by decide +kernel
theorem dc_Re_advance_133 : decode M_Re_advance.2.1 133 = .ok (.getfield 57, 3) := by decide +kernel
theorem dc_Re_advance_136 : decode M_Re_advance.2.1 136 = .ok (.iconst 1, 1) := by decide +kernel
theorem dc_Re_advance_137 : decode M_Re_advance.2.1 137 = .ok (.iadd, 1) := by decide +kernel
theorem dc_Re_advance_138 : decode M_Re_advance.2.1 138 = .ok (.putfield 44, 3) := by decide +kernel
theorem dc_Re_advance_141 : decode M_Re_advance.2.1 141 = .ok (.aload_n 0, 1) := by decide +kernel
theorem dc_Re_advance_142 : decode M_Re_advance.2.1 142 = .ok (.aload_n 0, 1) := by decide +kernel
theorem dc_Re_advance_143 : decode M_Re_advance.2.1 143 = .ok (.getfield 11, 3) := by decide +kernel
theorem dc_Re_advance_146 : decode M_Re_advance.2.1 146 = .ok (.aload_n 0, 1) := by decide +kernel
theorem dc_Re_advance_147 : decode M_Re_advance.2.1 147 = .ok (.getfield 57, 3) := by decide +kernel
theorem dc_Re_advance_150 : decode M_Re_advance.2.1 150 = .ok (.iaload, 1) := by decide +kernel
theorem dc_Re_advance_151 : decode M_Re_advance.2.1 151 = .ok (.invokestatic 104, 3) := by decide +kernel
theorem dc_Re_advance_154 : decode M_Re_advance.2.1 154 = .ok (.ifCond .eq 15, 3) := by decide +kernel
theorem dc_Re_advance_157 : decode M_Re_advance.2.1 157 = .ok (.aload_n 0, 1) := by decide +kernel
theorem dc_Re_advance_158 : decode M_Re_advance.2.1 158 = .ok (.getfield 11, 3) := by decide +kernel
theorem dc_Re_advance_161 : decode M_Re_advance.2.1 161 = .ok (.aload_n 0, 1) := by decide +kernel
theorem dc_Re_advance_162 : decode M_Re_advance.2.1 162 = .ok (.getfield 57, 3) := by decide +kernel
theorem dc_Re_advance_165 : decode M_Re_advance.2.1 165 = .ok (.iaload, 1) := by decide +kernel
theorem dc_Re_advance_166 : decode M_Re_advance.2.1 166 = .ok (.goto 4, 3) := by decide +kernel
theorem dc_Re_advance_169 : decode M_Re_advance.2.1 169 = .ok (.iconst 2, 1) := by decide +kernel
theorem dc_Re_advance_170 : decode M_Re_advance.2.1 170 = .ok (.putfield 60, 3) := by decide +kernel
theorem dc_Re_advance_173 : decode M_Re_advance.2.1 173 = .ok (.return_, 1) := by decide +kernel
def f_Re_advance_L0 (a0 : Nat) : Nat → xH → (xH → Option (Unit × xH)) → Option (Unit × xH)
  | 0, _, _ => none
  | n + 1, h, K => gd (hK h a0 = 1) (if (hI h a0 1) ≤ (hI h a0 3) then K h else gd (hK h (hR h a0 0) = 12) (gd (¬ ((hI h a0 3) < 0 ∨ hL h (hR h a0 0) ≤ (hI h a0 3).toNatClampNeg)) (jn (fun (x30 : Unit) => f_Re_advance_L0 a0 n (hIu h a0 3 ((hI h a0 3) + (1 : Int32))) K) (fun k31 => if (hI h (hR h a0 0) (hI h a0 3).toNatClampNeg) = (32 : Int32) then k31 () else gd (¬ ((hI h a0 3) < 0 ∨ hL h (hR h a0 0) ≤ (hI h a0 3).toNatClampNeg)) (if (hI h (hR h a0 0) (hI h a0 3).toNatClampNeg) = (10 : Int32) then k31 () else K h)))))
def f_Re_advance (a0 : Nat) (h : xH) : Option (Unit × xH) := f_Re_advance_L0 a0 fu h (fun h35 => gd (hK h35 a0 = 1) (jn (fun (x37 : xH) => some ((), x37)) (fun k38 => if (hI (hIu h35 a0 2 (hI h35 a0 3)) a0 2) < (hI (hIu h35 a0 2 (hI h35 a0 3)) a0 1) then gd (hK h35 (hR h35 a0 0) = 12) (gd (¬ ((hI (hIu h35 a0 2 (hI h35 a0 3)) a0 2) < 0 ∨ hL h35 (hR h35 a0 0) ≤ (hI (hIu h35 a0 2 (hI h35 a0 3)) a0 2).toNatClampNeg)) (Option.bind (f_Re_isLetter (hI (hIu h35 a0 2 (hI h35 a0 3)) (hR h35 a0 0) (hI (hIu h35 a0 2 (hI h35 a0 3)) a0 2).toNatClampNeg) (hIu h35 a0 2 (hI h35 a0 3))) (fun q42 => if q42.1 = 0 then gd (hK q42.2 a0 = 1) (gd (hK q42.2 (hR q42.2 a0 0) = 12) (gd (¬ ((hI q42.2 a0 2) < 0 ∨ hL q42.2 (hR q42.2 a0 0) ≤ (hI q42.2 a0 2).toNatClampNeg)) (Option.bind (f_Re_isDigit (hI q42.2 (hR q42.2 a0 0) (hI q42.2 a0 2).toNatClampNeg) q42.2) (fun q47 => if q47.1 = 0 then gd (hK q47.2 a0 = 1) (gd (hK q47.2 (hR q47.2 a0 0) = 12) (gd (¬ ((hI (hIu q47.2 a0 3 ((hI q47.2 a0 2) + (1 : Int32))) a0 2) < 0 ∨ hL q47.2 (hR q47.2 a0 0) ≤ (hI (hIu q47.2 a0 3 ((hI q47.2 a0 2) + (1 : Int32))) a0 2).toNatClampNeg)) (Option.bind (f_Re_isSign (hI (hIu q47.2 a0 3 ((hI q47.2 a0 2) + (1 : Int32))) (hR q47.2 a0 0) (hI (hIu q47.2 a0 3 ((hI q47.2 a0 2) + (1 : Int32))) a0 2).toNatClampNeg) (hIu q47.2 a0 3 ((hI q47.2 a0 2) + (1 : Int32)))) (fun q52 => jn (fun (x53 : Int32) => gd (hK q52.2 a0 = 1) (k38 (hIu q52.2 a0 4 x53))) (fun k54 => if q52.1 = 0 then k54 (2 : Int32) else gd (hK q52.2 a0 = 1) (gd (hK q52.2 (hR q52.2 a0 0) = 12) (gd (¬ ((hI q52.2 a0 2) < 0 ∨ hL q52.2 (hR q52.2 a0 0) ≤ (hI q52.2 a0 2).toNatClampNeg)) (k54 (hI q52.2 (hR q52.2 a0 0) (hI q52.2 a0 2).toNatClampNeg))))))))) else gd (hK q47.2 a0 = 1) (Option.bind (f_Re_numberToken a0 q47.2) (fun q60 => gd (hK q60.2 a0 = 1) (k38 (hIu q60.2 a0 4 q60.1)))))))) else gd (hK q42.2 a0 = 1) (Option.bind (f_Re_wordToken a0 q42.2) (fun q63 => gd (hK q63.2 a0 = 1) (k38 (hIu q63.2 a0 4 q63.1))))))) else k38 (hIu (hIu h35 a0 2 (hI h35 a0 3)) a0 4 (0 : Int32)))))
theorem t_Re_advance_L0 {l : Launch} {z : xZ} {d mc ms : Nat} {Ph : Option xV → xH → Prop} {a0 : Nat}  (hd : 1 ≤ d) : ∀ (n : Nat)  (h : xH) (K : xH → Option (Unit × xH)), OK (f_Re_advance_L0 a0 n h K) (fun q => Ph (none) q.2) → (∀  (h : xH), OK (K  h) (fun q => Ph (none) q.2) → Sx l z d mc ms M_Re_advance 52 [some (xR a0)] [] h Ph) → Sx l z d mc ms M_Re_advance 0 [some (xR a0)] [] h Ph := by
  intro n
  induction n with
  | zero => intro  h K hk hE; exact hk.no
  | succ n ih =>
    intro  h K hk hE
    rw [f_Re_advance_L0] at hk
    refine sx_aload_n dc_Re_advance_0 rfl ?_
    obtain ⟨g26, hk⟩ := hk.g
    refine sx_get (ci := 1) (k := 3) rfl (by decide) wF_Re_44 g26 dc_Re_advance_1 ?_
    refine sx_aload_n dc_Re_advance_4 rfl ?_
    refine sx_get (ci := 1) (k := 1) rfl (by decide) wF_Re_23 g26 dc_Re_advance_5 ?_
    refine sx_icmp_ge (tgt := 52) dc_Re_advance_8 (by decide) (fun c27 => ?_) (fun c27 => ?_)
    · replace hk := hk.t c27
      exact hE  h hk
    · replace hk := hk.f c27
      refine sx_aload_n dc_Re_advance_11 rfl ?_
      refine sx_get (ci := 1) (k := 0) rfl (by decide) wF_Re_11 g26 dc_Re_advance_12 ?_
      refine sx_aload_n dc_Re_advance_15 rfl ?_
      refine sx_get (ci := 1) (k := 3) rfl (by decide) wF_Re_44 g26 dc_Re_advance_16 ?_
      obtain ⟨g28, hk⟩ := hk.g
      obtain ⟨g29, hk⟩ := hk.g
      refine sx_iald g28 g29 dc_Re_advance_19 ?_
      refine sx_bipush (v := (32 : Int32)) dc_Re_advance_20 (by decide) ?_
      refine hk.j (X := fun x30 => Sx l z d mc ms M_Re_advance 39 [some (xR a0)] [] h Ph) (fun x30 hk => ?_) (fun k31 jk31 hk => ?_)
      · refine sx_aload_n dc_Re_advance_39 rfl ?_
        refine sx_dup dc_Re_advance_40 rfl ?_
        refine sx_get (ci := 1) (k := 3) rfl (by decide) wF_Re_44 g26 dc_Re_advance_41 ?_
        refine sx_iconst (v := (1 : Int32)) dc_Re_advance_44 (by decide) ?_
        refine sx_iadd dc_Re_advance_45 ?_
        refine sx_putI (ci := 1) (k := 3) rfl (by decide) wF_Re_44 rfl g26 (Or.inl rfl) dc_Re_advance_46 ?_
        refine sx_goto (tgt := 0) dc_Re_advance_49 (by decide) ?_
        exact ih  (hIu h a0 3 ((hI h a0 3) + (1 : Int32))) _ hk hE
      · refine sx_icmp_eq (tgt := 39) dc_Re_advance_22 (by decide) (fun c32 => ?_) (fun c32 => ?_)
        · replace hk := hk.t c32
          exact jk31 () hk
        · replace hk := hk.f c32
          refine sx_aload_n dc_Re_advance_25 rfl ?_
          refine sx_get (ci := 1) (k := 0) rfl (by decide) wF_Re_11 g26 dc_Re_advance_26 ?_
          refine sx_aload_n dc_Re_advance_29 rfl ?_
          refine sx_get (ci := 1) (k := 3) rfl (by decide) wF_Re_44 g26 dc_Re_advance_30 ?_
          obtain ⟨g33, hk⟩ := hk.g
          refine sx_iald g28 g33 dc_Re_advance_33 ?_
          refine sx_bipush (v := (10 : Int32)) dc_Re_advance_34 (by decide) ?_
          refine sx_icmp_ne (tgt := 52) dc_Re_advance_36 (by decide) (fun c34 => ?_) (fun c34 => ?_)
          · replace hk := hk.f c34
            exact hE  h hk
          · replace hk := hk.t c34
            exact jk31 () hk
theorem t_Re_advance {l : Launch} {z : xZ} {d mc ms : Nat} {Ph : Option xV → xH → Prop} {a0 : Nat}  {h : xH} (hd : 7 ≤ d) (hk : OK (f_Re_advance a0 h) (fun q => Ph (none) q.2)) : Sx l z d mc ms M_Re_advance 0 (x_en [xR a0] 1) [] h Ph := by
  unfold f_Re_advance at hk
  refine sx_eq (lc2 := [some (xR a0)]) rfl rfl ?_
  refine t_Re_advance_L0 (by omega) _  _ _ hk (fun  h35 hk => ?_)
  refine sx_aload_n dc_Re_advance_52 rfl ?_
  refine sx_aload_n dc_Re_advance_53 rfl ?_
  obtain ⟨g36, hk⟩ := hk.g
  refine sx_get (ci := 1) (k := 3) rfl (by decide) wF_Re_44 g36 dc_Re_advance_54 ?_
  refine sx_putI (ci := 1) (k := 2) rfl (by decide) wF_Re_57 rfl g36 (Or.inl rfl) dc_Re_advance_57 ?_
  refine sx_aload_n dc_Re_advance_60 rfl ?_
  refine sx_get (ci := 1) (k := 2) rfl (by decide) wF_Re_57 g36 dc_Re_advance_61 ?_
  refine sx_aload_n dc_Re_advance_64 rfl ?_
  refine sx_get (ci := 1) (k := 1) rfl (by decide) wF_Re_23 g36 dc_Re_advance_65 ?_
  refine hk.j (X := fun x37 => Sx l z d mc ms M_Re_advance 173 [some (xR a0)] [] x37 Ph) (fun x37 hk => ?_) (fun k38 jk38 hk => ?_)
  · exact sx_retV dc_Re_advance_173 rfl hk.val
  · refine sx_icmp_lt (tgt := 79) dc_Re_advance_68 (by decide) (fun c39 => ?_) (fun c39 => ?_)
    · replace hk := hk.t c39
      refine sx_aload_n dc_Re_advance_79 rfl ?_
      refine sx_get (ci := 1) (k := 0) rfl (by decide) wF_Re_11 g36 dc_Re_advance_80 ?_
      refine sx_aload_n dc_Re_advance_83 rfl ?_
      refine sx_get (ci := 1) (k := 2) rfl (by decide) wF_Re_57 g36 dc_Re_advance_84 ?_
      obtain ⟨g40, hk⟩ := hk.g
      obtain ⟨g41, hk⟩ := hk.g
      refine sx_iald g40 g41 dc_Re_advance_87 ?_
      obtain ⟨q42, eq42, hk⟩ := hk.bind
      refine sx_callS (d2 := d - 1) (mc2 := 0) (ms2 := 0) (as := [xI (hI (hIu h35 a0 2 (hI h35 a0 3)) (hR h35 a0 0) (hI (hIu h35 a0 2 (hI h35 a0 3)) a0 2).toNatClampNeg)]) mk_Re_isLetter rfl wM_Re_91 mt_Re_isLetter rfl (Nat.le_of_ble_eq_true rfl) (Nat.le_of_ble_eq_true rfl) dc_Re_advance_88 (by omega) (Nat.zero_le _) (Nat.zero_le _) ?_
      refine t_Re_isLetter (by omega) ⟨q42, eq42, ?_⟩
      refine sx_eq0 (lc2 := [some (xR a0)]) (st2 := [xI q42.1]) rfl rfl ?_
      refine sx_if_eq (tgt := 105) dc_Re_advance_91 (by decide) (fun c43 => ?_) (fun c43 => ?_)
      · replace hk := hk.t c43
        refine sx_aload_n dc_Re_advance_105 rfl ?_
        obtain ⟨g44, hk⟩ := hk.g
        refine sx_get (ci := 1) (k := 0) rfl (by decide) wF_Re_11 g44 dc_Re_advance_106 ?_
        refine sx_aload_n dc_Re_advance_109 rfl ?_
        refine sx_get (ci := 1) (k := 2) rfl (by decide) wF_Re_57 g44 dc_Re_advance_110 ?_
        obtain ⟨g45, hk⟩ := hk.g
        obtain ⟨g46, hk⟩ := hk.g
        refine sx_iald g45 g46 dc_Re_advance_113 ?_
        obtain ⟨q47, eq47, hk⟩ := hk.bind
        refine sx_callS (d2 := d - 1) (mc2 := 0) (ms2 := 0) (as := [xI (hI q42.2 (hR q42.2 a0 0) (hI q42.2 a0 2).toNatClampNeg)]) mk_Re_isDigit rfl wM_Re_98 mt_Re_isDigit rfl (Nat.le_of_ble_eq_true rfl) (Nat.le_of_ble_eq_true rfl) dc_Re_advance_114 (by omega) (Nat.zero_le _) (Nat.zero_le _) ?_
        refine t_Re_isDigit (by omega) ⟨q47, eq47, ?_⟩
        refine sx_eq0 (lc2 := [some (xR a0)]) (st2 := [xI q47.1]) rfl rfl ?_
        refine sx_if_eq (tgt := 131) dc_Re_advance_117 (by decide) (fun c48 => ?_) (fun c48 => ?_)
        · replace hk := hk.t c48
          refine sx_aload_n dc_Re_advance_131 rfl ?_
          refine sx_aload_n dc_Re_advance_132 rfl ?_
          obtain ⟨g49, hk⟩ := hk.g
          refine sx_get (ci := 1) (k := 2) rfl (by decide) wF_Re_57 g49 dc_Re_advance_133 ?_
          refine sx_iconst (v := (1 : Int32)) dc_Re_advance_136 (by decide) ?_
          refine sx_iadd dc_Re_advance_137 ?_
          refine sx_putI (ci := 1) (k := 3) rfl (by decide) wF_Re_44 rfl g49 (Or.inl rfl) dc_Re_advance_138 ?_
          refine sx_aload_n dc_Re_advance_141 rfl ?_
          refine sx_aload_n dc_Re_advance_142 rfl ?_
          refine sx_get (ci := 1) (k := 0) rfl (by decide) wF_Re_11 g49 dc_Re_advance_143 ?_
          refine sx_aload_n dc_Re_advance_146 rfl ?_
          refine sx_get (ci := 1) (k := 2) rfl (by decide) wF_Re_57 g49 dc_Re_advance_147 ?_
          obtain ⟨g50, hk⟩ := hk.g
          obtain ⟨g51, hk⟩ := hk.g
          refine sx_iald g50 g51 dc_Re_advance_150 ?_
          obtain ⟨q52, eq52, hk⟩ := hk.bind
          refine sx_callS (d2 := d - 1) (mc2 := 0) (ms2 := 0) (as := [xI (hI (hIu q47.2 a0 3 ((hI q47.2 a0 2) + (1 : Int32))) (hR q47.2 a0 0) (hI (hIu q47.2 a0 3 ((hI q47.2 a0 2) + (1 : Int32))) a0 2).toNatClampNeg)]) mk_Re_isSign rfl wM_Re_104 mt_Re_isSign rfl (Nat.le_of_ble_eq_true rfl) (Nat.le_of_ble_eq_true rfl) dc_Re_advance_151 (by omega) (Nat.zero_le _) (Nat.zero_le _) ?_
          refine t_Re_isSign (by omega) ⟨q52, eq52, ?_⟩
          refine sx_eq0 (lc2 := [some (xR a0)]) (st2 := [xI q52.1, xR a0]) rfl rfl ?_
          refine hk.j (X := fun x53 => Sx l z d mc ms M_Re_advance 170 [some (xR a0)] [xI x53, xR a0] q52.2 Ph) (fun x53 hk => ?_) (fun k54 jk54 hk => ?_)
          · obtain ⟨g55, hk⟩ := hk.g
            refine sx_putI (ci := 1) (k := 4) rfl (by decide) wF_Re_60 rfl g55 (Or.inl rfl) dc_Re_advance_170 ?_
            exact jk38 (hIu q52.2 a0 4 x53) hk
          · refine sx_if_eq (tgt := 169) dc_Re_advance_154 (by decide) (fun c56 => ?_) (fun c56 => ?_)
            · replace hk := hk.t c56
              refine sx_iconst (v := (2 : Int32)) dc_Re_advance_169 (by decide) ?_
              exact jk54 (2 : Int32) hk
            · replace hk := hk.f c56
              refine sx_aload_n dc_Re_advance_157 rfl ?_
              obtain ⟨g57, hk⟩ := hk.g
              refine sx_get (ci := 1) (k := 0) rfl (by decide) wF_Re_11 g57 dc_Re_advance_158 ?_
              refine sx_aload_n dc_Re_advance_161 rfl ?_
              refine sx_get (ci := 1) (k := 2) rfl (by decide) wF_Re_57 g57 dc_Re_advance_162 ?_
              obtain ⟨g58, hk⟩ := hk.g
              obtain ⟨g59, hk⟩ := hk.g
              refine sx_iald g58 g59 dc_Re_advance_165 ?_
              refine sx_goto (tgt := 170) dc_Re_advance_166 (by decide) ?_
              exact jk54 (hI q52.2 (hR q52.2 a0 0) (hI q52.2 a0 2).toNatClampNeg) hk
        · replace hk := hk.f c48
          refine sx_aload_n dc_Re_advance_120 rfl ?_
          refine sx_aload_n dc_Re_advance_121 rfl ?_
          obtain ⟨g61, hk⟩ := hk.g
          obtain ⟨q60, eq60, hk⟩ := hk.bind
          refine sx_callV (d2 := d - 1) (mc2 := 0) (ms2 := 0) (as := []) mk_Re_numberToken rfl (x_rk (ci := 1) g61 rfl rfl) wM_Re_101 mi_Re_numberToken me_Re_numberToken rfl (Nat.le_of_ble_eq_true rfl) (Nat.le_of_ble_eq_true rfl) dc_Re_advance_122 (by omega) (Nat.zero_le _) (Nat.zero_le _) ?_
          refine t_Re_numberToken (by omega) ⟨q60, eq60, ?_⟩
          refine sx_eq0 (lc2 := [some (xR a0)]) (st2 := [xI q60.1, xR a0]) rfl rfl ?_
          obtain ⟨g62, hk⟩ := hk.g
          refine sx_putI (ci := 1) (k := 4) rfl (by decide) wF_Re_60 rfl g62 (Or.inl rfl) dc_Re_advance_125 ?_
          refine sx_goto (tgt := 173) dc_Re_advance_128 (by decide) ?_
          exact jk38 (hIu q60.2 a0 4 q60.1) hk
      · replace hk := hk.f c43
        refine sx_aload_n dc_Re_advance_94 rfl ?_
        refine sx_aload_n dc_Re_advance_95 rfl ?_
        obtain ⟨g64, hk⟩ := hk.g
        obtain ⟨q63, eq63, hk⟩ := hk.bind
        refine sx_callV (d2 := d - 1) (mc2 := 0) (ms2 := 0) (as := []) mk_Re_wordToken rfl (x_rk (ci := 1) g64 rfl rfl) wM_Re_94 mi_Re_wordToken me_Re_wordToken rfl (Nat.le_of_ble_eq_true rfl) (Nat.le_of_ble_eq_true rfl) dc_Re_advance_96 (by omega) (Nat.zero_le _) (Nat.zero_le _) ?_
        refine t_Re_wordToken (by omega) ⟨q63, eq63, ?_⟩
        refine sx_eq0 (lc2 := [some (xR a0)]) (st2 := [xI q63.1, xR a0]) rfl rfl ?_
        obtain ⟨g65, hk⟩ := hk.g
        refine sx_putI (ci := 1) (k := 4) rfl (by decide) wF_Re_60 rfl g65 (Or.inl rfl) dc_Re_advance_99 ?_
        refine sx_goto (tgt := 173) dc_Re_advance_102 (by decide) ?_
        exact jk38 (hIu q63.2 a0 4 q63.1) hk
    · replace hk := hk.f c39
      refine sx_aload_n dc_Re_advance_71 rfl ?_
      refine sx_iconst (v := (0 : Int32)) dc_Re_advance_72 (by decide) ?_
      refine sx_putI (ci := 1) (k := 4) rfl (by decide) wF_Re_60 rfl g36 (Or.inl rfl) dc_Re_advance_73 ?_
      refine sx_goto (tgt := 173) dc_Re_advance_76 (by decide) ?_
      exact jk38 (hIu (hIu h35 a0 2 (hI h35 a0 3)) a0 4 (0 : Int32)) hk
theorem dc_Re_takes_0 : decode M_Re_takes.2.1 0 = .ok (.aload_n 0, 1) := by decide +kernel
theorem dc_Re_takes_1 : decode M_Re_takes.2.1 1 = .ok (.getfield 60, 3) := by decide +kernel
theorem dc_Re_takes_4 : decode M_Re_takes.2.1 4 = .ok (.iload_n 1, 1) := by decide +kernel
theorem dc_Re_takes_5 : decode M_Re_takes.2.1 5 = .ok (.if_icmp .eq 5, 3) := by decide +kernel
theorem dc_Re_takes_8 : decode M_Re_takes.2.1 8 = .ok (.iconst 0, 1) := by decide +kernel
theorem dc_Re_takes_9 : decode M_Re_takes.2.1 9 = .ok (.ireturn, 1) := by decide +kernel
theorem dc_Re_takes_10 : decode M_Re_takes.2.1 10 = .ok (.aload_n 0, 1) := by decide +kernel
theorem dc_Re_takes_11 : decode M_Re_takes.2.1 11 = .ok (.invokevirtual 47, 3) := by decide +kernel
theorem dc_Re_takes_14 : decode M_Re_takes.2.1 14 = .ok (.iconst 1, 1) := by decide +kernel
theorem dc_Re_takes_15 : decode M_Re_takes.2.1 15 = .ok (.ireturn, 1) := by decide +kernel
def f_Re_takes (a0 : Nat) (a1 : Int32) (h : xH) : Option (Int32 × xH) := gd (hK h a0 = 1) (if (hI h a0 4) = a1 then Option.bind (f_Re_advance a0 h) (fun q5 => some ((1 : Int32), q5.2)) else some ((0 : Int32), h))
theorem t_Re_takes {l : Launch} {z : xZ} {d mc ms : Nat} {Ph : Option xV → xH → Prop} {a0 : Nat} {a1 : Int32}  {h : xH} (hd : 8 ≤ d) (hk : OK (f_Re_takes a0 a1 h) (fun q => Ph (some (xI q.1)) q.2)) : Sx l z d mc ms M_Re_takes 0 (x_en [xR a0, xI a1] 2) [] h Ph := by
  unfold f_Re_takes at hk
  refine sx_eq (lc2 := [some (xR a0), some (xI a1)]) rfl rfl ?_
  refine sx_aload_n dc_Re_takes_0 rfl ?_
  obtain ⟨g3, hk⟩ := hk.g
  refine sx_get (ci := 1) (k := 4) rfl (by decide) wF_Re_60 g3 dc_Re_takes_1 ?_
  refine sx_iload_n dc_Re_takes_4 rfl ?_
  refine sx_icmp_eq (tgt := 10) dc_Re_takes_5 (by decide) (fun c4 => ?_) (fun c4 => ?_)
  · replace hk := hk.t c4
    refine sx_aload_n dc_Re_takes_10 rfl ?_
    obtain ⟨q5, eq5, hk⟩ := hk.bind
    refine sx_callV (d2 := d - 1) (mc2 := 0) (ms2 := 0) (as := []) mk_Re_advance rfl (x_rk (ci := 1) g3 rfl rfl) wM_Re_47 mi_Re_advance me_Re_advance rfl (Nat.le_of_ble_eq_true rfl) (Nat.le_of_ble_eq_true rfl) dc_Re_takes_11 (by omega) (Nat.zero_le _) (Nat.zero_le _) ?_
    refine t_Re_advance (by omega) ⟨q5, eq5, ?_⟩
    refine sx_eq0 (lc2 := [some (xR a0), some (xI a1)]) (st2 := []) rfl rfl ?_
    refine sx_iconst (v := (1 : Int32)) dc_Re_takes_14 (by decide) ?_
    exact sx_retT (v := (1 : Int32)) dc_Re_takes_15 (Or.inl ⟨rfl, rfl⟩) (by decide) hk.val
  · replace hk := hk.f c4
    refine sx_iconst (v := (0 : Int32)) dc_Re_takes_8 (by decide) ?_
    exact sx_retT (v := (0 : Int32)) dc_Re_takes_9 (Or.inl ⟨rfl, rfl⟩) (by decide) hk.val
theorem dc_Re_write_0 : decode M_Re_write.2.1 0 = .ok (.aload_n 0, 1) := by decide +kernel
theorem dc_Re_write_1 : decode M_Re_write.2.1 1 = .ok (.getfield 27, 3) := by decide +kernel
theorem dc_Re_write_4 : decode M_Re_write.2.1 4 = .ok (.aload_n 0, 1) := by decide +kernel
theorem dc_Re_write_5 : decode M_Re_write.2.1 5 = .ok (.getfield 15, 3) := by decide +kernel
theorem dc_Re_write_8 : decode M_Re_write.2.1 8 = .ok (.arraylength, 1) := by decide +kernel
theorem dc_Re_write_9 : decode M_Re_write.2.1 9 = .ok (.if_icmp .ge 20, 3) := by decide +kernel
theorem dc_Re_write_12 : decode M_Re_write.2.1 12 = .ok (.aload_n 0, 1) := by decide +kernel
theorem dc_Re_write_13 : decode M_Re_write.2.1 13 = .ok (.getfield 15, 3) := by decide +kernel
theorem dc_Re_write_16 : decode M_Re_write.2.1 16 = .ok (.aload_n 0, 1) := by decide +kernel
theorem dc_Re_write_17 : decode M_Re_write.2.1 17 = .ok (.dup, 1) := by decide +kernel
theorem dc_Re_write_18 : decode M_Re_write.2.1 18 = .ok (.getfield 27, 3) := by decide +kernel
theorem dc_Re_write_21 : decode M_Re_write.2.1 21 = .ok (.dup_x1, 1) := by decide +kernel
theorem dc_Re_write_22 : decode M_Re_write.2.1 22 = .ok (.iconst 1, 1) := by decide +kernel
theorem dc_Re_write_23 : decode M_Re_write.2.1 23 = .ok (.iadd, 1) := by decide +kernel
theorem dc_Re_write_24 : decode M_Re_write.2.1 24 = .ok (.putfield 27, 3) := by decide +kernel
theorem dc_Re_write_27 : decode M_Re_write.2.1 27 = .ok (.iload_n 1, 1) := by decide +kernel
theorem dc_Re_write_28 : decode M_Re_write.2.1 28 = .ok (.iastore, 1) := by decide +kernel
theorem dc_Re_write_29 : decode M_Re_write.2.1 29 = .ok (.return_, 1) := by decide +kernel
def f_Re_write (a0 : Nat) (a1 : Int32) (h : xH) : Option (Unit × xH) := gd (hK h a0 = 1) (gd (hK h (hR h a0 6) = 12) (jn (fun (x6 : xH) => some ((), x6)) (fun k7 => if (Int32.ofNat (hL h (hR h a0 6))) ≤ (hI h a0 7) then k7 h else gd (¬ ((hI h a0 7) < 0 ∨ hL h (hR h a0 6) ≤ (hI h a0 7).toNatClampNeg)) (k7 (hIu (hIu h a0 7 ((hI h a0 7) + (1 : Int32))) (hR h a0 6) (hI h a0 7).toNatClampNeg a1)))))
theorem t_Re_write {l : Launch} {z : xZ} {d mc ms : Nat} {Ph : Option xV → xH → Prop} {a0 : Nat} {a1 : Int32}  {h : xH} (hd : 1 ≤ d) (hk : OK (f_Re_write a0 a1 h) (fun q => Ph (none) q.2)) : Sx l z d mc ms M_Re_write 0 (x_en [xR a0, xI a1] 2) [] h Ph := by
  unfold f_Re_write at hk
  refine sx_eq (lc2 := [some (xR a0), some (xI a1)]) rfl rfl ?_
  refine sx_aload_n dc_Re_write_0 rfl ?_
  obtain ⟨g4, hk⟩ := hk.g
  refine sx_get (ci := 1) (k := 7) rfl (by decide) wF_Re_27 g4 dc_Re_write_1 ?_
  refine sx_aload_n dc_Re_write_4 rfl ?_
  refine sx_get (ci := 1) (k := 6) rfl (by decide) wF_Re_15 g4 dc_Re_write_5 ?_
  obtain ⟨g5, hk⟩ := hk.g
  refine sx_alen g5 (by decide) dc_Re_write_8 ?_
  refine hk.j (X := fun x6 => Sx l z d mc ms M_Re_write 29 [some (xR a0), some (xI a1)] [] x6 Ph) (fun x6 hk => ?_) (fun k7 jk7 hk => ?_)
  · exact sx_retV dc_Re_write_29 rfl hk.val
  · refine sx_icmp_ge (tgt := 29) dc_Re_write_9 (by decide) (fun c8 => ?_) (fun c8 => ?_)
    · replace hk := hk.t c8
      exact jk7 h hk
    · replace hk := hk.f c8
      refine sx_aload_n dc_Re_write_12 rfl ?_
      refine sx_get (ci := 1) (k := 6) rfl (by decide) wF_Re_15 g4 dc_Re_write_13 ?_
      refine sx_aload_n dc_Re_write_16 rfl ?_
      refine sx_dup dc_Re_write_17 rfl ?_
      refine sx_get (ci := 1) (k := 7) rfl (by decide) wF_Re_27 g4 dc_Re_write_18 ?_
      refine sx_dup_x1 dc_Re_write_21 rfl rfl ?_
      refine sx_iconst (v := (1 : Int32)) dc_Re_write_22 (by decide) ?_
      refine sx_iadd dc_Re_write_23 ?_
      refine sx_putI (ci := 1) (k := 7) rfl (by decide) wF_Re_27 rfl g4 (Or.inl rfl) dc_Re_write_24 ?_
      refine sx_iload_n dc_Re_write_27 rfl ?_
      obtain ⟨g9, hk⟩ := hk.g
      refine sx_iast g5 g9 dc_Re_write_28 ?_
      exact jk7 (hIu (hIu h a0 7 ((hI h a0 7) + (1 : Int32))) (hR h a0 6) (hI h a0 7).toNatClampNeg a1) hk
theorem dc_Re_readBoth_0 : decode M_Re_readBoth.2.1 0 = .ok (.aload_n 0, 1) := by decide +kernel
theorem dc_Re_readBoth_1 : decode M_Re_readBoth.2.1 1 = .ok (.iload_n 1, 1) := by decide +kernel
theorem dc_Re_readBoth_2 : decode M_Re_readBoth.2.1 2 = .ok (.invokevirtual 70, 3) := by decide +kernel
theorem dc_Re_readBoth_5 : decode M_Re_readBoth.2.1 5 = .ok (.ifCond .ne 5, 3) := by decide +kernel
theorem dc_Re_readBoth_8 : decode M_Re_readBoth.2.1 8 = .ok (.iconst 0, 1) := by decide +kernel
theorem dc_Re_readBoth_9 : decode M_Re_readBoth.2.1 9 = .ok (.ireturn, 1) := by decide +kernel
theorem dc_Re_readBoth_10 : decode M_Re_readBoth.2.1 10 = .ok (.iconst 0, 1) := by decide +kernel
theorem dc_Re_readBoth_11 : decode M_Re_readBoth.2.1 11 = .ok (.istore_n 2, 1) := by decide +kernel
theorem dc_Re_readBoth_12 : decode M_Re_readBoth.2.1 12 = .ok (.iload_n 2, 1) := by decide +kernel
theorem dc_Re_readBoth_13 : decode M_Re_readBoth.2.1 13 = .ok (.sipush 160, 3) := by decide +kernel
theorem dc_Re_readBoth_16 : decode M_Re_readBoth.2.1 16 = .ok (.if_icmp .ge 39, 3) := by decide +kernel
theorem dc_Re_readBoth_19 : decode M_Re_readBoth.2.1 19 = .ok (.aload_n 0, 1) := by decide +kernel
theorem dc_Re_readBoth_20 : decode M_Re_readBoth.2.1 20 = .ok (.getfield 60, 3) := by decide +kernel
theorem dc_Re_readBoth_23 : decode M_Re_readBoth.2.1 23 = .ok (.sipush 266, 3) := by decide +kernel
theorem dc_Re_readBoth_26 : decode M_Re_readBoth.2.1 26 = .ok (.if_icmp .ne 29, 3) := by decide +kernel
theorem dc_Re_readBoth_29 : decode M_Re_readBoth.2.1 29 = .ok (.aload_n 0, 1) := by decide +kernel
theorem dc_Re_readBoth_30 : decode M_Re_readBoth.2.1 30 = .ok (.invokevirtual 47, 3) := by decide +kernel
theorem dc_Re_readBoth_33 : decode M_Re_readBoth.2.1 33 = .ok (.aload_n 0, 1) := by decide +kernel
theorem dc_Re_readBoth_34 : decode M_Re_readBoth.2.1 34 = .ok (.iload_n 1, 1) := by decide +kernel
theorem dc_Re_readBoth_35 : decode M_Re_readBoth.2.1 35 = .ok (.invokevirtual 70, 3) := by decide +kernel
theorem dc_Re_readBoth_38 : decode M_Re_readBoth.2.1 38 = .ok (.ifCond .ne 5, 3) := by decide +kernel
theorem dc_Re_readBoth_41 : decode M_Re_readBoth.2.1 41 = .ok (.iconst 0, 1) := by decide +kernel
theorem dc_Re_readBoth_42 : decode M_Re_readBoth.2.1 42 = .ok (.ireturn, 1) := by decide +kernel
theorem dc_Re_readBoth_43 : decode M_Re_readBoth.2.1 43 = .ok (.aload_n 0, 1) := by decide +kernel
theorem dc_Re_readBoth_44 : decode M_Re_readBoth.2.1 44 = .ok (.bipush (-7), 2) := by decide +kernel
theorem dc_Re_readBoth_46 : decode M_Re_readBoth.2.1 46 = .ok (.invokevirtual 66, 3) := by decide +kernel
theorem dc_Re_readBoth_49 : decode M_Re_readBoth.2.1 49 = .ok (.iinc 2 1, 3) := by decide +kernel
theorem dc_Re_readBoth_52 : decode M_Re_readBoth.2.1 52 = .ok (.goto (-40), 3) := by decide +kernel
theorem dc_Re_readBoth_55 : decode M_Re_readBoth.2.1 55 = .ok (.iconst 1, 1) := by decide +kernel
theorem dc_Re_readBoth_56 : decode M_Re_readBoth.2.1 56 = .ok (.ireturn, 1) := by decide +kernel
theorem dc_Re_readCompared_0 : decode M_Re_readCompared.2.1 0 = .ok (.aload_n 0, 1) := by decide +kernel
theorem dc_Re_readCompared_1 : decode M_Re_readCompared.2.1 1 = .ok (.iload_n 1, 1) := by decide +kernel
theorem dc_Re_readCompared_2 : decode M_Re_readCompared.2.1 2 = .ok (.invokevirtual 76, 3) := by decide +kernel
theorem dc_Re_readCompared_5 : decode M_Re_readCompared.2.1 5 = .ok (.ifCond .ne 5, 3) := by decide +kernel
theorem dc_Re_readCompared_8 : decode M_Re_readCompared.2.1 8 = .ok (.iconst 0, 1) := by decide +kernel
theorem dc_Re_readCompared_9 : decode M_Re_readCompared.2.1 9 = .ok (.ireturn, 1) := by decide +kernel
theorem dc_Re_readCompared_10 : decode M_Re_readCompared.2.1 10 = .ok (.aload_n 0, 1) := by decide +kernel
theorem dc_Re_readCompared_11 : decode M_Re_readCompared.2.1 11 = .ok (.getfield 60, 3) := by decide +kernel
theorem dc_Re_readCompared_14 : decode M_Re_readCompared.2.1 14 = .ok (.bipush 60, 2) := by decide +kernel
theorem dc_Re_readCompared_16 : decode M_Re_readCompared.2.1 16 = .ok (.if_icmp .eq 14, 3) := by decide +kernel
theorem dc_Re_readCompared_19 : decode M_Re_readCompared.2.1 19 = .ok (.aload_n 0, 1) := by decide +kernel
theorem dc_Re_readCompared_20 : decode M_Re_readCompared.2.1 20 = .ok (.getfield 60, 3) := by decide +kernel
theorem dc_Re_readCompared_23 : decode M_Re_readCompared.2.1 23 = .ok (.bipush 61, 2) := by decide +kernel
theorem dc_Re_readCompared_25 : decode M_Re_readCompared.2.1 25 = .ok (.if_icmp .eq 5, 3) := by decide +kernel
theorem dc_Re_readCompared_28 : decode M_Re_readCompared.2.1 28 = .ok (.iconst 1, 1) := by decide +kernel
theorem dc_Re_readCompared_29 : decode M_Re_readCompared.2.1 29 = .ok (.ireturn, 1) := by decide +kernel
theorem dc_Re_readCompared_30 : decode M_Re_readCompared.2.1 30 = .ok (.aload_n 0, 1) := by decide +kernel
theorem dc_Re_readCompared_31 : decode M_Re_readCompared.2.1 31 = .ok (.getfield 60, 3) := by decide +kernel
theorem dc_Re_readCompared_34 : decode M_Re_readCompared.2.1 34 = .ok (.istore_n 2, 1) := by decide +kernel
theorem dc_Re_readCompared_35 : decode M_Re_readCompared.2.1 35 = .ok (.aload_n 0, 1) := by decide +kernel
theorem dc_Re_readCompared_36 : decode M_Re_readCompared.2.1 36 = .ok (.invokevirtual 47, 3) := by decide +kernel
theorem dc_Re_readCompared_39 : decode M_Re_readCompared.2.1 39 = .ok (.aload_n 0, 1) := by decide +kernel
theorem dc_Re_readCompared_40 : decode M_Re_readCompared.2.1 40 = .ok (.iload_n 1, 1) := by decide +kernel
theorem dc_Re_readCompared_41 : decode M_Re_readCompared.2.1 41 = .ok (.invokevirtual 76, 3) := by decide +kernel
theorem dc_Re_readCompared_44 : decode M_Re_readCompared.2.1 44 = .ok (.ifCond .ne 5, 3) := by decide +kernel
theorem dc_Re_readCompared_47 : decode M_Re_readCompared.2.1 47 = .ok (.iconst 0, 1) := by decide +kernel
theorem dc_Re_readCompared_48 : decode M_Re_readCompared.2.1 48 = .ok (.ireturn, 1) := by decide +kernel
theorem dc_Re_readCompared_49 : decode M_Re_readCompared.2.1 49 = .ok (.aload_n 0, 1) := by decide +kernel
theorem dc_Re_readCompared_50 : decode M_Re_readCompared.2.1 50 = .ok (.iload_n 2, 1) := by decide +kernel
theorem dc_Re_readCompared_51 : decode M_Re_readCompared.2.1 51 = .ok (.bipush 60, 2) := by decide +kernel
theorem dc_Re_readCompared_53 : decode M_Re_readCompared.2.1 53 = .ok (.if_icmp .ne 8, 3) := by decide +kernel
theorem dc_Re_readCompared_56 : decode M_Re_readCompared.2.1 56 = .ok (.bipush (-4), 2) := by decide +kernel
theorem dc_Re_readCompared_58 : decode M_Re_readCompared.2.1 58 = .ok (.goto 5, 3) := by decide +kernel
theorem dc_Re_readCompared_61 : decode M_Re_readCompared.2.1 61 = .ok (.bipush (-5), 2) := by decide +kernel
theorem dc_Re_readCompared_63 : decode M_Re_readCompared.2.1 63 = .ok (.invokevirtual 66, 3) := by decide +kernel
theorem dc_Re_readCompared_66 : decode M_Re_readCompared.2.1 66 = .ok (.iconst 1, 1) := by decide +kernel
theorem dc_Re_readCompared_67 : decode M_Re_readCompared.2.1 67 = .ok (.ireturn, 1) := by decide +kernel
theorem dc_Re_readEither_0 : decode M_Re_readEither.2.1 0 = .ok (.aload_n 0, 1) := by decide +kernel
theorem dc_Re_readEither_1 : decode M_Re_readEither.2.1 1 = .ok (.iload_n 1, 1) := by decide +kernel
theorem dc_Re_readEither_2 : decode M_Re_readEither.2.1 2 = .ok (.invokevirtual 63, 3) := by decide +kernel
theorem dc_Re_readEither_5 : decode M_Re_readEither.2.1 5 = .ok (.ifCond .ne 5, 3) := by decide +kernel
theorem dc_Re_readEither_8 : decode M_Re_readEither.2.1 8 = .ok (.iconst 0, 1) := by decide +kernel
theorem dc_Re_readEither_9 : decode M_Re_readEither.2.1 9 = .ok (.ireturn, 1) := by decide +kernel
theorem dc_Re_readEither_10 : decode M_Re_readEither.2.1 10 = .ok (.iconst 0, 1) := by decide +kernel
theorem dc_Re_readEither_11 : decode M_Re_readEither.2.1 11 = .ok (.istore_n 2, 1) := by decide +kernel
theorem dc_Re_readEither_12 : decode M_Re_readEither.2.1 12 = .ok (.iload_n 2, 1) := by decide +kernel
theorem dc_Re_readEither_13 : decode M_Re_readEither.2.1 13 = .ok (.sipush 160, 3) := by decide +kernel
theorem dc_Re_readEither_16 : decode M_Re_readEither.2.1 16 = .ok (.if_icmp .ge 39, 3) := by decide +kernel
theorem dc_Re_readEither_19 : decode M_Re_readEither.2.1 19 = .ok (.aload_n 0, 1) := by decide +kernel
theorem dc_Re_readEither_20 : decode M_Re_readEither.2.1 20 = .ok (.getfield 60, 3) := by decide +kernel
theorem dc_Re_readEither_23 : decode M_Re_readEither.2.1 23 = .ok (.sipush 265, 3) := by decide +kernel
theorem dc_Re_readEither_26 : decode M_Re_readEither.2.1 26 = .ok (.if_icmp .ne 29, 3) := by decide +kernel
theorem dc_Re_readEither_29 : decode M_Re_readEither.2.1 29 = .ok (.aload_n 0, 1) := by decide +kernel
theorem dc_Re_readEither_30 : decode M_Re_readEither.2.1 30 = .ok (.invokevirtual 47, 3) := by decide +kernel
theorem dc_Re_readEither_33 : decode M_Re_readEither.2.1 33 = .ok (.aload_n 0, 1) := by decide +kernel
theorem dc_Re_readEither_34 : decode M_Re_readEither.2.1 34 = .ok (.iload_n 1, 1) := by decide +kernel
theorem dc_Re_readEither_35 : decode M_Re_readEither.2.1 35 = .ok (.invokevirtual 63, 3) := by decide +kernel
theorem dc_Re_readEither_38 : decode M_Re_readEither.2.1 38 = .ok (.ifCond .ne 5, 3) := by decide +kernel
theorem dc_Re_readEither_41 : decode M_Re_readEither.2.1 41 = .ok (.iconst 0, 1) := by decide +kernel
theorem dc_Re_readEither_42 : decode M_Re_readEither.2.1 42 = .ok (.ireturn, 1) := by decide +kernel
theorem dc_Re_readEither_43 : decode M_Re_readEither.2.1 43 = .ok (.aload_n 0, 1) := by decide +kernel
theorem dc_Re_readEither_44 : decode M_Re_readEither.2.1 44 = .ok (.bipush (-6), 2) := by decide +kernel
theorem dc_Re_readEither_46 : decode M_Re_readEither.2.1 46 = .ok (.invokevirtual 66, 3) := by decide +kernel
theorem dc_Re_readEither_49 : decode M_Re_readEither.2.1 49 = .ok (.iinc 2 1, 3) := by decide +kernel
theorem dc_Re_readEither_52 : decode M_Re_readEither.2.1 52 = .ok (.goto (-40), 3) := by decide +kernel
theorem dc_Re_readEither_55 : decode M_Re_readEither.2.1 55 = .ok (.iconst 1, 1) := by decide +kernel
theorem dc_Re_readEither_56 : decode M_Re_readEither.2.1 56 = .ok (.ireturn, 1) := by decide +kernel
theorem dc_Re_readNot_0 : decode M_Re_readNot.2.1 0 = .ok (.iconst 0, 1) := by decide +kernel
theorem dc_Re_readNot_1 : decode M_Re_readNot.2.1 1 = .ok (.istore_n 2, 1) := by decide +kernel
theorem dc_Re_readNot_2 : decode M_Re_readNot.2.1 2 = .ok (.aload_n 0, 1) := by decide +kernel
theorem dc_Re_readNot_3 : decode M_Re_readNot.2.1 3 = .ok (.getfield 60, 3) := by decide +kernel
theorem dc_Re_readNot_6 : decode M_Re_readNot.2.1 6 = .ok (.sipush 267, 3) := by decide +kernel
theorem dc_Re_readNot_9 : decode M_Re_readNot.2.1 9 = .ok (.if_icmp .ne 20, 3) := by decide +kernel
theorem dc_Re_readNot_12 : decode M_Re_readNot.2.1 12 = .ok (.iload_n 1, 1) := by decide +kernel
theorem dc_Re_readNot_13 : decode M_Re_readNot.2.1 13 = .ok (.iload_n 2, 1) := by decide +kernel
theorem dc_Re_readNot_14 : decode M_Re_readNot.2.1 14 = .ok (.iadd, 1) := by decide +kernel
theorem dc_Re_readNot_15 : decode M_Re_readNot.2.1 15 = .ok (.iconst 5, 1) := by decide +kernel
theorem dc_Re_readNot_16 : decode M_Re_readNot.2.1 16 = .ok (.if_icmp .ge 13, 3) := by decide +kernel
theorem dc_Re_readNot_19 : decode M_Re_readNot.2.1 19 = .ok (.aload_n 0, 1) := by decide +kernel
theorem dc_Re_readNot_20 : decode M_Re_readNot.2.1 20 = .ok (.invokevirtual 47, 3) := by decide +kernel
theorem dc_Re_readNot_23 : decode M_Re_readNot.2.1 23 = .ok (.iinc 2 1, 3) := by decide +kernel
theorem dc_Re_readNot_26 : decode M_Re_readNot.2.1 26 = .ok (.goto (-24), 3) := by decide +kernel
theorem dc_Re_readNot_29 : decode M_Re_readNot.2.1 29 = .ok (.aload_n 0, 1) := by decide +kernel
theorem dc_Re_readNot_30 : decode M_Re_readNot.2.1 30 = .ok (.iload_n 1, 1) := by decide +kernel
theorem dc_Re_readNot_31 : decode M_Re_readNot.2.1 31 = .ok (.iload_n 2, 1) := by decide +kernel
theorem dc_Re_readNot_32 : decode M_Re_readNot.2.1 32 = .ok (.iadd, 1) := by decide +kernel
theorem dc_Re_readNot_33 : decode M_Re_readNot.2.1 33 = .ok (.invokevirtual 73, 3) := by decide +kernel
theorem dc_Re_readNot_36 : decode M_Re_readNot.2.1 36 = .ok (.ifCond .ne 5, 3) := by decide +kernel
theorem dc_Re_readNot_39 : decode M_Re_readNot.2.1 39 = .ok (.iconst 0, 1) := by decide +kernel
theorem dc_Re_readNot_40 : decode M_Re_readNot.2.1 40 = .ok (.ireturn, 1) := by decide +kernel
theorem dc_Re_readNot_41 : decode M_Re_readNot.2.1 41 = .ok (.iconst 0, 1) := by decide +kernel
theorem dc_Re_readNot_42 : decode M_Re_readNot.2.1 42 = .ok (.istore_n 3, 1) := by decide +kernel
theorem dc_Re_readNot_43 : decode M_Re_readNot.2.1 43 = .ok (.iload_n 3, 1) := by decide +kernel
theorem dc_Re_readNot_44 : decode M_Re_readNot.2.1 44 = .ok (.iload_n 2, 1) := by decide +kernel
theorem dc_Re_readNot_45 : decode M_Re_readNot.2.1 45 = .ok (.if_icmp .ge 15, 3) := by decide +kernel
theorem dc_Re_readNot_48 : decode M_Re_readNot.2.1 48 = .ok (.aload_n 0, 1) := by decide +kernel
theorem dc_Re_readNot_49 : decode M_Re_readNot.2.1 49 = .ok (.bipush (-8), 2) := by decide +kernel
theorem dc_Re_readNot_51 : decode M_Re_readNot.2.1 51 = .ok (.invokevirtual 66, 3) := by decide +kernel
theorem dc_Re_readNot_54 : decode M_Re_readNot.2.1 54 = .ok (.iinc 3 1, 3) := by decide +kernel
theorem dc_Re_readNot_57 : decode M_Re_readNot.2.1 57 = .ok (.goto (-14), 3) := by decide +kernel
theorem dc_Re_readNot_60 : decode M_Re_readNot.2.1 60 = .ok (.iconst 1, 1) := by decide +kernel
theorem dc_Re_readNot_61 : decode M_Re_readNot.2.1 61 = .ok (.ireturn, 1) := by decide +kernel
theorem dc_Re_readOne_0 : decode M_Re_readOne.2.1 0 = .ok (.iconst 0, 1) := by decide +kernel
theorem dc_Re_readOne_1 : decode M_Re_readOne.2.1 1 = .ok (.istore_n 2, 1) := by decide +kernel
theorem dc_Re_readOne_2 : decode M_Re_readOne.2.1 2 = .ok (.aload_n 0, 1) := by decide +kernel
theorem dc_Re_readOne_3 : decode M_Re_readOne.2.1 3 = .ok (.getfield 60, 3) := by decide +kernel
theorem dc_Re_readOne_6 : decode M_Re_readOne.2.1 6 = .ok (.bipush 45, 2) := by decide +kernel
theorem dc_Re_readOne_8 : decode M_Re_readOne.2.1 8 = .ok (.if_icmp .ne 20, 3) := by decide +kernel
theorem dc_Re_readOne_11 : decode M_Re_readOne.2.1 11 = .ok (.iload_n 1, 1) := by decide +kernel
theorem dc_Re_readOne_12 : decode M_Re_readOne.2.1 12 = .ok (.iload_n 2, 1) := by decide +kernel
theorem dc_Re_readOne_13 : decode M_Re_readOne.2.1 13 = .ok (.iadd, 1) := by decide +kernel
theorem dc_Re_readOne_14 : decode M_Re_readOne.2.1 14 = .ok (.iconst 5, 1) := by decide +kernel
theorem dc_Re_readOne_15 : decode M_Re_readOne.2.1 15 = .ok (.if_icmp .ge 13, 3) := by decide +kernel
theorem dc_Re_readOne_18 : decode M_Re_readOne.2.1 18 = .ok (.aload_n 0, 1) := by decide +kernel
theorem dc_Re_readOne_19 : decode M_Re_readOne.2.1 19 = .ok (.invokevirtual 47, 3) := by decide +kernel
theorem dc_Re_readOne_22 : decode M_Re_readOne.2.1 22 = .ok (.iinc 2 1, 3) := by decide +kernel
theorem dc_Re_readOne_25 : decode M_Re_readOne.2.1 25 = .ok (.goto (-23), 3) := by decide +kernel
theorem dc_Re_readOne_28 : decode M_Re_readOne.2.1 28 = .ok (.aload_n 0, 1) := by decide +kernel
theorem dc_Re_readOne_29 : decode M_Re_readOne.2.1 29 = .ok (.iload_n 1, 1) := by decide +kernel
theorem dc_Re_readOne_30 : decode M_Re_readOne.2.1 30 = .ok (.iload_n 2, 1) := by decide +kernel
theorem dc_Re_readOne_31 : decode M_Re_readOne.2.1 31 = .ok (.iadd, 1) := by decide +kernel
theorem dc_Re_readOne_32 : decode M_Re_readOne.2.1 32 = .ok (.invokevirtual 85, 3) := by decide +kernel
theorem dc_Re_readOne_35 : decode M_Re_readOne.2.1 35 = .ok (.ifCond .ne 5, 3) := by decide +kernel
theorem dc_Re_readOne_38 : decode M_Re_readOne.2.1 38 = .ok (.iconst 0, 1) := by decide +kernel
theorem dc_Re_readOne_39 : decode M_Re_readOne.2.1 39 = .ok (.ireturn, 1) := by decide +kernel
theorem dc_Re_readOne_40 : decode M_Re_readOne.2.1 40 = .ok (.iconst 0, 1) := by decide +kernel
theorem dc_Re_readOne_41 : decode M_Re_readOne.2.1 41 = .ok (.istore_n 3, 1) := by decide +kernel
theorem dc_Re_readOne_42 : decode M_Re_readOne.2.1 42 = .ok (.iload_n 3, 1) := by decide +kernel
theorem dc_Re_readOne_43 : decode M_Re_readOne.2.1 43 = .ok (.iload_n 2, 1) := by decide +kernel
theorem dc_Re_readOne_44 : decode M_Re_readOne.2.1 44 = .ok (.if_icmp .ge 15, 3) := by decide +kernel
theorem dc_Re_readOne_47 : decode M_Re_readOne.2.1 47 = .ok (.aload_n 0, 1) := by decide +kernel
theorem dc_Re_readOne_48 : decode M_Re_readOne.2.1 48 = .ok (.bipush (-9), 2) := by decide +kernel
theorem dc_Re_readOne_50 : decode M_Re_readOne.2.1 50 = .ok (.invokevirtual 66, 3) := by decide +kernel
theorem dc_Re_readOne_53 : decode M_Re_readOne.2.1 53 = .ok (.iinc 3 1, 3) := by decide +kernel
theorem dc_Re_readOne_56 : decode M_Re_readOne.2.1 56 = .ok (.goto (-14), 3) := by decide +kernel
theorem dc_Re_readOne_59 : decode M_Re_readOne.2.1 59 = .ok (.iconst 1, 1) := by decide +kernel
theorem dc_Re_readOne_60 : decode M_Re_readOne.2.1 60 = .ok (.ireturn, 1) := by decide +kernel
theorem dc_Re_readPlain_0 : decode M_Re_readPlain.2.1 0 = .ok (.aload_n 0, 1) := by decide +kernel
theorem dc_Re_readPlain_1 : decode M_Re_readPlain.2.1 1 = .ok (.getfield 60, 3) := by decide +kernel
theorem dc_Re_readPlain_4 : decode M_Re_readPlain.2.1 4 = .ok (.iconst 1, 1) := by decide +kernel
theorem dc_Re_readPlain_5 : decode M_Re_readPlain.2.1 5 = .ok (.if_icmp .ne 14, 3) := by decide +kernel
theorem dc_Re_readPlain_8 : decode M_Re_readPlain.2.1 8 = .ok (.aload_n 0, 1) := by decide +kernel
theorem dc_Re_readPlain_9 : decode M_Re_readPlain.2.1 9 = .ok (.aload_n 0, 1) := by decide +kernel
theorem dc_Re_readPlain_10 : decode M_Re_readPlain.2.1 10 = .ok (.getfield 88, 3) := by decide +kernel
theorem dc_Re_readPlain_13 : decode M_Re_readPlain.2.1 13 = .ok (.invokevirtual 66, 3) := by decide +kernel
theorem dc_Re_readPlain_16 : decode M_Re_readPlain.2.1 16 = .ok (.goto 87, 3) := by decide +kernel
theorem dc_Re_readPlain_19 : decode M_Re_readPlain.2.1 19 = .ok (.aload_n 0, 1) := by decide +kernel
theorem dc_Re_readPlain_20 : decode M_Re_readPlain.2.1 20 = .ok (.getfield 60, 3) := by decide +kernel
theorem dc_Re_readPlain_23 : decode M_Re_readPlain.2.1 23 = .ok (.sipush 256, 3) := by decide +kernel
theorem dc_Re_readPlain_26 : decode M_Re_readPlain.2.1 26 = .ok (.if_icmp .lt 32, 3) := by decide +kernel
theorem dc_Re_readPlain_29 : decode M_Re_readPlain.2.1 29 = .ok (.aload_n 0, 1) := by decide +kernel
theorem dc_Re_readPlain_30 : decode M_Re_readPlain.2.1 30 = .ok (.getfield 60, 3) := by decide +kernel
theorem dc_Re_readPlain_33 : decode M_Re_readPlain.2.1 33 = .ok (.sipush 262, 3) := by decide +kernel
theorem dc_Re_readPlain_36 : decode M_Re_readPlain.2.1 36 = .ok (.if_icmp .ge 22, 3) := by decide +kernel
theorem dc_Re_readPlain_39 : decode M_Re_readPlain.2.1 39 = .ok (.aload_n 0, 1) := by decide +kernel
theorem dc_Re_readPlain_40 : decode M_Re_readPlain.2.1 40 = .ok (.sipush 10000, 3) := by decide +kernel
theorem dc_Re_readPlain_43 : decode M_Re_readPlain.2.1 43 = .ok (.aload_n 0, 1) := by decide +kernel
theorem dc_Re_readPlain_44 : decode M_Re_readPlain.2.1 44 = .ok (.getfield 60, 3) := by decide +kernel
theorem dc_Re_readPlain_47 : decode M_Re_readPlain.2.1 47 = .ok (.iadd, 1) := by decide +kernel
theorem dc_Re_readPlain_48 : decode M_Re_readPlain.2.1 48 = .ok (.sipush 256, 3) := by decide +kernel
theorem dc_Re_readPlain_51 : decode M_Re_readPlain.2.1 51 = .ok (.isub, 1) := by decide +kernel
theorem dc_Re_readPlain_52 : decode M_Re_readPlain.2.1 52 = .ok (.invokevirtual 66, 3) := by decide +kernel
theorem dc_Re_readPlain_55 : decode M_Re_readPlain.2.1 55 = .ok (.goto 48, 3) := by decide +kernel
theorem dc_Re_readPlain_58 : decode M_Re_readPlain.2.1 58 = .ok (.aload_n 0, 1) := by decide +kernel
theorem dc_Re_readPlain_59 : decode M_Re_readPlain.2.1 59 = .ok (.getfield 60, 3) := by decide +kernel
theorem dc_Re_readPlain_62 : decode M_Re_readPlain.2.1 62 = .ok (.bipush 40, 2) := by decide +kernel
theorem dc_Re_readPlain_64 : decode M_Re_readPlain.2.1 64 = .ok (.if_icmp .ne 8, 3) := by decide +kernel
theorem dc_Re_readPlain_67 : decode M_Re_readPlain.2.1 67 = .ok (.iload_n 1, 1) := by decide +kernel
theorem dc_Re_readPlain_68 : decode M_Re_readPlain.2.1 68 = .ok (.iconst 5, 1) := by decide +kernel
theorem dc_Re_readPlain_69 : decode M_Re_readPlain.2.1 69 = .ok (.if_icmp .lt 5, 3) := by decide +kernel
theorem dc_Re_readPlain_72 : decode M_Re_readPlain.2.1 72 = .ok (.iconst 0, 1) := by decide +kernel
theorem dc_Re_readPlain_73 : decode M_Re_readPlain.2.1 73 = .ok (.ireturn, 1) := by decide +kernel
theorem dc_Re_readPlain_74 : decode M_Re_readPlain.2.1 74 = .ok (.aload_n 0, 1) := by decide +kernel
theorem dc_Re_readPlain_75 : decode M_Re_readPlain.2.1 75 = .ok (.invokevirtual 47, 3) := by decide +kernel
theorem dc_Re_readPlain_78 : decode M_Re_readPlain.2.1 78 = .ok (.aload_n 0, 1) := by decide +kernel
theorem dc_Re_readPlain_79 : decode M_Re_readPlain.2.1 79 = .ok (.iload_n 1, 1) := by decide +kernel
theorem dc_Re_readPlain_80 : decode M_Re_readPlain.2.1 80 = .ok (.iconst 1, 1) := by decide +kernel
theorem dc_Re_readPlain_81 : decode M_Re_readPlain.2.1 81 = .ok (.iadd, 1) := by decide +kernel
theorem dc_Re_readPlain_82 : decode M_Re_readPlain.2.1 82 = .ok (.invokevirtual 54, 3) := by decide +kernel
theorem dc_Re_readPlain_85 : decode M_Re_readPlain.2.1 85 = .ok (.ifCond .eq 16, 3) := by decide +kernel
theorem dc_Re_readPlain_88 : decode M_Re_readPlain.2.1 88 = .ok (.aload_n 0, 1) := by decide +kernel
theorem dc_Re_readPlain_89 : decode M_Re_readPlain.2.1 89 = .ok (.bipush 41, 2) := by decide +kernel
theorem dc_Re_readPlain_91 : decode M_Re_readPlain.2.1 91 = .ok (.invokevirtual 50, 3) := by decide +kernel
theorem dc_Re_readPlain_94 : decode M_Re_readPlain.2.1 94 = .ok (.ifCond .eq 7, 3) := by decide +kernel
theorem dc_Re_readPlain_97 : decode M_Re_readPlain.2.1 97 = .ok (.iconst 1, 1) := by decide +kernel
theorem dc_Re_readPlain_98 : decode M_Re_readPlain.2.1 98 = .ok (.goto 4, 3) := by decide +kernel
theorem dc_Re_readPlain_101 : decode M_Re_readPlain.2.1 101 = .ok (.iconst 0, 1) := by decide +kernel
theorem dc_Re_readPlain_102 : decode M_Re_readPlain.2.1 102 = .ok (.ireturn, 1) := by decide +kernel
theorem dc_Re_readPlain_103 : decode M_Re_readPlain.2.1 103 = .ok (.aload_n 0, 1) := by decide +kernel
theorem dc_Re_readPlain_104 : decode M_Re_readPlain.2.1 104 = .ok (.invokevirtual 47, 3) := by decide +kernel
theorem dc_Re_readPlain_107 : decode M_Re_readPlain.2.1 107 = .ok (.iconst 1, 1) := by decide +kernel
theorem dc_Re_readPlain_108 : decode M_Re_readPlain.2.1 108 = .ok (.ireturn, 1) := by decide +kernel
theorem dc_Re_readSum_0 : decode M_Re_readSum.2.1 0 = .ok (.aload_n 0, 1) := by decide +kernel
theorem dc_Re_readSum_1 : decode M_Re_readSum.2.1 1 = .ok (.iload_n 1, 1) := by decide +kernel
theorem dc_Re_readSum_2 : decode M_Re_readSum.2.1 2 = .ok (.invokevirtual 79, 3) := by decide +kernel
theorem dc_Re_readSum_5 : decode M_Re_readSum.2.1 5 = .ok (.ifCond .ne 5, 3) := by decide +kernel
theorem dc_Re_readSum_8 : decode M_Re_readSum.2.1 8 = .ok (.iconst 0, 1) := by decide +kernel
theorem dc_Re_readSum_9 : decode M_Re_readSum.2.1 9 = .ok (.ireturn, 1) := by decide +kernel
theorem dc_Re_readSum_10 : decode M_Re_readSum.2.1 10 = .ok (.iconst 0, 1) := by decide +kernel
theorem dc_Re_readSum_11 : decode M_Re_readSum.2.1 11 = .ok (.istore_n 2, 1) := by decide +kernel
theorem dc_Re_readSum_12 : decode M_Re_readSum.2.1 12 = .ok (.iload_n 2, 1) := by decide +kernel
theorem dc_Re_readSum_13 : decode M_Re_readSum.2.1 13 = .ok (.sipush 160, 3) := by decide +kernel
theorem dc_Re_readSum_16 : decode M_Re_readSum.2.1 16 = .ok (.if_icmp .ge 62, 3) := by decide +kernel
theorem dc_Re_readSum_19 : decode M_Re_readSum.2.1 19 = .ok (.aload_n 0, 1) := by decide +kernel
theorem dc_Re_readSum_20 : decode M_Re_readSum.2.1 20 = .ok (.getfield 60, 3) := by decide +kernel
theorem dc_Re_readSum_23 : decode M_Re_readSum.2.1 23 = .ok (.bipush 43, 2) := by decide +kernel
theorem dc_Re_readSum_25 : decode M_Re_readSum.2.1 25 = .ok (.if_icmp .eq 12, 3) := by decide +kernel
theorem dc_Re_readSum_28 : decode M_Re_readSum.2.1 28 = .ok (.aload_n 0, 1) := by decide +kernel
theorem dc_Re_readSum_29 : decode M_Re_readSum.2.1 29 = .ok (.getfield 60, 3) := by decide +kernel
theorem dc_Re_readSum_32 : decode M_Re_readSum.2.1 32 = .ok (.bipush 45, 2) := by decide +kernel
theorem dc_Re_readSum_34 : decode M_Re_readSum.2.1 34 = .ok (.if_icmp .ne 44, 3) := by decide +kernel
theorem dc_Re_readSum_37 : decode M_Re_readSum.2.1 37 = .ok (.aload_n 0, 1) := by decide +kernel
theorem dc_Re_readSum_38 : decode M_Re_readSum.2.1 38 = .ok (.getfield 60, 3) := by decide +kernel
theorem dc_Re_readSum_41 : decode M_Re_readSum.2.1 41 = .ok (.istore_n 3, 1) := by decide +kernel
theorem dc_Re_readSum_42 : decode M_Re_readSum.2.1 42 = .ok (.aload_n 0, 1) := by decide +kernel
theorem dc_Re_readSum_43 : decode M_Re_readSum.2.1 43 = .ok (.invokevirtual 47, 3) := by decide +kernel
theorem dc_Re_readSum_46 : decode M_Re_readSum.2.1 46 = .ok (.aload_n 0, 1) := by decide +kernel
theorem dc_Re_readSum_47 : decode M_Re_readSum.2.1 47 = .ok (.iload_n 1, 1) := by decide +kernel
theorem dc_Re_readSum_48 : decode M_Re_readSum.2.1 48 = .ok (.invokevirtual 79, 3) := by decide +kernel
theorem dc_Re_readSum_51 : decode M_Re_readSum.2.1 51 = .ok (.ifCond .ne 5, 3) := by decide +kernel
theorem dc_Re_readSum_54 : decode M_Re_readSum.2.1 54 = .ok (.iconst 0, 1) := by decide +kernel
theorem dc_Re_readSum_55 : decode M_Re_readSum.2.1 55 = .ok (.ireturn, 1) := by decide +kernel
theorem dc_Re_readSum_56 : decode M_Re_readSum.2.1 56 = .ok (.aload_n 0, 1) := by decide +kernel
theorem dc_Re_readSum_57 : decode M_Re_readSum.2.1 57 = .ok (.iload_n 3, 1) := by decide +kernel
theorem dc_Re_readSum_58 : decode M_Re_readSum.2.1 58 = .ok (.bipush 43, 2) := by decide +kernel
theorem dc_Re_readSum_60 : decode M_Re_readSum.2.1 60 = .ok (.if_icmp .ne 7, 3) := by decide +kernel
theorem dc_Re_readSum_63 : decode M_Re_readSum.2.1 63 = .ok (.iconst (-1), 1) := by decide +kernel
theorem dc_Re_readSum_64 : decode M_Re_readSum.2.1 64 = .ok (.goto 5, 3) := by decide +kernel
theorem dc_Re_readSum_67 : decode M_Re_readSum.2.1 67 = .ok (.bipush (-2), 2) := by decide +kernel
theorem dc_Re_readSum_69 : decode M_Re_readSum.2.1 69 = .ok (.invokevirtual 66, 3) := by decide +kernel
theorem dc_Re_readSum_72 : decode M_Re_readSum.2.1 72 = .ok (.iinc 2 1, 3) := by decide +kernel
theorem dc_Re_readSum_75 : decode M_Re_readSum.2.1 75 = .ok (.goto (-63), 3) := by decide +kernel
theorem dc_Re_readSum_78 : decode M_Re_readSum.2.1 78 = .ok (.iconst 1, 1) := by decide +kernel
theorem dc_Re_readSum_79 : decode M_Re_readSum.2.1 79 = .ok (.ireturn, 1) := by decide +kernel
theorem dc_Re_readTerm_0 : decode M_Re_readTerm.2.1 0 = .ok (.aload_n 0, 1) := by decide +kernel
theorem dc_Re_readTerm_1 : decode M_Re_readTerm.2.1 1 = .ok (.iload_n 1, 1) := by decide +kernel
theorem dc_Re_readTerm_2 : decode M_Re_readTerm.2.1 2 = .ok (.invokevirtual 82, 3) := by decide +kernel
theorem dc_Re_readTerm_5 : decode M_Re_readTerm.2.1 5 = .ok (.ifCond .ne 5, 3) := by decide +kernel
theorem dc_Re_readTerm_8 : decode M_Re_readTerm.2.1 8 = .ok (.iconst 0, 1) := by decide +kernel
theorem dc_Re_readTerm_9 : decode M_Re_readTerm.2.1 9 = .ok (.ireturn, 1) := by decide +kernel
theorem dc_Re_readTerm_10 : decode M_Re_readTerm.2.1 10 = .ok (.iconst 0, 1) := by decide +kernel
theorem dc_Re_readTerm_11 : decode M_Re_readTerm.2.1 11 = .ok (.istore_n 2, 1) := by decide +kernel
theorem dc_Re_readTerm_12 : decode M_Re_readTerm.2.1 12 = .ok (.iload_n 2, 1) := by decide +kernel
theorem dc_Re_readTerm_13 : decode M_Re_readTerm.2.1 13 = .ok (.sipush 160, 3) := by decide +kernel
theorem dc_Re_readTerm_16 : decode M_Re_readTerm.2.1 16 = .ok (.if_icmp .ge 38, 3) := by decide +kernel
theorem dc_Re_readTerm_19 : decode M_Re_readTerm.2.1 19 = .ok (.aload_n 0, 1) := by decide +kernel
theorem dc_Re_readTerm_20 : decode M_Re_readTerm.2.1 20 = .ok (.getfield 60, 3) := by decide +kernel
theorem dc_Re_readTerm_23 : decode M_Re_readTerm.2.1 23 = .ok (.bipush 42, 2) := by decide +kernel
theorem dc_Re_readTerm_25 : decode M_Re_readTerm.2.1 25 = .ok (.if_icmp .ne 29, 3) := by decide +kernel
theorem dc_Re_readTerm_28 : decode M_Re_readTerm.2.1 28 = .ok (.aload_n 0, 1) := by decide +kernel
theorem dc_Re_readTerm_29 : decode M_Re_readTerm.2.1 29 = .ok (.invokevirtual 47, 3) := by decide +kernel
theorem dc_Re_readTerm_32 : decode M_Re_readTerm.2.1 32 = .ok (.aload_n 0, 1) := by decide +kernel
theorem dc_Re_readTerm_33 : decode M_Re_readTerm.2.1 33 = .ok (.iload_n 1, 1) := by decide +kernel
theorem dc_Re_readTerm_34 : decode M_Re_readTerm.2.1 34 = .ok (.invokevirtual 82, 3) := by decide +kernel
theorem dc_Re_readTerm_37 : decode M_Re_readTerm.2.1 37 = .ok (.ifCond .ne 5, 3) := by decide +kernel
theorem dc_Re_readTerm_40 : decode M_Re_readTerm.2.1 40 = .ok (.iconst 0, 1) := by decide +kernel
theorem dc_Re_readTerm_41 : decode M_Re_readTerm.2.1 41 = .ok (.ireturn, 1) := by decide +kernel
theorem dc_Re_readTerm_42 : decode M_Re_readTerm.2.1 42 = .ok (.aload_n 0, 1) := by decide +kernel
theorem dc_Re_readTerm_43 : decode M_Re_readTerm.2.1 43 = .ok (.bipush (-3), 2) := by decide +kernel
theorem dc_Re_readTerm_45 : decode M_Re_readTerm.2.1 45 = .ok (.invokevirtual 66, 3) := by decide +kernel
theorem dc_Re_readTerm_48 : decode M_Re_readTerm.2.1 48 = .ok (.iinc 2 1, 3) := by decide +kernel
theorem dc_Re_readTerm_51 : decode M_Re_readTerm.2.1 51 = .ok (.goto (-39), 3) := by decide +kernel
theorem dc_Re_readTerm_54 : decode M_Re_readTerm.2.1 54 = .ok (.iconst 1, 1) := by decide +kernel
theorem dc_Re_readTerm_55 : decode M_Re_readTerm.2.1 55 = .ok (.ireturn, 1) := by decide +kernel
def f_Re_readPlain (R0 : Nat → Int32 → xH → Option (Int32 × xH)) (a0 : Nat) (a1 : Int32) (h : xH) : Option (Int32 × xH) := gd (hK h a0 = 1) (jn (fun (x12 : xH) => gd (hK x12 a0 = 1) (Option.bind (f_Re_advance a0 x12) (fun q14 => some ((1 : Int32), q14.2)))) (fun k13 => if (hI h a0 4) = (1 : Int32) then Option.bind (f_Re_write a0 (hI h a0 5) h) (fun q37 => k13 q37.2) else jn (fun (x17 : Unit) => jn (fun (x19 : Unit) => some ((0 : Int32), h)) (fun k20 => if (hI h a0 4) = (40 : Int32) then if a1 < (5 : Int32) then Option.bind (f_Re_advance a0 h) (fun q23 => gd (hK q23.2 a0 = 1) (Option.bind (R0 a0 (a1 + (1 : Int32)) q23.2) (fun q24 => jn (fun (x26 : Int32 × xH) => some (nb x26.1, x26.2)) (fun k27 => jn (fun (x28 : xH) => k27 ((0 : Int32), x28)) (fun k29 => if q24.1 = 0 then k29 q24.2 else gd (hK q24.2 a0 = 1) (Option.bind (f_Re_takes a0 (41 : Int32) q24.2) (fun q31 => if q31.1 = 0 then k29 q31.2 else k27 ((1 : Int32), q31.2)))))))) else k20 () else k20 ())) (fun k18 => if (hI h a0 4) < (256 : Int32) then k18 () else if (262 : Int32) ≤ (hI h a0 4) then k18 () else Option.bind (f_Re_write a0 (((10000 : Int32) + (hI h a0 4)) - (256 : Int32)) h) (fun q36 => k13 q36.2))))
def f_Re_readOne_L2 (R0 : Nat → Int32 → xH → Option (Int32 × xH)) (a0 : Nat) (a1 : Int32) : Nat → Int32 → xH → (Int32 → xH → Option (Int32 × xH)) → Option (Int32 × xH)
  | 0, _, _, _ => none
  | n + 1, a2, h, K => gd (hK h a0 = 1) (if (hI h a0 4) = (45 : Int32) then if (5 : Int32) ≤ (a1 + a2) then K a2 h else Option.bind (f_Re_advance a0 h) (fun q9 => f_Re_readOne_L2 R0 a0 a1 n (a2 + (1 : Int32)) q9.2 K) else K a2 h)
def f_Re_readOne_L42 (R0 : Nat → Int32 → xH → Option (Int32 × xH)) (a0 : Nat) (a1 : Int32) (a2 : Int32) : Nat → Int32 → xH → (Int32 → xH → Option (Int32 × xH)) → Option (Int32 × xH)
  | 0, _, _, _ => none
  | n + 1, a3, h, K => if a2 ≤ a3 then K a3 h else gd (hK h a0 = 1) (Option.bind (f_Re_write a0 (-9 : Int32) h) (fun q16 => f_Re_readOne_L42 R0 a0 a1 a2 n (a3 + (1 : Int32)) q16.2 K))
def f_Re_readOne (R0 : Nat → Int32 → xH → Option (Int32 × xH)) (a0 : Nat) (a1 : Int32) (h : xH) : Option (Int32 × xH) := f_Re_readOne_L2 R0 a0 a1 fu (0 : Int32) h (fun v10 h11 => gd (hK h11 a0 = 1) (Option.bind (f_Re_readPlain R0 a0 (a1 + v10) h11) (fun q12 => if q12.1 = 0 then some ((0 : Int32), q12.2) else f_Re_readOne_L42 R0 a0 a1 v10 fu (0 : Int32) q12.2 (fun v18 h19 => some ((1 : Int32), h19)))))
def f_Re_readTerm_L12 (R0 : Nat → Int32 → xH → Option (Int32 × xH)) (a0 : Nat) (a1 : Int32) : Nat → Int32 → xH → (Int32 → xH → Option (Int32 × xH)) → Option (Int32 × xH)
  | 0, _, _, _ => none
  | n + 1, a2, h, K => if (160 : Int32) ≤ a2 then K a2 h else gd (hK h a0 = 1) (if (hI h a0 4) = (42 : Int32) then Option.bind (f_Re_advance a0 h) (fun q15 => gd (hK q15.2 a0 = 1) (Option.bind (f_Re_readOne R0 a0 a1 q15.2) (fun q16 => if q16.1 = 0 then some ((0 : Int32), q16.2) else gd (hK q16.2 a0 = 1) (Option.bind (f_Re_write a0 (-3 : Int32) q16.2) (fun q19 => f_Re_readTerm_L12 R0 a0 a1 n (a2 + (1 : Int32)) q19.2 K))))) else K a2 h)
def f_Re_readTerm (R0 : Nat → Int32 → xH → Option (Int32 × xH)) (a0 : Nat) (a1 : Int32) (h : xH) : Option (Int32 × xH) := gd (hK h a0 = 1) (Option.bind (f_Re_readOne R0 a0 a1 h) (fun q9 => if q9.1 = 0 then some ((0 : Int32), q9.2) else f_Re_readTerm_L12 R0 a0 a1 fu (0 : Int32) q9.2 (fun v21 h22 => some ((1 : Int32), h22))))
def f_Re_readSum_L12 (R0 : Nat → Int32 → xH → Option (Int32 × xH)) (a0 : Nat) (a1 : Int32) : Nat → Int32 → xH → (Int32 → xH → Option (Int32 × xH)) → Option (Int32 × xH)
  | 0, _, _, _ => none
  | n + 1, a2, h, K => if (160 : Int32) ≤ a2 then K a2 h else gd (hK h a0 = 1) (jn (fun (x14 : Unit) => Option.bind (f_Re_advance a0 h) (fun q16 => gd (hK q16.2 a0 = 1) (Option.bind (f_Re_readTerm R0 a0 a1 q16.2) (fun q17 => if q17.1 = 0 then some ((0 : Int32), q17.2) else gd (hK q17.2 a0 = 1) (Option.bind (f_Re_write a0 (if (hI h a0 4) = (43 : Int32) then (-1 : Int32) else (-2 : Int32)) q17.2) (fun q22 => f_Re_readSum_L12 R0 a0 a1 n (a2 + (1 : Int32)) q22.2 K)))))) (fun k15 => if (hI h a0 4) = (43 : Int32) then k15 () else if (hI h a0 4) = (45 : Int32) then k15 () else K a2 h))
def f_Re_readSum (R0 : Nat → Int32 → xH → Option (Int32 × xH)) (a0 : Nat) (a1 : Int32) (h : xH) : Option (Int32 × xH) := gd (hK h a0 = 1) (Option.bind (f_Re_readTerm R0 a0 a1 h) (fun q9 => if q9.1 = 0 then some ((0 : Int32), q9.2) else f_Re_readSum_L12 R0 a0 a1 fu (0 : Int32) q9.2 (fun v26 h27 => some ((1 : Int32), h27))))
def f_Re_readCompared (R0 : Nat → Int32 → xH → Option (Int32 × xH)) (a0 : Nat) (a1 : Int32) (h : xH) : Option (Int32 × xH) := gd (hK h a0 = 1) (Option.bind (f_Re_readSum R0 a0 a1 h) (fun q9 => if q9.1 = 0 then some ((0 : Int32), q9.2) else gd (hK q9.2 a0 = 1) (jn (fun (x13 : Unit) => Option.bind (f_Re_advance a0 q9.2) (fun q15 => gd (hK q15.2 a0 = 1) (Option.bind (f_Re_readSum R0 a0 a1 q15.2) (fun q16 => if q16.1 = 0 then some ((0 : Int32), q16.2) else gd (hK q16.2 a0 = 1) (Option.bind (f_Re_write a0 (if (hI q9.2 a0 4) = (60 : Int32) then (-4 : Int32) else (-5 : Int32)) q16.2) (fun q21 => some ((1 : Int32), q21.2))))))) (fun k14 => if (hI q9.2 a0 4) = (60 : Int32) then k14 () else if (hI q9.2 a0 4) = (61 : Int32) then k14 () else some ((1 : Int32), q9.2)))))
def f_Re_readNot_L2 (R0 : Nat → Int32 → xH → Option (Int32 × xH)) (a0 : Nat) (a1 : Int32) : Nat → Int32 → xH → (Int32 → xH → Option (Int32 × xH)) → Option (Int32 × xH)
  | 0, _, _, _ => none
  | n + 1, a2, h, K => gd (hK h a0 = 1) (if (hI h a0 4) = (267 : Int32) then if (5 : Int32) ≤ (a1 + a2) then K a2 h else Option.bind (f_Re_advance a0 h) (fun q9 => f_Re_readNot_L2 R0 a0 a1 n (a2 + (1 : Int32)) q9.2 K) else K a2 h)
def f_Re_readNot_L43 (R0 : Nat → Int32 → xH → Option (Int32 × xH)) (a0 : Nat) (a1 : Int32) (a2 : Int32) : Nat → Int32 → xH → (Int32 → xH → Option (Int32 × xH)) → Option (Int32 × xH)
  | 0, _, _, _ => none
  | n + 1, a3, h, K => if a2 ≤ a3 then K a3 h else gd (hK h a0 = 1) (Option.bind (f_Re_write a0 (-8 : Int32) h) (fun q16 => f_Re_readNot_L43 R0 a0 a1 a2 n (a3 + (1 : Int32)) q16.2 K))
def f_Re_readNot (R0 : Nat → Int32 → xH → Option (Int32 × xH)) (a0 : Nat) (a1 : Int32) (h : xH) : Option (Int32 × xH) := f_Re_readNot_L2 R0 a0 a1 fu (0 : Int32) h (fun v10 h11 => gd (hK h11 a0 = 1) (Option.bind (f_Re_readCompared R0 a0 (a1 + v10) h11) (fun q12 => if q12.1 = 0 then some ((0 : Int32), q12.2) else f_Re_readNot_L43 R0 a0 a1 v10 fu (0 : Int32) q12.2 (fun v18 h19 => some ((1 : Int32), h19)))))
def f_Re_readBoth_L12 (R0 : Nat → Int32 → xH → Option (Int32 × xH)) (a0 : Nat) (a1 : Int32) : Nat → Int32 → xH → (Int32 → xH → Option (Int32 × xH)) → Option (Int32 × xH)
  | 0, _, _, _ => none
  | n + 1, a2, h, K => if (160 : Int32) ≤ a2 then K a2 h else gd (hK h a0 = 1) (if (hI h a0 4) = (266 : Int32) then Option.bind (f_Re_advance a0 h) (fun q15 => gd (hK q15.2 a0 = 1) (Option.bind (f_Re_readNot R0 a0 a1 q15.2) (fun q16 => if q16.1 = 0 then some ((0 : Int32), q16.2) else gd (hK q16.2 a0 = 1) (Option.bind (f_Re_write a0 (-7 : Int32) q16.2) (fun q19 => f_Re_readBoth_L12 R0 a0 a1 n (a2 + (1 : Int32)) q19.2 K))))) else K a2 h)
def f_Re_readBoth (R0 : Nat → Int32 → xH → Option (Int32 × xH)) (a0 : Nat) (a1 : Int32) (h : xH) : Option (Int32 × xH) := gd (hK h a0 = 1) (Option.bind (f_Re_readNot R0 a0 a1 h) (fun q9 => if q9.1 = 0 then some ((0 : Int32), q9.2) else f_Re_readBoth_L12 R0 a0 a1 fu (0 : Int32) q9.2 (fun v21 h22 => some ((1 : Int32), h22))))
def f_Re_readEither_L12 (R0 : Nat → Int32 → xH → Option (Int32 × xH)) (a0 : Nat) (a1 : Int32) : Nat → Int32 → xH → (Int32 → xH → Option (Int32 × xH)) → Option (Int32 × xH)
  | 0, _, _, _ => none
  | n + 1, a2, h, K => if (160 : Int32) ≤ a2 then K a2 h else gd (hK h a0 = 1) (if (hI h a0 4) = (265 : Int32) then Option.bind (f_Re_advance a0 h) (fun q15 => gd (hK q15.2 a0 = 1) (Option.bind (f_Re_readBoth R0 a0 a1 q15.2) (fun q16 => if q16.1 = 0 then some ((0 : Int32), q16.2) else gd (hK q16.2 a0 = 1) (Option.bind (f_Re_write a0 (-6 : Int32) q16.2) (fun q19 => f_Re_readEither_L12 R0 a0 a1 n (a2 + (1 : Int32)) q19.2 K))))) else K a2 h)
def fb_Re_readEither (R0 : Nat → Int32 → xH → Option (Int32 × xH)) (a0 : Nat) (a1 : Int32) (h : xH) : Option (Int32 × xH) := gd (hK h a0 = 1) (Option.bind (f_Re_readBoth R0 a0 a1 h) (fun q9 => if q9.1 = 0 then some ((0 : Int32), q9.2) else f_Re_readEither_L12 R0 a0 a1 fu (0 : Int32) q9.2 (fun v21 h22 => some ((1 : Int32), h22))))
def G_Re : Nat → Nat → Int32 → xH → Option (Int32 × xH)
  | 0 => fun _ _ _ => none
  | g + 1 => fun a0 a1 h => fb_Re_readEither (G_Re g) a0 a1 h
def f_Re_readEither (a0 : Nat) (a1 : Int32) (h : xH) : Option (Int32 × xH) := G_Re 24 a0 a1 h
theorem t_Re_readPlain {l : Launch} {z : xZ} {d mc ms : Nat} {Ph : Option xV → xH → Prop} {R0 : Nat → Int32 → xH → Option (Int32 × xH)} {B : Nat} (hR0 : ∀ {d mc ms : Nat} {Ph : Option xV → xH → Prop} {a0 : Nat} {a1 : Int32} {h : xH}, B ≤ d → OK (R0 a0 a1 h) (fun q => Ph (some (xI q.1)) q.2) → Sx l z d mc ms M_Re_readEither 0 (x_en [xR a0, xI a1] 3) [] h Ph) {a0 : Nat} {a1 : Int32}  {h : xH} (hd : B + 9 ≤ d) (hk : OK (f_Re_readPlain R0 a0 a1 h) (fun q => Ph (some (xI q.1)) q.2)) : Sx l z d mc ms M_Re_readPlain 0 (x_en [xR a0, xI a1] 2) [] h Ph := by
  unfold f_Re_readPlain at hk
  refine sx_eq (lc2 := [some (xR a0), some (xI a1)]) rfl rfl ?_
  refine sx_aload_n dc_Re_readPlain_0 rfl ?_
  obtain ⟨g11, hk⟩ := hk.g
  refine sx_get (ci := 1) (k := 4) rfl (by decide) wF_Re_60 g11 dc_Re_readPlain_1 ?_
  refine sx_iconst (v := (1 : Int32)) dc_Re_readPlain_4 (by decide) ?_
  refine hk.j (X := fun x12 => Sx l z d mc ms M_Re_readPlain 103 [some (xR a0), some (xI a1)] [] x12 Ph) (fun x12 hk => ?_) (fun k13 jk13 hk => ?_)
  · refine sx_aload_n dc_Re_readPlain_103 rfl ?_
    obtain ⟨g15, hk⟩ := hk.g
    obtain ⟨q14, eq14, hk⟩ := hk.bind
    refine sx_callV (d2 := d - 1) (mc2 := 0) (ms2 := 0) (as := []) mk_Re_advance rfl (x_rk (ci := 1) g15 rfl rfl) wM_Re_47 mi_Re_advance me_Re_advance rfl (Nat.le_of_ble_eq_true rfl) (Nat.le_of_ble_eq_true rfl) dc_Re_readPlain_104 (by omega) (Nat.zero_le _) (Nat.zero_le _) ?_
    refine t_Re_advance (by omega) ⟨q14, eq14, ?_⟩
    refine sx_eq0 (lc2 := [some (xR a0), some (xI a1)]) (st2 := []) rfl rfl ?_
    refine sx_iconst (v := (1 : Int32)) dc_Re_readPlain_107 (by decide) ?_
    exact sx_retT (v := (1 : Int32)) dc_Re_readPlain_108 (Or.inl ⟨rfl, rfl⟩) (by decide) hk.val
  · refine sx_icmp_ne (tgt := 19) dc_Re_readPlain_5 (by decide) (fun c16 => ?_) (fun c16 => ?_)
    · replace hk := hk.f c16
      refine sx_aload_n dc_Re_readPlain_19 rfl ?_
      refine sx_get (ci := 1) (k := 4) rfl (by decide) wF_Re_60 g11 dc_Re_readPlain_20 ?_
      refine sx_sipush (v := (256 : Int32)) dc_Re_readPlain_23 (by decide) ?_
      refine hk.j (X := fun x17 => Sx l z d mc ms M_Re_readPlain 58 [some (xR a0), some (xI a1)] [] h Ph) (fun x17 hk => ?_) (fun k18 jk18 hk => ?_)
      · refine sx_aload_n dc_Re_readPlain_58 rfl ?_
        refine sx_get (ci := 1) (k := 4) rfl (by decide) wF_Re_60 g11 dc_Re_readPlain_59 ?_
        refine sx_bipush (v := (40 : Int32)) dc_Re_readPlain_62 (by decide) ?_
        refine hk.j (X := fun x19 => Sx l z d mc ms M_Re_readPlain 72 [some (xR a0), some (xI a1)] [] h Ph) (fun x19 hk => ?_) (fun k20 jk20 hk => ?_)
        · refine sx_iconst (v := (0 : Int32)) dc_Re_readPlain_72 (by decide) ?_
          exact sx_retT (v := (0 : Int32)) dc_Re_readPlain_73 (Or.inl ⟨rfl, rfl⟩) (by decide) hk.val
        · refine sx_icmp_ne (tgt := 72) dc_Re_readPlain_64 (by decide) (fun c21 => ?_) (fun c21 => ?_)
          · replace hk := hk.f c21
            exact jk20 () hk
          · replace hk := hk.t c21
            refine sx_iload_n dc_Re_readPlain_67 rfl ?_
            refine sx_iconst (v := (5 : Int32)) dc_Re_readPlain_68 (by decide) ?_
            refine sx_icmp_lt (tgt := 74) dc_Re_readPlain_69 (by decide) (fun c22 => ?_) (fun c22 => ?_)
            · replace hk := hk.t c22
              refine sx_aload_n dc_Re_readPlain_74 rfl ?_
              obtain ⟨q23, eq23, hk⟩ := hk.bind
              refine sx_callV (d2 := d - 1) (mc2 := 0) (ms2 := 0) (as := []) mk_Re_advance rfl (x_rk (ci := 1) g11 rfl rfl) wM_Re_47 mi_Re_advance me_Re_advance rfl (Nat.le_of_ble_eq_true rfl) (Nat.le_of_ble_eq_true rfl) dc_Re_readPlain_75 (by omega) (Nat.zero_le _) (Nat.zero_le _) ?_
              refine t_Re_advance (by omega) ⟨q23, eq23, ?_⟩
              refine sx_eq0 (lc2 := [some (xR a0), some (xI a1)]) (st2 := []) rfl rfl ?_
              refine sx_aload_n dc_Re_readPlain_78 rfl ?_
              refine sx_iload_n dc_Re_readPlain_79 rfl ?_
              refine sx_iconst (v := (1 : Int32)) dc_Re_readPlain_80 (by decide) ?_
              refine sx_iadd dc_Re_readPlain_81 ?_
              obtain ⟨g25, hk⟩ := hk.g
              obtain ⟨q24, eq24, hk⟩ := hk.bind
              refine sx_callV (d2 := d - 1) (mc2 := 0) (ms2 := 0) (as := [xI (a1 + (1 : Int32))]) mk_Re_readEither rfl (x_rk (ci := 1) g25 rfl rfl) wM_Re_54 mi_Re_readEither me_Re_readEither rfl (Nat.le_of_ble_eq_true rfl) (Nat.le_of_ble_eq_true rfl) dc_Re_readPlain_82 (by omega) (Nat.zero_le _) (Nat.zero_le _) ?_
              refine hR0 (by omega) ⟨q24, eq24, ?_⟩
              refine sx_eq0 (lc2 := [some (xR a0), some (xI a1)]) (st2 := [xI q24.1]) rfl rfl ?_
              refine hk.j (X := fun x26 => Sx l z d mc ms M_Re_readPlain 102 [some (xR a0), some (xI a1)] [xI x26.1] x26.2 Ph) (fun x26 hk => ?_) (fun k27 jk27 hk => ?_)
              · exact sx_retT dc_Re_readPlain_102 (Or.inl ⟨rfl, rfl⟩) rfl hk.val
              · refine hk.j (X := fun x28 => Sx l z d mc ms M_Re_readPlain 101 [some (xR a0), some (xI a1)] [] x28 Ph) (fun x28 hk => ?_) (fun k29 jk29 hk => ?_)
                · refine sx_iconst (v := (0 : Int32)) dc_Re_readPlain_101 (by decide) ?_
                  exact jk27 ((0 : Int32), x28) hk
                · refine sx_if_eq (tgt := 101) dc_Re_readPlain_85 (by decide) (fun c30 => ?_) (fun c30 => ?_)
                  · replace hk := hk.t c30
                    exact jk29 q24.2 hk
                  · replace hk := hk.f c30
                    refine sx_aload_n dc_Re_readPlain_88 rfl ?_
                    refine sx_bipush (v := (41 : Int32)) dc_Re_readPlain_89 (by decide) ?_
                    obtain ⟨g32, hk⟩ := hk.g
                    obtain ⟨q31, eq31, hk⟩ := hk.bind
                    refine sx_callV (d2 := d - 1) (mc2 := 0) (ms2 := 0) (as := [xI (41 : Int32)]) mk_Re_takes rfl (x_rk (ci := 1) g32 rfl rfl) wM_Re_50 mi_Re_takes me_Re_takes rfl (Nat.le_of_ble_eq_true rfl) (Nat.le_of_ble_eq_true rfl) dc_Re_readPlain_91 (by omega) (Nat.zero_le _) (Nat.zero_le _) ?_
                    refine t_Re_takes (by omega) ⟨q31, eq31, ?_⟩
                    refine sx_eq0 (lc2 := [some (xR a0), some (xI a1)]) (st2 := [xI q31.1]) rfl rfl ?_
                    refine sx_if_eq (tgt := 101) dc_Re_readPlain_94 (by decide) (fun c33 => ?_) (fun c33 => ?_)
                    · replace hk := hk.t c33
                      exact jk29 q31.2 hk
                    · replace hk := hk.f c33
                      refine sx_iconst (v := (1 : Int32)) dc_Re_readPlain_97 (by decide) ?_
                      refine sx_goto (tgt := 102) dc_Re_readPlain_98 (by decide) ?_
                      exact jk27 ((1 : Int32), q31.2) hk
            · replace hk := hk.f c22
              exact jk20 () hk
      · refine sx_icmp_lt (tgt := 58) dc_Re_readPlain_26 (by decide) (fun c34 => ?_) (fun c34 => ?_)
        · replace hk := hk.t c34
          exact jk18 () hk
        · replace hk := hk.f c34
          refine sx_aload_n dc_Re_readPlain_29 rfl ?_
          refine sx_get (ci := 1) (k := 4) rfl (by decide) wF_Re_60 g11 dc_Re_readPlain_30 ?_
          refine sx_sipush (v := (262 : Int32)) dc_Re_readPlain_33 (by decide) ?_
          refine sx_icmp_ge (tgt := 58) dc_Re_readPlain_36 (by decide) (fun c35 => ?_) (fun c35 => ?_)
          · replace hk := hk.t c35
            exact jk18 () hk
          · replace hk := hk.f c35
            refine sx_aload_n dc_Re_readPlain_39 rfl ?_
            refine sx_sipush (v := (10000 : Int32)) dc_Re_readPlain_40 (by decide) ?_
            refine sx_aload_n dc_Re_readPlain_43 rfl ?_
            refine sx_get (ci := 1) (k := 4) rfl (by decide) wF_Re_60 g11 dc_Re_readPlain_44 ?_
            refine sx_iadd dc_Re_readPlain_47 ?_
            refine sx_sipush (v := (256 : Int32)) dc_Re_readPlain_48 (by decide) ?_
            refine sx_isub dc_Re_readPlain_51 ?_
            obtain ⟨q36, eq36, hk⟩ := hk.bind
            refine sx_callV (d2 := d - 1) (mc2 := 0) (ms2 := 0) (as := [xI (((10000 : Int32) + (hI h a0 4)) - (256 : Int32))]) mk_Re_write rfl (x_rk (ci := 1) g11 rfl rfl) wM_Re_66 mi_Re_write me_Re_write rfl (Nat.le_of_ble_eq_true rfl) (Nat.le_of_ble_eq_true rfl) dc_Re_readPlain_52 (by omega) (Nat.zero_le _) (Nat.zero_le _) ?_
            refine t_Re_write (by omega) ⟨q36, eq36, ?_⟩
            refine sx_eq0 (lc2 := [some (xR a0), some (xI a1)]) (st2 := []) rfl rfl ?_
            refine sx_goto (tgt := 103) dc_Re_readPlain_55 (by decide) ?_
            exact jk13 q36.2 hk
    · replace hk := hk.t c16
      refine sx_aload_n dc_Re_readPlain_8 rfl ?_
      refine sx_aload_n dc_Re_readPlain_9 rfl ?_
      refine sx_get (ci := 1) (k := 5) rfl (by decide) wF_Re_88 g11 dc_Re_readPlain_10 ?_
      obtain ⟨q37, eq37, hk⟩ := hk.bind
      refine sx_callV (d2 := d - 1) (mc2 := 0) (ms2 := 0) (as := [xI (hI h a0 5)]) mk_Re_write rfl (x_rk (ci := 1) g11 rfl rfl) wM_Re_66 mi_Re_write me_Re_write rfl (Nat.le_of_ble_eq_true rfl) (Nat.le_of_ble_eq_true rfl) dc_Re_readPlain_13 (by omega) (Nat.zero_le _) (Nat.zero_le _) ?_
      refine t_Re_write (by omega) ⟨q37, eq37, ?_⟩
      refine sx_eq0 (lc2 := [some (xR a0), some (xI a1)]) (st2 := []) rfl rfl ?_
      refine sx_goto (tgt := 103) dc_Re_readPlain_16 (by decide) ?_
      exact jk13 q37.2 hk
theorem t_Re_readOne_L2 {l : Launch} {z : xZ} {d mc ms : Nat} {Ph : Option xV → xH → Prop} {R0 : Nat → Int32 → xH → Option (Int32 × xH)} {a0 : Nat} {a1 : Int32} {B : Nat} (hR0 : ∀ {d mc ms : Nat} {Ph : Option xV → xH → Prop} {a0 : Nat} {a1 : Int32} {h : xH}, B ≤ d → OK (R0 a0 a1 h) (fun q => Ph (some (xI q.1)) q.2) → Sx l z d mc ms M_Re_readEither 0 (x_en [xR a0, xI a1] 3) [] h Ph) (hd : B + 8 ≤ d) : ∀ (n : Nat) (a2 : Int32) (h : xH) (K : Int32 → xH → Option (Int32 × xH)), OK (f_Re_readOne_L2 R0 a0 a1 n a2 h K) (fun q => Ph (some (xI q.1)) q.2) → (∀ (a2 : Int32) (h : xH), OK (K a2 h) (fun q => Ph (some (xI q.1)) q.2) → Sx l z d mc ms M_Re_readOne 28 [some (xR a0), some (xI a1), some (xI a2), none] [] h Ph) → Sx l z d mc ms M_Re_readOne 2 [some (xR a0), some (xI a1), some (xI a2), none] [] h Ph := by
  intro n
  induction n with
  | zero => intro a2 h K hk hE; exact hk.no
  | succ n ih =>
    intro a2 h K hk hE
    rw [f_Re_readOne_L2] at hk
    refine sx_aload_n dc_Re_readOne_2 rfl ?_
    obtain ⟨g6, hk⟩ := hk.g
    refine sx_get (ci := 1) (k := 4) rfl (by decide) wF_Re_60 g6 dc_Re_readOne_3 ?_
    refine sx_bipush (v := (45 : Int32)) dc_Re_readOne_6 (by decide) ?_
    refine sx_icmp_ne (tgt := 28) dc_Re_readOne_8 (by decide) (fun c7 => ?_) (fun c7 => ?_)
    · replace hk := hk.f c7
      exact hE a2 h hk
    · replace hk := hk.t c7
      refine sx_iload_n dc_Re_readOne_11 rfl ?_
      refine sx_iload_n dc_Re_readOne_12 rfl ?_
      refine sx_iadd dc_Re_readOne_13 ?_
      refine sx_iconst (v := (5 : Int32)) dc_Re_readOne_14 (by decide) ?_
      refine sx_icmp_ge (tgt := 28) dc_Re_readOne_15 (by decide) (fun c8 => ?_) (fun c8 => ?_)
      · replace hk := hk.t c8
        exact hE a2 h hk
      · replace hk := hk.f c8
        refine sx_aload_n dc_Re_readOne_18 rfl ?_
        obtain ⟨q9, eq9, hk⟩ := hk.bind
        refine sx_callV (d2 := d - 1) (mc2 := 0) (ms2 := 0) (as := []) mk_Re_advance rfl (x_rk (ci := 1) g6 rfl rfl) wM_Re_47 mi_Re_advance me_Re_advance rfl (Nat.le_of_ble_eq_true rfl) (Nat.le_of_ble_eq_true rfl) dc_Re_readOne_19 (by omega) (Nat.zero_le _) (Nat.zero_le _) ?_
        refine t_Re_advance (by omega) ⟨q9, eq9, ?_⟩
        refine sx_eq0 (lc2 := [some (xR a0), some (xI a1), some (xI a2), none]) (st2 := []) rfl rfl ?_
        refine sx_iinc (v := (1 : Int32)) dc_Re_readOne_22 rfl (by decide) (by decide) (sx_eq (lc2 := [some (xR a0), some (xI a1), some (xI (a2 + (1 : Int32))), none]) rfl rfl ?_)
        refine sx_goto (tgt := 2) dc_Re_readOne_25 (by decide) ?_
        exact ih (a2 + (1 : Int32)) q9.2 _ hk hE
theorem t_Re_readOne_L42 {l : Launch} {z : xZ} {d mc ms : Nat} {Ph : Option xV → xH → Prop} {R0 : Nat → Int32 → xH → Option (Int32 × xH)} {a0 : Nat} {a1 : Int32} {a2 : Int32} {B : Nat} (hR0 : ∀ {d mc ms : Nat} {Ph : Option xV → xH → Prop} {a0 : Nat} {a1 : Int32} {h : xH}, B ≤ d → OK (R0 a0 a1 h) (fun q => Ph (some (xI q.1)) q.2) → Sx l z d mc ms M_Re_readEither 0 (x_en [xR a0, xI a1] 3) [] h Ph) (hd : B + 10 ≤ d) : ∀ (n : Nat) (a3 : Int32) (h : xH) (K : Int32 → xH → Option (Int32 × xH)), OK (f_Re_readOne_L42 R0 a0 a1 a2 n a3 h K) (fun q => Ph (some (xI q.1)) q.2) → (∀ (a3 : Int32) (h : xH), OK (K a3 h) (fun q => Ph (some (xI q.1)) q.2) → Sx l z d mc ms M_Re_readOne 59 [some (xR a0), some (xI a1), some (xI a2), some (xI a3)] [] h Ph) → Sx l z d mc ms M_Re_readOne 42 [some (xR a0), some (xI a1), some (xI a2), some (xI a3)] [] h Ph := by
  intro n
  induction n with
  | zero => intro a3 h K hk hE; exact hk.no
  | succ n ih =>
    intro a3 h K hk hE
    rw [f_Re_readOne_L42] at hk
    refine sx_iload_n dc_Re_readOne_42 rfl ?_
    refine sx_iload_n dc_Re_readOne_43 rfl ?_
    refine sx_icmp_ge (tgt := 59) dc_Re_readOne_44 (by decide) (fun c15 => ?_) (fun c15 => ?_)
    · replace hk := hk.t c15
      exact hE a3 h hk
    · replace hk := hk.f c15
      refine sx_aload_n dc_Re_readOne_47 rfl ?_
      refine sx_bipush (v := (-9 : Int32)) dc_Re_readOne_48 (by decide) ?_
      obtain ⟨g17, hk⟩ := hk.g
      obtain ⟨q16, eq16, hk⟩ := hk.bind
      refine sx_callV (d2 := d - 1) (mc2 := 0) (ms2 := 0) (as := [xI (-9 : Int32)]) mk_Re_write rfl (x_rk (ci := 1) g17 rfl rfl) wM_Re_66 mi_Re_write me_Re_write rfl (Nat.le_of_ble_eq_true rfl) (Nat.le_of_ble_eq_true rfl) dc_Re_readOne_50 (by omega) (Nat.zero_le _) (Nat.zero_le _) ?_
      refine t_Re_write (by omega) ⟨q16, eq16, ?_⟩
      refine sx_eq0 (lc2 := [some (xR a0), some (xI a1), some (xI a2), some (xI a3)]) (st2 := []) rfl rfl ?_
      refine sx_iinc (v := (1 : Int32)) dc_Re_readOne_53 rfl (by decide) (by decide) (sx_eq (lc2 := [some (xR a0), some (xI a1), some (xI a2), some (xI (a3 + (1 : Int32)))]) rfl rfl ?_)
      refine sx_goto (tgt := 42) dc_Re_readOne_56 (by decide) ?_
      exact ih (a3 + (1 : Int32)) q16.2 _ hk hE
theorem t_Re_readOne {l : Launch} {z : xZ} {d mc ms : Nat} {Ph : Option xV → xH → Prop} {R0 : Nat → Int32 → xH → Option (Int32 × xH)} {B : Nat} (hR0 : ∀ {d mc ms : Nat} {Ph : Option xV → xH → Prop} {a0 : Nat} {a1 : Int32} {h : xH}, B ≤ d → OK (R0 a0 a1 h) (fun q => Ph (some (xI q.1)) q.2) → Sx l z d mc ms M_Re_readEither 0 (x_en [xR a0, xI a1] 3) [] h Ph) {a0 : Nat} {a1 : Int32}  {h : xH} (hd : B + 10 ≤ d) (hk : OK (f_Re_readOne R0 a0 a1 h) (fun q => Ph (some (xI q.1)) q.2)) : Sx l z d mc ms M_Re_readOne 0 (x_en [xR a0, xI a1] 4) [] h Ph := by
  unfold f_Re_readOne at hk
  refine sx_eq (lc2 := [some (xR a0), some (xI a1), none, none]) rfl rfl ?_
  refine sx_iconst (v := (0 : Int32)) dc_Re_readOne_0 (by decide) ?_
  refine sx_istore_n dc_Re_readOne_1 (by decide) (sx_eq (lc2 := [some (xR a0), some (xI a1), some (xI (0 : Int32)), none]) rfl rfl ?_)
  refine t_Re_readOne_L2 hR0 (by omega) _ _ _ _ hk (fun v10 h11 hk => ?_)
  refine sx_aload_n dc_Re_readOne_28 rfl ?_
  refine sx_iload_n dc_Re_readOne_29 rfl ?_
  refine sx_iload_n dc_Re_readOne_30 rfl ?_
  refine sx_iadd dc_Re_readOne_31 ?_
  obtain ⟨g13, hk⟩ := hk.g
  obtain ⟨q12, eq12, hk⟩ := hk.bind
  refine sx_callV (d2 := d - 1) (mc2 := 0) (ms2 := 0) (as := [xI (a1 + v10)]) mk_Re_readPlain rfl (x_rk (ci := 1) g13 rfl rfl) wM_Re_85 mi_Re_readPlain me_Re_readPlain rfl (Nat.le_of_ble_eq_true rfl) (Nat.le_of_ble_eq_true rfl) dc_Re_readOne_32 (by omega) (Nat.zero_le _) (Nat.zero_le _) ?_
  refine t_Re_readPlain hR0 (by omega) ⟨q12, eq12, ?_⟩
  refine sx_eq0 (lc2 := [some (xR a0), some (xI a1), some (xI v10), none]) (st2 := [xI q12.1]) rfl rfl ?_
  refine sx_if_ne (tgt := 40) dc_Re_readOne_35 (by decide) (fun c14 => ?_) (fun c14 => ?_)
  · replace hk := hk.f c14
    refine sx_iconst (v := (0 : Int32)) dc_Re_readOne_40 (by decide) ?_
    refine sx_istore_n dc_Re_readOne_41 (by decide) (sx_eq (lc2 := [some (xR a0), some (xI a1), some (xI v10), some (xI (0 : Int32))]) rfl rfl ?_)
    refine t_Re_readOne_L42 hR0 (by omega) _ _ _ _ hk (fun v18 h19 hk => ?_)
    refine sx_iconst (v := (1 : Int32)) dc_Re_readOne_59 (by decide) ?_
    exact sx_retT (v := (1 : Int32)) dc_Re_readOne_60 (Or.inl ⟨rfl, rfl⟩) (by decide) hk.val
  · replace hk := hk.t c14
    refine sx_iconst (v := (0 : Int32)) dc_Re_readOne_38 (by decide) ?_
    exact sx_retT (v := (0 : Int32)) dc_Re_readOne_39 (Or.inl ⟨rfl, rfl⟩) (by decide) hk.val
theorem t_Re_readTerm_L12 {l : Launch} {z : xZ} {d mc ms : Nat} {Ph : Option xV → xH → Prop} {R0 : Nat → Int32 → xH → Option (Int32 × xH)} {a0 : Nat} {a1 : Int32} {B : Nat} (hR0 : ∀ {d mc ms : Nat} {Ph : Option xV → xH → Prop} {a0 : Nat} {a1 : Int32} {h : xH}, B ≤ d → OK (R0 a0 a1 h) (fun q => Ph (some (xI q.1)) q.2) → Sx l z d mc ms M_Re_readEither 0 (x_en [xR a0, xI a1] 3) [] h Ph) (hd : B + 11 ≤ d) : ∀ (n : Nat) (a2 : Int32) (h : xH) (K : Int32 → xH → Option (Int32 × xH)), OK (f_Re_readTerm_L12 R0 a0 a1 n a2 h K) (fun q => Ph (some (xI q.1)) q.2) → (∀ (a2 : Int32) (h : xH), OK (K a2 h) (fun q => Ph (some (xI q.1)) q.2) → Sx l z d mc ms M_Re_readTerm 54 [some (xR a0), some (xI a1), some (xI a2)] [] h Ph) → Sx l z d mc ms M_Re_readTerm 12 [some (xR a0), some (xI a1), some (xI a2)] [] h Ph := by
  intro n
  induction n with
  | zero => intro a2 h K hk hE; exact hk.no
  | succ n ih =>
    intro a2 h K hk hE
    rw [f_Re_readTerm_L12] at hk
    refine sx_iload_n dc_Re_readTerm_12 rfl ?_
    refine sx_sipush (v := (160 : Int32)) dc_Re_readTerm_13 (by decide) ?_
    refine sx_icmp_ge (tgt := 54) dc_Re_readTerm_16 (by decide) (fun c12 => ?_) (fun c12 => ?_)
    · replace hk := hk.t c12
      exact hE a2 h hk
    · replace hk := hk.f c12
      refine sx_aload_n dc_Re_readTerm_19 rfl ?_
      obtain ⟨g13, hk⟩ := hk.g
      refine sx_get (ci := 1) (k := 4) rfl (by decide) wF_Re_60 g13 dc_Re_readTerm_20 ?_
      refine sx_bipush (v := (42 : Int32)) dc_Re_readTerm_23 (by decide) ?_
      refine sx_icmp_ne (tgt := 54) dc_Re_readTerm_25 (by decide) (fun c14 => ?_) (fun c14 => ?_)
      · replace hk := hk.f c14
        exact hE a2 h hk
      · replace hk := hk.t c14
        refine sx_aload_n dc_Re_readTerm_28 rfl ?_
        obtain ⟨q15, eq15, hk⟩ := hk.bind
        refine sx_callV (d2 := d - 1) (mc2 := 0) (ms2 := 0) (as := []) mk_Re_advance rfl (x_rk (ci := 1) g13 rfl rfl) wM_Re_47 mi_Re_advance me_Re_advance rfl (Nat.le_of_ble_eq_true rfl) (Nat.le_of_ble_eq_true rfl) dc_Re_readTerm_29 (by omega) (Nat.zero_le _) (Nat.zero_le _) ?_
        refine t_Re_advance (by omega) ⟨q15, eq15, ?_⟩
        refine sx_eq0 (lc2 := [some (xR a0), some (xI a1), some (xI a2)]) (st2 := []) rfl rfl ?_
        refine sx_aload_n dc_Re_readTerm_32 rfl ?_
        refine sx_iload_n dc_Re_readTerm_33 rfl ?_
        obtain ⟨g17, hk⟩ := hk.g
        obtain ⟨q16, eq16, hk⟩ := hk.bind
        refine sx_callV (d2 := d - 1) (mc2 := 0) (ms2 := 0) (as := [xI a1]) mk_Re_readOne rfl (x_rk (ci := 1) g17 rfl rfl) wM_Re_82 mi_Re_readOne me_Re_readOne rfl (Nat.le_of_ble_eq_true rfl) (Nat.le_of_ble_eq_true rfl) dc_Re_readTerm_34 (by omega) (Nat.zero_le _) (Nat.zero_le _) ?_
        refine t_Re_readOne hR0 (by omega) ⟨q16, eq16, ?_⟩
        refine sx_eq0 (lc2 := [some (xR a0), some (xI a1), some (xI a2)]) (st2 := [xI q16.1]) rfl rfl ?_
        refine sx_if_ne (tgt := 42) dc_Re_readTerm_37 (by decide) (fun c18 => ?_) (fun c18 => ?_)
        · replace hk := hk.f c18
          refine sx_aload_n dc_Re_readTerm_42 rfl ?_
          refine sx_bipush (v := (-3 : Int32)) dc_Re_readTerm_43 (by decide) ?_
          obtain ⟨g20, hk⟩ := hk.g
          obtain ⟨q19, eq19, hk⟩ := hk.bind
          refine sx_callV (d2 := d - 1) (mc2 := 0) (ms2 := 0) (as := [xI (-3 : Int32)]) mk_Re_write rfl (x_rk (ci := 1) g20 rfl rfl) wM_Re_66 mi_Re_write me_Re_write rfl (Nat.le_of_ble_eq_true rfl) (Nat.le_of_ble_eq_true rfl) dc_Re_readTerm_45 (by omega) (Nat.zero_le _) (Nat.zero_le _) ?_
          refine t_Re_write (by omega) ⟨q19, eq19, ?_⟩
          refine sx_eq0 (lc2 := [some (xR a0), some (xI a1), some (xI a2)]) (st2 := []) rfl rfl ?_
          refine sx_iinc (v := (1 : Int32)) dc_Re_readTerm_48 rfl (by decide) (by decide) (sx_eq (lc2 := [some (xR a0), some (xI a1), some (xI (a2 + (1 : Int32)))]) rfl rfl ?_)
          refine sx_goto (tgt := 12) dc_Re_readTerm_51 (by decide) ?_
          exact ih (a2 + (1 : Int32)) q19.2 _ hk hE
        · replace hk := hk.t c18
          refine sx_iconst (v := (0 : Int32)) dc_Re_readTerm_40 (by decide) ?_
          exact sx_retT (v := (0 : Int32)) dc_Re_readTerm_41 (Or.inl ⟨rfl, rfl⟩) (by decide) hk.val
theorem t_Re_readTerm {l : Launch} {z : xZ} {d mc ms : Nat} {Ph : Option xV → xH → Prop} {R0 : Nat → Int32 → xH → Option (Int32 × xH)} {B : Nat} (hR0 : ∀ {d mc ms : Nat} {Ph : Option xV → xH → Prop} {a0 : Nat} {a1 : Int32} {h : xH}, B ≤ d → OK (R0 a0 a1 h) (fun q => Ph (some (xI q.1)) q.2) → Sx l z d mc ms M_Re_readEither 0 (x_en [xR a0, xI a1] 3) [] h Ph) {a0 : Nat} {a1 : Int32}  {h : xH} (hd : B + 11 ≤ d) (hk : OK (f_Re_readTerm R0 a0 a1 h) (fun q => Ph (some (xI q.1)) q.2)) : Sx l z d mc ms M_Re_readTerm 0 (x_en [xR a0, xI a1] 3) [] h Ph := by
  unfold f_Re_readTerm at hk
  refine sx_eq (lc2 := [some (xR a0), some (xI a1), none]) rfl rfl ?_
  refine sx_aload_n dc_Re_readTerm_0 rfl ?_
  refine sx_iload_n dc_Re_readTerm_1 rfl ?_
  obtain ⟨g10, hk⟩ := hk.g
  obtain ⟨q9, eq9, hk⟩ := hk.bind
  refine sx_callV (d2 := d - 1) (mc2 := 0) (ms2 := 0) (as := [xI a1]) mk_Re_readOne rfl (x_rk (ci := 1) g10 rfl rfl) wM_Re_82 mi_Re_readOne me_Re_readOne rfl (Nat.le_of_ble_eq_true rfl) (Nat.le_of_ble_eq_true rfl) dc_Re_readTerm_2 (by omega) (Nat.zero_le _) (Nat.zero_le _) ?_
  refine t_Re_readOne hR0 (by omega) ⟨q9, eq9, ?_⟩
  refine sx_eq0 (lc2 := [some (xR a0), some (xI a1), none]) (st2 := [xI q9.1]) rfl rfl ?_
  refine sx_if_ne (tgt := 10) dc_Re_readTerm_5 (by decide) (fun c11 => ?_) (fun c11 => ?_)
  · replace hk := hk.f c11
    refine sx_iconst (v := (0 : Int32)) dc_Re_readTerm_10 (by decide) ?_
    refine sx_istore_n dc_Re_readTerm_11 (by decide) (sx_eq (lc2 := [some (xR a0), some (xI a1), some (xI (0 : Int32))]) rfl rfl ?_)
    refine t_Re_readTerm_L12 hR0 (by omega) _ _ _ _ hk (fun v21 h22 hk => ?_)
    refine sx_iconst (v := (1 : Int32)) dc_Re_readTerm_54 (by decide) ?_
    exact sx_retT (v := (1 : Int32)) dc_Re_readTerm_55 (Or.inl ⟨rfl, rfl⟩) (by decide) hk.val
  · replace hk := hk.t c11
    refine sx_iconst (v := (0 : Int32)) dc_Re_readTerm_8 (by decide) ?_
    exact sx_retT (v := (0 : Int32)) dc_Re_readTerm_9 (Or.inl ⟨rfl, rfl⟩) (by decide) hk.val
theorem t_Re_readSum_L12 {l : Launch} {z : xZ} {d mc ms : Nat} {Ph : Option xV → xH → Prop} {R0 : Nat → Int32 → xH → Option (Int32 × xH)} {a0 : Nat} {a1 : Int32} {B : Nat} (hR0 : ∀ {d mc ms : Nat} {Ph : Option xV → xH → Prop} {a0 : Nat} {a1 : Int32} {h : xH}, B ≤ d → OK (R0 a0 a1 h) (fun q => Ph (some (xI q.1)) q.2) → Sx l z d mc ms M_Re_readEither 0 (x_en [xR a0, xI a1] 3) [] h Ph) (hd : B + 12 ≤ d) : ∀ (n : Nat) (a2 : Int32) (h : xH) (K : Int32 → xH → Option (Int32 × xH)), OK (f_Re_readSum_L12 R0 a0 a1 n a2 h K) (fun q => Ph (some (xI q.1)) q.2) → (∀ (a2 : Int32) (h : xH), OK (K a2 h) (fun q => Ph (some (xI q.1)) q.2) → Sx l z d mc ms M_Re_readSum 78 [some (xR a0), some (xI a1), some (xI a2), none] [] h Ph) → Sx l z d mc ms M_Re_readSum 12 [some (xR a0), some (xI a1), some (xI a2), none] [] h Ph := by
  intro n
  induction n with
  | zero => intro a2 h K hk hE; exact hk.no
  | succ n ih =>
    intro a2 h K hk hE
    rw [f_Re_readSum_L12] at hk
    refine sx_iload_n dc_Re_readSum_12 rfl ?_
    refine sx_sipush (v := (160 : Int32)) dc_Re_readSum_13 (by decide) ?_
    refine sx_icmp_ge (tgt := 78) dc_Re_readSum_16 (by decide) (fun c12 => ?_) (fun c12 => ?_)
    · replace hk := hk.t c12
      exact hE a2 h hk
    · replace hk := hk.f c12
      refine sx_aload_n dc_Re_readSum_19 rfl ?_
      obtain ⟨g13, hk⟩ := hk.g
      refine sx_get (ci := 1) (k := 4) rfl (by decide) wF_Re_60 g13 dc_Re_readSum_20 ?_
      refine sx_bipush (v := (43 : Int32)) dc_Re_readSum_23 (by decide) ?_
      refine hk.j (X := fun x14 => Sx l z d mc ms M_Re_readSum 37 [some (xR a0), some (xI a1), some (xI a2), none] [] h Ph) (fun x14 hk => ?_) (fun k15 jk15 hk => ?_)
      · refine sx_aload_n dc_Re_readSum_37 rfl ?_
        refine sx_get (ci := 1) (k := 4) rfl (by decide) wF_Re_60 g13 dc_Re_readSum_38 ?_
        refine sx_istore_n dc_Re_readSum_41 (by decide) (sx_eq (lc2 := [some (xR a0), some (xI a1), some (xI a2), some (xI (hI h a0 4))]) rfl rfl ?_)
        refine sx_aload_n dc_Re_readSum_42 rfl ?_
        obtain ⟨q16, eq16, hk⟩ := hk.bind
        refine sx_callV (d2 := d - 1) (mc2 := 0) (ms2 := 0) (as := []) mk_Re_advance rfl (x_rk (ci := 1) g13 rfl rfl) wM_Re_47 mi_Re_advance me_Re_advance rfl (Nat.le_of_ble_eq_true rfl) (Nat.le_of_ble_eq_true rfl) dc_Re_readSum_43 (by omega) (Nat.zero_le _) (Nat.zero_le _) ?_
        refine t_Re_advance (by omega) ⟨q16, eq16, ?_⟩
        refine sx_eq0 (lc2 := [some (xR a0), some (xI a1), some (xI a2), some (xI (hI h a0 4))]) (st2 := []) rfl rfl ?_
        refine sx_aload_n dc_Re_readSum_46 rfl ?_
        refine sx_iload_n dc_Re_readSum_47 rfl ?_
        obtain ⟨g18, hk⟩ := hk.g
        obtain ⟨q17, eq17, hk⟩ := hk.bind
        refine sx_callV (d2 := d - 1) (mc2 := 0) (ms2 := 0) (as := [xI a1]) mk_Re_readTerm rfl (x_rk (ci := 1) g18 rfl rfl) wM_Re_79 mi_Re_readTerm me_Re_readTerm rfl (Nat.le_of_ble_eq_true rfl) (Nat.le_of_ble_eq_true rfl) dc_Re_readSum_48 (by omega) (Nat.zero_le _) (Nat.zero_le _) ?_
        refine t_Re_readTerm hR0 (by omega) ⟨q17, eq17, ?_⟩
        refine sx_eq0 (lc2 := [some (xR a0), some (xI a1), some (xI a2), some (xI (hI h a0 4))]) (st2 := [xI q17.1]) rfl rfl ?_
        refine sx_if_ne (tgt := 56) dc_Re_readSum_51 (by decide) (fun c19 => ?_) (fun c19 => ?_)
        · replace hk := hk.f c19
          refine sx_aload_n dc_Re_readSum_56 rfl ?_
          refine sx_iload_n dc_Re_readSum_57 rfl ?_
          refine sx_bipush (v := (43 : Int32)) dc_Re_readSum_58 (by decide) ?_
          suffices J20 : Sx l z d mc ms M_Re_readSum 69 [some (xR a0), some (xI a1), some (xI a2), some (xI (hI h a0 4))] [xI (if (hI h a0 4) = (43 : Int32) then (-1 : Int32) else (-2 : Int32)), xR a0] q17.2 Ph by
            refine sx_icmp_ne (tgt := 67) dc_Re_readSum_60 (by decide) (fun c21 => ?_) (fun c21 => ?_)
            · try simp only [if_neg c21] at J20
              refine sx_bipush (v := (-2 : Int32)) dc_Re_readSum_67 (by decide) ?_
              exact J20
            · try simp only [if_pos c21] at J20
              refine sx_iconst (v := (-1 : Int32)) dc_Re_readSum_63 (by decide) ?_
              refine sx_goto (tgt := 69) dc_Re_readSum_64 (by decide) ?_
              exact J20
          obtain ⟨g23, hk⟩ := hk.g
          obtain ⟨q22, eq22, hk⟩ := hk.bind
          refine sx_callV (d2 := d - 1) (mc2 := 0) (ms2 := 0) (as := [xI (if (hI h a0 4) = (43 : Int32) then (-1 : Int32) else (-2 : Int32))]) mk_Re_write rfl (x_rk (ci := 1) g23 rfl rfl) wM_Re_66 mi_Re_write me_Re_write rfl (Nat.le_of_ble_eq_true rfl) (Nat.le_of_ble_eq_true rfl) dc_Re_readSum_69 (by omega) (Nat.zero_le _) (Nat.zero_le _) ?_
          refine t_Re_write (by omega) ⟨q22, eq22, ?_⟩
          refine sx_eq0 (lc2 := [some (xR a0), some (xI a1), some (xI a2), some (xI (hI h a0 4))]) (st2 := []) rfl rfl ?_
          refine sx_iinc (v := (1 : Int32)) dc_Re_readSum_72 rfl (by decide) (by decide) (sx_eq (lc2 := [some (xR a0), some (xI a1), some (xI (a2 + (1 : Int32))), some (xI (hI h a0 4))]) rfl rfl ?_)
          refine sx_goto (tgt := 12) dc_Re_readSum_75 (by decide) ?_
          exact sx_less (by simp [x_le]) (ih (a2 + (1 : Int32)) q22.2 _ hk hE)
        · replace hk := hk.t c19
          refine sx_iconst (v := (0 : Int32)) dc_Re_readSum_54 (by decide) ?_
          exact sx_retT (v := (0 : Int32)) dc_Re_readSum_55 (Or.inl ⟨rfl, rfl⟩) (by decide) hk.val
      · refine sx_icmp_eq (tgt := 37) dc_Re_readSum_25 (by decide) (fun c24 => ?_) (fun c24 => ?_)
        · replace hk := hk.t c24
          exact jk15 () hk
        · replace hk := hk.f c24
          refine sx_aload_n dc_Re_readSum_28 rfl ?_
          refine sx_get (ci := 1) (k := 4) rfl (by decide) wF_Re_60 g13 dc_Re_readSum_29 ?_
          refine sx_bipush (v := (45 : Int32)) dc_Re_readSum_32 (by decide) ?_
          refine sx_icmp_ne (tgt := 78) dc_Re_readSum_34 (by decide) (fun c25 => ?_) (fun c25 => ?_)
          · replace hk := hk.f c25
            exact hE a2 h hk
          · replace hk := hk.t c25
            exact jk15 () hk
theorem t_Re_readSum {l : Launch} {z : xZ} {d mc ms : Nat} {Ph : Option xV → xH → Prop} {R0 : Nat → Int32 → xH → Option (Int32 × xH)} {B : Nat} (hR0 : ∀ {d mc ms : Nat} {Ph : Option xV → xH → Prop} {a0 : Nat} {a1 : Int32} {h : xH}, B ≤ d → OK (R0 a0 a1 h) (fun q => Ph (some (xI q.1)) q.2) → Sx l z d mc ms M_Re_readEither 0 (x_en [xR a0, xI a1] 3) [] h Ph) {a0 : Nat} {a1 : Int32}  {h : xH} (hd : B + 12 ≤ d) (hk : OK (f_Re_readSum R0 a0 a1 h) (fun q => Ph (some (xI q.1)) q.2)) : Sx l z d mc ms M_Re_readSum 0 (x_en [xR a0, xI a1] 4) [] h Ph := by
  unfold f_Re_readSum at hk
  refine sx_eq (lc2 := [some (xR a0), some (xI a1), none, none]) rfl rfl ?_
  refine sx_aload_n dc_Re_readSum_0 rfl ?_
  refine sx_iload_n dc_Re_readSum_1 rfl ?_
  obtain ⟨g10, hk⟩ := hk.g
  obtain ⟨q9, eq9, hk⟩ := hk.bind
  refine sx_callV (d2 := d - 1) (mc2 := 0) (ms2 := 0) (as := [xI a1]) mk_Re_readTerm rfl (x_rk (ci := 1) g10 rfl rfl) wM_Re_79 mi_Re_readTerm me_Re_readTerm rfl (Nat.le_of_ble_eq_true rfl) (Nat.le_of_ble_eq_true rfl) dc_Re_readSum_2 (by omega) (Nat.zero_le _) (Nat.zero_le _) ?_
  refine t_Re_readTerm hR0 (by omega) ⟨q9, eq9, ?_⟩
  refine sx_eq0 (lc2 := [some (xR a0), some (xI a1), none, none]) (st2 := [xI q9.1]) rfl rfl ?_
  refine sx_if_ne (tgt := 10) dc_Re_readSum_5 (by decide) (fun c11 => ?_) (fun c11 => ?_)
  · replace hk := hk.f c11
    refine sx_iconst (v := (0 : Int32)) dc_Re_readSum_10 (by decide) ?_
    refine sx_istore_n dc_Re_readSum_11 (by decide) (sx_eq (lc2 := [some (xR a0), some (xI a1), some (xI (0 : Int32)), none]) rfl rfl ?_)
    refine t_Re_readSum_L12 hR0 (by omega) _ _ _ _ hk (fun v26 h27 hk => ?_)
    refine sx_iconst (v := (1 : Int32)) dc_Re_readSum_78 (by decide) ?_
    exact sx_retT (v := (1 : Int32)) dc_Re_readSum_79 (Or.inl ⟨rfl, rfl⟩) (by decide) hk.val
  · replace hk := hk.t c11
    refine sx_iconst (v := (0 : Int32)) dc_Re_readSum_8 (by decide) ?_
    exact sx_retT (v := (0 : Int32)) dc_Re_readSum_9 (Or.inl ⟨rfl, rfl⟩) (by decide) hk.val
theorem t_Re_readCompared {l : Launch} {z : xZ} {d mc ms : Nat} {Ph : Option xV → xH → Prop} {R0 : Nat → Int32 → xH → Option (Int32 × xH)} {B : Nat} (hR0 : ∀ {d mc ms : Nat} {Ph : Option xV → xH → Prop} {a0 : Nat} {a1 : Int32} {h : xH}, B ≤ d → OK (R0 a0 a1 h) (fun q => Ph (some (xI q.1)) q.2) → Sx l z d mc ms M_Re_readEither 0 (x_en [xR a0, xI a1] 3) [] h Ph) {a0 : Nat} {a1 : Int32}  {h : xH} (hd : B + 13 ≤ d) (hk : OK (f_Re_readCompared R0 a0 a1 h) (fun q => Ph (some (xI q.1)) q.2)) : Sx l z d mc ms M_Re_readCompared 0 (x_en [xR a0, xI a1] 3) [] h Ph := by
  unfold f_Re_readCompared at hk
  refine sx_eq (lc2 := [some (xR a0), some (xI a1), none]) rfl rfl ?_
  refine sx_aload_n dc_Re_readCompared_0 rfl ?_
  refine sx_iload_n dc_Re_readCompared_1 rfl ?_
  obtain ⟨g10, hk⟩ := hk.g
  obtain ⟨q9, eq9, hk⟩ := hk.bind
  refine sx_callV (d2 := d - 1) (mc2 := 0) (ms2 := 0) (as := [xI a1]) mk_Re_readSum rfl (x_rk (ci := 1) g10 rfl rfl) wM_Re_76 mi_Re_readSum me_Re_readSum rfl (Nat.le_of_ble_eq_true rfl) (Nat.le_of_ble_eq_true rfl) dc_Re_readCompared_2 (by omega) (Nat.zero_le _) (Nat.zero_le _) ?_
  refine t_Re_readSum hR0 (by omega) ⟨q9, eq9, ?_⟩
  refine sx_eq0 (lc2 := [some (xR a0), some (xI a1), none]) (st2 := [xI q9.1]) rfl rfl ?_
  refine sx_if_ne (tgt := 10) dc_Re_readCompared_5 (by decide) (fun c11 => ?_) (fun c11 => ?_)
  · replace hk := hk.f c11
    refine sx_aload_n dc_Re_readCompared_10 rfl ?_
    obtain ⟨g12, hk⟩ := hk.g
    refine sx_get (ci := 1) (k := 4) rfl (by decide) wF_Re_60 g12 dc_Re_readCompared_11 ?_
    refine sx_bipush (v := (60 : Int32)) dc_Re_readCompared_14 (by decide) ?_
    refine hk.j (X := fun x13 => Sx l z d mc ms M_Re_readCompared 30 [some (xR a0), some (xI a1), none] [] q9.2 Ph) (fun x13 hk => ?_) (fun k14 jk14 hk => ?_)
    · refine sx_aload_n dc_Re_readCompared_30 rfl ?_
      refine sx_get (ci := 1) (k := 4) rfl (by decide) wF_Re_60 g12 dc_Re_readCompared_31 ?_
      refine sx_istore_n dc_Re_readCompared_34 (by decide) (sx_eq (lc2 := [some (xR a0), some (xI a1), some (xI (hI q9.2 a0 4))]) rfl rfl ?_)
      refine sx_aload_n dc_Re_readCompared_35 rfl ?_
      obtain ⟨q15, eq15, hk⟩ := hk.bind
      refine sx_callV (d2 := d - 1) (mc2 := 0) (ms2 := 0) (as := []) mk_Re_advance rfl (x_rk (ci := 1) g12 rfl rfl) wM_Re_47 mi_Re_advance me_Re_advance rfl (Nat.le_of_ble_eq_true rfl) (Nat.le_of_ble_eq_true rfl) dc_Re_readCompared_36 (by omega) (Nat.zero_le _) (Nat.zero_le _) ?_
      refine t_Re_advance (by omega) ⟨q15, eq15, ?_⟩
      refine sx_eq0 (lc2 := [some (xR a0), some (xI a1), some (xI (hI q9.2 a0 4))]) (st2 := []) rfl rfl ?_
      refine sx_aload_n dc_Re_readCompared_39 rfl ?_
      refine sx_iload_n dc_Re_readCompared_40 rfl ?_
      obtain ⟨g17, hk⟩ := hk.g
      obtain ⟨q16, eq16, hk⟩ := hk.bind
      refine sx_callV (d2 := d - 1) (mc2 := 0) (ms2 := 0) (as := [xI a1]) mk_Re_readSum rfl (x_rk (ci := 1) g17 rfl rfl) wM_Re_76 mi_Re_readSum me_Re_readSum rfl (Nat.le_of_ble_eq_true rfl) (Nat.le_of_ble_eq_true rfl) dc_Re_readCompared_41 (by omega) (Nat.zero_le _) (Nat.zero_le _) ?_
      refine t_Re_readSum hR0 (by omega) ⟨q16, eq16, ?_⟩
      refine sx_eq0 (lc2 := [some (xR a0), some (xI a1), some (xI (hI q9.2 a0 4))]) (st2 := [xI q16.1]) rfl rfl ?_
      refine sx_if_ne (tgt := 49) dc_Re_readCompared_44 (by decide) (fun c18 => ?_) (fun c18 => ?_)
      · replace hk := hk.f c18
        refine sx_aload_n dc_Re_readCompared_49 rfl ?_
        refine sx_iload_n dc_Re_readCompared_50 rfl ?_
        refine sx_bipush (v := (60 : Int32)) dc_Re_readCompared_51 (by decide) ?_
        suffices J19 : Sx l z d mc ms M_Re_readCompared 63 [some (xR a0), some (xI a1), some (xI (hI q9.2 a0 4))] [xI (if (hI q9.2 a0 4) = (60 : Int32) then (-4 : Int32) else (-5 : Int32)), xR a0] q16.2 Ph by
          refine sx_icmp_ne (tgt := 61) dc_Re_readCompared_53 (by decide) (fun c20 => ?_) (fun c20 => ?_)
          · try simp only [if_neg c20] at J19
            refine sx_bipush (v := (-5 : Int32)) dc_Re_readCompared_61 (by decide) ?_
            exact J19
          · try simp only [if_pos c20] at J19
            refine sx_bipush (v := (-4 : Int32)) dc_Re_readCompared_56 (by decide) ?_
            refine sx_goto (tgt := 63) dc_Re_readCompared_58 (by decide) ?_
            exact J19
        obtain ⟨g22, hk⟩ := hk.g
        obtain ⟨q21, eq21, hk⟩ := hk.bind
        refine sx_callV (d2 := d - 1) (mc2 := 0) (ms2 := 0) (as := [xI (if (hI q9.2 a0 4) = (60 : Int32) then (-4 : Int32) else (-5 : Int32))]) mk_Re_write rfl (x_rk (ci := 1) g22 rfl rfl) wM_Re_66 mi_Re_write me_Re_write rfl (Nat.le_of_ble_eq_true rfl) (Nat.le_of_ble_eq_true rfl) dc_Re_readCompared_63 (by omega) (Nat.zero_le _) (Nat.zero_le _) ?_
        refine t_Re_write (by omega) ⟨q21, eq21, ?_⟩
        refine sx_eq0 (lc2 := [some (xR a0), some (xI a1), some (xI (hI q9.2 a0 4))]) (st2 := []) rfl rfl ?_
        refine sx_iconst (v := (1 : Int32)) dc_Re_readCompared_66 (by decide) ?_
        exact sx_retT (v := (1 : Int32)) dc_Re_readCompared_67 (Or.inl ⟨rfl, rfl⟩) (by decide) hk.val
      · replace hk := hk.t c18
        refine sx_iconst (v := (0 : Int32)) dc_Re_readCompared_47 (by decide) ?_
        exact sx_retT (v := (0 : Int32)) dc_Re_readCompared_48 (Or.inl ⟨rfl, rfl⟩) (by decide) hk.val
    · refine sx_icmp_eq (tgt := 30) dc_Re_readCompared_16 (by decide) (fun c23 => ?_) (fun c23 => ?_)
      · replace hk := hk.t c23
        exact jk14 () hk
      · replace hk := hk.f c23
        refine sx_aload_n dc_Re_readCompared_19 rfl ?_
        refine sx_get (ci := 1) (k := 4) rfl (by decide) wF_Re_60 g12 dc_Re_readCompared_20 ?_
        refine sx_bipush (v := (61 : Int32)) dc_Re_readCompared_23 (by decide) ?_
        refine sx_icmp_eq (tgt := 30) dc_Re_readCompared_25 (by decide) (fun c24 => ?_) (fun c24 => ?_)
        · replace hk := hk.t c24
          exact jk14 () hk
        · replace hk := hk.f c24
          refine sx_iconst (v := (1 : Int32)) dc_Re_readCompared_28 (by decide) ?_
          exact sx_retT (v := (1 : Int32)) dc_Re_readCompared_29 (Or.inl ⟨rfl, rfl⟩) (by decide) hk.val
  · replace hk := hk.t c11
    refine sx_iconst (v := (0 : Int32)) dc_Re_readCompared_8 (by decide) ?_
    exact sx_retT (v := (0 : Int32)) dc_Re_readCompared_9 (Or.inl ⟨rfl, rfl⟩) (by decide) hk.val
theorem t_Re_readNot_L2 {l : Launch} {z : xZ} {d mc ms : Nat} {Ph : Option xV → xH → Prop} {R0 : Nat → Int32 → xH → Option (Int32 × xH)} {a0 : Nat} {a1 : Int32} {B : Nat} (hR0 : ∀ {d mc ms : Nat} {Ph : Option xV → xH → Prop} {a0 : Nat} {a1 : Int32} {h : xH}, B ≤ d → OK (R0 a0 a1 h) (fun q => Ph (some (xI q.1)) q.2) → Sx l z d mc ms M_Re_readEither 0 (x_en [xR a0, xI a1] 3) [] h Ph) (hd : B + 8 ≤ d) : ∀ (n : Nat) (a2 : Int32) (h : xH) (K : Int32 → xH → Option (Int32 × xH)), OK (f_Re_readNot_L2 R0 a0 a1 n a2 h K) (fun q => Ph (some (xI q.1)) q.2) → (∀ (a2 : Int32) (h : xH), OK (K a2 h) (fun q => Ph (some (xI q.1)) q.2) → Sx l z d mc ms M_Re_readNot 29 [some (xR a0), some (xI a1), some (xI a2), none] [] h Ph) → Sx l z d mc ms M_Re_readNot 2 [some (xR a0), some (xI a1), some (xI a2), none] [] h Ph := by
  intro n
  induction n with
  | zero => intro a2 h K hk hE; exact hk.no
  | succ n ih =>
    intro a2 h K hk hE
    rw [f_Re_readNot_L2] at hk
    refine sx_aload_n dc_Re_readNot_2 rfl ?_
    obtain ⟨g6, hk⟩ := hk.g
    refine sx_get (ci := 1) (k := 4) rfl (by decide) wF_Re_60 g6 dc_Re_readNot_3 ?_
    refine sx_sipush (v := (267 : Int32)) dc_Re_readNot_6 (by decide) ?_
    refine sx_icmp_ne (tgt := 29) dc_Re_readNot_9 (by decide) (fun c7 => ?_) (fun c7 => ?_)
    · replace hk := hk.f c7
      exact hE a2 h hk
    · replace hk := hk.t c7
      refine sx_iload_n dc_Re_readNot_12 rfl ?_
      refine sx_iload_n dc_Re_readNot_13 rfl ?_
      refine sx_iadd dc_Re_readNot_14 ?_
      refine sx_iconst (v := (5 : Int32)) dc_Re_readNot_15 (by decide) ?_
      refine sx_icmp_ge (tgt := 29) dc_Re_readNot_16 (by decide) (fun c8 => ?_) (fun c8 => ?_)
      · replace hk := hk.t c8
        exact hE a2 h hk
      · replace hk := hk.f c8
        refine sx_aload_n dc_Re_readNot_19 rfl ?_
        obtain ⟨q9, eq9, hk⟩ := hk.bind
        refine sx_callV (d2 := d - 1) (mc2 := 0) (ms2 := 0) (as := []) mk_Re_advance rfl (x_rk (ci := 1) g6 rfl rfl) wM_Re_47 mi_Re_advance me_Re_advance rfl (Nat.le_of_ble_eq_true rfl) (Nat.le_of_ble_eq_true rfl) dc_Re_readNot_20 (by omega) (Nat.zero_le _) (Nat.zero_le _) ?_
        refine t_Re_advance (by omega) ⟨q9, eq9, ?_⟩
        refine sx_eq0 (lc2 := [some (xR a0), some (xI a1), some (xI a2), none]) (st2 := []) rfl rfl ?_
        refine sx_iinc (v := (1 : Int32)) dc_Re_readNot_23 rfl (by decide) (by decide) (sx_eq (lc2 := [some (xR a0), some (xI a1), some (xI (a2 + (1 : Int32))), none]) rfl rfl ?_)
        refine sx_goto (tgt := 2) dc_Re_readNot_26 (by decide) ?_
        exact ih (a2 + (1 : Int32)) q9.2 _ hk hE
theorem t_Re_readNot_L43 {l : Launch} {z : xZ} {d mc ms : Nat} {Ph : Option xV → xH → Prop} {R0 : Nat → Int32 → xH → Option (Int32 × xH)} {a0 : Nat} {a1 : Int32} {a2 : Int32} {B : Nat} (hR0 : ∀ {d mc ms : Nat} {Ph : Option xV → xH → Prop} {a0 : Nat} {a1 : Int32} {h : xH}, B ≤ d → OK (R0 a0 a1 h) (fun q => Ph (some (xI q.1)) q.2) → Sx l z d mc ms M_Re_readEither 0 (x_en [xR a0, xI a1] 3) [] h Ph) (hd : B + 14 ≤ d) : ∀ (n : Nat) (a3 : Int32) (h : xH) (K : Int32 → xH → Option (Int32 × xH)), OK (f_Re_readNot_L43 R0 a0 a1 a2 n a3 h K) (fun q => Ph (some (xI q.1)) q.2) → (∀ (a3 : Int32) (h : xH), OK (K a3 h) (fun q => Ph (some (xI q.1)) q.2) → Sx l z d mc ms M_Re_readNot 60 [some (xR a0), some (xI a1), some (xI a2), some (xI a3)] [] h Ph) → Sx l z d mc ms M_Re_readNot 43 [some (xR a0), some (xI a1), some (xI a2), some (xI a3)] [] h Ph := by
  intro n
  induction n with
  | zero => intro a3 h K hk hE; exact hk.no
  | succ n ih =>
    intro a3 h K hk hE
    rw [f_Re_readNot_L43] at hk
    refine sx_iload_n dc_Re_readNot_43 rfl ?_
    refine sx_iload_n dc_Re_readNot_44 rfl ?_
    refine sx_icmp_ge (tgt := 60) dc_Re_readNot_45 (by decide) (fun c15 => ?_) (fun c15 => ?_)
    · replace hk := hk.t c15
      exact hE a3 h hk
    · replace hk := hk.f c15
      refine sx_aload_n dc_Re_readNot_48 rfl ?_
      refine sx_bipush (v := (-8 : Int32)) dc_Re_readNot_49 (by decide) ?_
      obtain ⟨g17, hk⟩ := hk.g
      obtain ⟨q16, eq16, hk⟩ := hk.bind
      refine sx_callV (d2 := d - 1) (mc2 := 0) (ms2 := 0) (as := [xI (-8 : Int32)]) mk_Re_write rfl (x_rk (ci := 1) g17 rfl rfl) wM_Re_66 mi_Re_write me_Re_write rfl (Nat.le_of_ble_eq_true rfl) (Nat.le_of_ble_eq_true rfl) dc_Re_readNot_51 (by omega) (Nat.zero_le _) (Nat.zero_le _) ?_
      refine t_Re_write (by omega) ⟨q16, eq16, ?_⟩
      refine sx_eq0 (lc2 := [some (xR a0), some (xI a1), some (xI a2), some (xI a3)]) (st2 := []) rfl rfl ?_
      refine sx_iinc (v := (1 : Int32)) dc_Re_readNot_54 rfl (by decide) (by decide) (sx_eq (lc2 := [some (xR a0), some (xI a1), some (xI a2), some (xI (a3 + (1 : Int32)))]) rfl rfl ?_)
      refine sx_goto (tgt := 43) dc_Re_readNot_57 (by decide) ?_
      exact ih (a3 + (1 : Int32)) q16.2 _ hk hE
theorem t_Re_readNot {l : Launch} {z : xZ} {d mc ms : Nat} {Ph : Option xV → xH → Prop} {R0 : Nat → Int32 → xH → Option (Int32 × xH)} {B : Nat} (hR0 : ∀ {d mc ms : Nat} {Ph : Option xV → xH → Prop} {a0 : Nat} {a1 : Int32} {h : xH}, B ≤ d → OK (R0 a0 a1 h) (fun q => Ph (some (xI q.1)) q.2) → Sx l z d mc ms M_Re_readEither 0 (x_en [xR a0, xI a1] 3) [] h Ph) {a0 : Nat} {a1 : Int32}  {h : xH} (hd : B + 14 ≤ d) (hk : OK (f_Re_readNot R0 a0 a1 h) (fun q => Ph (some (xI q.1)) q.2)) : Sx l z d mc ms M_Re_readNot 0 (x_en [xR a0, xI a1] 4) [] h Ph := by
  unfold f_Re_readNot at hk
  refine sx_eq (lc2 := [some (xR a0), some (xI a1), none, none]) rfl rfl ?_
  refine sx_iconst (v := (0 : Int32)) dc_Re_readNot_0 (by decide) ?_
  refine sx_istore_n dc_Re_readNot_1 (by decide) (sx_eq (lc2 := [some (xR a0), some (xI a1), some (xI (0 : Int32)), none]) rfl rfl ?_)
  refine t_Re_readNot_L2 hR0 (by omega) _ _ _ _ hk (fun v10 h11 hk => ?_)
  refine sx_aload_n dc_Re_readNot_29 rfl ?_
  refine sx_iload_n dc_Re_readNot_30 rfl ?_
  refine sx_iload_n dc_Re_readNot_31 rfl ?_
  refine sx_iadd dc_Re_readNot_32 ?_
  obtain ⟨g13, hk⟩ := hk.g
  obtain ⟨q12, eq12, hk⟩ := hk.bind
  refine sx_callV (d2 := d - 1) (mc2 := 0) (ms2 := 0) (as := [xI (a1 + v10)]) mk_Re_readCompared rfl (x_rk (ci := 1) g13 rfl rfl) wM_Re_73 mi_Re_readCompared me_Re_readCompared rfl (Nat.le_of_ble_eq_true rfl) (Nat.le_of_ble_eq_true rfl) dc_Re_readNot_33 (by omega) (Nat.zero_le _) (Nat.zero_le _) ?_
  refine t_Re_readCompared hR0 (by omega) ⟨q12, eq12, ?_⟩
  refine sx_eq0 (lc2 := [some (xR a0), some (xI a1), some (xI v10), none]) (st2 := [xI q12.1]) rfl rfl ?_
  refine sx_if_ne (tgt := 41) dc_Re_readNot_36 (by decide) (fun c14 => ?_) (fun c14 => ?_)
  · replace hk := hk.f c14
    refine sx_iconst (v := (0 : Int32)) dc_Re_readNot_41 (by decide) ?_
    refine sx_istore_n dc_Re_readNot_42 (by decide) (sx_eq (lc2 := [some (xR a0), some (xI a1), some (xI v10), some (xI (0 : Int32))]) rfl rfl ?_)
    refine t_Re_readNot_L43 hR0 (by omega) _ _ _ _ hk (fun v18 h19 hk => ?_)
    refine sx_iconst (v := (1 : Int32)) dc_Re_readNot_60 (by decide) ?_
    exact sx_retT (v := (1 : Int32)) dc_Re_readNot_61 (Or.inl ⟨rfl, rfl⟩) (by decide) hk.val
  · replace hk := hk.t c14
    refine sx_iconst (v := (0 : Int32)) dc_Re_readNot_39 (by decide) ?_
    exact sx_retT (v := (0 : Int32)) dc_Re_readNot_40 (Or.inl ⟨rfl, rfl⟩) (by decide) hk.val
theorem t_Re_readBoth_L12 {l : Launch} {z : xZ} {d mc ms : Nat} {Ph : Option xV → xH → Prop} {R0 : Nat → Int32 → xH → Option (Int32 × xH)} {a0 : Nat} {a1 : Int32} {B : Nat} (hR0 : ∀ {d mc ms : Nat} {Ph : Option xV → xH → Prop} {a0 : Nat} {a1 : Int32} {h : xH}, B ≤ d → OK (R0 a0 a1 h) (fun q => Ph (some (xI q.1)) q.2) → Sx l z d mc ms M_Re_readEither 0 (x_en [xR a0, xI a1] 3) [] h Ph) (hd : B + 15 ≤ d) : ∀ (n : Nat) (a2 : Int32) (h : xH) (K : Int32 → xH → Option (Int32 × xH)), OK (f_Re_readBoth_L12 R0 a0 a1 n a2 h K) (fun q => Ph (some (xI q.1)) q.2) → (∀ (a2 : Int32) (h : xH), OK (K a2 h) (fun q => Ph (some (xI q.1)) q.2) → Sx l z d mc ms M_Re_readBoth 55 [some (xR a0), some (xI a1), some (xI a2)] [] h Ph) → Sx l z d mc ms M_Re_readBoth 12 [some (xR a0), some (xI a1), some (xI a2)] [] h Ph := by
  intro n
  induction n with
  | zero => intro a2 h K hk hE; exact hk.no
  | succ n ih =>
    intro a2 h K hk hE
    rw [f_Re_readBoth_L12] at hk
    refine sx_iload_n dc_Re_readBoth_12 rfl ?_
    refine sx_sipush (v := (160 : Int32)) dc_Re_readBoth_13 (by decide) ?_
    refine sx_icmp_ge (tgt := 55) dc_Re_readBoth_16 (by decide) (fun c12 => ?_) (fun c12 => ?_)
    · replace hk := hk.t c12
      exact hE a2 h hk
    · replace hk := hk.f c12
      refine sx_aload_n dc_Re_readBoth_19 rfl ?_
      obtain ⟨g13, hk⟩ := hk.g
      refine sx_get (ci := 1) (k := 4) rfl (by decide) wF_Re_60 g13 dc_Re_readBoth_20 ?_
      refine sx_sipush (v := (266 : Int32)) dc_Re_readBoth_23 (by decide) ?_
      refine sx_icmp_ne (tgt := 55) dc_Re_readBoth_26 (by decide) (fun c14 => ?_) (fun c14 => ?_)
      · replace hk := hk.f c14
        exact hE a2 h hk
      · replace hk := hk.t c14
        refine sx_aload_n dc_Re_readBoth_29 rfl ?_
        obtain ⟨q15, eq15, hk⟩ := hk.bind
        refine sx_callV (d2 := d - 1) (mc2 := 0) (ms2 := 0) (as := []) mk_Re_advance rfl (x_rk (ci := 1) g13 rfl rfl) wM_Re_47 mi_Re_advance me_Re_advance rfl (Nat.le_of_ble_eq_true rfl) (Nat.le_of_ble_eq_true rfl) dc_Re_readBoth_30 (by omega) (Nat.zero_le _) (Nat.zero_le _) ?_
        refine t_Re_advance (by omega) ⟨q15, eq15, ?_⟩
        refine sx_eq0 (lc2 := [some (xR a0), some (xI a1), some (xI a2)]) (st2 := []) rfl rfl ?_
        refine sx_aload_n dc_Re_readBoth_33 rfl ?_
        refine sx_iload_n dc_Re_readBoth_34 rfl ?_
        obtain ⟨g17, hk⟩ := hk.g
        obtain ⟨q16, eq16, hk⟩ := hk.bind
        refine sx_callV (d2 := d - 1) (mc2 := 0) (ms2 := 0) (as := [xI a1]) mk_Re_readNot rfl (x_rk (ci := 1) g17 rfl rfl) wM_Re_70 mi_Re_readNot me_Re_readNot rfl (Nat.le_of_ble_eq_true rfl) (Nat.le_of_ble_eq_true rfl) dc_Re_readBoth_35 (by omega) (Nat.zero_le _) (Nat.zero_le _) ?_
        refine t_Re_readNot hR0 (by omega) ⟨q16, eq16, ?_⟩
        refine sx_eq0 (lc2 := [some (xR a0), some (xI a1), some (xI a2)]) (st2 := [xI q16.1]) rfl rfl ?_
        refine sx_if_ne (tgt := 43) dc_Re_readBoth_38 (by decide) (fun c18 => ?_) (fun c18 => ?_)
        · replace hk := hk.f c18
          refine sx_aload_n dc_Re_readBoth_43 rfl ?_
          refine sx_bipush (v := (-7 : Int32)) dc_Re_readBoth_44 (by decide) ?_
          obtain ⟨g20, hk⟩ := hk.g
          obtain ⟨q19, eq19, hk⟩ := hk.bind
          refine sx_callV (d2 := d - 1) (mc2 := 0) (ms2 := 0) (as := [xI (-7 : Int32)]) mk_Re_write rfl (x_rk (ci := 1) g20 rfl rfl) wM_Re_66 mi_Re_write me_Re_write rfl (Nat.le_of_ble_eq_true rfl) (Nat.le_of_ble_eq_true rfl) dc_Re_readBoth_46 (by omega) (Nat.zero_le _) (Nat.zero_le _) ?_
          refine t_Re_write (by omega) ⟨q19, eq19, ?_⟩
          refine sx_eq0 (lc2 := [some (xR a0), some (xI a1), some (xI a2)]) (st2 := []) rfl rfl ?_
          refine sx_iinc (v := (1 : Int32)) dc_Re_readBoth_49 rfl (by decide) (by decide) (sx_eq (lc2 := [some (xR a0), some (xI a1), some (xI (a2 + (1 : Int32)))]) rfl rfl ?_)
          refine sx_goto (tgt := 12) dc_Re_readBoth_52 (by decide) ?_
          exact ih (a2 + (1 : Int32)) q19.2 _ hk hE
        · replace hk := hk.t c18
          refine sx_iconst (v := (0 : Int32)) dc_Re_readBoth_41 (by decide) ?_
          exact sx_retT (v := (0 : Int32)) dc_Re_readBoth_42 (Or.inl ⟨rfl, rfl⟩) (by decide) hk.val
theorem t_Re_readBoth {l : Launch} {z : xZ} {d mc ms : Nat} {Ph : Option xV → xH → Prop} {R0 : Nat → Int32 → xH → Option (Int32 × xH)} {B : Nat} (hR0 : ∀ {d mc ms : Nat} {Ph : Option xV → xH → Prop} {a0 : Nat} {a1 : Int32} {h : xH}, B ≤ d → OK (R0 a0 a1 h) (fun q => Ph (some (xI q.1)) q.2) → Sx l z d mc ms M_Re_readEither 0 (x_en [xR a0, xI a1] 3) [] h Ph) {a0 : Nat} {a1 : Int32}  {h : xH} (hd : B + 15 ≤ d) (hk : OK (f_Re_readBoth R0 a0 a1 h) (fun q => Ph (some (xI q.1)) q.2)) : Sx l z d mc ms M_Re_readBoth 0 (x_en [xR a0, xI a1] 3) [] h Ph := by
  unfold f_Re_readBoth at hk
  refine sx_eq (lc2 := [some (xR a0), some (xI a1), none]) rfl rfl ?_
  refine sx_aload_n dc_Re_readBoth_0 rfl ?_
  refine sx_iload_n dc_Re_readBoth_1 rfl ?_
  obtain ⟨g10, hk⟩ := hk.g
  obtain ⟨q9, eq9, hk⟩ := hk.bind
  refine sx_callV (d2 := d - 1) (mc2 := 0) (ms2 := 0) (as := [xI a1]) mk_Re_readNot rfl (x_rk (ci := 1) g10 rfl rfl) wM_Re_70 mi_Re_readNot me_Re_readNot rfl (Nat.le_of_ble_eq_true rfl) (Nat.le_of_ble_eq_true rfl) dc_Re_readBoth_2 (by omega) (Nat.zero_le _) (Nat.zero_le _) ?_
  refine t_Re_readNot hR0 (by omega) ⟨q9, eq9, ?_⟩
  refine sx_eq0 (lc2 := [some (xR a0), some (xI a1), none]) (st2 := [xI q9.1]) rfl rfl ?_
  refine sx_if_ne (tgt := 10) dc_Re_readBoth_5 (by decide) (fun c11 => ?_) (fun c11 => ?_)
  · replace hk := hk.f c11
    refine sx_iconst (v := (0 : Int32)) dc_Re_readBoth_10 (by decide) ?_
    refine sx_istore_n dc_Re_readBoth_11 (by decide) (sx_eq (lc2 := [some (xR a0), some (xI a1), some (xI (0 : Int32))]) rfl rfl ?_)
    refine t_Re_readBoth_L12 hR0 (by omega) _ _ _ _ hk (fun v21 h22 hk => ?_)
    refine sx_iconst (v := (1 : Int32)) dc_Re_readBoth_55 (by decide) ?_
    exact sx_retT (v := (1 : Int32)) dc_Re_readBoth_56 (Or.inl ⟨rfl, rfl⟩) (by decide) hk.val
  · replace hk := hk.t c11
    refine sx_iconst (v := (0 : Int32)) dc_Re_readBoth_8 (by decide) ?_
    exact sx_retT (v := (0 : Int32)) dc_Re_readBoth_9 (Or.inl ⟨rfl, rfl⟩) (by decide) hk.val
theorem t_Re_readEither_L12 {l : Launch} {z : xZ} {d mc ms : Nat} {Ph : Option xV → xH → Prop} {R0 : Nat → Int32 → xH → Option (Int32 × xH)} {a0 : Nat} {a1 : Int32} {B : Nat} (hR0 : ∀ {d mc ms : Nat} {Ph : Option xV → xH → Prop} {a0 : Nat} {a1 : Int32} {h : xH}, B ≤ d → OK (R0 a0 a1 h) (fun q => Ph (some (xI q.1)) q.2) → Sx l z d mc ms M_Re_readEither 0 (x_en [xR a0, xI a1] 3) [] h Ph) (hd : B + 16 ≤ d) : ∀ (n : Nat) (a2 : Int32) (h : xH) (K : Int32 → xH → Option (Int32 × xH)), OK (f_Re_readEither_L12 R0 a0 a1 n a2 h K) (fun q => Ph (some (xI q.1)) q.2) → (∀ (a2 : Int32) (h : xH), OK (K a2 h) (fun q => Ph (some (xI q.1)) q.2) → Sx l z d mc ms M_Re_readEither 55 [some (xR a0), some (xI a1), some (xI a2)] [] h Ph) → Sx l z d mc ms M_Re_readEither 12 [some (xR a0), some (xI a1), some (xI a2)] [] h Ph := by
  intro n
  induction n with
  | zero => intro a2 h K hk hE; exact hk.no
  | succ n ih =>
    intro a2 h K hk hE
    rw [f_Re_readEither_L12] at hk
    refine sx_iload_n dc_Re_readEither_12 rfl ?_
    refine sx_sipush (v := (160 : Int32)) dc_Re_readEither_13 (by decide) ?_
    refine sx_icmp_ge (tgt := 55) dc_Re_readEither_16 (by decide) (fun c12 => ?_) (fun c12 => ?_)
    · replace hk := hk.t c12
      exact hE a2 h hk
    · replace hk := hk.f c12
      refine sx_aload_n dc_Re_readEither_19 rfl ?_
      obtain ⟨g13, hk⟩ := hk.g
      refine sx_get (ci := 1) (k := 4) rfl (by decide) wF_Re_60 g13 dc_Re_readEither_20 ?_
      refine sx_sipush (v := (265 : Int32)) dc_Re_readEither_23 (by decide) ?_
      refine sx_icmp_ne (tgt := 55) dc_Re_readEither_26 (by decide) (fun c14 => ?_) (fun c14 => ?_)
      · replace hk := hk.f c14
        exact hE a2 h hk
      · replace hk := hk.t c14
        refine sx_aload_n dc_Re_readEither_29 rfl ?_
        obtain ⟨q15, eq15, hk⟩ := hk.bind
        refine sx_callV (d2 := d - 1) (mc2 := 0) (ms2 := 0) (as := []) mk_Re_advance rfl (x_rk (ci := 1) g13 rfl rfl) wM_Re_47 mi_Re_advance me_Re_advance rfl (Nat.le_of_ble_eq_true rfl) (Nat.le_of_ble_eq_true rfl) dc_Re_readEither_30 (by omega) (Nat.zero_le _) (Nat.zero_le _) ?_
        refine t_Re_advance (by omega) ⟨q15, eq15, ?_⟩
        refine sx_eq0 (lc2 := [some (xR a0), some (xI a1), some (xI a2)]) (st2 := []) rfl rfl ?_
        refine sx_aload_n dc_Re_readEither_33 rfl ?_
        refine sx_iload_n dc_Re_readEither_34 rfl ?_
        obtain ⟨g17, hk⟩ := hk.g
        obtain ⟨q16, eq16, hk⟩ := hk.bind
        refine sx_callV (d2 := d - 1) (mc2 := 0) (ms2 := 0) (as := [xI a1]) mk_Re_readBoth rfl (x_rk (ci := 1) g17 rfl rfl) wM_Re_63 mi_Re_readBoth me_Re_readBoth rfl (Nat.le_of_ble_eq_true rfl) (Nat.le_of_ble_eq_true rfl) dc_Re_readEither_35 (by omega) (Nat.zero_le _) (Nat.zero_le _) ?_
        refine t_Re_readBoth hR0 (by omega) ⟨q16, eq16, ?_⟩
        refine sx_eq0 (lc2 := [some (xR a0), some (xI a1), some (xI a2)]) (st2 := [xI q16.1]) rfl rfl ?_
        refine sx_if_ne (tgt := 43) dc_Re_readEither_38 (by decide) (fun c18 => ?_) (fun c18 => ?_)
        · replace hk := hk.f c18
          refine sx_aload_n dc_Re_readEither_43 rfl ?_
          refine sx_bipush (v := (-6 : Int32)) dc_Re_readEither_44 (by decide) ?_
          obtain ⟨g20, hk⟩ := hk.g
          obtain ⟨q19, eq19, hk⟩ := hk.bind
          refine sx_callV (d2 := d - 1) (mc2 := 0) (ms2 := 0) (as := [xI (-6 : Int32)]) mk_Re_write rfl (x_rk (ci := 1) g20 rfl rfl) wM_Re_66 mi_Re_write me_Re_write rfl (Nat.le_of_ble_eq_true rfl) (Nat.le_of_ble_eq_true rfl) dc_Re_readEither_46 (by omega) (Nat.zero_le _) (Nat.zero_le _) ?_
          refine t_Re_write (by omega) ⟨q19, eq19, ?_⟩
          refine sx_eq0 (lc2 := [some (xR a0), some (xI a1), some (xI a2)]) (st2 := []) rfl rfl ?_
          refine sx_iinc (v := (1 : Int32)) dc_Re_readEither_49 rfl (by decide) (by decide) (sx_eq (lc2 := [some (xR a0), some (xI a1), some (xI (a2 + (1 : Int32)))]) rfl rfl ?_)
          refine sx_goto (tgt := 12) dc_Re_readEither_52 (by decide) ?_
          exact ih (a2 + (1 : Int32)) q19.2 _ hk hE
        · replace hk := hk.t c18
          refine sx_iconst (v := (0 : Int32)) dc_Re_readEither_41 (by decide) ?_
          exact sx_retT (v := (0 : Int32)) dc_Re_readEither_42 (Or.inl ⟨rfl, rfl⟩) (by decide) hk.val
theorem tb_Re_readEither {l : Launch} {z : xZ} {d mc ms : Nat} {Ph : Option xV → xH → Prop} {R0 : Nat → Int32 → xH → Option (Int32 × xH)} {B : Nat} (hR0 : ∀ {d mc ms : Nat} {Ph : Option xV → xH → Prop} {a0 : Nat} {a1 : Int32} {h : xH}, B ≤ d → OK (R0 a0 a1 h) (fun q => Ph (some (xI q.1)) q.2) → Sx l z d mc ms M_Re_readEither 0 (x_en [xR a0, xI a1] 3) [] h Ph) {a0 : Nat} {a1 : Int32}  {h : xH} (hd : B + 16 ≤ d) (hk : OK (fb_Re_readEither R0 a0 a1 h) (fun q => Ph (some (xI q.1)) q.2)) : Sx l z d mc ms M_Re_readEither 0 (x_en [xR a0, xI a1] 3) [] h Ph := by
  unfold fb_Re_readEither at hk
  refine sx_eq (lc2 := [some (xR a0), some (xI a1), none]) rfl rfl ?_
  refine sx_aload_n dc_Re_readEither_0 rfl ?_
  refine sx_iload_n dc_Re_readEither_1 rfl ?_
  obtain ⟨g10, hk⟩ := hk.g
  obtain ⟨q9, eq9, hk⟩ := hk.bind
  refine sx_callV (d2 := d - 1) (mc2 := 0) (ms2 := 0) (as := [xI a1]) mk_Re_readBoth rfl (x_rk (ci := 1) g10 rfl rfl) wM_Re_63 mi_Re_readBoth me_Re_readBoth rfl (Nat.le_of_ble_eq_true rfl) (Nat.le_of_ble_eq_true rfl) dc_Re_readEither_2 (by omega) (Nat.zero_le _) (Nat.zero_le _) ?_
  refine t_Re_readBoth hR0 (by omega) ⟨q9, eq9, ?_⟩
  refine sx_eq0 (lc2 := [some (xR a0), some (xI a1), none]) (st2 := [xI q9.1]) rfl rfl ?_
  refine sx_if_ne (tgt := 10) dc_Re_readEither_5 (by decide) (fun c11 => ?_) (fun c11 => ?_)
  · replace hk := hk.f c11
    refine sx_iconst (v := (0 : Int32)) dc_Re_readEither_10 (by decide) ?_
    refine sx_istore_n dc_Re_readEither_11 (by decide) (sx_eq (lc2 := [some (xR a0), some (xI a1), some (xI (0 : Int32))]) rfl rfl ?_)
    refine t_Re_readEither_L12 hR0 (by omega) _ _ _ _ hk (fun v21 h22 hk => ?_)
    refine sx_iconst (v := (1 : Int32)) dc_Re_readEither_55 (by decide) ?_
    exact sx_retT (v := (1 : Int32)) dc_Re_readEither_56 (Or.inl ⟨rfl, rfl⟩) (by decide) hk.val
  · replace hk := hk.t c11
    refine sx_iconst (v := (0 : Int32)) dc_Re_readEither_8 (by decide) ?_
    exact sx_retT (v := (0 : Int32)) dc_Re_readEither_9 (Or.inl ⟨rfl, rfl⟩) (by decide) hk.val
theorem tg_Re_readEither {l : Launch} {z : xZ} : ∀ (g : Nat) {d mc ms : Nat} {Ph : Option xV → xH → Prop} {a0 : Nat} {a1 : Int32} {h : xH}, 16 * g ≤ d → OK (G_Re g a0 a1 h) (fun q => Ph (some (xI q.1)) q.2) → Sx l z d mc ms M_Re_readEither 0 (x_en [xR a0, xI a1] 3) [] h Ph
  | 0 => fun _ hk => hk.no
  | g + 1 => fun hd hk => tb_Re_readEither (R0 := G_Re g) (B := 16 * g) (fun hd hk => tg_Re_readEither g hd hk) (by omega) hk
theorem t_Re_readEither {l : Launch} {z : xZ} {d mc ms : Nat} {Ph : Option xV → xH → Prop} {a0 : Nat} {a1 : Int32} {h : xH} (hd : 384 ≤ d) (hk : OK (f_Re_readEither a0 a1 h) (fun q => Ph (some (xI q.1)) q.2)) : Sx l z d mc ms M_Re_readEither 0 (x_en [xR a0, xI a1] 3) [] h Ph := tg_Re_readEither 24 (by omega) hk
end
section
theorem dc_Re_read_0 : decode M_Re_read.2.1 0 = .ok (.aload_n 0, 1) := by decide +kernel
theorem dc_Re_read_1 : decode M_Re_read.2.1 1 = .ok (.iconst 0, 1) := by decide +kernel
theorem dc_Re_read_2 : decode M_Re_read.2.1 2 = .ok (.putfield 44, 3) := by decide +kernel
theorem dc_Re_read_5 : decode M_Re_read.2.1 5 = .ok (.aload_n 0, 1) := by decide +kernel
theorem dc_Re_read_6 : decode M_Re_read.2.1 6 = .ok (.iconst 0, 1) := by decide +kernel
theorem dc_Re_read_7 : decode M_Re_read.2.1 7 = .ok (.putfield 27, 3) := by decide +kernel
theorem dc_Re_read_10 : decode M_Re_read.2.1 10 = .ok (.aload_n 0, 1) := by decide +kernel
theorem dc_Re_read_11 : decode M_Re_read.2.1 11 = .ok (.invokevirtual 47, 3) := by decide +kernel
theorem dc_Re_read_14 : decode M_Re_read.2.1 14 = .ok (.iconst 0, 1) := by decide +kernel
theorem dc_Re_read_15 : decode M_Re_read.2.1 15 = .ok (.istore_n 1, 1) := by decide +kernel
theorem dc_Re_read_16 : decode M_Re_read.2.1 16 = .ok (.iload_n 1, 1) := by decide +kernel
theorem dc_Re_read_17 : decode M_Re_read.2.1 17 = .ok (.iconst 3, 1) := by decide +kernel
theorem dc_Re_read_18 : decode M_Re_read.2.1 18 = .ok (.if_icmp .ge 53, 3) := by decide +kernel
theorem dc_Re_read_21 : decode M_Re_read.2.1 21 = .ok (.aload_n 0, 1) := by decide +kernel
theorem dc_Re_read_22 : decode M_Re_read.2.1 22 = .ok (.sipush 262, 3) := by decide +kernel
theorem dc_Re_read_25 : decode M_Re_read.2.1 25 = .ok (.iload_n 1, 1) := by decide +kernel
theorem dc_Re_read_26 : decode M_Re_read.2.1 26 = .ok (.iadd, 1) := by decide +kernel
theorem dc_Re_read_27 : decode M_Re_read.2.1 27 = .ok (.invokevirtual 50, 3) := by decide +kernel
theorem dc_Re_read_30 : decode M_Re_read.2.1 30 = .ok (.ifCond .eq 20, 3) := by decide +kernel
theorem dc_Re_read_33 : decode M_Re_read.2.1 33 = .ok (.aload_n 0, 1) := by decide +kernel
theorem dc_Re_read_34 : decode M_Re_read.2.1 34 = .ok (.iconst 0, 1) := by decide +kernel
theorem dc_Re_read_35 : decode M_Re_read.2.1 35 = .ok (.invokevirtual 54, 3) := by decide +kernel
theorem dc_Re_read_38 : decode M_Re_read.2.1 38 = .ok (.ifCond .eq 12, 3) := by decide +kernel
theorem dc_Re_read_41 : decode M_Re_read.2.1 41 = .ok (.aload_n 0, 1) := by decide +kernel
theorem dc_Re_read_42 : decode M_Re_read.2.1 42 = .ok (.bipush 59, 2) := by decide +kernel
theorem dc_Re_read_44 : decode M_Re_read.2.1 44 = .ok (.invokevirtual 50, 3) := by decide +kernel
theorem dc_Re_read_47 : decode M_Re_read.2.1 47 = .ok (.ifCond .ne 8, 3) := by decide +kernel
theorem dc_Re_read_50 : decode M_Re_read.2.1 50 = .ok (.aload_n 0, 1) := by decide +kernel
theorem dc_Re_read_51 : decode M_Re_read.2.1 51 = .ok (.getfield 57, 3) := by decide +kernel
theorem dc_Re_read_54 : decode M_Re_read.2.1 54 = .ok (.ireturn, 1) := by decide +kernel
theorem dc_Re_read_55 : decode M_Re_read.2.1 55 = .ok (.aload_n 0, 1) := by decide +kernel
theorem dc_Re_read_56 : decode M_Re_read.2.1 56 = .ok (.getfield 20, 3) := by decide +kernel
theorem dc_Re_read_59 : decode M_Re_read.2.1 59 = .ok (.iload_n 1, 1) := by decide +kernel
theorem dc_Re_read_60 : decode M_Re_read.2.1 60 = .ok (.aload_n 0, 1) := by decide +kernel
theorem dc_Re_read_61 : decode M_Re_read.2.1 61 = .ok (.getfield 27, 3) := by decide +kernel
theorem dc_Re_read_64 : decode M_Re_read.2.1 64 = .ok (.iastore, 1) := by decide +kernel
theorem dc_Re_read_65 : decode M_Re_read.2.1 65 = .ok (.iinc 1 1, 3) := by decide +kernel
theorem dc_Re_read_68 : decode M_Re_read.2.1 68 = .ok (.goto (-52), 3) := by decide +kernel
theorem dc_Re_read_71 : decode M_Re_read.2.1 71 = .ok (.aload_n 0, 1) := by decide +kernel
theorem dc_Re_read_72 : decode M_Re_read.2.1 72 = .ok (.getfield 60, 3) := by decide +kernel
theorem dc_Re_read_75 : decode M_Re_read.2.1 75 = .ok (.ifCond .ne 7, 3) := by decide +kernel
theorem dc_Re_read_78 : decode M_Re_read.2.1 78 = .ok (.iconst (-1), 1) := by decide +kernel
theorem dc_Re_read_79 : decode M_Re_read.2.1 79 = .ok (.goto 7, 3) := by decide +kernel
theorem dc_Re_read_82 : decode M_Re_read.2.1 82 = .ok (.aload_n 0, 1) := by decide +kernel
theorem dc_Re_read_83 : decode M_Re_read.2.1 83 = .ok (.getfield 57, 3) := by decide +kernel
theorem dc_Re_read_86 : decode M_Re_read.2.1 86 = .ok (.ireturn, 1) := by decide +kernel
def f_Re_read_L16 (a0 : Nat) : Nat → Int32 → xH → (Int32 → xH → Option (Int32 × xH)) → Option (Int32 × xH)
  | 0, _, _, _ => none
  | n + 1, a1, h, K => if (3 : Int32) ≤ a1 then K a1 h else gd (hK h a0 = 1) (Option.bind (f_Re_takes a0 ((262 : Int32) + a1) h) (fun q17 => jn (fun (x19 : xH) => gd (hK x19 a0 = 1) (some (hI x19 a0 2, x19))) (fun k20 => if q17.1 = 0 then k20 q17.2 else gd (hK q17.2 a0 = 1) (Option.bind (f_Re_readEither a0 (0 : Int32) q17.2) (fun q23 => if q23.1 = 0 then k20 q23.2 else gd (hK q23.2 a0 = 1) (Option.bind (f_Re_takes a0 (59 : Int32) q23.2) (fun q26 => if q26.1 = 0 then k20 q26.2 else gd (hK q26.2 a0 = 1) (gd (hK q26.2 (hR q26.2 a0 8) = 12) (gd (¬ (a1 < 0 ∨ hL q26.2 (hR q26.2 a0 8) ≤ a1.toNatClampNeg)) (f_Re_read_L16 a0 n (a1 + (1 : Int32)) (hIu q26.2 (hR q26.2 a0 8) a1.toNatClampNeg (hI q26.2 a0 7)) K))))))))))
def f_Re_read (a0 : Nat) (h : xH) : Option (Int32 × xH) := gd (hK h a0 = 1) (Option.bind (f_Re_advance a0 (hIu (hIu h a0 3 (0 : Int32)) a0 7 (0 : Int32))) (fun q15 => f_Re_read_L16 a0 fu (0 : Int32) q15.2 (fun v32 h33 => gd (hK h33 a0 = 1) (jn (fun (x35 : Int32) => some (x35, h33)) (fun k36 => if (hI h33 a0 4) = 0 then k36 (-1 : Int32) else k36 (hI h33 a0 2))))))
theorem t_Re_read_L16 {l : Launch} {z : xZ} {d mc ms : Nat} {Ph : Option xV → xH → Prop} {a0 : Nat}  (hd : 385 ≤ d) : ∀ (n : Nat) (a1 : Int32) (h : xH) (K : Int32 → xH → Option (Int32 × xH)), OK (f_Re_read_L16 a0 n a1 h K) (fun q => Ph (some (xI q.1)) q.2) → (∀ (a1 : Int32) (h : xH), OK (K a1 h) (fun q => Ph (some (xI q.1)) q.2) → Sx l z d mc ms M_Re_read 71 [some (xR a0), some (xI a1)] [] h Ph) → Sx l z d mc ms M_Re_read 16 [some (xR a0), some (xI a1)] [] h Ph := by
  intro n
  induction n with
  | zero => intro a1 h K hk hE; exact hk.no
  | succ n ih =>
    intro a1 h K hk hE
    rw [f_Re_read_L16] at hk
    refine sx_iload_n dc_Re_read_16 rfl ?_
    refine sx_iconst (v := (3 : Int32)) dc_Re_read_17 (by decide) ?_
    refine sx_icmp_ge (tgt := 71) dc_Re_read_18 (by decide) (fun c16 => ?_) (fun c16 => ?_)
    · replace hk := hk.t c16
      exact hE a1 h hk
    · replace hk := hk.f c16
      refine sx_aload_n dc_Re_read_21 rfl ?_
      refine sx_sipush (v := (262 : Int32)) dc_Re_read_22 (by decide) ?_
      refine sx_iload_n dc_Re_read_25 rfl ?_
      refine sx_iadd dc_Re_read_26 ?_
      obtain ⟨g18, hk⟩ := hk.g
      obtain ⟨q17, eq17, hk⟩ := hk.bind
      refine sx_callV (d2 := d - 1) (mc2 := 0) (ms2 := 0) (as := [xI ((262 : Int32) + a1)]) mk_Re_takes rfl (x_rk (ci := 1) g18 rfl rfl) wM_Re_50 mi_Re_takes me_Re_takes rfl (Nat.le_of_ble_eq_true rfl) (Nat.le_of_ble_eq_true rfl) dc_Re_read_27 (by omega) (Nat.zero_le _) (Nat.zero_le _) ?_
      refine t_Re_takes (by omega) ⟨q17, eq17, ?_⟩
      refine sx_eq0 (lc2 := [some (xR a0), some (xI a1)]) (st2 := [xI q17.1]) rfl rfl ?_
      refine hk.j (X := fun x19 => Sx l z d mc ms M_Re_read 50 [some (xR a0), some (xI a1)] [] x19 Ph) (fun x19 hk => ?_) (fun k20 jk20 hk => ?_)
      · refine sx_aload_n dc_Re_read_50 rfl ?_
        obtain ⟨g21, hk⟩ := hk.g
        refine sx_get (ci := 1) (k := 2) rfl (by decide) wF_Re_57 g21 dc_Re_read_51 ?_
        exact sx_retI dc_Re_read_54 rfl hk.val
      · refine sx_if_eq (tgt := 50) dc_Re_read_30 (by decide) (fun c22 => ?_) (fun c22 => ?_)
        · replace hk := hk.t c22
          exact jk20 q17.2 hk
        · replace hk := hk.f c22
          refine sx_aload_n dc_Re_read_33 rfl ?_
          refine sx_iconst (v := (0 : Int32)) dc_Re_read_34 (by decide) ?_
          obtain ⟨g24, hk⟩ := hk.g
          obtain ⟨q23, eq23, hk⟩ := hk.bind
          refine sx_callV (d2 := d - 1) (mc2 := 0) (ms2 := 0) (as := [xI (0 : Int32)]) mk_Re_readEither rfl (x_rk (ci := 1) g24 rfl rfl) wM_Re_54 mi_Re_readEither me_Re_readEither rfl (Nat.le_of_ble_eq_true rfl) (Nat.le_of_ble_eq_true rfl) dc_Re_read_35 (by omega) (Nat.zero_le _) (Nat.zero_le _) ?_
          refine t_Re_readEither (by omega) ⟨q23, eq23, ?_⟩
          refine sx_eq0 (lc2 := [some (xR a0), some (xI a1)]) (st2 := [xI q23.1]) rfl rfl ?_
          refine sx_if_eq (tgt := 50) dc_Re_read_38 (by decide) (fun c25 => ?_) (fun c25 => ?_)
          · replace hk := hk.t c25
            exact jk20 q23.2 hk
          · replace hk := hk.f c25
            refine sx_aload_n dc_Re_read_41 rfl ?_
            refine sx_bipush (v := (59 : Int32)) dc_Re_read_42 (by decide) ?_
            obtain ⟨g27, hk⟩ := hk.g
            obtain ⟨q26, eq26, hk⟩ := hk.bind
            refine sx_callV (d2 := d - 1) (mc2 := 0) (ms2 := 0) (as := [xI (59 : Int32)]) mk_Re_takes rfl (x_rk (ci := 1) g27 rfl rfl) wM_Re_50 mi_Re_takes me_Re_takes rfl (Nat.le_of_ble_eq_true rfl) (Nat.le_of_ble_eq_true rfl) dc_Re_read_44 (by omega) (Nat.zero_le _) (Nat.zero_le _) ?_
            refine t_Re_takes (by omega) ⟨q26, eq26, ?_⟩
            refine sx_eq0 (lc2 := [some (xR a0), some (xI a1)]) (st2 := [xI q26.1]) rfl rfl ?_
            refine sx_if_ne (tgt := 55) dc_Re_read_47 (by decide) (fun c28 => ?_) (fun c28 => ?_)
            · replace hk := hk.f c28
              refine sx_aload_n dc_Re_read_55 rfl ?_
              obtain ⟨g29, hk⟩ := hk.g
              refine sx_get (ci := 1) (k := 8) rfl (by decide) wF_Re_20 g29 dc_Re_read_56 ?_
              refine sx_iload_n dc_Re_read_59 rfl ?_
              refine sx_aload_n dc_Re_read_60 rfl ?_
              refine sx_get (ci := 1) (k := 7) rfl (by decide) wF_Re_27 g29 dc_Re_read_61 ?_
              obtain ⟨g30, hk⟩ := hk.g
              obtain ⟨g31, hk⟩ := hk.g
              refine sx_iast g30 g31 dc_Re_read_64 ?_
              refine sx_iinc (v := (1 : Int32)) dc_Re_read_65 rfl (by decide) (by decide) (sx_eq (lc2 := [some (xR a0), some (xI (a1 + (1 : Int32)))]) rfl rfl ?_)
              refine sx_goto (tgt := 16) dc_Re_read_68 (by decide) ?_
              exact ih (a1 + (1 : Int32)) (hIu q26.2 (hR q26.2 a0 8) a1.toNatClampNeg (hI q26.2 a0 7)) _ hk hE
            · replace hk := hk.t c28
              exact jk20 q26.2 hk
theorem t_Re_read {l : Launch} {z : xZ} {d mc ms : Nat} {Ph : Option xV → xH → Prop} {a0 : Nat}  {h : xH} (hd : 385 ≤ d) (hk : OK (f_Re_read a0 h) (fun q => Ph (some (xI q.1)) q.2)) : Sx l z d mc ms M_Re_read 0 (x_en [xR a0] 2) [] h Ph := by
  unfold f_Re_read at hk
  refine sx_eq (lc2 := [some (xR a0), none]) rfl rfl ?_
  refine sx_aload_n dc_Re_read_0 rfl ?_
  refine sx_iconst (v := (0 : Int32)) dc_Re_read_1 (by decide) ?_
  obtain ⟨g14, hk⟩ := hk.g
  refine sx_putI (ci := 1) (k := 3) rfl (by decide) wF_Re_44 rfl g14 (Or.inl rfl) dc_Re_read_2 ?_
  refine sx_aload_n dc_Re_read_5 rfl ?_
  refine sx_iconst (v := (0 : Int32)) dc_Re_read_6 (by decide) ?_
  refine sx_putI (ci := 1) (k := 7) rfl (by decide) wF_Re_27 rfl g14 (Or.inl rfl) dc_Re_read_7 ?_
  refine sx_aload_n dc_Re_read_10 rfl ?_
  obtain ⟨q15, eq15, hk⟩ := hk.bind
  refine sx_callV (d2 := d - 1) (mc2 := 0) (ms2 := 0) (as := []) mk_Re_advance rfl (x_rk (ci := 1) g14 rfl rfl) wM_Re_47 mi_Re_advance me_Re_advance rfl (Nat.le_of_ble_eq_true rfl) (Nat.le_of_ble_eq_true rfl) dc_Re_read_11 (by omega) (Nat.zero_le _) (Nat.zero_le _) ?_
  refine t_Re_advance (by omega) ⟨q15, eq15, ?_⟩
  refine sx_eq0 (lc2 := [some (xR a0), none]) (st2 := []) rfl rfl ?_
  refine sx_iconst (v := (0 : Int32)) dc_Re_read_14 (by decide) ?_
  refine sx_istore_n dc_Re_read_15 (by decide) (sx_eq (lc2 := [some (xR a0), some (xI (0 : Int32))]) rfl rfl ?_)
  refine t_Re_read_L16 (by omega) _ _ _ _ hk (fun v32 h33 hk => ?_)
  refine sx_aload_n dc_Re_read_71 rfl ?_
  obtain ⟨g34, hk⟩ := hk.g
  refine sx_get (ci := 1) (k := 4) rfl (by decide) wF_Re_60 g34 dc_Re_read_72 ?_
  refine hk.j (X := fun x35 => Sx l z d mc ms M_Re_read 86 [some (xR a0), some (xI v32)] [xI x35] h33 Ph) (fun x35 hk => ?_) (fun k36 jk36 hk => ?_)
  · exact sx_retI dc_Re_read_86 rfl hk.val
  · refine sx_if_ne (tgt := 82) dc_Re_read_75 (by decide) (fun c37 => ?_) (fun c37 => ?_)
    · replace hk := hk.f c37
      refine sx_aload_n dc_Re_read_82 rfl ?_
      refine sx_get (ci := 1) (k := 2) rfl (by decide) wF_Re_57 g34 dc_Re_read_83 ?_
      exact jk36 (hI h33 a0 2) hk
    · replace hk := hk.t c37
      refine sx_iconst (v := (-1 : Int32)) dc_Re_read_78 (by decide) ?_
      refine sx_goto (tgt := 86) dc_Re_read_79 (by decide) ?_
      exact jk36 (-1 : Int32) hk
theorem dc_Ru_init_0 : decode M_Ru_init.2.1 0 = .ok (.aload_n 0, 1) := by decide +kernel
theorem dc_Ru_init_1 : decode M_Ru_init.2.1 1 = .ok (.invokespecial 1, 3) := by decide +kernel
theorem dc_Ru_init_4 : decode M_Ru_init.2.1 4 = .ok (.aload_n 0, 1) := by decide +kernel
theorem dc_Ru_init_5 : decode M_Ru_init.2.1 5 = .ok (.bipush 6, 2) := by decide +kernel
theorem dc_Ru_init_7 : decode M_Ru_init.2.1 7 = .ok (.newarray .int, 2) := by decide +kernel
theorem dc_Ru_init_9 : decode M_Ru_init.2.1 9 = .ok (.putfield 9, 3) := by decide +kernel
theorem dc_Ru_init_12 : decode M_Ru_init.2.1 12 = .ok (.aload_n 0, 1) := by decide +kernel
theorem dc_Ru_init_13 : decode M_Ru_init.2.1 13 = .ok (.bipush 40, 2) := by decide +kernel
theorem dc_Ru_init_15 : decode M_Ru_init.2.1 15 = .ok (.newarray .int, 2) := by decide +kernel
theorem dc_Ru_init_17 : decode M_Ru_init.2.1 17 = .ok (.putfield 13, 3) := by decide +kernel
theorem dc_Ru_init_20 : decode M_Ru_init.2.1 20 = .ok (.aload_n 0, 1) := by decide +kernel
theorem dc_Ru_init_21 : decode M_Ru_init.2.1 21 = .ok (.aload_n 1, 1) := by decide +kernel
theorem dc_Ru_init_22 : decode M_Ru_init.2.1 22 = .ok (.putfield 16, 3) := by decide +kernel
theorem dc_Ru_init_25 : decode M_Ru_init.2.1 25 = .ok (.aload_n 0, 1) := by decide +kernel
theorem dc_Ru_init_26 : decode M_Ru_init.2.1 26 = .ok (.aload_n 2, 1) := by decide +kernel
theorem dc_Ru_init_27 : decode M_Ru_init.2.1 27 = .ok (.putfield 20, 3) := by decide +kernel
theorem dc_Ru_init_30 : decode M_Ru_init.2.1 30 = .ok (.return_, 1) := by decide +kernel
def f_Ru_init (a0 : Nat) (a1 : Nat) (a2 : Nat) (h : xH) : Option (Unit × xH) := gd (hK h a0 = 2) (hp (hNw h 12 6) (fun h5 => gd (hK h5 a0 = 2) (hp (hNw (hRu h5 a0 2 (hN h)) 12 40) (fun h8 => gd (hK h8 a0 = 2) (some ((), hRu (hRu (hRu h8 a0 3 (hN (hRu h5 a0 2 (hN h)))) a0 0 a1) a0 1 a2))))))
theorem t_Ru_init {l : Launch} {z : xZ} {d mc ms : Nat} {Ph : Option xV → xH → Prop} {a0 : Nat} {a1 : Nat} {a2 : Nat}  {h : xH} (hd : 2 ≤ d) (hmc : 2 ≤ mc) (hms : 46 ≤ ms) (hk : OK (f_Ru_init a0 a1 a2 h) (fun q => Ph (none) q.2)) : Sx l z d mc ms M_Ru_init 0 (x_en [xR a0, xR a1, xR a2] 3) [] h Ph := by
  unfold f_Ru_init at hk
  refine sx_eq (lc2 := [some (xR a0), some (xR a1), some (xR a2)]) rfl rfl ?_
  refine sx_aload_n dc_Ru_init_0 rfl ?_
  obtain ⟨g4, hk⟩ := hk.g
  refine sx_objInit g4 (by decide) wM_Ru_1 wO wP (Nat.le_of_ble_eq_true rfl) (by omega) dc_Ru_init_1 ?_
  refine sx_aload_n dc_Ru_init_4 rfl ?_
  refine sx_bipush (v := (6 : Int32)) dc_Ru_init_5 (by decide) ?_
  refine sx_newI (N := 6) (by decide) (by decide) (by decide) wA_int dc_Ru_init_7 (by omega) (by omega) ?_
  obtain ⟨h5, eh5, hk⟩ := hk.h
  refine sx_hp eh5 ?_
  have g6 : hK h5 (hN h) = 12 := by rw [eh5]; exact (show hK (hNw h 12 6) (hN h) = 12 from if_pos rfl)
  obtain ⟨g7, hk⟩ := hk.g
  refine sx_putRF (ci := 2) (k := 2) rfl (by decide) wF_Ru_9 rfl (by rfl) rfl g7 rfl dc_Ru_init_9 ?_
  refine sx_aload_n dc_Ru_init_12 rfl ?_
  refine sx_bipush (v := (40 : Int32)) dc_Ru_init_13 (by decide) ?_
  refine sx_newI (N := 40) (by decide) (by decide) (by decide) wA_int dc_Ru_init_15 (by omega) (by omega) ?_
  obtain ⟨h8, eh8, hk⟩ := hk.h
  refine sx_hp eh8 ?_
  have g9 : hK h8 (hN (hRu h5 a0 2 (hN h))) = 12 := by rw [eh8]; exact (show hK (hNw (hRu h5 a0 2 (hN h)) 12 40) (hN (hRu h5 a0 2 (hN h))) = 12 from if_pos rfl)
  obtain ⟨g10, hk⟩ := hk.g
  refine sx_putRF (ci := 2) (k := 3) rfl (by decide) wF_Ru_13 rfl (by rfl) rfl g10 rfl dc_Ru_init_17 ?_
  refine sx_aload_n dc_Ru_init_20 rfl ?_
  refine sx_aload_n dc_Ru_init_21 rfl ?_
  refine sx_putRF (ci := 2) (k := 0) rfl (by decide) wF_Ru_16 rfl (by rfl) rfl g10 rfl dc_Ru_init_22 ?_
  refine sx_aload_n dc_Ru_init_25 rfl ?_
  refine sx_aload_n dc_Ru_init_26 rfl ?_
  refine sx_putRF (ci := 2) (k := 1) rfl (by decide) wF_Ru_20 rfl (by rfl) rfl g10 rfl dc_Ru_init_27 ?_
  exact sx_retV dc_Ru_init_30 rfl hk.val
theorem dc_Ru_follow_0 : decode M_Ru_follow.2.1 0 = .ok (.aload_n 0, 1) := by decide +kernel
theorem dc_Ru_follow_1 : decode M_Ru_follow.2.1 1 = .ok (.aload_n 1, 1) := by decide +kernel
theorem dc_Ru_follow_2 : decode M_Ru_follow.2.1 2 = .ok (.putfield 24, 3) := by decide +kernel
theorem dc_Ru_follow_5 : decode M_Ru_follow.2.1 5 = .ok (.return_, 1) := by decide +kernel
def f_Ru_follow (a0 : Nat) (a1 : Nat) (h : xH) : Option (Unit × xH) := gd (hK h a0 = 2) (some ((), hRu h a0 5 a1))
theorem t_Ru_follow {l : Launch} {z : xZ} {d mc ms : Nat} {Ph : Option xV → xH → Prop} {a0 : Nat} {a1 : Nat}  {h : xH} (hd : 1 ≤ d) (hk : OK (f_Ru_follow a0 a1 h) (fun q => Ph (none) q.2)) : Sx l z d mc ms M_Ru_follow 0 (x_en [xR a0, xR a1] 2) [] h Ph := by
  unfold f_Ru_follow at hk
  refine sx_eq (lc2 := [some (xR a0), some (xR a1)]) rfl rfl ?_
  refine sx_aload_n dc_Ru_follow_0 rfl ?_
  refine sx_aload_n dc_Ru_follow_1 rfl ?_
  obtain ⟨g2, hk⟩ := hk.g
  refine sx_putR (ci := 2) (k := 5) rfl (by decide) wF_Ru_24 rfl g2 rfl dc_Ru_follow_2 ?_
  exact sx_retV dc_Ru_follow_5 rfl hk.val
theorem dc_Ru_counts_0 : decode M_Ru_counts.2.1 0 = .ok (.aload_n 0, 1) := by decide +kernel
theorem dc_Ru_counts_1 : decode M_Ru_counts.2.1 1 = .ok (.iload_n 1, 1) := by decide +kernel
theorem dc_Ru_counts_2 : decode M_Ru_counts.2.1 2 = .ok (.iload_n 2, 1) := by decide +kernel
theorem dc_Ru_counts_3 : decode M_Ru_counts.2.1 3 = .ok (.iload_n 3, 1) := by decide +kernel
theorem dc_Ru_counts_4 : decode M_Ru_counts.2.1 4 = .ok (.iload 4, 2) := by decide +kernel
theorem dc_Ru_counts_6 : decode M_Ru_counts.2.1 6 = .ok (.iconst 3, 1) := by decide +kernel
theorem dc_Ru_counts_7 : decode M_Ru_counts.2.1 7 = .ok (.invokevirtual 28, 3) := by decide +kernel
theorem dc_Ru_counts_10 : decode M_Ru_counts.2.1 10 = .ok (.aload_n 0, 1) := by decide +kernel
theorem dc_Ru_counts_11 : decode M_Ru_counts.2.1 11 = .ok (.iconst 0, 1) := by decide +kernel
theorem dc_Ru_counts_12 : decode M_Ru_counts.2.1 12 = .ok (.invokevirtual 34, 3) := by decide +kernel
theorem dc_Ru_counts_15 : decode M_Ru_counts.2.1 15 = .ok (.ifCond .eq 7, 3) := by decide +kernel
theorem dc_Ru_counts_18 : decode M_Ru_counts.2.1 18 = .ok (.iconst 1, 1) := by decide +kernel
theorem dc_Ru_counts_19 : decode M_Ru_counts.2.1 19 = .ok (.goto 4, 3) := by decide +kernel
theorem dc_Ru_counts_22 : decode M_Ru_counts.2.1 22 = .ok (.iconst 0, 1) := by decide +kernel
theorem dc_Ru_counts_23 : decode M_Ru_counts.2.1 23 = .ok (.ireturn, 1) := by decide +kernel
def f_Ru_counts (a0 : Nat) (a1 : Int32) (a2 : Int32) (a3 : Int32) (a4 : Int32) (h : xH) : Option (Int32 × xH) := gd (hK h a0 = 2) (Option.bind (f_Ru_name a0 a1 a2 a3 a4 (3 : Int32) h) (fun q5 => gd (hK q5.2 a0 = 2) (Option.bind (f_Ru_answer a0 (0 : Int32) q5.2) (fun q7 => some (nb (if q7.1 = 0 then (0 : Int32) else (1 : Int32)), q7.2)))))
theorem t_Ru_counts {l : Launch} {z : xZ} {d mc ms : Nat} {Ph : Option xV → xH → Prop} {a0 : Nat} {a1 : Int32} {a2 : Int32} {a3 : Int32} {a4 : Int32}  {h : xH} (hd : 4 ≤ d) (hk : OK (f_Ru_counts a0 a1 a2 a3 a4 h) (fun q => Ph (some (xI q.1)) q.2)) : Sx l z d mc ms M_Ru_counts 0 (x_en [xR a0, xI a1, xI a2, xI a3, xI a4] 5) [] h Ph := by
  unfold f_Ru_counts at hk
  refine sx_eq (lc2 := [some (xR a0), some (xI a1), some (xI a2), some (xI a3), some (xI a4)]) rfl rfl ?_
  refine sx_aload_n dc_Ru_counts_0 rfl ?_
  refine sx_iload_n dc_Ru_counts_1 rfl ?_
  refine sx_iload_n dc_Ru_counts_2 rfl ?_
  refine sx_iload_n dc_Ru_counts_3 rfl ?_
  refine sx_iload dc_Ru_counts_4 rfl ?_
  refine sx_iconst (v := (3 : Int32)) dc_Ru_counts_6 (by decide) ?_
  obtain ⟨g6, hk⟩ := hk.g
  obtain ⟨q5, eq5, hk⟩ := hk.bind
  refine sx_callV (d2 := d - 1) (mc2 := 0) (ms2 := 0) (as := [xI a1, xI a2, xI a3, xI a4, xI (3 : Int32)]) mk_Ru_name rfl (x_rk (ci := 2) g6 rfl rfl) wM_Ru_28 mi_Ru_name me_Ru_name rfl (Nat.le_of_ble_eq_true rfl) (Nat.le_of_ble_eq_true rfl) dc_Ru_counts_7 (by omega) (Nat.zero_le _) (Nat.zero_le _) ?_
  refine t_Ru_name (by omega) ⟨q5, eq5, ?_⟩
  refine sx_eq0 (lc2 := [some (xR a0), some (xI a1), some (xI a2), some (xI a3), some (xI a4)]) (st2 := []) rfl rfl ?_
  refine sx_aload_n dc_Ru_counts_10 rfl ?_
  refine sx_iconst (v := (0 : Int32)) dc_Ru_counts_11 (by decide) ?_
  obtain ⟨g8, hk⟩ := hk.g
  obtain ⟨q7, eq7, hk⟩ := hk.bind
  refine sx_callV (d2 := d - 1) (mc2 := 0) (ms2 := 0) (as := [xI (0 : Int32)]) mk_Ru_answer rfl (x_rk (ci := 2) g8 rfl rfl) wM_Ru_34 mi_Ru_answer me_Ru_answer rfl (Nat.le_of_ble_eq_true rfl) (Nat.le_of_ble_eq_true rfl) dc_Ru_counts_12 (by omega) (Nat.zero_le _) (Nat.zero_le _) ?_
  refine t_Ru_answer (by omega) ⟨q7, eq7, ?_⟩
  refine sx_eq0 (lc2 := [some (xR a0), some (xI a1), some (xI a2), some (xI a3), some (xI a4)]) (st2 := [xI q7.1]) rfl rfl ?_
  suffices J9 : Sx l z d mc ms M_Ru_counts 23 [some (xR a0), some (xI a1), some (xI a2), some (xI a3), some (xI a4)] [xI (if q7.1 = 0 then (0 : Int32) else (1 : Int32))] q7.2 Ph by
    refine sx_if_eq (tgt := 22) dc_Ru_counts_15 (by decide) (fun c10 => ?_) (fun c10 => ?_)
    · try simp only [if_pos c10] at J9
      refine sx_iconst (v := (0 : Int32)) dc_Ru_counts_22 (by decide) ?_
      exact J9
    · try simp only [if_neg c10] at J9
      refine sx_iconst (v := (1 : Int32)) dc_Ru_counts_18 (by decide) ?_
      refine sx_goto (tgt := 23) dc_Ru_counts_19 (by decide) ?_
      exact J9
  exact sx_retT dc_Ru_counts_23 (Or.inl ⟨rfl, rfl⟩) rfl hk.val
theorem dc_Se_pairsAmong_0 : decode M_Se_pairsAmong.2.1 0 = .ok (.iload_n 0, 1) := by decide +kernel
theorem dc_Se_pairsAmong_1 : decode M_Se_pairsAmong.2.1 1 = .ok (.iload_n 0, 1) := by decide +kernel
theorem dc_Se_pairsAmong_2 : decode M_Se_pairsAmong.2.1 2 = .ok (.iconst 1, 1) := by decide +kernel
theorem dc_Se_pairsAmong_3 : decode M_Se_pairsAmong.2.1 3 = .ok (.isub, 1) := by decide +kernel
theorem dc_Se_pairsAmong_4 : decode M_Se_pairsAmong.2.1 4 = .ok (.imul, 1) := by decide +kernel
theorem dc_Se_pairsAmong_5 : decode M_Se_pairsAmong.2.1 5 = .ok (.iconst 2, 1) := by decide +kernel
theorem dc_Se_pairsAmong_6 : decode M_Se_pairsAmong.2.1 6 = .ok (.idiv, 1) := by decide +kernel
theorem dc_Se_pairsAmong_7 : decode M_Se_pairsAmong.2.1 7 = .ok (.ireturn, 1) := by decide +kernel
def f_Se_pairsAmong (a0 : Int32) (h : xH) : Option (Int32 × xH) := some ((a0 * (a0 - (1 : Int32))) / (2 : Int32), h)
theorem t_Se_pairsAmong {l : Launch} {z : xZ} {d mc ms : Nat} {Ph : Option xV → xH → Prop} {a0 : Int32}  {h : xH} (hd : 1 ≤ d) (hk : OK (f_Se_pairsAmong a0 h) (fun q => Ph (some (xI q.1)) q.2)) : Sx l z d mc ms M_Se_pairsAmong 0 (x_en [xI a0] 1) [] h Ph := by
  unfold f_Se_pairsAmong at hk
  refine sx_eq (lc2 := [some (xI a0)]) rfl rfl ?_
  refine sx_iload_n dc_Se_pairsAmong_0 rfl ?_
  refine sx_iload_n dc_Se_pairsAmong_1 rfl ?_
  refine sx_iconst (v := (1 : Int32)) dc_Se_pairsAmong_2 (by decide) ?_
  refine sx_isub dc_Se_pairsAmong_3 ?_
  refine sx_imul dc_Se_pairsAmong_4 ?_
  refine sx_iconst (v := (2 : Int32)) dc_Se_pairsAmong_5 (by decide) ?_
  refine sx_idiv dc_Se_pairsAmong_6 (by decide) ?_
  exact sx_retI dc_Se_pairsAmong_7 rfl hk.val
theorem dc_Se_pairOf_0 : decode M_Se_pairOf.2.1 0 = .ok (.iload_n 0, 1) := by decide +kernel
theorem dc_Se_pairOf_1 : decode M_Se_pairOf.2.1 1 = .ok (.iload_n 1, 1) := by decide +kernel
theorem dc_Se_pairOf_2 : decode M_Se_pairOf.2.1 2 = .ok (.invokestatic 35, 3) := by decide +kernel
theorem dc_Se_pairOf_5 : decode M_Se_pairOf.2.1 5 = .ok (.invokestatic 22, 3) := by decide +kernel
theorem dc_Se_pairOf_8 : decode M_Se_pairOf.2.1 8 = .ok (.iload_n 0, 1) := by decide +kernel
theorem dc_Se_pairOf_9 : decode M_Se_pairOf.2.1 9 = .ok (.iload_n 1, 1) := by decide +kernel
theorem dc_Se_pairOf_10 : decode M_Se_pairOf.2.1 10 = .ok (.invokestatic 40, 3) := by decide +kernel
theorem dc_Se_pairOf_13 : decode M_Se_pairOf.2.1 13 = .ok (.iadd, 1) := by decide +kernel
theorem dc_Se_pairOf_14 : decode M_Se_pairOf.2.1 14 = .ok (.ireturn, 1) := by decide +kernel
def f_Se_pairOf (a0 : Int32) (a1 : Int32) (h : xH) : Option (Int32 × xH) := Option.bind (f_Se_pairsAmong (jMax a0 a1) h) (fun q2 => some (q2.1 + (jMin a0 a1), q2.2))
theorem t_Se_pairOf {l : Launch} {z : xZ} {d mc ms : Nat} {Ph : Option xV → xH → Prop} {a0 : Int32} {a1 : Int32}  {h : xH} (hd : 2 ≤ d) (hk : OK (f_Se_pairOf a0 a1 h) (fun q => Ph (some (xI q.1)) q.2)) : Sx l z d mc ms M_Se_pairOf 0 (x_en [xI a0, xI a1] 2) [] h Ph := by
  unfold f_Se_pairOf at hk
  refine sx_eq (lc2 := [some (xI a0), some (xI a1)]) rfl rfl ?_
  refine sx_iload_n dc_Se_pairOf_0 rfl ?_
  refine sx_iload_n dc_Se_pairOf_1 rfl ?_
  refine sx_max wM_Se_35 mt_Mt_max wT_Mt wV_max (Nat.le_of_ble_eq_true rfl) (by omega) dc_Se_pairOf_2 ?_
  obtain ⟨q2, eq2, hk⟩ := hk.bind
  refine sx_callS (d2 := d - 1) (mc2 := 0) (ms2 := 0) (as := [xI (jMax a0 a1)]) mk_Se_pairsAmong rfl wM_Se_22 mt_Se_pairsAmong rfl (Nat.le_of_ble_eq_true rfl) (Nat.le_of_ble_eq_true rfl) dc_Se_pairOf_5 (by omega) (Nat.zero_le _) (Nat.zero_le _) ?_
  refine t_Se_pairsAmong (by omega) ⟨q2, eq2, ?_⟩
  refine sx_eq0 (lc2 := [some (xI a0), some (xI a1)]) (st2 := [xI q2.1]) rfl rfl ?_
  refine sx_iload_n dc_Se_pairOf_8 rfl ?_
  refine sx_iload_n dc_Se_pairOf_9 rfl ?_
  refine sx_min wM_Se_40 mt_Mt_min wT_Mt wV_min (Nat.le_of_ble_eq_true rfl) (by omega) dc_Se_pairOf_10 ?_
  refine sx_iadd dc_Se_pairOf_13 ?_
  exact sx_retI dc_Se_pairOf_14 rfl hk.val
theorem dc_Ta_knownBy_0 : decode M_Ta_knownBy.2.1 0 = .ok (.iconst 0, 1) := by decide +kernel
theorem dc_Ta_knownBy_1 : decode M_Ta_knownBy.2.1 1 = .ok (.istore_n 2, 1) := by decide +kernel
theorem dc_Ta_knownBy_2 : decode M_Ta_knownBy.2.1 2 = .ok (.iconst 0, 1) := by decide +kernel
theorem dc_Ta_knownBy_3 : decode M_Ta_knownBy.2.1 3 = .ok (.istore_n 3, 1) := by decide +kernel
theorem dc_Ta_knownBy_4 : decode M_Ta_knownBy.2.1 4 = .ok (.iload_n 3, 1) := by decide +kernel
theorem dc_Ta_knownBy_5 : decode M_Ta_knownBy.2.1 5 = .ok (.aload_n 0, 1) := by decide +kernel
theorem dc_Ta_knownBy_6 : decode M_Ta_knownBy.2.1 6 = .ok (.getfield 13, 3) := by decide +kernel
theorem dc_Ta_knownBy_9 : decode M_Ta_knownBy.2.1 9 = .ok (.if_icmp .ge 36, 3) := by decide +kernel
theorem dc_Ta_knownBy_12 : decode M_Ta_knownBy.2.1 12 = .ok (.iload_n 3, 1) := by decide +kernel
theorem dc_Ta_knownBy_13 : decode M_Ta_knownBy.2.1 13 = .ok (.iload_n 1, 1) := by decide +kernel
theorem dc_Ta_knownBy_14 : decode M_Ta_knownBy.2.1 14 = .ok (.if_icmp .eq 25, 3) := by decide +kernel
theorem dc_Ta_knownBy_17 : decode M_Ta_knownBy.2.1 17 = .ok (.aload_n 0, 1) := by decide +kernel
theorem dc_Ta_knownBy_18 : decode M_Ta_knownBy.2.1 18 = .ok (.getfield 25, 3) := by decide +kernel
theorem dc_Ta_knownBy_21 : decode M_Ta_knownBy.2.1 21 = .ok (.iload_n 1, 1) := by decide +kernel
theorem dc_Ta_knownBy_22 : decode M_Ta_knownBy.2.1 22 = .ok (.iload_n 3, 1) := by decide +kernel
theorem dc_Ta_knownBy_23 : decode M_Ta_knownBy.2.1 23 = .ok (.invokestatic 40, 3) := by decide +kernel
theorem dc_Ta_knownBy_26 : decode M_Ta_knownBy.2.1 26 = .ok (.ishr, 1) := by decide +kernel
theorem dc_Ta_knownBy_27 : decode M_Ta_knownBy.2.1 27 = .ok (.iconst 1, 1) := by decide +kernel
theorem dc_Ta_knownBy_28 : decode M_Ta_knownBy.2.1 28 = .ok (.iand, 1) := by decide +kernel
theorem dc_Ta_knownBy_29 : decode M_Ta_knownBy.2.1 29 = .ok (.iconst 1, 1) := by decide +kernel
theorem dc_Ta_knownBy_30 : decode M_Ta_knownBy.2.1 30 = .ok (.if_icmp .ne 9, 3) := by decide +kernel
theorem dc_Ta_knownBy_33 : decode M_Ta_knownBy.2.1 33 = .ok (.iload_n 2, 1) := by decide +kernel
theorem dc_Ta_knownBy_34 : decode M_Ta_knownBy.2.1 34 = .ok (.iconst 1, 1) := by decide +kernel
theorem dc_Ta_knownBy_35 : decode M_Ta_knownBy.2.1 35 = .ok (.iload_n 3, 1) := by decide +kernel
theorem dc_Ta_knownBy_36 : decode M_Ta_knownBy.2.1 36 = .ok (.ishl, 1) := by decide +kernel
theorem dc_Ta_knownBy_37 : decode M_Ta_knownBy.2.1 37 = .ok (.ior, 1) := by decide +kernel
theorem dc_Ta_knownBy_38 : decode M_Ta_knownBy.2.1 38 = .ok (.istore_n 2, 1) := by decide +kernel
theorem dc_Ta_knownBy_39 : decode M_Ta_knownBy.2.1 39 = .ok (.iinc 3 1, 3) := by decide +kernel
theorem dc_Ta_knownBy_42 : decode M_Ta_knownBy.2.1 42 = .ok (.goto (-38), 3) := by decide +kernel
theorem dc_Ta_knownBy_45 : decode M_Ta_knownBy.2.1 45 = .ok (.iload_n 2, 1) := by decide +kernel
theorem dc_Ta_knownBy_46 : decode M_Ta_knownBy.2.1 46 = .ok (.ireturn, 1) := by decide +kernel
def f_Ta_knownBy_L4 (a0 : Nat) (a1 : Int32) : Nat → Int32 → Int32 → xH → (Int32 → Int32 → xH → Option (Int32 × xH)) → Option (Int32 × xH)
  | 0, _, _, _, _ => none
  | n + 1, a2, a3, h, K => gd (hK h a0 = 6) (if (hI h a0 1) ≤ a3 then K a2 a3 h else jn (fun (x5 : Int32 × xH) => f_Ta_knownBy_L4 a0 a1 n x5.1 (a3 + (1 : Int32)) x5.2 K) (fun k6 => if a3 = a1 then k6 (a2, h) else Option.bind (f_Se_pairOf a1 a3 h) (fun q8 => if ((jShr (hI h a0 2) q8.1) &&& (1 : Int32)) = (1 : Int32) then k6 ((a2 ||| (jShl (1 : Int32) a3)), q8.2) else k6 (a2, q8.2))))
def f_Ta_knownBy (a0 : Nat) (a1 : Int32) (h : xH) : Option (Int32 × xH) := f_Ta_knownBy_L4 a0 a1 fu (0 : Int32) (0 : Int32) h (fun v10 v11 h12 => some (v10, h12))
theorem t_Ta_knownBy_L4 {l : Launch} {z : xZ} {d mc ms : Nat} {Ph : Option xV → xH → Prop} {a0 : Nat} {a1 : Int32}  (hd : 3 ≤ d) : ∀ (n : Nat) (a2 : Int32) (a3 : Int32) (h : xH) (K : Int32 → Int32 → xH → Option (Int32 × xH)), OK (f_Ta_knownBy_L4 a0 a1 n a2 a3 h K) (fun q => Ph (some (xI q.1)) q.2) → (∀ (a2 : Int32) (a3 : Int32) (h : xH), OK (K a2 a3 h) (fun q => Ph (some (xI q.1)) q.2) → Sx l z d mc ms M_Ta_knownBy 45 [some (xR a0), some (xI a1), some (xI a2), some (xI a3)] [] h Ph) → Sx l z d mc ms M_Ta_knownBy 4 [some (xR a0), some (xI a1), some (xI a2), some (xI a3)] [] h Ph := by
  intro n
  induction n with
  | zero => intro a2 a3 h K hk hE; exact hk.no
  | succ n ih =>
    intro a2 a3 h K hk hE
    rw [f_Ta_knownBy_L4] at hk
    refine sx_iload_n dc_Ta_knownBy_4 rfl ?_
    refine sx_aload_n dc_Ta_knownBy_5 rfl ?_
    obtain ⟨g3, hk⟩ := hk.g
    refine sx_get (ci := 6) (k := 1) rfl (by decide) wF_Ta_13 g3 dc_Ta_knownBy_6 ?_
    refine sx_icmp_ge (tgt := 45) dc_Ta_knownBy_9 (by decide) (fun c4 => ?_) (fun c4 => ?_)
    · replace hk := hk.t c4
      exact hE a2 a3 h hk
    · replace hk := hk.f c4
      refine sx_iload_n dc_Ta_knownBy_12 rfl ?_
      refine sx_iload_n dc_Ta_knownBy_13 rfl ?_
      refine hk.j (X := fun x5 => Sx l z d mc ms M_Ta_knownBy 39 [some (xR a0), some (xI a1), some (xI x5.1), some (xI a3)] [] x5.2 Ph) (fun x5 hk => ?_) (fun k6 jk6 hk => ?_)
      · refine sx_iinc (v := (1 : Int32)) dc_Ta_knownBy_39 rfl (by decide) (by decide) (sx_eq (lc2 := [some (xR a0), some (xI a1), some (xI x5.1), some (xI (a3 + (1 : Int32)))]) rfl rfl ?_)
        refine sx_goto (tgt := 4) dc_Ta_knownBy_42 (by decide) ?_
        exact ih x5.1 (a3 + (1 : Int32)) x5.2 _ hk hE
      · refine sx_icmp_eq (tgt := 39) dc_Ta_knownBy_14 (by decide) (fun c7 => ?_) (fun c7 => ?_)
        · replace hk := hk.t c7
          exact jk6 (a2, h) hk
        · replace hk := hk.f c7
          refine sx_aload_n dc_Ta_knownBy_17 rfl ?_
          refine sx_get (ci := 6) (k := 2) rfl (by decide) wF_Ta_25 g3 dc_Ta_knownBy_18 ?_
          refine sx_iload_n dc_Ta_knownBy_21 rfl ?_
          refine sx_iload_n dc_Ta_knownBy_22 rfl ?_
          obtain ⟨q8, eq8, hk⟩ := hk.bind
          refine sx_callS (d2 := d - 1) (mc2 := 0) (ms2 := 0) (as := [xI a1, xI a3]) mk_Se_pairOf rfl wM_Ta_40 mt_Se_pairOf rfl (Nat.le_of_ble_eq_true rfl) (Nat.le_of_ble_eq_true rfl) dc_Ta_knownBy_23 (by omega) (Nat.zero_le _) (Nat.zero_le _) ?_
          refine t_Se_pairOf (by omega) ⟨q8, eq8, ?_⟩
          refine sx_eq0 (lc2 := [some (xR a0), some (xI a1), some (xI a2), some (xI a3)]) (st2 := [xI q8.1, xI (hI h a0 2)]) rfl rfl ?_
          refine sx_ishr dc_Ta_knownBy_26 ?_
          refine sx_iconst (v := (1 : Int32)) dc_Ta_knownBy_27 (by decide) ?_
          refine sx_iand dc_Ta_knownBy_28 ?_
          refine sx_iconst (v := (1 : Int32)) dc_Ta_knownBy_29 (by decide) ?_
          refine sx_icmp_ne (tgt := 39) dc_Ta_knownBy_30 (by decide) (fun c9 => ?_) (fun c9 => ?_)
          · replace hk := hk.f c9
            exact jk6 (a2, q8.2) hk
          · replace hk := hk.t c9
            refine sx_iload_n dc_Ta_knownBy_33 rfl ?_
            refine sx_iconst (v := (1 : Int32)) dc_Ta_knownBy_34 (by decide) ?_
            refine sx_iload_n dc_Ta_knownBy_35 rfl ?_
            refine sx_ishl dc_Ta_knownBy_36 ?_
            refine sx_ior dc_Ta_knownBy_37 ?_
            refine sx_istore_n dc_Ta_knownBy_38 (by decide) (sx_eq (lc2 := [some (xR a0), some (xI a1), some (xI (a2 ||| (jShl (1 : Int32) a3))), some (xI a3)]) rfl rfl ?_)
            exact jk6 ((a2 ||| (jShl (1 : Int32) a3)), q8.2) hk
theorem t_Ta_knownBy {l : Launch} {z : xZ} {d mc ms : Nat} {Ph : Option xV → xH → Prop} {a0 : Nat} {a1 : Int32}  {h : xH} (hd : 3 ≤ d) (hk : OK (f_Ta_knownBy a0 a1 h) (fun q => Ph (some (xI q.1)) q.2)) : Sx l z d mc ms M_Ta_knownBy 0 (x_en [xR a0, xI a1] 4) [] h Ph := by
  unfold f_Ta_knownBy at hk
  refine sx_eq (lc2 := [some (xR a0), some (xI a1), none, none]) rfl rfl ?_
  refine sx_iconst (v := (0 : Int32)) dc_Ta_knownBy_0 (by decide) ?_
  refine sx_istore_n dc_Ta_knownBy_1 (by decide) (sx_eq (lc2 := [some (xR a0), some (xI a1), some (xI (0 : Int32)), none]) rfl rfl ?_)
  refine sx_iconst (v := (0 : Int32)) dc_Ta_knownBy_2 (by decide) ?_
  refine sx_istore_n dc_Ta_knownBy_3 (by decide) (sx_eq (lc2 := [some (xR a0), some (xI a1), some (xI (0 : Int32)), some (xI (0 : Int32))]) rfl rfl ?_)
  refine t_Ta_knownBy_L4 (by omega) _ _ _ _ _ hk (fun v10 v11 h12 hk => ?_)
  refine sx_iload_n dc_Ta_knownBy_45 rfl ?_
  exact sx_retI dc_Ta_knownBy_46 rfl hk.val
theorem dc_In_bitCount_0 : decode M_In_bitCount.2.1 0 = .ok (.iload_n 0, 1) := by decide +kernel
theorem dc_In_bitCount_1 : decode M_In_bitCount.2.1 1 = .ok (.iload_n 0, 1) := by decide +kernel
theorem dc_In_bitCount_2 : decode M_In_bitCount.2.1 2 = .ok (.iconst 1, 1) := by decide +kernel
theorem dc_In_bitCount_3 : decode M_In_bitCount.2.1 3 = .ok (.iushr, 1) := by decide +kernel
theorem dc_In_bitCount_4 : decode M_In_bitCount.2.1 4 = .ok (.ldc_w 265, 3) := by decide +kernel
theorem dc_In_bitCount_7 : decode M_In_bitCount.2.1 7 = .ok (.iand, 1) := by decide +kernel
theorem dc_In_bitCount_8 : decode M_In_bitCount.2.1 8 = .ok (.isub, 1) := by decide +kernel
theorem dc_In_bitCount_9 : decode M_In_bitCount.2.1 9 = .ok (.istore_n 0, 1) := by decide +kernel
theorem dc_In_bitCount_10 : decode M_In_bitCount.2.1 10 = .ok (.iload_n 0, 1) := by decide +kernel
theorem dc_In_bitCount_11 : decode M_In_bitCount.2.1 11 = .ok (.ldc_w 266, 3) := by decide +kernel
theorem dc_In_bitCount_14 : decode M_In_bitCount.2.1 14 = .ok (.iand, 1) := by decide +kernel
theorem dc_In_bitCount_15 : decode M_In_bitCount.2.1 15 = .ok (.iload_n 0, 1) := by decide +kernel
theorem dc_In_bitCount_16 : decode M_In_bitCount.2.1 16 = .ok (.iconst 2, 1) := by decide +kernel
theorem dc_In_bitCount_17 : decode M_In_bitCount.2.1 17 = .ok (.iushr, 1) := by decide +kernel
theorem dc_In_bitCount_18 : decode M_In_bitCount.2.1 18 = .ok (.ldc_w 266, 3) := by decide +kernel
theorem dc_In_bitCount_21 : decode M_In_bitCount.2.1 21 = .ok (.iand, 1) := by decide +kernel
theorem dc_In_bitCount_22 : decode M_In_bitCount.2.1 22 = .ok (.iadd, 1) := by decide +kernel
theorem dc_In_bitCount_23 : decode M_In_bitCount.2.1 23 = .ok (.istore_n 0, 1) := by decide +kernel
theorem dc_In_bitCount_24 : decode M_In_bitCount.2.1 24 = .ok (.iload_n 0, 1) := by decide +kernel
theorem dc_In_bitCount_25 : decode M_In_bitCount.2.1 25 = .ok (.iload_n 0, 1) := by decide +kernel
theorem dc_In_bitCount_26 : decode M_In_bitCount.2.1 26 = .ok (.iconst 4, 1) := by decide +kernel
theorem dc_In_bitCount_27 : decode M_In_bitCount.2.1 27 = .ok (.iushr, 1) := by decide +kernel
theorem dc_In_bitCount_28 : decode M_In_bitCount.2.1 28 = .ok (.iadd, 1) := by decide +kernel
theorem dc_In_bitCount_29 : decode M_In_bitCount.2.1 29 = .ok (.ldc_w 267, 3) := by decide +kernel
theorem dc_In_bitCount_32 : decode M_In_bitCount.2.1 32 = .ok (.iand, 1) := by decide +kernel
theorem dc_In_bitCount_33 : decode M_In_bitCount.2.1 33 = .ok (.istore_n 0, 1) := by decide +kernel
theorem dc_In_bitCount_34 : decode M_In_bitCount.2.1 34 = .ok (.iload_n 0, 1) := by decide +kernel
theorem dc_In_bitCount_35 : decode M_In_bitCount.2.1 35 = .ok (.iload_n 0, 1) := by decide +kernel
theorem dc_In_bitCount_36 : decode M_In_bitCount.2.1 36 = .ok (.bipush 8, 2) := by decide +kernel
theorem dc_In_bitCount_38 : decode M_In_bitCount.2.1 38 = .ok (.iushr, 1) := by decide +kernel
theorem dc_In_bitCount_39 : decode M_In_bitCount.2.1 39 = .ok (.iadd, 1) := by decide +kernel
theorem dc_In_bitCount_40 : decode M_In_bitCount.2.1 40 = .ok (.istore_n 0, 1) := by decide +kernel
theorem dc_In_bitCount_41 : decode M_In_bitCount.2.1 41 = .ok (.iload_n 0, 1) := by decide +kernel
theorem dc_In_bitCount_42 : decode M_In_bitCount.2.1 42 = .ok (.iload_n 0, 1) := by decide +kernel
theorem dc_In_bitCount_43 : decode M_In_bitCount.2.1 43 = .ok (.bipush 16, 2) := by decide +kernel
theorem dc_In_bitCount_45 : decode M_In_bitCount.2.1 45 = .ok (.iushr, 1) := by decide +kernel
theorem dc_In_bitCount_46 : decode M_In_bitCount.2.1 46 = .ok (.iadd, 1) := by decide +kernel
theorem dc_In_bitCount_47 : decode M_In_bitCount.2.1 47 = .ok (.istore_n 0, 1) := by decide +kernel
theorem dc_In_bitCount_48 : decode M_In_bitCount.2.1 48 = .ok (.iload_n 0, 1) := by decide +kernel
theorem dc_In_bitCount_49 : decode M_In_bitCount.2.1 49 = .ok (.bipush 63, 2) := by decide +kernel
theorem dc_In_bitCount_51 : decode M_In_bitCount.2.1 51 = .ok (.iand, 1) := by decide +kernel
theorem dc_In_bitCount_52 : decode M_In_bitCount.2.1 52 = .ok (.ireturn, 1) := by decide +kernel
def f_In_bitCount (a0 : Int32) (h : xH) : Option (Int32 × xH) := some ((((((((a0 - ((jUshr a0 (1 : Int32)) &&& (1431655765 : Int32))) &&& (858993459 : Int32)) + ((jUshr (a0 - ((jUshr a0 (1 : Int32)) &&& (1431655765 : Int32))) (2 : Int32)) &&& (858993459 : Int32))) + (jUshr (((a0 - ((jUshr a0 (1 : Int32)) &&& (1431655765 : Int32))) &&& (858993459 : Int32)) + ((jUshr (a0 - ((jUshr a0 (1 : Int32)) &&& (1431655765 : Int32))) (2 : Int32)) &&& (858993459 : Int32))) (4 : Int32))) &&& (252645135 : Int32)) + (jUshr (((((a0 - ((jUshr a0 (1 : Int32)) &&& (1431655765 : Int32))) &&& (858993459 : Int32)) + ((jUshr (a0 - ((jUshr a0 (1 : Int32)) &&& (1431655765 : Int32))) (2 : Int32)) &&& (858993459 : Int32))) + (jUshr (((a0 - ((jUshr a0 (1 : Int32)) &&& (1431655765 : Int32))) &&& (858993459 : Int32)) + ((jUshr (a0 - ((jUshr a0 (1 : Int32)) &&& (1431655765 : Int32))) (2 : Int32)) &&& (858993459 : Int32))) (4 : Int32))) &&& (252645135 : Int32)) (8 : Int32))) + (jUshr ((((((a0 - ((jUshr a0 (1 : Int32)) &&& (1431655765 : Int32))) &&& (858993459 : Int32)) + ((jUshr (a0 - ((jUshr a0 (1 : Int32)) &&& (1431655765 : Int32))) (2 : Int32)) &&& (858993459 : Int32))) + (jUshr (((a0 - ((jUshr a0 (1 : Int32)) &&& (1431655765 : Int32))) &&& (858993459 : Int32)) + ((jUshr (a0 - ((jUshr a0 (1 : Int32)) &&& (1431655765 : Int32))) (2 : Int32)) &&& (858993459 : Int32))) (4 : Int32))) &&& (252645135 : Int32)) + (jUshr (((((a0 - ((jUshr a0 (1 : Int32)) &&& (1431655765 : Int32))) &&& (858993459 : Int32)) + ((jUshr (a0 - ((jUshr a0 (1 : Int32)) &&& (1431655765 : Int32))) (2 : Int32)) &&& (858993459 : Int32))) + (jUshr (((a0 - ((jUshr a0 (1 : Int32)) &&& (1431655765 : Int32))) &&& (858993459 : Int32)) + ((jUshr (a0 - ((jUshr a0 (1 : Int32)) &&& (1431655765 : Int32))) (2 : Int32)) &&& (858993459 : Int32))) (4 : Int32))) &&& (252645135 : Int32)) (8 : Int32))) (16 : Int32))) &&& (63 : Int32), h)
theorem t_In_bitCount {l : Launch} {z : xZ} {d mc ms : Nat} {Ph : Option xV → xH → Prop} {a0 : Int32}  {h : xH} (hd : 1 ≤ d) (hk : OK (f_In_bitCount a0 h) (fun q => Ph (some (xI q.1)) q.2)) : Sx l z d mc ms M_In_bitCount 0 (x_en [xI a0] 1) [] h Ph := by
  unfold f_In_bitCount at hk
  refine sx_eq (lc2 := [some (xI a0)]) rfl rfl ?_
  refine sx_iload_n dc_In_bitCount_0 rfl ?_
  refine sx_iload_n dc_In_bitCount_1 rfl ?_
  refine sx_iconst (v := (1 : Int32)) dc_In_bitCount_2 (by decide) ?_
  refine sx_iushr dc_In_bitCount_3 ?_
  refine sx_ldcw (v := (1431655765 : Int32)) wK_In_265 dc_In_bitCount_4 ?_
  refine sx_iand dc_In_bitCount_7 ?_
  refine sx_isub dc_In_bitCount_8 ?_
  refine sx_istore_n dc_In_bitCount_9 (by decide) (sx_eq (lc2 := [some (xI (a0 - ((jUshr a0 (1 : Int32)) &&& (1431655765 : Int32))))]) rfl rfl ?_)
  refine sx_iload_n dc_In_bitCount_10 rfl ?_
  refine sx_ldcw (v := (858993459 : Int32)) wK_In_266 dc_In_bitCount_11 ?_
  refine sx_iand dc_In_bitCount_14 ?_
  refine sx_iload_n dc_In_bitCount_15 rfl ?_
  refine sx_iconst (v := (2 : Int32)) dc_In_bitCount_16 (by decide) ?_
  refine sx_iushr dc_In_bitCount_17 ?_
  refine sx_ldcw (v := (858993459 : Int32)) wK_In_266 dc_In_bitCount_18 ?_
  refine sx_iand dc_In_bitCount_21 ?_
  refine sx_iadd dc_In_bitCount_22 ?_
  refine sx_istore_n dc_In_bitCount_23 (by decide) (sx_eq (lc2 := [some (xI (((a0 - ((jUshr a0 (1 : Int32)) &&& (1431655765 : Int32))) &&& (858993459 : Int32)) + ((jUshr (a0 - ((jUshr a0 (1 : Int32)) &&& (1431655765 : Int32))) (2 : Int32)) &&& (858993459 : Int32))))]) rfl rfl ?_)
  refine sx_iload_n dc_In_bitCount_24 rfl ?_
  refine sx_iload_n dc_In_bitCount_25 rfl ?_
  refine sx_iconst (v := (4 : Int32)) dc_In_bitCount_26 (by decide) ?_
  refine sx_iushr dc_In_bitCount_27 ?_
  refine sx_iadd dc_In_bitCount_28 ?_
  refine sx_ldcw (v := (252645135 : Int32)) wK_In_267 dc_In_bitCount_29 ?_
  refine sx_iand dc_In_bitCount_32 ?_
  refine sx_istore_n dc_In_bitCount_33 (by decide) (sx_eq (lc2 := [some (xI (((((a0 - ((jUshr a0 (1 : Int32)) &&& (1431655765 : Int32))) &&& (858993459 : Int32)) + ((jUshr (a0 - ((jUshr a0 (1 : Int32)) &&& (1431655765 : Int32))) (2 : Int32)) &&& (858993459 : Int32))) + (jUshr (((a0 - ((jUshr a0 (1 : Int32)) &&& (1431655765 : Int32))) &&& (858993459 : Int32)) + ((jUshr (a0 - ((jUshr a0 (1 : Int32)) &&& (1431655765 : Int32))) (2 : Int32)) &&& (858993459 : Int32))) (4 : Int32))) &&& (252645135 : Int32)))]) rfl rfl ?_)
  refine sx_iload_n dc_In_bitCount_34 rfl ?_
  refine sx_iload_n dc_In_bitCount_35 rfl ?_
  refine sx_bipush (v := (8 : Int32)) dc_In_bitCount_36 (by decide) ?_
  refine sx_iushr dc_In_bitCount_38 ?_
  refine sx_iadd dc_In_bitCount_39 ?_
  refine sx_istore_n dc_In_bitCount_40 (by decide) (sx_eq (lc2 := [some (xI ((((((a0 - ((jUshr a0 (1 : Int32)) &&& (1431655765 : Int32))) &&& (858993459 : Int32)) + ((jUshr (a0 - ((jUshr a0 (1 : Int32)) &&& (1431655765 : Int32))) (2 : Int32)) &&& (858993459 : Int32))) + (jUshr (((a0 - ((jUshr a0 (1 : Int32)) &&& (1431655765 : Int32))) &&& (858993459 : Int32)) + ((jUshr (a0 - ((jUshr a0 (1 : Int32)) &&& (1431655765 : Int32))) (2 : Int32)) &&& (858993459 : Int32))) (4 : Int32))) &&& (252645135 : Int32)) + (jUshr (((((a0 - ((jUshr a0 (1 : Int32)) &&& (1431655765 : Int32))) &&& (858993459 : Int32)) + ((jUshr (a0 - ((jUshr a0 (1 : Int32)) &&& (1431655765 : Int32))) (2 : Int32)) &&& (858993459 : Int32))) + (jUshr (((a0 - ((jUshr a0 (1 : Int32)) &&& (1431655765 : Int32))) &&& (858993459 : Int32)) + ((jUshr (a0 - ((jUshr a0 (1 : Int32)) &&& (1431655765 : Int32))) (2 : Int32)) &&& (858993459 : Int32))) (4 : Int32))) &&& (252645135 : Int32)) (8 : Int32))))]) rfl rfl ?_)
  refine sx_iload_n dc_In_bitCount_41 rfl ?_
  refine sx_iload_n dc_In_bitCount_42 rfl ?_
  refine sx_bipush (v := (16 : Int32)) dc_In_bitCount_43 (by decide) ?_
  refine sx_iushr dc_In_bitCount_45 ?_
  refine sx_iadd dc_In_bitCount_46 ?_
  refine sx_istore_n dc_In_bitCount_47 (by decide) (sx_eq (lc2 := [some (xI (((((((a0 - ((jUshr a0 (1 : Int32)) &&& (1431655765 : Int32))) &&& (858993459 : Int32)) + ((jUshr (a0 - ((jUshr a0 (1 : Int32)) &&& (1431655765 : Int32))) (2 : Int32)) &&& (858993459 : Int32))) + (jUshr (((a0 - ((jUshr a0 (1 : Int32)) &&& (1431655765 : Int32))) &&& (858993459 : Int32)) + ((jUshr (a0 - ((jUshr a0 (1 : Int32)) &&& (1431655765 : Int32))) (2 : Int32)) &&& (858993459 : Int32))) (4 : Int32))) &&& (252645135 : Int32)) + (jUshr (((((a0 - ((jUshr a0 (1 : Int32)) &&& (1431655765 : Int32))) &&& (858993459 : Int32)) + ((jUshr (a0 - ((jUshr a0 (1 : Int32)) &&& (1431655765 : Int32))) (2 : Int32)) &&& (858993459 : Int32))) + (jUshr (((a0 - ((jUshr a0 (1 : Int32)) &&& (1431655765 : Int32))) &&& (858993459 : Int32)) + ((jUshr (a0 - ((jUshr a0 (1 : Int32)) &&& (1431655765 : Int32))) (2 : Int32)) &&& (858993459 : Int32))) (4 : Int32))) &&& (252645135 : Int32)) (8 : Int32))) + (jUshr ((((((a0 - ((jUshr a0 (1 : Int32)) &&& (1431655765 : Int32))) &&& (858993459 : Int32)) + ((jUshr (a0 - ((jUshr a0 (1 : Int32)) &&& (1431655765 : Int32))) (2 : Int32)) &&& (858993459 : Int32))) + (jUshr (((a0 - ((jUshr a0 (1 : Int32)) &&& (1431655765 : Int32))) &&& (858993459 : Int32)) + ((jUshr (a0 - ((jUshr a0 (1 : Int32)) &&& (1431655765 : Int32))) (2 : Int32)) &&& (858993459 : Int32))) (4 : Int32))) &&& (252645135 : Int32)) + (jUshr (((((a0 - ((jUshr a0 (1 : Int32)) &&& (1431655765 : Int32))) &&& (858993459 : Int32)) + ((jUshr (a0 - ((jUshr a0 (1 : Int32)) &&& (1431655765 : Int32))) (2 : Int32)) &&& (858993459 : Int32))) + (jUshr (((a0 - ((jUshr a0 (1 : Int32)) &&& (1431655765 : Int32))) &&& (858993459 : Int32)) + ((jUshr (a0 - ((jUshr a0 (1 : Int32)) &&& (1431655765 : Int32))) (2 : Int32)) &&& (858993459 : Int32))) (4 : Int32))) &&& (252645135 : Int32)) (8 : Int32))) (16 : Int32))))]) rfl rfl ?_)
  refine sx_iload_n dc_In_bitCount_48 rfl ?_
  refine sx_bipush (v := (63 : Int32)) dc_In_bitCount_49 (by decide) ?_
  refine sx_iand dc_In_bitCount_51 ?_
  exact sx_retI dc_In_bitCount_52 rfl hk.val
theorem dc_Ru_joy_0 : decode M_Ru_joy.2.1 0 = .ok (.aload_n 0, 1) := by decide +kernel
theorem dc_Ru_joy_1 : decode M_Ru_joy.2.1 1 = .ok (.iload_n 1, 1) := by decide +kernel
theorem dc_Ru_joy_2 : decode M_Ru_joy.2.1 2 = .ok (.iconst 0, 1) := by decide +kernel
theorem dc_Ru_joy_3 : decode M_Ru_joy.2.1 3 = .ok (.iconst 0, 1) := by decide +kernel
theorem dc_Ru_joy_4 : decode M_Ru_joy.2.1 4 = .ok (.aload_n 0, 1) := by decide +kernel
theorem dc_Ru_joy_5 : decode M_Ru_joy.2.1 5 = .ok (.getfield 20, 3) := by decide +kernel
theorem dc_Ru_joy_8 : decode M_Ru_joy.2.1 8 = .ok (.iload_n 1, 1) := by decide +kernel
theorem dc_Ru_joy_9 : decode M_Ru_joy.2.1 9 = .ok (.invokevirtual 54, 3) := by decide +kernel
theorem dc_Ru_joy_12 : decode M_Ru_joy.2.1 12 = .ok (.invokestatic 57, 3) := by decide +kernel
theorem dc_Ru_joy_15 : decode M_Ru_joy.2.1 15 = .ok (.iconst 0, 1) := by decide +kernel
theorem dc_Ru_joy_16 : decode M_Ru_joy.2.1 16 = .ok (.invokevirtual 28, 3) := by decide +kernel
theorem dc_Ru_joy_19 : decode M_Ru_joy.2.1 19 = .ok (.aload_n 0, 1) := by decide +kernel
theorem dc_Ru_joy_20 : decode M_Ru_joy.2.1 20 = .ok (.iconst 2, 1) := by decide +kernel
theorem dc_Ru_joy_21 : decode M_Ru_joy.2.1 21 = .ok (.invokevirtual 34, 3) := by decide +kernel
theorem dc_Ru_joy_24 : decode M_Ru_joy.2.1 24 = .ok (.invokestatic 51, 3) := by decide +kernel
theorem dc_Ru_joy_27 : decode M_Ru_joy.2.1 27 = .ok (.ireturn, 1) := by decide +kernel
def f_Ru_joy (a0 : Nat) (a1 : Int32) (h : xH) : Option (Int32 × xH) := gd (hK h a0 = 2) (gd (hK h (hR h a0 1) = 6) (Option.bind (f_Ta_knownBy (hR h a0 1) a1 h) (fun q11 => Option.bind (f_In_bitCount q11.1 q11.2) (fun q13 => gd (hK q13.2 a0 = 2) (Option.bind (f_Ru_name a0 a1 (0 : Int32) (0 : Int32) q13.1 (0 : Int32) q13.2) (fun q14 => gd (hK q14.2 a0 = 2) (Option.bind (f_Ru_answer a0 (2 : Int32) q14.2) (fun q16 => Option.bind (f_Ru_bounded q16.1 q16.2) (fun q18 => some (q18.1, q18.2))))))))))
theorem t_Ru_joy {l : Launch} {z : xZ} {d mc ms : Nat} {Ph : Option xV → xH → Prop} {a0 : Nat} {a1 : Int32}  {h : xH} (hd : 4 ≤ d) (hk : OK (f_Ru_joy a0 a1 h) (fun q => Ph (some (xI q.1)) q.2)) : Sx l z d mc ms M_Ru_joy 0 (x_en [xR a0, xI a1] 2) [] h Ph := by
  unfold f_Ru_joy at hk
  refine sx_eq (lc2 := [some (xR a0), some (xI a1)]) rfl rfl ?_
  refine sx_aload_n dc_Ru_joy_0 rfl ?_
  refine sx_iload_n dc_Ru_joy_1 rfl ?_
  refine sx_iconst (v := (0 : Int32)) dc_Ru_joy_2 (by decide) ?_
  refine sx_iconst (v := (0 : Int32)) dc_Ru_joy_3 (by decide) ?_
  refine sx_aload_n dc_Ru_joy_4 rfl ?_
  obtain ⟨g10, hk⟩ := hk.g
  refine sx_get (ci := 2) (k := 1) rfl (by decide) wF_Ru_20 g10 dc_Ru_joy_5 ?_
  refine sx_iload_n dc_Ru_joy_8 rfl ?_
  obtain ⟨g12, hk⟩ := hk.g
  obtain ⟨q11, eq11, hk⟩ := hk.bind
  refine sx_callV (d2 := d - 1) (mc2 := 0) (ms2 := 0) (as := [xI a1]) mk_Ta_knownBy rfl (x_rk (ci := 6) g12 rfl rfl) wM_Ru_54 mi_Ta_knownBy me_Ta_knownBy rfl (Nat.le_of_ble_eq_true rfl) (Nat.le_of_ble_eq_true rfl) dc_Ru_joy_9 (by omega) (Nat.zero_le _) (Nat.zero_le _) ?_
  refine t_Ta_knownBy (by omega) ⟨q11, eq11, ?_⟩
  refine sx_eq0 (lc2 := [some (xR a0), some (xI a1)]) (st2 := [xI q11.1, xI (0 : Int32), xI (0 : Int32), xI a1, xR a0]) rfl rfl ?_
  obtain ⟨q13, eq13, hk⟩ := hk.bind
  refine sx_callS (d2 := d - 1) (mc2 := 0) (ms2 := 0) (as := [xI q11.1]) mk_In_bitCount rfl wM_Ru_57 mt_In_bitCount rfl (Nat.le_of_ble_eq_true rfl) (Nat.le_of_ble_eq_true rfl) dc_Ru_joy_12 (by omega) (Nat.zero_le _) (Nat.zero_le _) ?_
  refine t_In_bitCount (by omega) ⟨q13, eq13, ?_⟩
  refine sx_eq0 (lc2 := [some (xR a0), some (xI a1)]) (st2 := [xI q13.1, xI (0 : Int32), xI (0 : Int32), xI a1, xR a0]) rfl rfl ?_
  refine sx_iconst (v := (0 : Int32)) dc_Ru_joy_15 (by decide) ?_
  obtain ⟨g15, hk⟩ := hk.g
  obtain ⟨q14, eq14, hk⟩ := hk.bind
  refine sx_callV (d2 := d - 1) (mc2 := 0) (ms2 := 0) (as := [xI a1, xI (0 : Int32), xI (0 : Int32), xI q13.1, xI (0 : Int32)]) mk_Ru_name rfl (x_rk (ci := 2) g15 rfl rfl) wM_Ru_28 mi_Ru_name me_Ru_name rfl (Nat.le_of_ble_eq_true rfl) (Nat.le_of_ble_eq_true rfl) dc_Ru_joy_16 (by omega) (Nat.zero_le _) (Nat.zero_le _) ?_
  refine t_Ru_name (by omega) ⟨q14, eq14, ?_⟩
  refine sx_eq0 (lc2 := [some (xR a0), some (xI a1)]) (st2 := []) rfl rfl ?_
  refine sx_aload_n dc_Ru_joy_19 rfl ?_
  refine sx_iconst (v := (2 : Int32)) dc_Ru_joy_20 (by decide) ?_
  obtain ⟨g17, hk⟩ := hk.g
  obtain ⟨q16, eq16, hk⟩ := hk.bind
  refine sx_callV (d2 := d - 1) (mc2 := 0) (ms2 := 0) (as := [xI (2 : Int32)]) mk_Ru_answer rfl (x_rk (ci := 2) g17 rfl rfl) wM_Ru_34 mi_Ru_answer me_Ru_answer rfl (Nat.le_of_ble_eq_true rfl) (Nat.le_of_ble_eq_true rfl) dc_Ru_joy_21 (by omega) (Nat.zero_le _) (Nat.zero_le _) ?_
  refine t_Ru_answer (by omega) ⟨q16, eq16, ?_⟩
  refine sx_eq0 (lc2 := [some (xR a0), some (xI a1)]) (st2 := [xI q16.1]) rfl rfl ?_
  obtain ⟨q18, eq18, hk⟩ := hk.bind
  refine sx_callS (d2 := d - 1) (mc2 := 0) (ms2 := 0) (as := [xI q16.1]) mk_Ru_bounded rfl wM_Ru_51 mt_Ru_bounded rfl (Nat.le_of_ble_eq_true rfl) (Nat.le_of_ble_eq_true rfl) dc_Ru_joy_24 (by omega) (Nat.zero_le _) (Nat.zero_le _) ?_
  refine t_Ru_bounded (by omega) ⟨q18, eq18, ?_⟩
  refine sx_eq0 (lc2 := [some (xR a0), some (xI a1)]) (st2 := [xI q18.1]) rfl rfl ?_
  exact sx_retI dc_Ru_joy_27 rfl hk.val
theorem dc_Se_init_0 : decode M_Se_init.2.1 0 = .ok (.aload_n 0, 1) := by decide +kernel
theorem dc_Se_init_1 : decode M_Se_init.2.1 1 = .ok (.invokespecial 1, 3) := by decide +kernel
theorem dc_Se_init_4 : decode M_Se_init.2.1 4 = .ok (.aload_n 0, 1) := by decide +kernel
theorem dc_Se_init_5 : decode M_Se_init.2.1 5 = .ok (.sipush 128, 3) := by decide +kernel
theorem dc_Se_init_8 : decode M_Se_init.2.1 8 = .ok (.newarray .int, 2) := by decide +kernel
theorem dc_Se_init_10 : decode M_Se_init.2.1 10 = .ok (.putfield 9, 3) := by decide +kernel
theorem dc_Se_init_13 : decode M_Se_init.2.1 13 = .ok (.aload_n 0, 1) := by decide +kernel
theorem dc_Se_init_14 : decode M_Se_init.2.1 14 = .ok (.bipush 21, 2) := by decide +kernel
theorem dc_Se_init_16 : decode M_Se_init.2.1 16 = .ok (.newarray .int, 2) := by decide +kernel
theorem dc_Se_init_18 : decode M_Se_init.2.1 18 = .ok (.putfield 13, 3) := by decide +kernel
theorem dc_Se_init_21 : decode M_Se_init.2.1 21 = .ok (.aload_n 0, 1) := by decide +kernel
theorem dc_Se_init_22 : decode M_Se_init.2.1 22 = .ok (.bipush 21, 2) := by decide +kernel
theorem dc_Se_init_24 : decode M_Se_init.2.1 24 = .ok (.newarray .int, 2) := by decide +kernel
theorem dc_Se_init_26 : decode M_Se_init.2.1 26 = .ok (.putfield 16, 3) := by decide +kernel
theorem dc_Se_init_29 : decode M_Se_init.2.1 29 = .ok (.aload_n 0, 1) := by decide +kernel
theorem dc_Se_init_30 : decode M_Se_init.2.1 30 = .ok (.bipush 35, 2) := by decide +kernel
theorem dc_Se_init_32 : decode M_Se_init.2.1 32 = .ok (.newarray .int, 2) := by decide +kernel
theorem dc_Se_init_34 : decode M_Se_init.2.1 34 = .ok (.putfield 19, 3) := by decide +kernel
theorem dc_Se_init_37 : decode M_Se_init.2.1 37 = .ok (.iconst 0, 1) := by decide +kernel
theorem dc_Se_init_38 : decode M_Se_init.2.1 38 = .ok (.istore_n 1, 1) := by decide +kernel
theorem dc_Se_init_39 : decode M_Se_init.2.1 39 = .ok (.iconst 0, 1) := by decide +kernel
theorem dc_Se_init_40 : decode M_Se_init.2.1 40 = .ok (.istore_n 2, 1) := by decide +kernel
theorem dc_Se_init_41 : decode M_Se_init.2.1 41 = .ok (.iload_n 2, 1) := by decide +kernel
theorem dc_Se_init_42 : decode M_Se_init.2.1 42 = .ok (.bipush 7, 2) := by decide +kernel
theorem dc_Se_init_44 : decode M_Se_init.2.1 44 = .ok (.if_icmp .ge 111, 3) := by decide +kernel
theorem dc_Se_init_47 : decode M_Se_init.2.1 47 = .ok (.iconst 0, 1) := by decide +kernel
theorem dc_Se_init_48 : decode M_Se_init.2.1 48 = .ok (.istore_n 3, 1) := by decide +kernel
theorem dc_Se_init_49 : decode M_Se_init.2.1 49 = .ok (.iload_n 3, 1) := by decide +kernel
theorem dc_Se_init_50 : decode M_Se_init.2.1 50 = .ok (.iconst 1, 1) := by decide +kernel
theorem dc_Se_init_51 : decode M_Se_init.2.1 51 = .ok (.iload_n 2, 1) := by decide +kernel
theorem dc_Se_init_52 : decode M_Se_init.2.1 52 = .ok (.ishl, 1) := by decide +kernel
theorem dc_Se_init_53 : decode M_Se_init.2.1 53 = .ok (.if_icmp .ge 61, 3) := by decide +kernel
theorem dc_Se_init_56 : decode M_Se_init.2.1 56 = .ok (.iload_n 3, 1) := by decide +kernel
theorem dc_Se_init_57 : decode M_Se_init.2.1 57 = .ok (.iconst 1, 1) := by decide +kernel
theorem dc_Se_init_58 : decode M_Se_init.2.1 58 = .ok (.iload_n 2, 1) := by decide +kernel
theorem dc_Se_init_59 : decode M_Se_init.2.1 59 = .ok (.ishl, 1) := by decide +kernel
theorem dc_Se_init_60 : decode M_Se_init.2.1 60 = .ok (.ior, 1) := by decide +kernel
theorem dc_Se_init_61 : decode M_Se_init.2.1 61 = .ok (.istore 4, 2) := by decide +kernel
theorem dc_Se_init_63 : decode M_Se_init.2.1 63 = .ok (.aload_n 0, 1) := by decide +kernel
theorem dc_Se_init_64 : decode M_Se_init.2.1 64 = .ok (.getfield 9, 3) := by decide +kernel
theorem dc_Se_init_67 : decode M_Se_init.2.1 67 = .ok (.iload 4, 2) := by decide +kernel
theorem dc_Se_init_69 : decode M_Se_init.2.1 69 = .ok (.aload_n 0, 1) := by decide +kernel
theorem dc_Se_init_70 : decode M_Se_init.2.1 70 = .ok (.getfield 9, 3) := by decide +kernel
theorem dc_Se_init_73 : decode M_Se_init.2.1 73 = .ok (.iload_n 3, 1) := by decide +kernel
theorem dc_Se_init_74 : decode M_Se_init.2.1 74 = .ok (.iaload, 1) := by decide +kernel
theorem dc_Se_init_75 : decode M_Se_init.2.1 75 = .ok (.iload_n 3, 1) := by decide +kernel
theorem dc_Se_init_76 : decode M_Se_init.2.1 76 = .ok (.iload_n 2, 1) := by decide +kernel
theorem dc_Se_init_77 : decode M_Se_init.2.1 77 = .ok (.invokestatic 22, 3) := by decide +kernel
theorem dc_Se_init_80 : decode M_Se_init.2.1 80 = .ok (.ishl, 1) := by decide +kernel
theorem dc_Se_init_81 : decode M_Se_init.2.1 81 = .ok (.ior, 1) := by decide +kernel
theorem dc_Se_init_82 : decode M_Se_init.2.1 82 = .ok (.iastore, 1) := by decide +kernel
theorem dc_Se_init_83 : decode M_Se_init.2.1 83 = .ok (.iload_n 3, 1) := by decide +kernel
theorem dc_Se_init_84 : decode M_Se_init.2.1 84 = .ok (.invokestatic 26, 3) := by decide +kernel
theorem dc_Se_init_87 : decode M_Se_init.2.1 87 = .ok (.iconst 2, 1) := by decide +kernel
theorem dc_Se_init_88 : decode M_Se_init.2.1 88 = .ok (.if_icmp .ne 20, 3) := by decide +kernel
theorem dc_Se_init_91 : decode M_Se_init.2.1 91 = .ok (.iload_n 1, 1) := by decide +kernel
theorem dc_Se_init_92 : decode M_Se_init.2.1 92 = .ok (.bipush 35, 2) := by decide +kernel
theorem dc_Se_init_94 : decode M_Se_init.2.1 94 = .ok (.if_icmp .ge 14, 3) := by decide +kernel
theorem dc_Se_init_97 : decode M_Se_init.2.1 97 = .ok (.aload_n 0, 1) := by decide +kernel
theorem dc_Se_init_98 : decode M_Se_init.2.1 98 = .ok (.getfield 19, 3) := by decide +kernel
theorem dc_Se_init_101 : decode M_Se_init.2.1 101 = .ok (.iload_n 1, 1) := by decide +kernel
theorem dc_Se_init_102 : decode M_Se_init.2.1 102 = .ok (.iinc 1 1, 3) := by decide +kernel
theorem dc_Se_init_105 : decode M_Se_init.2.1 105 = .ok (.iload 4, 2) := by decide +kernel
theorem dc_Se_init_107 : decode M_Se_init.2.1 107 = .ok (.iastore, 1) := by decide +kernel
theorem dc_Se_init_108 : decode M_Se_init.2.1 108 = .ok (.iinc 3 1, 3) := by decide +kernel
theorem dc_Se_init_111 : decode M_Se_init.2.1 111 = .ok (.goto (-62), 3) := by decide +kernel
theorem dc_Se_init_114 : decode M_Se_init.2.1 114 = .ok (.iconst 0, 1) := by decide +kernel
theorem dc_Se_init_115 : decode M_Se_init.2.1 115 = .ok (.istore_n 3, 1) := by decide +kernel
theorem dc_Se_init_116 : decode M_Se_init.2.1 116 = .ok (.iload_n 3, 1) := by decide +kernel
theorem dc_Se_init_117 : decode M_Se_init.2.1 117 = .ok (.iload_n 2, 1) := by decide +kernel
theorem dc_Se_init_118 : decode M_Se_init.2.1 118 = .ok (.if_icmp .ge 31, 3) := by decide +kernel
theorem dc_Se_init_121 : decode M_Se_init.2.1 121 = .ok (.aload_n 0, 1) := by decide +kernel
theorem dc_Se_init_122 : decode M_Se_init.2.1 122 = .ok (.getfield 13, 3) := by decide +kernel
theorem dc_Se_init_125 : decode M_Se_init.2.1 125 = .ok (.iload_n 3, 1) := by decide +kernel
theorem dc_Se_init_126 : decode M_Se_init.2.1 126 = .ok (.iload_n 2, 1) := by decide +kernel
theorem dc_Se_init_127 : decode M_Se_init.2.1 127 = .ok (.invokestatic 31, 3) := by decide +kernel
theorem dc_Se_init_130 : decode M_Se_init.2.1 130 = .ok (.iload_n 3, 1) := by decide +kernel
theorem dc_Se_init_131 : decode M_Se_init.2.1 131 = .ok (.iastore, 1) := by decide +kernel
theorem dc_Se_init_132 : decode M_Se_init.2.1 132 = .ok (.aload_n 0, 1) := by decide +kernel
theorem dc_Se_init_133 : decode M_Se_init.2.1 133 = .ok (.getfield 16, 3) := by decide +kernel
theorem dc_Se_init_136 : decode M_Se_init.2.1 136 = .ok (.iload_n 3, 1) := by decide +kernel
theorem dc_Se_init_137 : decode M_Se_init.2.1 137 = .ok (.iload_n 2, 1) := by decide +kernel
theorem dc_Se_init_138 : decode M_Se_init.2.1 138 = .ok (.invokestatic 31, 3) := by decide +kernel
theorem dc_Se_init_141 : decode M_Se_init.2.1 141 = .ok (.iload_n 2, 1) := by decide +kernel
theorem dc_Se_init_142 : decode M_Se_init.2.1 142 = .ok (.iastore, 1) := by decide +kernel
theorem dc_Se_init_143 : decode M_Se_init.2.1 143 = .ok (.iinc 3 1, 3) := by decide +kernel
theorem dc_Se_init_146 : decode M_Se_init.2.1 146 = .ok (.goto (-30), 3) := by decide +kernel
theorem dc_Se_init_149 : decode M_Se_init.2.1 149 = .ok (.iinc 2 1, 3) := by decide +kernel
theorem dc_Se_init_152 : decode M_Se_init.2.1 152 = .ok (.goto (-111), 3) := by decide +kernel
theorem dc_Se_init_155 : decode M_Se_init.2.1 155 = .ok (.return_, 1) := by decide +kernel
def f_Se_init_L49 (a0 : Nat) (a2 : Int32) : Nat → Int32 → Int32 → xH → (Int32 → Int32 → xH → Option (Unit × xH)) → Option (Unit × xH)
  | 0, _, _, _, _ => none
  | n + 1, a1, a3, h, K => if (jShl (1 : Int32) a2) ≤ a3 then K a1 a3 h else gd (hK h a0 = 3) (gd (hK h (hR h a0 0) = 12) (gd (¬ (a3 < 0 ∨ hL h (hR h a0 0) ≤ a3.toNatClampNeg)) (Option.bind (f_Se_pairsAmong a2 h) (fun q40 => gd (hK q40.2 (hR h a0 0) = 12) (gd (¬ ((a3 ||| (jShl (1 : Int32) a2)) < 0 ∨ hL q40.2 (hR h a0 0) ≤ (a3 ||| (jShl (1 : Int32) a2)).toNatClampNeg)) (Option.bind (f_In_bitCount a3 (hIu q40.2 (hR h a0 0) (a3 ||| (jShl (1 : Int32) a2)).toNatClampNeg ((hI h (hR h a0 0) a3.toNatClampNeg) ||| (jShl a3 q40.1)))) (fun q43 => jn (fun (x44 : Int32 × xH) => f_Se_init_L49 a0 a2 n x44.1 (a3 + (1 : Int32)) x44.2 K) (fun k45 => if q43.1 = (2 : Int32) then if (35 : Int32) ≤ a1 then k45 (a1, q43.2) else gd (hK q43.2 a0 = 3) (gd (hK q43.2 (hR q43.2 a0 3) = 12) (gd (¬ (a1 < 0 ∨ hL q43.2 (hR q43.2 a0 3) ≤ a1.toNatClampNeg)) (k45 ((a1 + (1 : Int32)), (hIu q43.2 (hR q43.2 a0 3) a1.toNatClampNeg (a3 ||| (jShl (1 : Int32) a2))))))) else k45 (a1, q43.2)))))))))
def f_Se_init_L116 (a0 : Nat) (a1 : Int32) (a2 : Int32) : Nat → Int32 → xH → (Int32 → xH → Option (Unit × xH)) → Option (Unit × xH)
  | 0, _, _, _ => none
  | n + 1, a3, h, K => if a2 ≤ a3 then K a3 h else gd (hK h a0 = 3) (Option.bind (f_Se_pairOf a3 a2 h) (fun q56 => gd (hK q56.2 (hR h a0 1) = 12) (gd (¬ (q56.1 < 0 ∨ hL q56.2 (hR h a0 1) ≤ q56.1.toNatClampNeg)) (gd (hK q56.2 a0 = 3) (Option.bind (f_Se_pairOf a3 a2 (hIu q56.2 (hR h a0 1) q56.1.toNatClampNeg a3)) (fun q60 => gd (hK q60.2 (hR q56.2 a0 2) = 12) (gd (¬ (q60.1 < 0 ∨ hL q60.2 (hR q56.2 a0 2) ≤ q60.1.toNatClampNeg)) (f_Se_init_L116 a0 a1 a2 n (a3 + (1 : Int32)) (hIu q60.2 (hR q56.2 a0 2) q60.1.toNatClampNeg a2) K))))))))
def f_Se_init_L41 (a0 : Nat) : Nat → Int32 → Int32 → xH → (Int32 → Int32 → xH → Option (Unit × xH)) → Option (Unit × xH)
  | 0, _, _, _, _ => none
  | n + 1, a1, a2, h, K => if (7 : Int32) ≤ a2 then K a1 a2 h else f_Se_init_L49 a0 a2 fu a1 (0 : Int32) h (fun v51 v52 h53 => f_Se_init_L116 a0 v51 a2 fu (0 : Int32) h53 (fun v63 h64 => f_Se_init_L41 a0 n v51 (a2 + (1 : Int32)) h64 K))
def f_Se_init (a0 : Nat) (h : xH) : Option (Unit × xH) := gd (hK h a0 = 3) (hp (hNw h 12 128) (fun h23 => gd (hK h23 a0 = 3) (hp (hNw (hRu h23 a0 0 (hN h)) 12 21) (fun h26 => gd (hK h26 a0 = 3) (hp (hNw (hRu h26 a0 1 (hN (hRu h23 a0 0 (hN h)))) 12 21) (fun h29 => gd (hK h29 a0 = 3) (hp (hNw (hRu h29 a0 2 (hN (hRu h26 a0 1 (hN (hRu h23 a0 0 (hN h)))))) 12 35) (fun h32 => gd (hK h32 a0 = 3) (f_Se_init_L41 a0 fu (0 : Int32) (0 : Int32) (hRu h32 a0 3 (hN (hRu h29 a0 2 (hN (hRu h26 a0 1 (hN (hRu h23 a0 0 (hN h)))))))) (fun v65 v66 h67 => some ((), h67)))))))))))
theorem t_Se_init_L49 {l : Launch} {z : xZ} {d mc ms : Nat} {Ph : Option xV → xH → Prop} {a0 : Nat} {a2 : Int32}  (hd : 2 ≤ d) : ∀ (n : Nat) (a1 : Int32) (a3 : Int32) (h : xH) (K : Int32 → Int32 → xH → Option (Unit × xH)), OK (f_Se_init_L49 a0 a2 n a1 a3 h K) (fun q => Ph (none) q.2) → (∀ (a1 : Int32) (a3 : Int32) (h : xH), OK (K a1 a3 h) (fun q => Ph (none) q.2) → Sx l z d mc ms M_Se_init 114 [some (xR a0), some (xI a1), some (xI a2), some (xI a3), none] [] h Ph) → Sx l z d mc ms M_Se_init 49 [some (xR a0), some (xI a1), some (xI a2), some (xI a3), none] [] h Ph := by
  intro n
  induction n with
  | zero => intro a1 a3 h K hk hE; exact hk.no
  | succ n ih =>
    intro a1 a3 h K hk hE
    rw [f_Se_init_L49] at hk
    refine sx_iload_n dc_Se_init_49 rfl ?_
    refine sx_iconst (v := (1 : Int32)) dc_Se_init_50 (by decide) ?_
    refine sx_iload_n dc_Se_init_51 rfl ?_
    refine sx_ishl dc_Se_init_52 ?_
    refine sx_icmp_ge (tgt := 114) dc_Se_init_53 (by decide) (fun c36 => ?_) (fun c36 => ?_)
    · replace hk := hk.t c36
      exact hE a1 a3 h hk
    · replace hk := hk.f c36
      refine sx_iload_n dc_Se_init_56 rfl ?_
      refine sx_iconst (v := (1 : Int32)) dc_Se_init_57 (by decide) ?_
      refine sx_iload_n dc_Se_init_58 rfl ?_
      refine sx_ishl dc_Se_init_59 ?_
      refine sx_ior dc_Se_init_60 ?_
      refine sx_istore dc_Se_init_61 (by decide) (sx_eq (lc2 := [some (xR a0), some (xI a1), some (xI a2), some (xI a3), some (xI (a3 ||| (jShl (1 : Int32) a2)))]) rfl rfl ?_)
      refine sx_aload_n dc_Se_init_63 rfl ?_
      obtain ⟨g37, hk⟩ := hk.g
      refine sx_get (ci := 3) (k := 0) rfl (by decide) wF_Se_9 g37 dc_Se_init_64 ?_
      refine sx_iload dc_Se_init_67 rfl ?_
      refine sx_aload_n dc_Se_init_69 rfl ?_
      refine sx_get (ci := 3) (k := 0) rfl (by decide) wF_Se_9 g37 dc_Se_init_70 ?_
      refine sx_iload_n dc_Se_init_73 rfl ?_
      obtain ⟨g38, hk⟩ := hk.g
      obtain ⟨g39, hk⟩ := hk.g
      refine sx_iald g38 g39 dc_Se_init_74 ?_
      refine sx_iload_n dc_Se_init_75 rfl ?_
      refine sx_iload_n dc_Se_init_76 rfl ?_
      obtain ⟨q40, eq40, hk⟩ := hk.bind
      refine sx_callS (d2 := d - 1) (mc2 := 0) (ms2 := 0) (as := [xI a2]) mk_Se_pairsAmong rfl wM_Se_22 mt_Se_pairsAmong rfl (Nat.le_of_ble_eq_true rfl) (Nat.le_of_ble_eq_true rfl) dc_Se_init_77 (by omega) (Nat.zero_le _) (Nat.zero_le _) ?_
      refine t_Se_pairsAmong (by omega) ⟨q40, eq40, ?_⟩
      refine sx_eq0 (lc2 := [some (xR a0), some (xI a1), some (xI a2), some (xI a3), some (xI (a3 ||| (jShl (1 : Int32) a2)))]) (st2 := [xI q40.1, xI a3, xI (hI h (hR h a0 0) a3.toNatClampNeg), xI (a3 ||| (jShl (1 : Int32) a2)), xR (hR h a0 0)]) rfl rfl ?_
      refine sx_ishl dc_Se_init_80 ?_
      refine sx_ior dc_Se_init_81 ?_
      obtain ⟨g41, hk⟩ := hk.g
      obtain ⟨g42, hk⟩ := hk.g
      refine sx_iast g41 g42 dc_Se_init_82 ?_
      refine sx_iload_n dc_Se_init_83 rfl ?_
      obtain ⟨q43, eq43, hk⟩ := hk.bind
      refine sx_callS (d2 := d - 1) (mc2 := 0) (ms2 := 0) (as := [xI a3]) mk_In_bitCount rfl wM_Se_26 mt_In_bitCount rfl (Nat.le_of_ble_eq_true rfl) (Nat.le_of_ble_eq_true rfl) dc_Se_init_84 (by omega) (Nat.zero_le _) (Nat.zero_le _) ?_
      refine t_In_bitCount (by omega) ⟨q43, eq43, ?_⟩
      refine sx_eq0 (lc2 := [some (xR a0), some (xI a1), some (xI a2), some (xI a3), some (xI (a3 ||| (jShl (1 : Int32) a2)))]) (st2 := [xI q43.1]) rfl rfl ?_
      refine sx_iconst (v := (2 : Int32)) dc_Se_init_87 (by decide) ?_
      refine hk.j (X := fun x44 => Sx l z d mc ms M_Se_init 108 [some (xR a0), some (xI x44.1), some (xI a2), some (xI a3), some (xI (a3 ||| (jShl (1 : Int32) a2)))] [] x44.2 Ph) (fun x44 hk => ?_) (fun k45 jk45 hk => ?_)
      · refine sx_iinc (v := (1 : Int32)) dc_Se_init_108 rfl (by decide) (by decide) (sx_eq (lc2 := [some (xR a0), some (xI x44.1), some (xI a2), some (xI (a3 + (1 : Int32))), some (xI (a3 ||| (jShl (1 : Int32) a2)))]) rfl rfl ?_)
        refine sx_goto (tgt := 49) dc_Se_init_111 (by decide) ?_
        exact sx_less (by simp [x_le]) (ih x44.1 (a3 + (1 : Int32)) x44.2 _ hk hE)
      · refine sx_icmp_ne (tgt := 108) dc_Se_init_88 (by decide) (fun c46 => ?_) (fun c46 => ?_)
        · replace hk := hk.f c46
          exact jk45 (a1, q43.2) hk
        · replace hk := hk.t c46
          refine sx_iload_n dc_Se_init_91 rfl ?_
          refine sx_bipush (v := (35 : Int32)) dc_Se_init_92 (by decide) ?_
          refine sx_icmp_ge (tgt := 108) dc_Se_init_94 (by decide) (fun c47 => ?_) (fun c47 => ?_)
          · replace hk := hk.t c47
            exact jk45 (a1, q43.2) hk
          · replace hk := hk.f c47
            refine sx_aload_n dc_Se_init_97 rfl ?_
            obtain ⟨g48, hk⟩ := hk.g
            refine sx_get (ci := 3) (k := 3) rfl (by decide) wF_Se_19 g48 dc_Se_init_98 ?_
            refine sx_iload_n dc_Se_init_101 rfl ?_
            refine sx_iinc (v := (1 : Int32)) dc_Se_init_102 rfl (by decide) (by decide) (sx_eq (lc2 := [some (xR a0), some (xI (a1 + (1 : Int32))), some (xI a2), some (xI a3), some (xI (a3 ||| (jShl (1 : Int32) a2)))]) rfl rfl ?_)
            refine sx_iload dc_Se_init_105 rfl ?_
            obtain ⟨g49, hk⟩ := hk.g
            obtain ⟨g50, hk⟩ := hk.g
            refine sx_iast g49 g50 dc_Se_init_107 ?_
            exact jk45 ((a1 + (1 : Int32)), (hIu q43.2 (hR q43.2 a0 3) a1.toNatClampNeg (a3 ||| (jShl (1 : Int32) a2)))) hk
theorem t_Se_init_L116 {l : Launch} {z : xZ} {d mc ms : Nat} {Ph : Option xV → xH → Prop} {a0 : Nat} {a1 : Int32} {a2 : Int32}  (hd : 3 ≤ d) : ∀ (n : Nat) (a3 : Int32) (h : xH) (K : Int32 → xH → Option (Unit × xH)), OK (f_Se_init_L116 a0 a1 a2 n a3 h K) (fun q => Ph (none) q.2) → (∀ (a3 : Int32) (h : xH), OK (K a3 h) (fun q => Ph (none) q.2) → Sx l z d mc ms M_Se_init 149 [some (xR a0), some (xI a1), some (xI a2), some (xI a3), none] [] h Ph) → Sx l z d mc ms M_Se_init 116 [some (xR a0), some (xI a1), some (xI a2), some (xI a3), none] [] h Ph := by
  intro n
  induction n with
  | zero => intro a3 h K hk hE; exact hk.no
  | succ n ih =>
    intro a3 h K hk hE
    rw [f_Se_init_L116] at hk
    refine sx_iload_n dc_Se_init_116 rfl ?_
    refine sx_iload_n dc_Se_init_117 rfl ?_
    refine sx_icmp_ge (tgt := 149) dc_Se_init_118 (by decide) (fun c54 => ?_) (fun c54 => ?_)
    · replace hk := hk.t c54
      exact hE a3 h hk
    · replace hk := hk.f c54
      refine sx_aload_n dc_Se_init_121 rfl ?_
      obtain ⟨g55, hk⟩ := hk.g
      refine sx_get (ci := 3) (k := 1) rfl (by decide) wF_Se_13 g55 dc_Se_init_122 ?_
      refine sx_iload_n dc_Se_init_125 rfl ?_
      refine sx_iload_n dc_Se_init_126 rfl ?_
      obtain ⟨q56, eq56, hk⟩ := hk.bind
      refine sx_callS (d2 := d - 1) (mc2 := 0) (ms2 := 0) (as := [xI a3, xI a2]) mk_Se_pairOf rfl wM_Se_31 mt_Se_pairOf rfl (Nat.le_of_ble_eq_true rfl) (Nat.le_of_ble_eq_true rfl) dc_Se_init_127 (by omega) (Nat.zero_le _) (Nat.zero_le _) ?_
      refine t_Se_pairOf (by omega) ⟨q56, eq56, ?_⟩
      refine sx_eq0 (lc2 := [some (xR a0), some (xI a1), some (xI a2), some (xI a3), none]) (st2 := [xI q56.1, xR (hR h a0 1)]) rfl rfl ?_
      refine sx_iload_n dc_Se_init_130 rfl ?_
      obtain ⟨g57, hk⟩ := hk.g
      obtain ⟨g58, hk⟩ := hk.g
      refine sx_iast g57 g58 dc_Se_init_131 ?_
      refine sx_aload_n dc_Se_init_132 rfl ?_
      obtain ⟨g59, hk⟩ := hk.g
      refine sx_get (ci := 3) (k := 2) rfl (by decide) wF_Se_16 g59 dc_Se_init_133 ?_
      refine sx_iload_n dc_Se_init_136 rfl ?_
      refine sx_iload_n dc_Se_init_137 rfl ?_
      obtain ⟨q60, eq60, hk⟩ := hk.bind
      refine sx_callS (d2 := d - 1) (mc2 := 0) (ms2 := 0) (as := [xI a3, xI a2]) mk_Se_pairOf rfl wM_Se_31 mt_Se_pairOf rfl (Nat.le_of_ble_eq_true rfl) (Nat.le_of_ble_eq_true rfl) dc_Se_init_138 (by omega) (Nat.zero_le _) (Nat.zero_le _) ?_
      refine t_Se_pairOf (by omega) ⟨q60, eq60, ?_⟩
      refine sx_eq0 (lc2 := [some (xR a0), some (xI a1), some (xI a2), some (xI a3), none]) (st2 := [xI q60.1, xR (hR q56.2 a0 2)]) rfl rfl ?_
      refine sx_iload_n dc_Se_init_141 rfl ?_
      obtain ⟨g61, hk⟩ := hk.g
      obtain ⟨g62, hk⟩ := hk.g
      refine sx_iast g61 g62 dc_Se_init_142 ?_
      refine sx_iinc (v := (1 : Int32)) dc_Se_init_143 rfl (by decide) (by decide) (sx_eq (lc2 := [some (xR a0), some (xI a1), some (xI a2), some (xI (a3 + (1 : Int32))), none]) rfl rfl ?_)
      refine sx_goto (tgt := 116) dc_Se_init_146 (by decide) ?_
      exact ih (a3 + (1 : Int32)) (hIu q60.2 (hR q56.2 a0 2) q60.1.toNatClampNeg a2) _ hk hE
theorem t_Se_init_L41 {l : Launch} {z : xZ} {d mc ms : Nat} {Ph : Option xV → xH → Prop} {a0 : Nat}  (hd : 3 ≤ d) : ∀ (n : Nat) (a1 : Int32) (a2 : Int32) (h : xH) (K : Int32 → Int32 → xH → Option (Unit × xH)), OK (f_Se_init_L41 a0 n a1 a2 h K) (fun q => Ph (none) q.2) → (∀ (a1 : Int32) (a2 : Int32) (h : xH), OK (K a1 a2 h) (fun q => Ph (none) q.2) → Sx l z d mc ms M_Se_init 155 [some (xR a0), some (xI a1), some (xI a2), none, none] [] h Ph) → Sx l z d mc ms M_Se_init 41 [some (xR a0), some (xI a1), some (xI a2), none, none] [] h Ph := by
  intro n
  induction n with
  | zero => intro a1 a2 h K hk hE; exact hk.no
  | succ n ih =>
    intro a1 a2 h K hk hE
    rw [f_Se_init_L41] at hk
    refine sx_iload_n dc_Se_init_41 rfl ?_
    refine sx_bipush (v := (7 : Int32)) dc_Se_init_42 (by decide) ?_
    refine sx_icmp_ge (tgt := 155) dc_Se_init_44 (by decide) (fun c35 => ?_) (fun c35 => ?_)
    · replace hk := hk.t c35
      exact hE a1 a2 h hk
    · replace hk := hk.f c35
      refine sx_iconst (v := (0 : Int32)) dc_Se_init_47 (by decide) ?_
      refine sx_istore_n dc_Se_init_48 (by decide) (sx_eq (lc2 := [some (xR a0), some (xI a1), some (xI a2), some (xI (0 : Int32)), none]) rfl rfl ?_)
      refine t_Se_init_L49 (by omega) _ _ _ _ _ hk (fun v51 v52 h53 hk => ?_)
      refine sx_iconst (v := (0 : Int32)) dc_Se_init_114 (by decide) ?_
      refine sx_istore_n dc_Se_init_115 (by decide) (sx_eq (lc2 := [some (xR a0), some (xI v51), some (xI a2), some (xI (0 : Int32)), none]) rfl rfl ?_)
      refine t_Se_init_L116 (by omega) _ _ _ _ hk (fun v63 h64 hk => ?_)
      refine sx_iinc (v := (1 : Int32)) dc_Se_init_149 rfl (by decide) (by decide) (sx_eq (lc2 := [some (xR a0), some (xI v51), some (xI (a2 + (1 : Int32))), some (xI v63), none]) rfl rfl ?_)
      refine sx_goto (tgt := 41) dc_Se_init_152 (by decide) ?_
      exact sx_less (by simp [x_le]) (ih v51 (a2 + (1 : Int32)) h64 _ hk hE)
theorem t_Se_init {l : Launch} {z : xZ} {d mc ms : Nat} {Ph : Option xV → xH → Prop} {a0 : Nat}  {h : xH} (hd : 3 ≤ d) (hmc : 4 ≤ mc) (hms : 205 ≤ ms) (hk : OK (f_Se_init a0 h) (fun q => Ph (none) q.2)) : Sx l z d mc ms M_Se_init 0 (x_en [xR a0] 5) [] h Ph := by
  unfold f_Se_init at hk
  refine sx_eq (lc2 := [some (xR a0), none, none, none, none]) rfl rfl ?_
  refine sx_aload_n dc_Se_init_0 rfl ?_
  obtain ⟨g22, hk⟩ := hk.g
  refine sx_objInit g22 (by decide) wM_Se_1 wO wP (Nat.le_of_ble_eq_true rfl) (by omega) dc_Se_init_1 ?_
  refine sx_aload_n dc_Se_init_4 rfl ?_
  refine sx_sipush (v := (128 : Int32)) dc_Se_init_5 (by decide) ?_
  refine sx_newI (N := 128) (by decide) (by decide) (by decide) wA_int dc_Se_init_8 (by omega) (by omega) ?_
  obtain ⟨h23, eh23, hk⟩ := hk.h
  refine sx_hp eh23 ?_
  have g24 : hK h23 (hN h) = 12 := by rw [eh23]; exact (show hK (hNw h 12 128) (hN h) = 12 from if_pos rfl)
  obtain ⟨g25, hk⟩ := hk.g
  refine sx_putRF (ci := 3) (k := 0) rfl (by decide) wF_Se_9 rfl (by rfl) rfl g25 rfl dc_Se_init_10 ?_
  refine sx_aload_n dc_Se_init_13 rfl ?_
  refine sx_bipush (v := (21 : Int32)) dc_Se_init_14 (by decide) ?_
  refine sx_newI (N := 21) (by decide) (by decide) (by decide) wA_int dc_Se_init_16 (by omega) (by omega) ?_
  obtain ⟨h26, eh26, hk⟩ := hk.h
  refine sx_hp eh26 ?_
  have g27 : hK h26 (hN (hRu h23 a0 0 (hN h))) = 12 := by rw [eh26]; exact (show hK (hNw (hRu h23 a0 0 (hN h)) 12 21) (hN (hRu h23 a0 0 (hN h))) = 12 from if_pos rfl)
  obtain ⟨g28, hk⟩ := hk.g
  refine sx_putRF (ci := 3) (k := 1) rfl (by decide) wF_Se_13 rfl (by rfl) rfl g28 rfl dc_Se_init_18 ?_
  refine sx_aload_n dc_Se_init_21 rfl ?_
  refine sx_bipush (v := (21 : Int32)) dc_Se_init_22 (by decide) ?_
  refine sx_newI (N := 21) (by decide) (by decide) (by decide) wA_int dc_Se_init_24 (by omega) (by omega) ?_
  obtain ⟨h29, eh29, hk⟩ := hk.h
  refine sx_hp eh29 ?_
  have g30 : hK h29 (hN (hRu h26 a0 1 (hN (hRu h23 a0 0 (hN h))))) = 12 := by rw [eh29]; exact (show hK (hNw (hRu h26 a0 1 (hN (hRu h23 a0 0 (hN h)))) 12 21) (hN (hRu h26 a0 1 (hN (hRu h23 a0 0 (hN h))))) = 12 from if_pos rfl)
  obtain ⟨g31, hk⟩ := hk.g
  refine sx_putRF (ci := 3) (k := 2) rfl (by decide) wF_Se_16 rfl (by rfl) rfl g31 rfl dc_Se_init_26 ?_
  refine sx_aload_n dc_Se_init_29 rfl ?_
  refine sx_bipush (v := (35 : Int32)) dc_Se_init_30 (by decide) ?_
  refine sx_newI (N := 35) (by decide) (by decide) (by decide) wA_int dc_Se_init_32 (by omega) (by omega) ?_
  obtain ⟨h32, eh32, hk⟩ := hk.h
  refine sx_hp eh32 ?_
  have g33 : hK h32 (hN (hRu h29 a0 2 (hN (hRu h26 a0 1 (hN (hRu h23 a0 0 (hN h))))))) = 12 := by rw [eh32]; exact (show hK (hNw (hRu h29 a0 2 (hN (hRu h26 a0 1 (hN (hRu h23 a0 0 (hN h)))))) 12 35) (hN (hRu h29 a0 2 (hN (hRu h26 a0 1 (hN (hRu h23 a0 0 (hN h))))))) = 12 from if_pos rfl)
  obtain ⟨g34, hk⟩ := hk.g
  refine sx_putRF (ci := 3) (k := 3) rfl (by decide) wF_Se_19 rfl (by rfl) rfl g34 rfl dc_Se_init_34 ?_
  refine sx_iconst (v := (0 : Int32)) dc_Se_init_37 (by decide) ?_
  refine sx_istore_n dc_Se_init_38 (by decide) (sx_eq (lc2 := [some (xR a0), some (xI (0 : Int32)), none, none, none]) rfl rfl ?_)
  refine sx_iconst (v := (0 : Int32)) dc_Se_init_39 (by decide) ?_
  refine sx_istore_n dc_Se_init_40 (by decide) (sx_eq (lc2 := [some (xR a0), some (xI (0 : Int32)), some (xI (0 : Int32)), none, none]) rfl rfl ?_)
  refine t_Se_init_L41 (by omega) _ _ _ _ _ hk (fun v65 v66 h67 hk => ?_)
  exact sx_retV dc_Se_init_155 rfl hk.val
theorem dc_Se_threesAmong_0 : decode M_Se_threesAmong.2.1 0 = .ok (.iload_n 0, 1) := by decide +kernel
theorem dc_Se_threesAmong_1 : decode M_Se_threesAmong.2.1 1 = .ok (.iload_n 0, 1) := by decide +kernel
theorem dc_Se_threesAmong_2 : decode M_Se_threesAmong.2.1 2 = .ok (.iconst 1, 1) := by decide +kernel
theorem dc_Se_threesAmong_3 : decode M_Se_threesAmong.2.1 3 = .ok (.isub, 1) := by decide +kernel
theorem dc_Se_threesAmong_4 : decode M_Se_threesAmong.2.1 4 = .ok (.imul, 1) := by decide +kernel
theorem dc_Se_threesAmong_5 : decode M_Se_threesAmong.2.1 5 = .ok (.iload_n 0, 1) := by decide +kernel
theorem dc_Se_threesAmong_6 : decode M_Se_threesAmong.2.1 6 = .ok (.iconst 2, 1) := by decide +kernel
theorem dc_Se_threesAmong_7 : decode M_Se_threesAmong.2.1 7 = .ok (.isub, 1) := by decide +kernel
theorem dc_Se_threesAmong_8 : decode M_Se_threesAmong.2.1 8 = .ok (.imul, 1) := by decide +kernel
theorem dc_Se_threesAmong_9 : decode M_Se_threesAmong.2.1 9 = .ok (.bipush 6, 2) := by decide +kernel
theorem dc_Se_threesAmong_11 : decode M_Se_threesAmong.2.1 11 = .ok (.idiv, 1) := by decide +kernel
theorem dc_Se_threesAmong_12 : decode M_Se_threesAmong.2.1 12 = .ok (.ireturn, 1) := by decide +kernel
def f_Se_threesAmong (a0 : Int32) (h : xH) : Option (Int32 × xH) := some (((a0 * (a0 - (1 : Int32))) * (a0 - (2 : Int32))) / (6 : Int32), h)
theorem t_Se_threesAmong {l : Launch} {z : xZ} {d mc ms : Nat} {Ph : Option xV → xH → Prop} {a0 : Int32}  {h : xH} (hd : 1 ≤ d) (hk : OK (f_Se_threesAmong a0 h) (fun q => Ph (some (xI q.1)) q.2)) : Sx l z d mc ms M_Se_threesAmong 0 (x_en [xI a0] 1) [] h Ph := by
  unfold f_Se_threesAmong at hk
  refine sx_eq (lc2 := [some (xI a0)]) rfl rfl ?_
  refine sx_iload_n dc_Se_threesAmong_0 rfl ?_
  refine sx_iload_n dc_Se_threesAmong_1 rfl ?_
  refine sx_iconst (v := (1 : Int32)) dc_Se_threesAmong_2 (by decide) ?_
  refine sx_isub dc_Se_threesAmong_3 ?_
  refine sx_imul dc_Se_threesAmong_4 ?_
  refine sx_iload_n dc_Se_threesAmong_5 rfl ?_
  refine sx_iconst (v := (2 : Int32)) dc_Se_threesAmong_6 (by decide) ?_
  refine sx_isub dc_Se_threesAmong_7 ?_
  refine sx_imul dc_Se_threesAmong_8 ?_
  refine sx_bipush (v := (6 : Int32)) dc_Se_threesAmong_9 (by decide) ?_
  refine sx_idiv dc_Se_threesAmong_11 (by decide) ?_
  exact sx_retI dc_Se_threesAmong_12 rfl hk.val
theorem dc_Sh_init_0 : decode M_Sh_init.2.1 0 = .ok (.aload_n 0, 1) := by decide +kernel
theorem dc_Sh_init_1 : decode M_Sh_init.2.1 1 = .ok (.invokespecial 1, 3) := by decide +kernel
theorem dc_Sh_init_4 : decode M_Sh_init.2.1 4 = .ok (.aload_n 0, 1) := by decide +kernel
theorem dc_Sh_init_5 : decode M_Sh_init.2.1 5 = .ok (.iconst (-1), 1) := by decide +kernel
theorem dc_Sh_init_6 : decode M_Sh_init.2.1 6 = .ok (.putfield 9, 3) := by decide +kernel
theorem dc_Sh_init_9 : decode M_Sh_init.2.1 9 = .ok (.aload_n 0, 1) := by decide +kernel
theorem dc_Sh_init_10 : decode M_Sh_init.2.1 10 = .ok (.bipush 40, 2) := by decide +kernel
theorem dc_Sh_init_12 : decode M_Sh_init.2.1 12 = .ok (.newarray .int, 2) := by decide +kernel
theorem dc_Sh_init_14 : decode M_Sh_init.2.1 14 = .ok (.putfield 13, 3) := by decide +kernel
theorem dc_Sh_init_17 : decode M_Sh_init.2.1 17 = .ok (.return_, 1) := by decide +kernel
def f_Sh_init (a0 : Nat) (h : xH) : Option (Unit × xH) := gd (hK h a0 = 4) (hp (hNw (hIu h a0 0 (-1 : Int32)) 12 40) (fun h4 => gd (hK h4 a0 = 4) (some ((), hRu h4 a0 2 (hN (hIu h a0 0 (-1 : Int32)))))))
theorem t_Sh_init {l : Launch} {z : xZ} {d mc ms : Nat} {Ph : Option xV → xH → Prop} {a0 : Nat}  {h : xH} (hd : 2 ≤ d) (hmc : 1 ≤ mc) (hms : 40 ≤ ms) (hk : OK (f_Sh_init a0 h) (fun q => Ph (none) q.2)) : Sx l z d mc ms M_Sh_init 0 (x_en [xR a0] 1) [] h Ph := by
  unfold f_Sh_init at hk
  refine sx_eq (lc2 := [some (xR a0)]) rfl rfl ?_
  refine sx_aload_n dc_Sh_init_0 rfl ?_
  obtain ⟨g3, hk⟩ := hk.g
  refine sx_objInit g3 (by decide) wM_Sh_1 wO wP (Nat.le_of_ble_eq_true rfl) (by omega) dc_Sh_init_1 ?_
  refine sx_aload_n dc_Sh_init_4 rfl ?_
  refine sx_iconst (v := (-1 : Int32)) dc_Sh_init_5 (by decide) ?_
  refine sx_putI (ci := 4) (k := 0) rfl (by decide) wF_Sh_9 rfl g3 (Or.inl rfl) dc_Sh_init_6 ?_
  refine sx_aload_n dc_Sh_init_9 rfl ?_
  refine sx_bipush (v := (40 : Int32)) dc_Sh_init_10 (by decide) ?_
  refine sx_newI (N := 40) (by decide) (by decide) (by decide) wA_int dc_Sh_init_12 (by omega) (by omega) ?_
  obtain ⟨h4, eh4, hk⟩ := hk.h
  refine sx_hp eh4 ?_
  have g5 : hK h4 (hN (hIu h a0 0 (-1 : Int32))) = 12 := by rw [eh4]; exact (show hK (hNw (hIu h a0 0 (-1 : Int32)) 12 40) (hN (hIu h a0 0 (-1 : Int32))) = 12 from if_pos rfl)
  obtain ⟨g6, hk⟩ := hk.g
  refine sx_putRF (ci := 4) (k := 2) rfl (by decide) wF_Sh_13 rfl (by rfl) rfl g6 rfl dc_Sh_init_14 ?_
  exact sx_retV dc_Sh_init_17 rfl hk.val
theorem dc_Sh_isMissing_0 : decode M_Sh_isMissing.2.1 0 = .ok (.aload_n 0, 1) := by decide +kernel
theorem dc_Sh_isMissing_1 : decode M_Sh_isMissing.2.1 1 = .ok (.getfield 9, 3) := by decide +kernel
theorem dc_Sh_isMissing_4 : decode M_Sh_isMissing.2.1 4 = .ok (.iconst (-1), 1) := by decide +kernel
theorem dc_Sh_isMissing_5 : decode M_Sh_isMissing.2.1 5 = .ok (.if_icmp .ne 7, 3) := by decide +kernel
theorem dc_Sh_isMissing_8 : decode M_Sh_isMissing.2.1 8 = .ok (.iconst 1, 1) := by decide +kernel
theorem dc_Sh_isMissing_9 : decode M_Sh_isMissing.2.1 9 = .ok (.goto 4, 3) := by decide +kernel
theorem dc_Sh_isMissing_12 : decode M_Sh_isMissing.2.1 12 = .ok (.iconst 0, 1) := by decide +kernel
theorem dc_Sh_isMissing_13 : decode M_Sh_isMissing.2.1 13 = .ok (.ireturn, 1) := by decide +kernel
def f_Sh_isMissing (a0 : Nat) (h : xH) : Option (Int32 × xH) := gd (hK h a0 = 4) (some (nb (if (hI h a0 0) = (-1 : Int32) then (1 : Int32) else (0 : Int32)), h))
theorem t_Sh_isMissing {l : Launch} {z : xZ} {d mc ms : Nat} {Ph : Option xV → xH → Prop} {a0 : Nat}  {h : xH} (hd : 1 ≤ d) (hk : OK (f_Sh_isMissing a0 h) (fun q => Ph (some (xI q.1)) q.2)) : Sx l z d mc ms M_Sh_isMissing 0 (x_en [xR a0] 1) [] h Ph := by
  unfold f_Sh_isMissing at hk
  refine sx_eq (lc2 := [some (xR a0)]) rfl rfl ?_
  refine sx_aload_n dc_Sh_isMissing_0 rfl ?_
  obtain ⟨g2, hk⟩ := hk.g
  refine sx_get (ci := 4) (k := 0) rfl (by decide) wF_Sh_9 g2 dc_Sh_isMissing_1 ?_
  refine sx_iconst (v := (-1 : Int32)) dc_Sh_isMissing_4 (by decide) ?_
  suffices J3 : Sx l z d mc ms M_Sh_isMissing 13 [some (xR a0)] [xI (if (hI h a0 0) = (-1 : Int32) then (1 : Int32) else (0 : Int32))] h Ph by
    refine sx_icmp_ne (tgt := 12) dc_Sh_isMissing_5 (by decide) (fun c4 => ?_) (fun c4 => ?_)
    · try simp only [if_neg c4] at J3
      refine sx_iconst (v := (0 : Int32)) dc_Sh_isMissing_12 (by decide) ?_
      exact J3
    · try simp only [if_pos c4] at J3
      refine sx_iconst (v := (1 : Int32)) dc_Sh_isMissing_8 (by decide) ?_
      refine sx_goto (tgt := 13) dc_Sh_isMissing_9 (by decide) ?_
      exact J3
  exact sx_retT dc_Sh_isMissing_13 (Or.inl ⟨rfl, rfl⟩) rfl hk.val
theorem dc_Ar_fill_0 : decode M_Ar_fill.2.1 0 = .ok (.iconst 0, 1) := by decide +kernel
theorem dc_Ar_fill_1 : decode M_Ar_fill.2.1 1 = .ok (.istore_n 2, 1) := by decide +kernel
theorem dc_Ar_fill_2 : decode M_Ar_fill.2.1 2 = .ok (.aload_n 0, 1) := by decide +kernel
theorem dc_Ar_fill_3 : decode M_Ar_fill.2.1 3 = .ok (.arraylength, 1) := by decide +kernel
theorem dc_Ar_fill_4 : decode M_Ar_fill.2.1 4 = .ok (.istore_n 3, 1) := by decide +kernel
theorem dc_Ar_fill_5 : decode M_Ar_fill.2.1 5 = .ok (.iload_n 2, 1) := by decide +kernel
theorem dc_Ar_fill_6 : decode M_Ar_fill.2.1 6 = .ok (.iload_n 3, 1) := by decide +kernel
theorem dc_Ar_fill_7 : decode M_Ar_fill.2.1 7 = .ok (.if_icmp .ge 13, 3) := by decide +kernel
theorem dc_Ar_fill_10 : decode M_Ar_fill.2.1 10 = .ok (.aload_n 0, 1) := by decide +kernel
theorem dc_Ar_fill_11 : decode M_Ar_fill.2.1 11 = .ok (.iload_n 2, 1) := by decide +kernel
theorem dc_Ar_fill_12 : decode M_Ar_fill.2.1 12 = .ok (.iload_n 1, 1) := by decide +kernel
theorem dc_Ar_fill_13 : decode M_Ar_fill.2.1 13 = .ok (.iastore, 1) := by decide +kernel
theorem dc_Ar_fill_14 : decode M_Ar_fill.2.1 14 = .ok (.iinc 2 1, 3) := by decide +kernel
theorem dc_Ar_fill_17 : decode M_Ar_fill.2.1 17 = .ok (.goto (-12), 3) := by decide +kernel
theorem dc_Ar_fill_20 : decode M_Ar_fill.2.1 20 = .ok (.return_, 1) := by decide +kernel
def f_Ar_fill_L5 (a0 : Nat) (a1 : Int32) (a3 : Int32) : Nat → Int32 → xH → (Int32 → xH → Option (Unit × xH)) → Option (Unit × xH)
  | 0, _, _, _ => none
  | n + 1, a2, h, K => if a3 ≤ a2 then K a2 h else gd (hK h a0 = 12) (gd (¬ (a2 < 0 ∨ hL h a0 ≤ a2.toNatClampNeg)) (f_Ar_fill_L5 a0 a1 a3 n (a2 + (1 : Int32)) (hIu h a0 a2.toNatClampNeg a1) K))
def f_Ar_fill (a0 : Nat) (a1 : Int32) (h : xH) : Option (Unit × xH) := gd (hK h a0 = 12) (f_Ar_fill_L5 a0 a1 (Int32.ofNat (hL h a0)) fu (0 : Int32) h (fun v7 h8 => some ((), h8)))
theorem t_Ar_fill_L5 {l : Launch} {z : xZ} {d mc ms : Nat} {Ph : Option xV → xH → Prop} {a0 : Nat} {a1 : Int32} {a3 : Int32}  (hd : 1 ≤ d) : ∀ (n : Nat) (a2 : Int32) (h : xH) (K : Int32 → xH → Option (Unit × xH)), OK (f_Ar_fill_L5 a0 a1 a3 n a2 h K) (fun q => Ph (none) q.2) → (∀ (a2 : Int32) (h : xH), OK (K a2 h) (fun q => Ph (none) q.2) → Sx l z d mc ms M_Ar_fill 20 [some (xR a0), some (xI a1), some (xI a2), some (xI a3)] [] h Ph) → Sx l z d mc ms M_Ar_fill 5 [some (xR a0), some (xI a1), some (xI a2), some (xI a3)] [] h Ph := by
  intro n
  induction n with
  | zero => intro a2 h K hk hE; exact hk.no
  | succ n ih =>
    intro a2 h K hk hE
    rw [f_Ar_fill_L5] at hk
    refine sx_iload_n dc_Ar_fill_5 rfl ?_
    refine sx_iload_n dc_Ar_fill_6 rfl ?_
    refine sx_icmp_ge (tgt := 20) dc_Ar_fill_7 (by decide) (fun c4 => ?_) (fun c4 => ?_)
    · replace hk := hk.t c4
      exact hE a2 h hk
    · replace hk := hk.f c4
      refine sx_aload_n dc_Ar_fill_10 rfl ?_
      refine sx_iload_n dc_Ar_fill_11 rfl ?_
      refine sx_iload_n dc_Ar_fill_12 rfl ?_
      obtain ⟨g5, hk⟩ := hk.g
      obtain ⟨g6, hk⟩ := hk.g
      refine sx_iast g5 g6 dc_Ar_fill_13 ?_
      refine sx_iinc (v := (1 : Int32)) dc_Ar_fill_14 rfl (by decide) (by decide) (sx_eq (lc2 := [some (xR a0), some (xI a1), some (xI (a2 + (1 : Int32))), some (xI a3)]) rfl rfl ?_)
      refine sx_goto (tgt := 5) dc_Ar_fill_17 (by decide) ?_
      exact ih (a2 + (1 : Int32)) (hIu h a0 a2.toNatClampNeg a1) _ hk hE
theorem t_Ar_fill {l : Launch} {z : xZ} {d mc ms : Nat} {Ph : Option xV → xH → Prop} {a0 : Nat} {a1 : Int32}  {h : xH} (hd : 1 ≤ d) (hk : OK (f_Ar_fill a0 a1 h) (fun q => Ph (none) q.2)) : Sx l z d mc ms M_Ar_fill 0 (x_en [xR a0, xI a1] 4) [] h Ph := by
  unfold f_Ar_fill at hk
  refine sx_eq (lc2 := [some (xR a0), some (xI a1), none, none]) rfl rfl ?_
  refine sx_iconst (v := (0 : Int32)) dc_Ar_fill_0 (by decide) ?_
  refine sx_istore_n dc_Ar_fill_1 (by decide) (sx_eq (lc2 := [some (xR a0), some (xI a1), some (xI (0 : Int32)), none]) rfl rfl ?_)
  refine sx_aload_n dc_Ar_fill_2 rfl ?_
  obtain ⟨g3, hk⟩ := hk.g
  refine sx_alen g3 (by decide) dc_Ar_fill_3 ?_
  refine sx_istore_n dc_Ar_fill_4 (by decide) (sx_eq (lc2 := [some (xR a0), some (xI a1), some (xI (0 : Int32)), some (xI (Int32.ofNat (hL h a0)))]) rfl rfl ?_)
  refine t_Ar_fill_L5 (by omega) _ _ _ _ hk (fun v7 h8 hk => ?_)
  exact sx_retV dc_Ar_fill_20 rfl hk.val
theorem dc_Sh_become_0 : decode M_Sh_become.2.1 0 = .ok (.aload_n 0, 1) := by decide +kernel
theorem dc_Sh_become_1 : decode M_Sh_become.2.1 1 = .ok (.iload_n 1, 1) := by decide +kernel
theorem dc_Sh_become_2 : decode M_Sh_become.2.1 2 = .ok (.putfield 9, 3) := by decide +kernel
theorem dc_Sh_become_5 : decode M_Sh_become.2.1 5 = .ok (.aload_n 0, 1) := by decide +kernel
theorem dc_Sh_become_6 : decode M_Sh_become.2.1 6 = .ok (.iload_n 2, 1) := by decide +kernel
theorem dc_Sh_become_7 : decode M_Sh_become.2.1 7 = .ok (.putfield 17, 3) := by decide +kernel
theorem dc_Sh_become_10 : decode M_Sh_become.2.1 10 = .ok (.aload_n 0, 1) := by decide +kernel
theorem dc_Sh_become_11 : decode M_Sh_become.2.1 11 = .ok (.getfield 13, 3) := by decide +kernel
theorem dc_Sh_become_14 : decode M_Sh_become.2.1 14 = .ok (.iconst 0, 1) := by decide +kernel
theorem dc_Sh_become_15 : decode M_Sh_become.2.1 15 = .ok (.invokestatic 20, 3) := by decide +kernel
theorem dc_Sh_become_18 : decode M_Sh_become.2.1 18 = .ok (.return_, 1) := by decide +kernel
def f_Sh_become (a0 : Nat) (a1 : Int32) (a2 : Int32) (h : xH) : Option (Unit × xH) := gd (hK h a0 = 4) (Option.bind (f_Ar_fill (hR h a0 2) (0 : Int32) (hIu (hIu h a0 0 a1) a0 1 a2)) (fun q4 => some ((), q4.2)))
theorem t_Sh_become {l : Launch} {z : xZ} {d mc ms : Nat} {Ph : Option xV → xH → Prop} {a0 : Nat} {a1 : Int32} {a2 : Int32}  {h : xH} (hd : 2 ≤ d) (hk : OK (f_Sh_become a0 a1 a2 h) (fun q => Ph (none) q.2)) : Sx l z d mc ms M_Sh_become 0 (x_en [xR a0, xI a1, xI a2] 3) [] h Ph := by
  unfold f_Sh_become at hk
  refine sx_eq (lc2 := [some (xR a0), some (xI a1), some (xI a2)]) rfl rfl ?_
  refine sx_aload_n dc_Sh_become_0 rfl ?_
  refine sx_iload_n dc_Sh_become_1 rfl ?_
  obtain ⟨g3, hk⟩ := hk.g
  refine sx_putI (ci := 4) (k := 0) rfl (by decide) wF_Sh_9 rfl g3 (Or.inl rfl) dc_Sh_become_2 ?_
  refine sx_aload_n dc_Sh_become_5 rfl ?_
  refine sx_iload_n dc_Sh_become_6 rfl ?_
  refine sx_putI (ci := 4) (k := 1) rfl (by decide) wF_Sh_17 rfl g3 (Or.inl rfl) dc_Sh_become_7 ?_
  refine sx_aload_n dc_Sh_become_10 rfl ?_
  refine sx_get (ci := 4) (k := 2) rfl (by decide) wF_Sh_13 g3 dc_Sh_become_11 ?_
  refine sx_iconst (v := (0 : Int32)) dc_Sh_become_14 (by decide) ?_
  obtain ⟨q4, eq4, hk⟩ := hk.bind
  refine sx_callS (d2 := d - 1) (mc2 := 0) (ms2 := 0) (as := [xR (hR h a0 2), xI (0 : Int32)]) mk_Ar_fill rfl wM_Sh_20 mt_Ar_fill rfl (Nat.le_of_ble_eq_true rfl) (Nat.le_of_ble_eq_true rfl) dc_Sh_become_15 (by omega) (Nat.zero_le _) (Nat.zero_le _) ?_
  refine t_Ar_fill (by omega) ⟨q4, eq4, ?_⟩
  refine sx_eq0 (lc2 := [some (xR a0), some (xI a1), some (xI a2)]) (st2 := []) rfl rfl ?_
  exact sx_retV dc_Sh_become_18 rfl hk.val
theorem dc_Sh_hasRun_0 : decode M_Sh_hasRun.2.1 0 = .ok (.iload_n 1, 1) := by decide +kernel
theorem dc_Sh_hasRun_1 : decode M_Sh_hasRun.2.1 1 = .ok (.ifCond .lt 21, 3) := by decide +kernel
theorem dc_Sh_hasRun_4 : decode M_Sh_hasRun.2.1 4 = .ok (.iload_n 2, 1) := by decide +kernel
theorem dc_Sh_hasRun_5 : decode M_Sh_hasRun.2.1 5 = .ok (.ifCond .lt 17, 3) := by decide +kernel
theorem dc_Sh_hasRun_8 : decode M_Sh_hasRun.2.1 8 = .ok (.iload_n 1, 1) := by decide +kernel
theorem dc_Sh_hasRun_9 : decode M_Sh_hasRun.2.1 9 = .ok (.aload_n 0, 1) := by decide +kernel
theorem dc_Sh_hasRun_10 : decode M_Sh_hasRun.2.1 10 = .ok (.getfield 17, 3) := by decide +kernel
theorem dc_Sh_hasRun_13 : decode M_Sh_hasRun.2.1 13 = .ok (.iload_n 2, 1) := by decide +kernel
theorem dc_Sh_hasRun_14 : decode M_Sh_hasRun.2.1 14 = .ok (.isub, 1) := by decide +kernel
theorem dc_Sh_hasRun_15 : decode M_Sh_hasRun.2.1 15 = .ok (.if_icmp .gt 7, 3) := by decide +kernel
theorem dc_Sh_hasRun_18 : decode M_Sh_hasRun.2.1 18 = .ok (.iconst 1, 1) := by decide +kernel
theorem dc_Sh_hasRun_19 : decode M_Sh_hasRun.2.1 19 = .ok (.goto 4, 3) := by decide +kernel
theorem dc_Sh_hasRun_22 : decode M_Sh_hasRun.2.1 22 = .ok (.iconst 0, 1) := by decide +kernel
theorem dc_Sh_hasRun_23 : decode M_Sh_hasRun.2.1 23 = .ok (.ireturn, 1) := by decide +kernel
def f_Sh_hasRun (a0 : Nat) (a1 : Int32) (a2 : Int32) (h : xH) : Option (Int32 × xH) := jn (fun (x2 : Int32) => some (nb x2, h)) (fun k3 => jn (fun (x4 : Unit) => k3 (0 : Int32)) (fun k5 => if a1 < 0 then k5 () else if a2 < 0 then k5 () else gd (hK h a0 = 4) (if ((hI h a0 1) - a2) < a1 then k5 () else k3 (1 : Int32))))
theorem t_Sh_hasRun {l : Launch} {z : xZ} {d mc ms : Nat} {Ph : Option xV → xH → Prop} {a0 : Nat} {a1 : Int32} {a2 : Int32}  {h : xH} (hd : 1 ≤ d) (hk : OK (f_Sh_hasRun a0 a1 a2 h) (fun q => Ph (some (xI q.1)) q.2)) : Sx l z d mc ms M_Sh_hasRun 0 (x_en [xR a0, xI a1, xI a2] 3) [] h Ph := by
  unfold f_Sh_hasRun at hk
  refine sx_eq (lc2 := [some (xR a0), some (xI a1), some (xI a2)]) rfl rfl ?_
  refine sx_iload_n dc_Sh_hasRun_0 rfl ?_
  refine hk.j (X := fun x2 => Sx l z d mc ms M_Sh_hasRun 23 [some (xR a0), some (xI a1), some (xI a2)] [xI x2] h Ph) (fun x2 hk => ?_) (fun k3 jk3 hk => ?_)
  · exact sx_retT dc_Sh_hasRun_23 (Or.inl ⟨rfl, rfl⟩) rfl hk.val
  · refine hk.j (X := fun x4 => Sx l z d mc ms M_Sh_hasRun 22 [some (xR a0), some (xI a1), some (xI a2)] [] h Ph) (fun x4 hk => ?_) (fun k5 jk5 hk => ?_)
    · refine sx_iconst (v := (0 : Int32)) dc_Sh_hasRun_22 (by decide) ?_
      exact jk3 (0 : Int32) hk
    · refine sx_if_lt (tgt := 22) dc_Sh_hasRun_1 (by decide) (fun c6 => ?_) (fun c6 => ?_)
      · replace hk := hk.t c6
        exact jk5 () hk
      · replace hk := hk.f c6
        refine sx_iload_n dc_Sh_hasRun_4 rfl ?_
        refine sx_if_lt (tgt := 22) dc_Sh_hasRun_5 (by decide) (fun c7 => ?_) (fun c7 => ?_)
        · replace hk := hk.t c7
          exact jk5 () hk
        · replace hk := hk.f c7
          refine sx_iload_n dc_Sh_hasRun_8 rfl ?_
          refine sx_aload_n dc_Sh_hasRun_9 rfl ?_
          obtain ⟨g8, hk⟩ := hk.g
          refine sx_get (ci := 4) (k := 1) rfl (by decide) wF_Sh_17 g8 dc_Sh_hasRun_10 ?_
          refine sx_iload_n dc_Sh_hasRun_13 rfl ?_
          refine sx_isub dc_Sh_hasRun_14 ?_
          refine sx_icmp_gt (tgt := 22) dc_Sh_hasRun_15 (by decide) (fun c9 => ?_) (fun c9 => ?_)
          · replace hk := hk.t c9
            exact jk5 () hk
          · replace hk := hk.f c9
            refine sx_iconst (v := (1 : Int32)) dc_Sh_hasRun_18 (by decide) ?_
            refine sx_goto (tgt := 23) dc_Sh_hasRun_19 (by decide) ?_
            exact jk3 (1 : Int32) hk
theorem dc_Sh_item_0 : decode M_Sh_item.2.1 0 = .ok (.iload_n 1, 1) := by decide +kernel
theorem dc_Sh_item_1 : decode M_Sh_item.2.1 1 = .ok (.ifCond .lt 20, 3) := by decide +kernel
theorem dc_Sh_item_4 : decode M_Sh_item.2.1 4 = .ok (.iload_n 1, 1) := by decide +kernel
theorem dc_Sh_item_5 : decode M_Sh_item.2.1 5 = .ok (.aload_n 0, 1) := by decide +kernel
theorem dc_Sh_item_6 : decode M_Sh_item.2.1 6 = .ok (.getfield 17, 3) := by decide +kernel
theorem dc_Sh_item_9 : decode M_Sh_item.2.1 9 = .ok (.if_icmp .ge 12, 3) := by decide +kernel
theorem dc_Sh_item_12 : decode M_Sh_item.2.1 12 = .ok (.aload_n 0, 1) := by decide +kernel
theorem dc_Sh_item_13 : decode M_Sh_item.2.1 13 = .ok (.getfield 13, 3) := by decide +kernel
theorem dc_Sh_item_16 : decode M_Sh_item.2.1 16 = .ok (.iload_n 1, 1) := by decide +kernel
theorem dc_Sh_item_17 : decode M_Sh_item.2.1 17 = .ok (.iaload, 1) := by decide +kernel
theorem dc_Sh_item_18 : decode M_Sh_item.2.1 18 = .ok (.goto 4, 3) := by decide +kernel
theorem dc_Sh_item_21 : decode M_Sh_item.2.1 21 = .ok (.iconst 0, 1) := by decide +kernel
theorem dc_Sh_item_22 : decode M_Sh_item.2.1 22 = .ok (.ireturn, 1) := by decide +kernel
def f_Sh_item (a0 : Nat) (a1 : Int32) (h : xH) : Option (Int32 × xH) := jn (fun (x4 : Int32) => some (x4, h)) (fun k5 => jn (fun (x6 : Unit) => k5 (0 : Int32)) (fun k7 => if a1 < 0 then k7 () else gd (hK h a0 = 4) (if (hI h a0 1) ≤ a1 then k7 () else gd (hK h (hR h a0 2) = 12) (gd (¬ (a1 < 0 ∨ hL h (hR h a0 2) ≤ a1.toNatClampNeg)) (k5 (hI h (hR h a0 2) a1.toNatClampNeg))))))
theorem t_Sh_item {l : Launch} {z : xZ} {d mc ms : Nat} {Ph : Option xV → xH → Prop} {a0 : Nat} {a1 : Int32}  {h : xH} (hd : 1 ≤ d) (hk : OK (f_Sh_item a0 a1 h) (fun q => Ph (some (xI q.1)) q.2)) : Sx l z d mc ms M_Sh_item 0 (x_en [xR a0, xI a1] 2) [] h Ph := by
  unfold f_Sh_item at hk
  refine sx_eq (lc2 := [some (xR a0), some (xI a1)]) rfl rfl ?_
  refine sx_iload_n dc_Sh_item_0 rfl ?_
  refine hk.j (X := fun x4 => Sx l z d mc ms M_Sh_item 22 [some (xR a0), some (xI a1)] [xI x4] h Ph) (fun x4 hk => ?_) (fun k5 jk5 hk => ?_)
  · exact sx_retI dc_Sh_item_22 rfl hk.val
  · refine hk.j (X := fun x6 => Sx l z d mc ms M_Sh_item 21 [some (xR a0), some (xI a1)] [] h Ph) (fun x6 hk => ?_) (fun k7 jk7 hk => ?_)
    · refine sx_iconst (v := (0 : Int32)) dc_Sh_item_21 (by decide) ?_
      exact jk5 (0 : Int32) hk
    · refine sx_if_lt (tgt := 21) dc_Sh_item_1 (by decide) (fun c8 => ?_) (fun c8 => ?_)
      · replace hk := hk.t c8
        exact jk7 () hk
      · replace hk := hk.f c8
        refine sx_iload_n dc_Sh_item_4 rfl ?_
        refine sx_aload_n dc_Sh_item_5 rfl ?_
        obtain ⟨g9, hk⟩ := hk.g
        refine sx_get (ci := 4) (k := 1) rfl (by decide) wF_Sh_17 g9 dc_Sh_item_6 ?_
        refine sx_icmp_ge (tgt := 21) dc_Sh_item_9 (by decide) (fun c10 => ?_) (fun c10 => ?_)
        · replace hk := hk.t c10
          exact jk7 () hk
        · replace hk := hk.f c10
          refine sx_aload_n dc_Sh_item_12 rfl ?_
          refine sx_get (ci := 4) (k := 2) rfl (by decide) wF_Sh_13 g9 dc_Sh_item_13 ?_
          refine sx_iload_n dc_Sh_item_16 rfl ?_
          obtain ⟨g11, hk⟩ := hk.g
          obtain ⟨g12, hk⟩ := hk.g
          refine sx_iald g11 g12 dc_Sh_item_17 ?_
          refine sx_goto (tgt := 22) dc_Sh_item_18 (by decide) ?_
          exact jk5 (hI h (hR h a0 2) a1.toNatClampNeg) hk
theorem dc_Sh_write_0 : decode M_Sh_write.2.1 0 = .ok (.iload_n 1, 1) := by decide +kernel
theorem dc_Sh_write_1 : decode M_Sh_write.2.1 1 = .ok (.ifCond .lt 11, 3) := by decide +kernel
theorem dc_Sh_write_4 : decode M_Sh_write.2.1 4 = .ok (.iload_n 1, 1) := by decide +kernel
theorem dc_Sh_write_5 : decode M_Sh_write.2.1 5 = .ok (.aload_n 0, 1) := by decide +kernel
theorem dc_Sh_write_6 : decode M_Sh_write.2.1 6 = .ok (.getfield 17, 3) := by decide +kernel
theorem dc_Sh_write_9 : decode M_Sh_write.2.1 9 = .ok (.if_icmp .lt 5, 3) := by decide +kernel
theorem dc_Sh_write_12 : decode M_Sh_write.2.1 12 = .ok (.iconst 0, 1) := by decide +kernel
theorem dc_Sh_write_13 : decode M_Sh_write.2.1 13 = .ok (.ireturn, 1) := by decide +kernel
theorem dc_Sh_write_14 : decode M_Sh_write.2.1 14 = .ok (.aload_n 0, 1) := by decide +kernel
theorem dc_Sh_write_15 : decode M_Sh_write.2.1 15 = .ok (.getfield 13, 3) := by decide +kernel
theorem dc_Sh_write_18 : decode M_Sh_write.2.1 18 = .ok (.iload_n 1, 1) := by decide +kernel
theorem dc_Sh_write_19 : decode M_Sh_write.2.1 19 = .ok (.aload_n 0, 1) := by decide +kernel
theorem dc_Sh_write_20 : decode M_Sh_write.2.1 20 = .ok (.getfield 9, 3) := by decide +kernel
theorem dc_Sh_write_23 : decode M_Sh_write.2.1 23 = .ok (.ifCond .ne 8, 3) := by decide +kernel
theorem dc_Sh_write_26 : decode M_Sh_write.2.1 26 = .ok (.iload_n 2, 1) := by decide +kernel
theorem dc_Sh_write_27 : decode M_Sh_write.2.1 27 = .ok (.i2b, 1) := by decide +kernel
theorem dc_Sh_write_28 : decode M_Sh_write.2.1 28 = .ok (.goto 17, 3) := by decide +kernel
theorem dc_Sh_write_31 : decode M_Sh_write.2.1 31 = .ok (.aload_n 0, 1) := by decide +kernel
theorem dc_Sh_write_32 : decode M_Sh_write.2.1 32 = .ok (.getfield 9, 3) := by decide +kernel
theorem dc_Sh_write_35 : decode M_Sh_write.2.1 35 = .ok (.iconst 1, 1) := by decide +kernel
theorem dc_Sh_write_36 : decode M_Sh_write.2.1 36 = .ok (.if_icmp .ne 8, 3) := by decide +kernel
theorem dc_Sh_write_39 : decode M_Sh_write.2.1 39 = .ok (.iload_n 2, 1) := by decide +kernel
theorem dc_Sh_write_40 : decode M_Sh_write.2.1 40 = .ok (.i2s, 1) := by decide +kernel
theorem dc_Sh_write_41 : decode M_Sh_write.2.1 41 = .ok (.goto 4, 3) := by decide +kernel
theorem dc_Sh_write_44 : decode M_Sh_write.2.1 44 = .ok (.iload_n 2, 1) := by decide +kernel
theorem dc_Sh_write_45 : decode M_Sh_write.2.1 45 = .ok (.iastore, 1) := by decide +kernel
theorem dc_Sh_write_46 : decode M_Sh_write.2.1 46 = .ok (.iconst 1, 1) := by decide +kernel
theorem dc_Sh_write_47 : decode M_Sh_write.2.1 47 = .ok (.ireturn, 1) := by decide +kernel
def f_Sh_write (a0 : Nat) (a1 : Int32) (a2 : Int32) (h : xH) : Option (Int32 × xH) := jn (fun (x4 : Unit) => some ((0 : Int32), h)) (fun k5 => if a1 < 0 then k5 () else gd (hK h a0 = 4) (if a1 < (hI h a0 1) then jn (fun (x9 : Int32) => gd (hK h (hR h a0 2) = 12) (gd (¬ (a1 < 0 ∨ hL h (hR h a0 2) ≤ a1.toNatClampNeg)) (some ((1 : Int32), hIu h (hR h a0 2) a1.toNatClampNeg x9)))) (fun k10 => if (hI h a0 0) = 0 then k10 (jB a2) else if (hI h a0 0) = (1 : Int32) then k10 (jS a2) else k10 a2) else k5 ()))
theorem t_Sh_write {l : Launch} {z : xZ} {d mc ms : Nat} {Ph : Option xV → xH → Prop} {a0 : Nat} {a1 : Int32} {a2 : Int32}  {h : xH} (hd : 1 ≤ d) (hk : OK (f_Sh_write a0 a1 a2 h) (fun q => Ph (some (xI q.1)) q.2)) : Sx l z d mc ms M_Sh_write 0 (x_en [xR a0, xI a1, xI a2] 3) [] h Ph := by
  unfold f_Sh_write at hk
  refine sx_eq (lc2 := [some (xR a0), some (xI a1), some (xI a2)]) rfl rfl ?_
  refine sx_iload_n dc_Sh_write_0 rfl ?_
  refine hk.j (X := fun x4 => Sx l z d mc ms M_Sh_write 12 [some (xR a0), some (xI a1), some (xI a2)] [] h Ph) (fun x4 hk => ?_) (fun k5 jk5 hk => ?_)
  · refine sx_iconst (v := (0 : Int32)) dc_Sh_write_12 (by decide) ?_
    exact sx_retT (v := (0 : Int32)) dc_Sh_write_13 (Or.inl ⟨rfl, rfl⟩) (by decide) hk.val
  · refine sx_if_lt (tgt := 12) dc_Sh_write_1 (by decide) (fun c6 => ?_) (fun c6 => ?_)
    · replace hk := hk.t c6
      exact jk5 () hk
    · replace hk := hk.f c6
      refine sx_iload_n dc_Sh_write_4 rfl ?_
      refine sx_aload_n dc_Sh_write_5 rfl ?_
      obtain ⟨g7, hk⟩ := hk.g
      refine sx_get (ci := 4) (k := 1) rfl (by decide) wF_Sh_17 g7 dc_Sh_write_6 ?_
      refine sx_icmp_lt (tgt := 14) dc_Sh_write_9 (by decide) (fun c8 => ?_) (fun c8 => ?_)
      · replace hk := hk.t c8
        refine sx_aload_n dc_Sh_write_14 rfl ?_
        refine sx_get (ci := 4) (k := 2) rfl (by decide) wF_Sh_13 g7 dc_Sh_write_15 ?_
        refine sx_iload_n dc_Sh_write_18 rfl ?_
        refine sx_aload_n dc_Sh_write_19 rfl ?_
        refine sx_get (ci := 4) (k := 0) rfl (by decide) wF_Sh_9 g7 dc_Sh_write_20 ?_
        refine hk.j (X := fun x9 => Sx l z d mc ms M_Sh_write 45 [some (xR a0), some (xI a1), some (xI a2)] [xI x9, xI a1, xR (hR h a0 2)] h Ph) (fun x9 hk => ?_) (fun k10 jk10 hk => ?_)
        · obtain ⟨g11, hk⟩ := hk.g
          obtain ⟨g12, hk⟩ := hk.g
          refine sx_iast g11 g12 dc_Sh_write_45 ?_
          refine sx_iconst (v := (1 : Int32)) dc_Sh_write_46 (by decide) ?_
          exact sx_retT (v := (1 : Int32)) dc_Sh_write_47 (Or.inl ⟨rfl, rfl⟩) (by decide) hk.val
        · refine sx_if_ne (tgt := 31) dc_Sh_write_23 (by decide) (fun c13 => ?_) (fun c13 => ?_)
          · replace hk := hk.f c13
            refine sx_aload_n dc_Sh_write_31 rfl ?_
            refine sx_get (ci := 4) (k := 0) rfl (by decide) wF_Sh_9 g7 dc_Sh_write_32 ?_
            refine sx_iconst (v := (1 : Int32)) dc_Sh_write_35 (by decide) ?_
            refine sx_icmp_ne (tgt := 44) dc_Sh_write_36 (by decide) (fun c14 => ?_) (fun c14 => ?_)
            · replace hk := hk.f c14
              refine sx_iload_n dc_Sh_write_44 rfl ?_
              exact jk10 a2 hk
            · replace hk := hk.t c14
              refine sx_iload_n dc_Sh_write_39 rfl ?_
              refine sx_i2s dc_Sh_write_40 ?_
              refine sx_goto (tgt := 45) dc_Sh_write_41 (by decide) ?_
              exact jk10 (jS a2) hk
          · replace hk := hk.t c13
            refine sx_iload_n dc_Sh_write_26 rfl ?_
            refine sx_i2b dc_Sh_write_27 ?_
            refine sx_goto (tgt := 45) dc_Sh_write_28 (by decide) ?_
            exact jk10 (jB a2) hk
      · replace hk := hk.f c8
        exact jk5 () hk
theorem dc_St_init_0 : decode M_St_init.2.1 0 = .ok (.aload_n 0, 1) := by decide +kernel
theorem dc_St_init_1 : decode M_St_init.2.1 1 = .ok (.invokespecial 1, 3) := by decide +kernel
theorem dc_St_init_4 : decode M_St_init.2.1 4 = .ok (.aload_n 0, 1) := by decide +kernel
theorem dc_St_init_5 : decode M_St_init.2.1 5 = .ok (.sipush 128, 3) := by decide +kernel
theorem dc_St_init_8 : decode M_St_init.2.1 8 = .ok (.newarray .boolean, 2) := by decide +kernel
theorem dc_St_init_10 : decode M_St_init.2.1 10 = .ok (.putfield 9, 3) := by decide +kernel
theorem dc_St_init_13 : decode M_St_init.2.1 13 = .ok (.aload_n 0, 1) := by decide +kernel
theorem dc_St_init_14 : decode M_St_init.2.1 14 = .ok (.sipush 128, 3) := by decide +kernel
theorem dc_St_init_17 : decode M_St_init.2.1 17 = .ok (.newarray .boolean, 2) := by decide +kernel
theorem dc_St_init_19 : decode M_St_init.2.1 19 = .ok (.putfield 15, 3) := by decide +kernel
theorem dc_St_init_22 : decode M_St_init.2.1 22 = .ok (.aload_n 0, 1) := by decide +kernel
theorem dc_St_init_23 : decode M_St_init.2.1 23 = .ok (.aload_n 1, 1) := by decide +kernel
theorem dc_St_init_24 : decode M_St_init.2.1 24 = .ok (.putfield 18, 3) := by decide +kernel
theorem dc_St_init_27 : decode M_St_init.2.1 27 = .ok (.return_, 1) := by decide +kernel
def f_St_init (a0 : Nat) (a1 : Nat) (h : xH) : Option (Unit × xH) := gd (hK h a0 = 5) (hp (hNw h 13 128) (fun h5 => gd (hK h5 a0 = 5) (hp (hNw (hRu h5 a0 1 (hN h)) 13 128) (fun h8 => gd (hK h8 a0 = 5) (some ((), hRu (hRu h8 a0 2 (hN (hRu h5 a0 1 (hN h)))) a0 0 a1))))))
theorem t_St_init {l : Launch} {z : xZ} {d mc ms : Nat} {Ph : Option xV → xH → Prop} {a0 : Nat} {a1 : Nat}  {h : xH} (hd : 2 ≤ d) (hmc : 2 ≤ mc) (hms : 256 ≤ ms) (hk : OK (f_St_init a0 a1 h) (fun q => Ph (none) q.2)) : Sx l z d mc ms M_St_init 0 (x_en [xR a0, xR a1] 2) [] h Ph := by
  unfold f_St_init at hk
  refine sx_eq (lc2 := [some (xR a0), some (xR a1)]) rfl rfl ?_
  refine sx_aload_n dc_St_init_0 rfl ?_
  obtain ⟨g4, hk⟩ := hk.g
  refine sx_objInit g4 (by decide) wM_St_1 wO wP (Nat.le_of_ble_eq_true rfl) (by omega) dc_St_init_1 ?_
  refine sx_aload_n dc_St_init_4 rfl ?_
  refine sx_sipush (v := (128 : Int32)) dc_St_init_5 (by decide) ?_
  refine sx_newZ (N := 128) (by decide) (by decide) (by decide) wA_boolean dc_St_init_8 (by omega) (by omega) ?_
  obtain ⟨h5, eh5, hk⟩ := hk.h
  refine sx_hp eh5 ?_
  have g6 : hK h5 (hN h) = 13 := by rw [eh5]; exact (show hK (hNw h 13 128) (hN h) = 13 from if_pos rfl)
  obtain ⟨g7, hk⟩ := hk.g
  refine sx_putRF (ci := 5) (k := 1) rfl (by decide) wF_St_9 rfl (by rfl) rfl g7 rfl dc_St_init_10 ?_
  refine sx_aload_n dc_St_init_13 rfl ?_
  refine sx_sipush (v := (128 : Int32)) dc_St_init_14 (by decide) ?_
  refine sx_newZ (N := 128) (by decide) (by decide) (by decide) wA_boolean dc_St_init_17 (by omega) (by omega) ?_
  obtain ⟨h8, eh8, hk⟩ := hk.h
  refine sx_hp eh8 ?_
  have g9 : hK h8 (hN (hRu h5 a0 1 (hN h))) = 13 := by rw [eh8]; exact (show hK (hNw (hRu h5 a0 1 (hN h)) 13 128) (hN (hRu h5 a0 1 (hN h))) = 13 from if_pos rfl)
  obtain ⟨g10, hk⟩ := hk.g
  refine sx_putRF (ci := 5) (k := 2) rfl (by decide) wF_St_15 rfl (by rfl) rfl g10 rfl dc_St_init_19 ?_
  refine sx_aload_n dc_St_init_22 rfl ?_
  refine sx_aload_n dc_St_init_23 rfl ?_
  refine sx_putRF (ci := 5) (k := 0) rfl (by decide) wF_St_18 rfl (by rfl) rfl g10 rfl dc_St_init_24 ?_
  exact sx_retV dc_St_init_27 rfl hk.val
theorem dc_St_weighThree_0 : decode M_St_weighThree.2.1 0 = .ok (.iconst 1, 1) := by decide +kernel
theorem dc_St_weighThree_1 : decode M_St_weighThree.2.1 1 = .ok (.iload_n 2, 1) := by decide +kernel
theorem dc_St_weighThree_2 : decode M_St_weighThree.2.1 2 = .ok (.ishl, 1) := by decide +kernel
theorem dc_St_weighThree_3 : decode M_St_weighThree.2.1 3 = .ok (.iconst 1, 1) := by decide +kernel
theorem dc_St_weighThree_4 : decode M_St_weighThree.2.1 4 = .ok (.iload_n 3, 1) := by decide +kernel
theorem dc_St_weighThree_5 : decode M_St_weighThree.2.1 5 = .ok (.ishl, 1) := by decide +kernel
theorem dc_St_weighThree_6 : decode M_St_weighThree.2.1 6 = .ok (.ior, 1) := by decide +kernel
theorem dc_St_weighThree_7 : decode M_St_weighThree.2.1 7 = .ok (.iconst 1, 1) := by decide +kernel
theorem dc_St_weighThree_8 : decode M_St_weighThree.2.1 8 = .ok (.iload 4, 2) := by decide +kernel
theorem dc_St_weighThree_10 : decode M_St_weighThree.2.1 10 = .ok (.ishl, 1) := by decide +kernel
theorem dc_St_weighThree_11 : decode M_St_weighThree.2.1 11 = .ok (.ior, 1) := by decide +kernel
theorem dc_St_weighThree_12 : decode M_St_weighThree.2.1 12 = .ok (.istore 5, 2) := by decide +kernel
theorem dc_St_weighThree_14 : decode M_St_weighThree.2.1 14 = .ok (.iload 5, 2) := by decide +kernel
theorem dc_St_weighThree_16 : decode M_St_weighThree.2.1 16 = .ok (.ifCond .lt 11, 3) := by decide +kernel
theorem dc_St_weighThree_19 : decode M_St_weighThree.2.1 19 = .ok (.iload 5, 2) := by decide +kernel
theorem dc_St_weighThree_21 : decode M_St_weighThree.2.1 21 = .ok (.sipush 128, 3) := by decide +kernel
theorem dc_St_weighThree_24 : decode M_St_weighThree.2.1 24 = .ok (.if_icmp .lt 4, 3) := by decide +kernel
theorem dc_St_weighThree_27 : decode M_St_weighThree.2.1 27 = .ok (.return_, 1) := by decide +kernel
theorem dc_St_weighThree_28 : decode M_St_weighThree.2.1 28 = .ok (.aload_n 0, 1) := by decide +kernel
theorem dc_St_weighThree_29 : decode M_St_weighThree.2.1 29 = .ok (.getfield 9, 3) := by decide +kernel
theorem dc_St_weighThree_32 : decode M_St_weighThree.2.1 32 = .ok (.iload 5, 2) := by decide +kernel
theorem dc_St_weighThree_34 : decode M_St_weighThree.2.1 34 = .ok (.aload_n 1, 1) := by decide +kernel
theorem dc_St_weighThree_35 : decode M_St_weighThree.2.1 35 = .ok (.iload_n 2, 1) := by decide +kernel
theorem dc_St_weighThree_36 : decode M_St_weighThree.2.1 36 = .ok (.iload_n 3, 1) := by decide +kernel
theorem dc_St_weighThree_37 : decode M_St_weighThree.2.1 37 = .ok (.iload 4, 2) := by decide +kernel
theorem dc_St_weighThree_39 : decode M_St_weighThree.2.1 39 = .ok (.iconst 3, 1) := by decide +kernel
theorem dc_St_weighThree_40 : decode M_St_weighThree.2.1 40 = .ok (.invokevirtual 34, 3) := by decide +kernel
theorem dc_St_weighThree_43 : decode M_St_weighThree.2.1 43 = .ok (.bastore, 1) := by decide +kernel
theorem dc_St_weighThree_44 : decode M_St_weighThree.2.1 44 = .ok (.aload_n 0, 1) := by decide +kernel
theorem dc_St_weighThree_45 : decode M_St_weighThree.2.1 45 = .ok (.getfield 15, 3) := by decide +kernel
theorem dc_St_weighThree_48 : decode M_St_weighThree.2.1 48 = .ok (.iload 5, 2) := by decide +kernel
theorem dc_St_weighThree_50 : decode M_St_weighThree.2.1 50 = .ok (.aload_n 1, 1) := by decide +kernel
theorem dc_St_weighThree_51 : decode M_St_weighThree.2.1 51 = .ok (.iload_n 2, 1) := by decide +kernel
theorem dc_St_weighThree_52 : decode M_St_weighThree.2.1 52 = .ok (.iload_n 3, 1) := by decide +kernel
theorem dc_St_weighThree_53 : decode M_St_weighThree.2.1 53 = .ok (.iload 4, 2) := by decide +kernel
theorem dc_St_weighThree_55 : decode M_St_weighThree.2.1 55 = .ok (.iconst 0, 1) := by decide +kernel
theorem dc_St_weighThree_56 : decode M_St_weighThree.2.1 56 = .ok (.invokevirtual 34, 3) := by decide +kernel
theorem dc_St_weighThree_59 : decode M_St_weighThree.2.1 59 = .ok (.bastore, 1) := by decide +kernel
theorem dc_St_weighThree_60 : decode M_St_weighThree.2.1 60 = .ok (.return_, 1) := by decide +kernel
def f_St_weighThree (a0 : Nat) (a1 : Nat) (a2 : Int32) (a3 : Int32) (a4 : Int32) (h : xH) : Option (Unit × xH) := jn (fun (x11 : Unit) => some ((), h)) (fun k12 => if (((jShl (1 : Int32) a2) ||| (jShl (1 : Int32) a3)) ||| (jShl (1 : Int32) a4)) < 0 then k12 () else if (((jShl (1 : Int32) a2) ||| (jShl (1 : Int32) a3)) ||| (jShl (1 : Int32) a4)) < (128 : Int32) then gd (hK h a0 = 5) (gd (hK h a1 = 2) (Option.bind (f_Ru_counts a1 a2 a3 a4 (3 : Int32) h) (fun q16 => gd (hK q16.2 (hR h a0 1) = 13) (gd (¬ ((((jShl (1 : Int32) a2) ||| (jShl (1 : Int32) a3)) ||| (jShl (1 : Int32) a4)) < 0 ∨ hL q16.2 (hR h a0 1) ≤ (((jShl (1 : Int32) a2) ||| (jShl (1 : Int32) a3)) ||| (jShl (1 : Int32) a4)).toNatClampNeg)) (gd (hK q16.2 a0 = 5) (gd (hK q16.2 a1 = 2) (Option.bind (f_Ru_counts a1 a2 a3 a4 (0 : Int32) (hIu q16.2 (hR h a0 1) (((jShl (1 : Int32) a2) ||| (jShl (1 : Int32) a3)) ||| (jShl (1 : Int32) a4)).toNatClampNeg (nb q16.1))) (fun q21 => gd (hK q21.2 (hR q16.2 a0 2) = 13) (gd (¬ ((((jShl (1 : Int32) a2) ||| (jShl (1 : Int32) a3)) ||| (jShl (1 : Int32) a4)) < 0 ∨ hL q21.2 (hR q16.2 a0 2) ≤ (((jShl (1 : Int32) a2) ||| (jShl (1 : Int32) a3)) ||| (jShl (1 : Int32) a4)).toNatClampNeg)) (some ((), hIu q21.2 (hR q16.2 a0 2) (((jShl (1 : Int32) a2) ||| (jShl (1 : Int32) a3)) ||| (jShl (1 : Int32) a4)).toNatClampNeg (nb q21.1)))))))))))) else k12 ())
theorem t_St_weighThree {l : Launch} {z : xZ} {d mc ms : Nat} {Ph : Option xV → xH → Prop} {a0 : Nat} {a1 : Nat} {a2 : Int32} {a3 : Int32} {a4 : Int32}  {h : xH} (hd : 5 ≤ d) (hk : OK (f_St_weighThree a0 a1 a2 a3 a4 h) (fun q => Ph (none) q.2)) : Sx l z d mc ms M_St_weighThree 0 (x_en [xR a0, xR a1, xI a2, xI a3, xI a4] 6) [] h Ph := by
  unfold f_St_weighThree at hk
  refine sx_eq (lc2 := [some (xR a0), some (xR a1), some (xI a2), some (xI a3), some (xI a4), none]) rfl rfl ?_
  refine sx_iconst (v := (1 : Int32)) dc_St_weighThree_0 (by decide) ?_
  refine sx_iload_n dc_St_weighThree_1 rfl ?_
  refine sx_ishl dc_St_weighThree_2 ?_
  refine sx_iconst (v := (1 : Int32)) dc_St_weighThree_3 (by decide) ?_
  refine sx_iload_n dc_St_weighThree_4 rfl ?_
  refine sx_ishl dc_St_weighThree_5 ?_
  refine sx_ior dc_St_weighThree_6 ?_
  refine sx_iconst (v := (1 : Int32)) dc_St_weighThree_7 (by decide) ?_
  refine sx_iload dc_St_weighThree_8 rfl ?_
  refine sx_ishl dc_St_weighThree_10 ?_
  refine sx_ior dc_St_weighThree_11 ?_
  refine sx_istore dc_St_weighThree_12 (by decide) (sx_eq (lc2 := [some (xR a0), some (xR a1), some (xI a2), some (xI a3), some (xI a4), some (xI (((jShl (1 : Int32) a2) ||| (jShl (1 : Int32) a3)) ||| (jShl (1 : Int32) a4)))]) rfl rfl ?_)
  refine sx_iload dc_St_weighThree_14 rfl ?_
  refine hk.j (X := fun x11 => Sx l z d mc ms M_St_weighThree 27 [some (xR a0), some (xR a1), some (xI a2), some (xI a3), some (xI a4), some (xI (((jShl (1 : Int32) a2) ||| (jShl (1 : Int32) a3)) ||| (jShl (1 : Int32) a4)))] [] h Ph) (fun x11 hk => ?_) (fun k12 jk12 hk => ?_)
  · exact sx_retV dc_St_weighThree_27 rfl hk.val
  · refine sx_if_lt (tgt := 27) dc_St_weighThree_16 (by decide) (fun c13 => ?_) (fun c13 => ?_)
    · replace hk := hk.t c13
      exact jk12 () hk
    · replace hk := hk.f c13
      refine sx_iload dc_St_weighThree_19 rfl ?_
      refine sx_sipush (v := (128 : Int32)) dc_St_weighThree_21 (by decide) ?_
      refine sx_icmp_lt (tgt := 28) dc_St_weighThree_24 (by decide) (fun c14 => ?_) (fun c14 => ?_)
      · replace hk := hk.t c14
        refine sx_aload_n dc_St_weighThree_28 rfl ?_
        obtain ⟨g15, hk⟩ := hk.g
        refine sx_get (ci := 5) (k := 1) rfl (by decide) wF_St_9 g15 dc_St_weighThree_29 ?_
        refine sx_iload dc_St_weighThree_32 rfl ?_
        refine sx_aload_n dc_St_weighThree_34 rfl ?_
        refine sx_iload_n dc_St_weighThree_35 rfl ?_
        refine sx_iload_n dc_St_weighThree_36 rfl ?_
        refine sx_iload dc_St_weighThree_37 rfl ?_
        refine sx_iconst (v := (3 : Int32)) dc_St_weighThree_39 (by decide) ?_
        obtain ⟨g17, hk⟩ := hk.g
        obtain ⟨q16, eq16, hk⟩ := hk.bind
        refine sx_callV (d2 := d - 1) (mc2 := 0) (ms2 := 0) (as := [xI a2, xI a3, xI a4, xI (3 : Int32)]) mk_Ru_counts rfl (x_rk (ci := 2) g17 rfl rfl) wM_St_34 mi_Ru_counts me_Ru_counts rfl (Nat.le_of_ble_eq_true rfl) (Nat.le_of_ble_eq_true rfl) dc_St_weighThree_40 (by omega) (Nat.zero_le _) (Nat.zero_le _) ?_
        refine t_Ru_counts (by omega) ⟨q16, eq16, ?_⟩
        refine sx_eq0 (lc2 := [some (xR a0), some (xR a1), some (xI a2), some (xI a3), some (xI a4), some (xI (((jShl (1 : Int32) a2) ||| (jShl (1 : Int32) a3)) ||| (jShl (1 : Int32) a4)))]) (st2 := [xI q16.1, xI (((jShl (1 : Int32) a2) ||| (jShl (1 : Int32) a3)) ||| (jShl (1 : Int32) a4)), xR (hR h a0 1)]) rfl rfl ?_
        obtain ⟨g18, hk⟩ := hk.g
        obtain ⟨g19, hk⟩ := hk.g
        refine sx_zast g18 g19 dc_St_weighThree_43 ?_
        refine sx_aload_n dc_St_weighThree_44 rfl ?_
        obtain ⟨g20, hk⟩ := hk.g
        refine sx_get (ci := 5) (k := 2) rfl (by decide) wF_St_15 g20 dc_St_weighThree_45 ?_
        refine sx_iload dc_St_weighThree_48 rfl ?_
        refine sx_aload_n dc_St_weighThree_50 rfl ?_
        refine sx_iload_n dc_St_weighThree_51 rfl ?_
        refine sx_iload_n dc_St_weighThree_52 rfl ?_
        refine sx_iload dc_St_weighThree_53 rfl ?_
        refine sx_iconst (v := (0 : Int32)) dc_St_weighThree_55 (by decide) ?_
        obtain ⟨g22, hk⟩ := hk.g
        obtain ⟨q21, eq21, hk⟩ := hk.bind
        refine sx_callV (d2 := d - 1) (mc2 := 0) (ms2 := 0) (as := [xI a2, xI a3, xI a4, xI (0 : Int32)]) mk_Ru_counts rfl (x_rk (ci := 2) g22 rfl rfl) wM_St_34 mi_Ru_counts me_Ru_counts rfl (Nat.le_of_ble_eq_true rfl) (Nat.le_of_ble_eq_true rfl) dc_St_weighThree_56 (by omega) (Nat.zero_le _) (Nat.zero_le _) ?_
        refine t_Ru_counts (by omega) ⟨q21, eq21, ?_⟩
        refine sx_eq0 (lc2 := [some (xR a0), some (xR a1), some (xI a2), some (xI a3), some (xI a4), some (xI (((jShl (1 : Int32) a2) ||| (jShl (1 : Int32) a3)) ||| (jShl (1 : Int32) a4)))]) (st2 := [xI q21.1, xI (((jShl (1 : Int32) a2) ||| (jShl (1 : Int32) a3)) ||| (jShl (1 : Int32) a4)), xR (hR q16.2 a0 2)]) rfl rfl ?_
        obtain ⟨g23, hk⟩ := hk.g
        obtain ⟨g24, hk⟩ := hk.g
        refine sx_zast g23 g24 dc_St_weighThree_59 ?_
        exact sx_retV dc_St_weighThree_60 rfl hk.val
      · replace hk := hk.f c14
        exact jk12 () hk
theorem dc_St_weigh_0 : decode M_St_weigh.2.1 0 = .ok (.aload_n 0, 1) := by decide +kernel
theorem dc_St_weigh_1 : decode M_St_weigh.2.1 1 = .ok (.iload_n 2, 1) := by decide +kernel
theorem dc_St_weigh_2 : decode M_St_weigh.2.1 2 = .ok (.invokestatic 22, 3) := by decide +kernel
theorem dc_St_weigh_5 : decode M_St_weigh.2.1 5 = .ok (.putfield 26, 3) := by decide +kernel
theorem dc_St_weigh_8 : decode M_St_weigh.2.1 8 = .ok (.iconst 2, 1) := by decide +kernel
theorem dc_St_weigh_9 : decode M_St_weigh.2.1 9 = .ok (.istore_n 3, 1) := by decide +kernel
theorem dc_St_weigh_10 : decode M_St_weigh.2.1 10 = .ok (.iload_n 3, 1) := by decide +kernel
theorem dc_St_weigh_11 : decode M_St_weigh.2.1 11 = .ok (.iload_n 2, 1) := by decide +kernel
theorem dc_St_weigh_12 : decode M_St_weigh.2.1 12 = .ok (.if_icmp .ge 50, 3) := by decide +kernel
theorem dc_St_weigh_15 : decode M_St_weigh.2.1 15 = .ok (.iconst 1, 1) := by decide +kernel
theorem dc_St_weigh_16 : decode M_St_weigh.2.1 16 = .ok (.istore 4, 2) := by decide +kernel
theorem dc_St_weigh_18 : decode M_St_weigh.2.1 18 = .ok (.iload 4, 2) := by decide +kernel
theorem dc_St_weigh_20 : decode M_St_weigh.2.1 20 = .ok (.iload_n 3, 1) := by decide +kernel
theorem dc_St_weigh_21 : decode M_St_weigh.2.1 21 = .ok (.if_icmp .ge 35, 3) := by decide +kernel
theorem dc_St_weigh_24 : decode M_St_weigh.2.1 24 = .ok (.iconst 0, 1) := by decide +kernel
theorem dc_St_weigh_25 : decode M_St_weigh.2.1 25 = .ok (.istore 5, 2) := by decide +kernel
theorem dc_St_weigh_27 : decode M_St_weigh.2.1 27 = .ok (.iload 5, 2) := by decide +kernel
theorem dc_St_weigh_29 : decode M_St_weigh.2.1 29 = .ok (.iload 4, 2) := by decide +kernel
theorem dc_St_weigh_31 : decode M_St_weigh.2.1 31 = .ok (.if_icmp .ge 19, 3) := by decide +kernel
theorem dc_St_weigh_34 : decode M_St_weigh.2.1 34 = .ok (.aload_n 0, 1) := by decide +kernel
theorem dc_St_weigh_35 : decode M_St_weigh.2.1 35 = .ok (.aload_n 1, 1) := by decide +kernel
theorem dc_St_weigh_36 : decode M_St_weigh.2.1 36 = .ok (.iload 5, 2) := by decide +kernel
theorem dc_St_weigh_38 : decode M_St_weigh.2.1 38 = .ok (.iload 4, 2) := by decide +kernel
theorem dc_St_weigh_40 : decode M_St_weigh.2.1 40 = .ok (.iload_n 3, 1) := by decide +kernel
theorem dc_St_weigh_41 : decode M_St_weigh.2.1 41 = .ok (.invokevirtual 30, 3) := by decide +kernel
theorem dc_St_weigh_44 : decode M_St_weigh.2.1 44 = .ok (.iinc 5 1, 3) := by decide +kernel
theorem dc_St_weigh_47 : decode M_St_weigh.2.1 47 = .ok (.goto (-20), 3) := by decide +kernel
theorem dc_St_weigh_50 : decode M_St_weigh.2.1 50 = .ok (.iinc 4 1, 3) := by decide +kernel
theorem dc_St_weigh_53 : decode M_St_weigh.2.1 53 = .ok (.goto (-35), 3) := by decide +kernel
theorem dc_St_weigh_56 : decode M_St_weigh.2.1 56 = .ok (.iinc 3 1, 3) := by decide +kernel
theorem dc_St_weigh_59 : decode M_St_weigh.2.1 59 = .ok (.goto (-49), 3) := by decide +kernel
theorem dc_St_weigh_62 : decode M_St_weigh.2.1 62 = .ok (.return_, 1) := by decide +kernel
def f_St_weigh_L27 (a0 : Nat) (a1 : Nat) (a2 : Int32) (a3 : Int32) (a4 : Int32) : Nat → Int32 → xH → (Int32 → xH → Option (Unit × xH)) → Option (Unit × xH)
  | 0, _, _, _ => none
  | n + 1, a5, h, K => if a4 ≤ a5 then K a5 h else gd (hK h a0 = 5) (Option.bind (f_St_weighThree a0 a1 a5 a4 a3 h) (fun q9 => f_St_weigh_L27 a0 a1 a2 a3 a4 n (a5 + (1 : Int32)) q9.2 K))
def f_St_weigh_L18 (a0 : Nat) (a1 : Nat) (a2 : Int32) (a3 : Int32) : Nat → Int32 → xH → (Int32 → xH → Option (Unit × xH)) → Option (Unit × xH)
  | 0, _, _, _ => none
  | n + 1, a4, h, K => if a3 ≤ a4 then K a4 h else f_St_weigh_L27 a0 a1 a2 a3 a4 fu (0 : Int32) h (fun v11 h12 => f_St_weigh_L18 a0 a1 a2 a3 n (a4 + (1 : Int32)) h12 K)
def f_St_weigh_L10 (a0 : Nat) (a1 : Nat) (a2 : Int32) : Nat → Int32 → xH → (Int32 → xH → Option (Unit × xH)) → Option (Unit × xH)
  | 0, _, _, _ => none
  | n + 1, a3, h, K => if a2 ≤ a3 then K a3 h else f_St_weigh_L18 a0 a1 a2 a3 fu (1 : Int32) h (fun v13 h14 => f_St_weigh_L10 a0 a1 a2 n (a3 + (1 : Int32)) h14 K)
def f_St_weigh (a0 : Nat) (a1 : Nat) (a2 : Int32) (h : xH) : Option (Unit × xH) := Option.bind (f_Se_threesAmong a2 h) (fun q4 => gd (hK q4.2 a0 = 5) (f_St_weigh_L10 a0 a1 a2 fu (2 : Int32) (hIu q4.2 a0 3 q4.1) (fun v15 h16 => some ((), h16))))
theorem t_St_weigh_L27 {l : Launch} {z : xZ} {d mc ms : Nat} {Ph : Option xV → xH → Prop} {a0 : Nat} {a1 : Nat} {a2 : Int32} {a3 : Int32} {a4 : Int32}  (hd : 6 ≤ d) : ∀ (n : Nat) (a5 : Int32) (h : xH) (K : Int32 → xH → Option (Unit × xH)), OK (f_St_weigh_L27 a0 a1 a2 a3 a4 n a5 h K) (fun q => Ph (none) q.2) → (∀ (a5 : Int32) (h : xH), OK (K a5 h) (fun q => Ph (none) q.2) → Sx l z d mc ms M_St_weigh 50 [some (xR a0), some (xR a1), some (xI a2), some (xI a3), some (xI a4), some (xI a5)] [] h Ph) → Sx l z d mc ms M_St_weigh 27 [some (xR a0), some (xR a1), some (xI a2), some (xI a3), some (xI a4), some (xI a5)] [] h Ph := by
  intro n
  induction n with
  | zero => intro a5 h K hk hE; exact hk.no
  | succ n ih =>
    intro a5 h K hk hE
    rw [f_St_weigh_L27] at hk
    refine sx_iload dc_St_weigh_27 rfl ?_
    refine sx_iload dc_St_weigh_29 rfl ?_
    refine sx_icmp_ge (tgt := 50) dc_St_weigh_31 (by decide) (fun c8 => ?_) (fun c8 => ?_)
    · replace hk := hk.t c8
      exact hE a5 h hk
    · replace hk := hk.f c8
      refine sx_aload_n dc_St_weigh_34 rfl ?_
      refine sx_aload_n dc_St_weigh_35 rfl ?_
      refine sx_iload dc_St_weigh_36 rfl ?_
      refine sx_iload dc_St_weigh_38 rfl ?_
      refine sx_iload_n dc_St_weigh_40 rfl ?_
      obtain ⟨g10, hk⟩ := hk.g
      obtain ⟨q9, eq9, hk⟩ := hk.bind
      refine sx_callV (d2 := d - 1) (mc2 := 0) (ms2 := 0) (as := [xR a1, xI a5, xI a4, xI a3]) mk_St_weighThree rfl (x_rk (ci := 5) g10 rfl rfl) wM_St_30 mi_St_weighThree me_St_weighThree rfl (Nat.le_of_ble_eq_true rfl) (Nat.le_of_ble_eq_true rfl) dc_St_weigh_41 (by omega) (Nat.zero_le _) (Nat.zero_le _) ?_
      refine t_St_weighThree (by omega) ⟨q9, eq9, ?_⟩
      refine sx_eq0 (lc2 := [some (xR a0), some (xR a1), some (xI a2), some (xI a3), some (xI a4), some (xI a5)]) (st2 := []) rfl rfl ?_
      refine sx_iinc (v := (1 : Int32)) dc_St_weigh_44 rfl (by decide) (by decide) (sx_eq (lc2 := [some (xR a0), some (xR a1), some (xI a2), some (xI a3), some (xI a4), some (xI (a5 + (1 : Int32)))]) rfl rfl ?_)
      refine sx_goto (tgt := 27) dc_St_weigh_47 (by decide) ?_
      exact ih (a5 + (1 : Int32)) q9.2 _ hk hE
theorem t_St_weigh_L18 {l : Launch} {z : xZ} {d mc ms : Nat} {Ph : Option xV → xH → Prop} {a0 : Nat} {a1 : Nat} {a2 : Int32} {a3 : Int32}  (hd : 6 ≤ d) : ∀ (n : Nat) (a4 : Int32) (h : xH) (K : Int32 → xH → Option (Unit × xH)), OK (f_St_weigh_L18 a0 a1 a2 a3 n a4 h K) (fun q => Ph (none) q.2) → (∀ (a4 : Int32) (h : xH), OK (K a4 h) (fun q => Ph (none) q.2) → Sx l z d mc ms M_St_weigh 56 [some (xR a0), some (xR a1), some (xI a2), some (xI a3), some (xI a4), none] [] h Ph) → Sx l z d mc ms M_St_weigh 18 [some (xR a0), some (xR a1), some (xI a2), some (xI a3), some (xI a4), none] [] h Ph := by
  intro n
  induction n with
  | zero => intro a4 h K hk hE; exact hk.no
  | succ n ih =>
    intro a4 h K hk hE
    rw [f_St_weigh_L18] at hk
    refine sx_iload dc_St_weigh_18 rfl ?_
    refine sx_iload_n dc_St_weigh_20 rfl ?_
    refine sx_icmp_ge (tgt := 56) dc_St_weigh_21 (by decide) (fun c7 => ?_) (fun c7 => ?_)
    · replace hk := hk.t c7
      exact hE a4 h hk
    · replace hk := hk.f c7
      refine sx_iconst (v := (0 : Int32)) dc_St_weigh_24 (by decide) ?_
      refine sx_istore dc_St_weigh_25 (by decide) (sx_eq (lc2 := [some (xR a0), some (xR a1), some (xI a2), some (xI a3), some (xI a4), some (xI (0 : Int32))]) rfl rfl ?_)
      refine t_St_weigh_L27 (by omega) _ _ _ _ hk (fun v11 h12 hk => ?_)
      refine sx_iinc (v := (1 : Int32)) dc_St_weigh_50 rfl (by decide) (by decide) (sx_eq (lc2 := [some (xR a0), some (xR a1), some (xI a2), some (xI a3), some (xI (a4 + (1 : Int32))), some (xI v11)]) rfl rfl ?_)
      refine sx_goto (tgt := 18) dc_St_weigh_53 (by decide) ?_
      exact sx_less (by simp [x_le]) (ih (a4 + (1 : Int32)) h12 _ hk hE)
theorem t_St_weigh_L10 {l : Launch} {z : xZ} {d mc ms : Nat} {Ph : Option xV → xH → Prop} {a0 : Nat} {a1 : Nat} {a2 : Int32}  (hd : 6 ≤ d) : ∀ (n : Nat) (a3 : Int32) (h : xH) (K : Int32 → xH → Option (Unit × xH)), OK (f_St_weigh_L10 a0 a1 a2 n a3 h K) (fun q => Ph (none) q.2) → (∀ (a3 : Int32) (h : xH), OK (K a3 h) (fun q => Ph (none) q.2) → Sx l z d mc ms M_St_weigh 62 [some (xR a0), some (xR a1), some (xI a2), some (xI a3), none, none] [] h Ph) → Sx l z d mc ms M_St_weigh 10 [some (xR a0), some (xR a1), some (xI a2), some (xI a3), none, none] [] h Ph := by
  intro n
  induction n with
  | zero => intro a3 h K hk hE; exact hk.no
  | succ n ih =>
    intro a3 h K hk hE
    rw [f_St_weigh_L10] at hk
    refine sx_iload_n dc_St_weigh_10 rfl ?_
    refine sx_iload_n dc_St_weigh_11 rfl ?_
    refine sx_icmp_ge (tgt := 62) dc_St_weigh_12 (by decide) (fun c6 => ?_) (fun c6 => ?_)
    · replace hk := hk.t c6
      exact hE a3 h hk
    · replace hk := hk.f c6
      refine sx_iconst (v := (1 : Int32)) dc_St_weigh_15 (by decide) ?_
      refine sx_istore dc_St_weigh_16 (by decide) (sx_eq (lc2 := [some (xR a0), some (xR a1), some (xI a2), some (xI a3), some (xI (1 : Int32)), none]) rfl rfl ?_)
      refine t_St_weigh_L18 (by omega) _ _ _ _ hk (fun v13 h14 hk => ?_)
      refine sx_iinc (v := (1 : Int32)) dc_St_weigh_56 rfl (by decide) (by decide) (sx_eq (lc2 := [some (xR a0), some (xR a1), some (xI a2), some (xI (a3 + (1 : Int32))), some (xI v13), none]) rfl rfl ?_)
      refine sx_goto (tgt := 10) dc_St_weigh_59 (by decide) ?_
      exact sx_less (by simp [x_le]) (ih (a3 + (1 : Int32)) h14 _ hk hE)
theorem t_St_weigh {l : Launch} {z : xZ} {d mc ms : Nat} {Ph : Option xV → xH → Prop} {a0 : Nat} {a1 : Nat} {a2 : Int32}  {h : xH} (hd : 6 ≤ d) (hk : OK (f_St_weigh a0 a1 a2 h) (fun q => Ph (none) q.2)) : Sx l z d mc ms M_St_weigh 0 (x_en [xR a0, xR a1, xI a2] 6) [] h Ph := by
  unfold f_St_weigh at hk
  refine sx_eq (lc2 := [some (xR a0), some (xR a1), some (xI a2), none, none, none]) rfl rfl ?_
  refine sx_aload_n dc_St_weigh_0 rfl ?_
  refine sx_iload_n dc_St_weigh_1 rfl ?_
  obtain ⟨q4, eq4, hk⟩ := hk.bind
  refine sx_callS (d2 := d - 1) (mc2 := 0) (ms2 := 0) (as := [xI a2]) mk_Se_threesAmong rfl wM_St_22 mt_Se_threesAmong rfl (Nat.le_of_ble_eq_true rfl) (Nat.le_of_ble_eq_true rfl) dc_St_weigh_2 (by omega) (Nat.zero_le _) (Nat.zero_le _) ?_
  refine t_Se_threesAmong (by omega) ⟨q4, eq4, ?_⟩
  refine sx_eq0 (lc2 := [some (xR a0), some (xR a1), some (xI a2), none, none, none]) (st2 := [xI q4.1, xR a0]) rfl rfl ?_
  obtain ⟨g5, hk⟩ := hk.g
  refine sx_putI (ci := 5) (k := 3) rfl (by decide) wF_St_26 rfl g5 (Or.inl rfl) dc_St_weigh_5 ?_
  refine sx_iconst (v := (2 : Int32)) dc_St_weigh_8 (by decide) ?_
  refine sx_istore_n dc_St_weigh_9 (by decide) (sx_eq (lc2 := [some (xR a0), some (xR a1), some (xI a2), some (xI (2 : Int32)), none, none]) rfl rfl ?_)
  refine t_St_weigh_L10 (by omega) _ _ _ _ hk (fun v15 h16 hk => ?_)
  exact sx_retV dc_St_weigh_62 rfl hk.val
theorem dc_St_howMany_0 : decode M_St_howMany.2.1 0 = .ok (.iconst 0, 1) := by decide +kernel
theorem dc_St_howMany_1 : decode M_St_howMany.2.1 1 = .ok (.istore_n 3, 1) := by decide +kernel
theorem dc_St_howMany_2 : decode M_St_howMany.2.1 2 = .ok (.iconst 0, 1) := by decide +kernel
theorem dc_St_howMany_3 : decode M_St_howMany.2.1 3 = .ok (.istore 4, 2) := by decide +kernel
theorem dc_St_howMany_5 : decode M_St_howMany.2.1 5 = .ok (.iload 4, 2) := by decide +kernel
theorem dc_St_howMany_7 : decode M_St_howMany.2.1 7 = .ok (.aload_n 0, 1) := by decide +kernel
theorem dc_St_howMany_8 : decode M_St_howMany.2.1 8 = .ok (.getfield 26, 3) := by decide +kernel
theorem dc_St_howMany_11 : decode M_St_howMany.2.1 11 = .ok (.if_icmp .ge 30, 3) := by decide +kernel
theorem dc_St_howMany_14 : decode M_St_howMany.2.1 14 = .ok (.aload_n 0, 1) := by decide +kernel
theorem dc_St_howMany_15 : decode M_St_howMany.2.1 15 = .ok (.aload_n 0, 1) := by decide +kernel
theorem dc_St_howMany_16 : decode M_St_howMany.2.1 16 = .ok (.getfield 18, 3) := by decide +kernel
theorem dc_St_howMany_19 : decode M_St_howMany.2.1 19 = .ok (.iload 4, 2) := by decide +kernel
theorem dc_St_howMany_21 : decode M_St_howMany.2.1 21 = .ok (.invokevirtual 43, 3) := by decide +kernel
theorem dc_St_howMany_24 : decode M_St_howMany.2.1 24 = .ok (.iload_n 1, 1) := by decide +kernel
theorem dc_St_howMany_25 : decode M_St_howMany.2.1 25 = .ok (.iload_n 2, 1) := by decide +kernel
theorem dc_St_howMany_26 : decode M_St_howMany.2.1 26 = .ok (.invokevirtual 46, 3) := by decide +kernel
theorem dc_St_howMany_29 : decode M_St_howMany.2.1 29 = .ok (.ifCond .eq 6, 3) := by decide +kernel
theorem dc_St_howMany_32 : decode M_St_howMany.2.1 32 = .ok (.iinc 3 1, 3) := by decide +kernel
theorem dc_St_howMany_35 : decode M_St_howMany.2.1 35 = .ok (.iinc 4 1, 3) := by decide +kernel
theorem dc_St_howMany_38 : decode M_St_howMany.2.1 38 = .ok (.goto (-33), 3) := by decide +kernel
theorem dc_St_howMany_41 : decode M_St_howMany.2.1 41 = .ok (.iload_n 3, 1) := by decide +kernel
theorem dc_St_howMany_42 : decode M_St_howMany.2.1 42 = .ok (.ireturn, 1) := by decide +kernel
def f_St_howMany_L5 (a0 : Nat) (a1 : Int32) (a2 : Int32) : Nat → Int32 → Int32 → xH → (Int32 → Int32 → xH → Option (Int32 × xH)) → Option (Int32 × xH)
  | 0, _, _, _, _ => none
  | n + 1, a3, a4, h, K => gd (hK h a0 = 5) (if (hI h a0 3) ≤ a4 then K a3 a4 h else gd (hK h (hR h a0 0) = 3) (Option.bind (f_Se_three (hR h a0 0) a4 h) (fun q8 => gd (hK q8.2 a0 = 5) (Option.bind (f_St_stands a0 q8.1 a1 a2 q8.2) (fun q10 => f_St_howMany_L5 a0 a1 a2 n (if q10.1 = 0 then a3 else a3 + (1 : Int32)) (a4 + (1 : Int32)) q10.2 K)))))
def f_St_howMany (a0 : Nat) (a1 : Int32) (a2 : Int32) (h : xH) : Option (Int32 × xH) := f_St_howMany_L5 a0 a1 a2 fu (0 : Int32) (0 : Int32) h (fun v14 v15 h16 => some (v14, h16))
theorem t_St_howMany_L5 {l : Launch} {z : xZ} {d mc ms : Nat} {Ph : Option xV → xH → Prop} {a0 : Nat} {a1 : Int32} {a2 : Int32}  (hd : 3 ≤ d) : ∀ (n : Nat) (a3 : Int32) (a4 : Int32) (h : xH) (K : Int32 → Int32 → xH → Option (Int32 × xH)), OK (f_St_howMany_L5 a0 a1 a2 n a3 a4 h K) (fun q => Ph (some (xI q.1)) q.2) → (∀ (a3 : Int32) (a4 : Int32) (h : xH), OK (K a3 a4 h) (fun q => Ph (some (xI q.1)) q.2) → Sx l z d mc ms M_St_howMany 41 [some (xR a0), some (xI a1), some (xI a2), some (xI a3), some (xI a4)] [] h Ph) → Sx l z d mc ms M_St_howMany 5 [some (xR a0), some (xI a1), some (xI a2), some (xI a3), some (xI a4)] [] h Ph := by
  intro n
  induction n with
  | zero => intro a3 a4 h K hk hE; exact hk.no
  | succ n ih =>
    intro a3 a4 h K hk hE
    rw [f_St_howMany_L5] at hk
    refine sx_iload dc_St_howMany_5 rfl ?_
    refine sx_aload_n dc_St_howMany_7 rfl ?_
    obtain ⟨g6, hk⟩ := hk.g
    refine sx_get (ci := 5) (k := 3) rfl (by decide) wF_St_26 g6 dc_St_howMany_8 ?_
    refine sx_icmp_ge (tgt := 41) dc_St_howMany_11 (by decide) (fun c7 => ?_) (fun c7 => ?_)
    · replace hk := hk.t c7
      exact hE a3 a4 h hk
    · replace hk := hk.f c7
      refine sx_aload_n dc_St_howMany_14 rfl ?_
      refine sx_aload_n dc_St_howMany_15 rfl ?_
      refine sx_get (ci := 5) (k := 0) rfl (by decide) wF_St_18 g6 dc_St_howMany_16 ?_
      refine sx_iload dc_St_howMany_19 rfl ?_
      obtain ⟨g9, hk⟩ := hk.g
      obtain ⟨q8, eq8, hk⟩ := hk.bind
      refine sx_callV (d2 := d - 1) (mc2 := 0) (ms2 := 0) (as := [xI a4]) mk_Se_three rfl (x_rk (ci := 3) g9 rfl rfl) wM_St_43 mi_Se_three me_Se_three rfl (Nat.le_of_ble_eq_true rfl) (Nat.le_of_ble_eq_true rfl) dc_St_howMany_21 (by omega) (Nat.zero_le _) (Nat.zero_le _) ?_
      refine t_Se_three (by omega) ⟨q8, eq8, ?_⟩
      refine sx_eq0 (lc2 := [some (xR a0), some (xI a1), some (xI a2), some (xI a3), some (xI a4)]) (st2 := [xI q8.1, xR a0]) rfl rfl ?_
      refine sx_iload_n dc_St_howMany_24 rfl ?_
      refine sx_iload_n dc_St_howMany_25 rfl ?_
      obtain ⟨g11, hk⟩ := hk.g
      obtain ⟨q10, eq10, hk⟩ := hk.bind
      refine sx_callV (d2 := d - 1) (mc2 := 0) (ms2 := 0) (as := [xI q8.1, xI a1, xI a2]) mk_St_stands rfl (x_rk (ci := 5) g11 rfl rfl) wM_St_46 mi_St_stands me_St_stands rfl (Nat.le_of_ble_eq_true rfl) (Nat.le_of_ble_eq_true rfl) dc_St_howMany_26 (by omega) (Nat.zero_le _) (Nat.zero_le _) ?_
      refine t_St_stands (by omega) ⟨q10, eq10, ?_⟩
      refine sx_eq0 (lc2 := [some (xR a0), some (xI a1), some (xI a2), some (xI a3), some (xI a4)]) (st2 := [xI q10.1]) rfl rfl ?_
      suffices J12 : Sx l z d mc ms M_St_howMany 35 [some (xR a0), some (xI a1), some (xI a2), some (xI (if q10.1 = 0 then a3 else a3 + (1 : Int32))), some (xI a4)] [] q10.2 Ph by
        refine sx_if_eq (tgt := 35) dc_St_howMany_29 (by decide) (fun c13 => ?_) (fun c13 => ?_)
        · try simp only [if_pos c13] at J12
          exact J12
        · try simp only [if_neg c13] at J12
          refine sx_iinc (v := (1 : Int32)) dc_St_howMany_32 rfl (by decide) (by decide) (sx_eq (lc2 := [some (xR a0), some (xI a1), some (xI a2), some (xI (a3 + (1 : Int32))), some (xI a4)]) rfl rfl ?_)
          exact J12
      refine sx_iinc (v := (1 : Int32)) dc_St_howMany_35 rfl (by decide) (by decide) (sx_eq (lc2 := [some (xR a0), some (xI a1), some (xI a2), some (xI (if q10.1 = 0 then a3 else a3 + (1 : Int32))), some (xI (a4 + (1 : Int32)))]) rfl rfl ?_)
      refine sx_goto (tgt := 5) dc_St_howMany_38 (by decide) ?_
      exact ih (if q10.1 = 0 then a3 else a3 + (1 : Int32)) (a4 + (1 : Int32)) q10.2 _ hk hE
theorem t_St_howMany {l : Launch} {z : xZ} {d mc ms : Nat} {Ph : Option xV → xH → Prop} {a0 : Nat} {a1 : Int32} {a2 : Int32}  {h : xH} (hd : 3 ≤ d) (hk : OK (f_St_howMany a0 a1 a2 h) (fun q => Ph (some (xI q.1)) q.2)) : Sx l z d mc ms M_St_howMany 0 (x_en [xR a0, xI a1, xI a2] 5) [] h Ph := by
  unfold f_St_howMany at hk
  refine sx_eq (lc2 := [some (xR a0), some (xI a1), some (xI a2), none, none]) rfl rfl ?_
  refine sx_iconst (v := (0 : Int32)) dc_St_howMany_0 (by decide) ?_
  refine sx_istore_n dc_St_howMany_1 (by decide) (sx_eq (lc2 := [some (xR a0), some (xI a1), some (xI a2), some (xI (0 : Int32)), none]) rfl rfl ?_)
  refine sx_iconst (v := (0 : Int32)) dc_St_howMany_2 (by decide) ?_
  refine sx_istore dc_St_howMany_3 (by decide) (sx_eq (lc2 := [some (xR a0), some (xI a1), some (xI a2), some (xI (0 : Int32)), some (xI (0 : Int32))]) rfl rfl ?_)
  refine t_St_howMany_L5 (by omega) _ _ _ _ _ hk (fun v14 v15 h16 hk => ?_)
  refine sx_iload_n dc_St_howMany_41 rfl ?_
  exact sx_retI dc_St_howMany_42 rfl hk.val
theorem dc_St_howManyWith_0 : decode M_St_howManyWith.2.1 0 = .ok (.iconst 1, 1) := by decide +kernel
theorem dc_St_howManyWith_1 : decode M_St_howManyWith.2.1 1 = .ok (.aload_n 0, 1) := by decide +kernel
theorem dc_St_howManyWith_2 : decode M_St_howManyWith.2.1 2 = .ok (.getfield 18, 3) := by decide +kernel
theorem dc_St_howManyWith_5 : decode M_St_howManyWith.2.1 5 = .ok (.iload_n 1, 1) := by decide +kernel
theorem dc_St_howManyWith_6 : decode M_St_howManyWith.2.1 6 = .ok (.invokevirtual 50, 3) := by decide +kernel
theorem dc_St_howManyWith_9 : decode M_St_howManyWith.2.1 9 = .ok (.ishl, 1) := by decide +kernel
theorem dc_St_howManyWith_10 : decode M_St_howManyWith.2.1 10 = .ok (.iconst 1, 1) := by decide +kernel
theorem dc_St_howManyWith_11 : decode M_St_howManyWith.2.1 11 = .ok (.aload_n 0, 1) := by decide +kernel
theorem dc_St_howManyWith_12 : decode M_St_howManyWith.2.1 12 = .ok (.getfield 18, 3) := by decide +kernel
theorem dc_St_howManyWith_15 : decode M_St_howManyWith.2.1 15 = .ok (.iload_n 1, 1) := by decide +kernel
theorem dc_St_howManyWith_16 : decode M_St_howManyWith.2.1 16 = .ok (.invokevirtual 53, 3) := by decide +kernel
theorem dc_St_howManyWith_19 : decode M_St_howManyWith.2.1 19 = .ok (.ishl, 1) := by decide +kernel
theorem dc_St_howManyWith_20 : decode M_St_howManyWith.2.1 20 = .ok (.ior, 1) := by decide +kernel
theorem dc_St_howManyWith_21 : decode M_St_howManyWith.2.1 21 = .ok (.istore 4, 2) := by decide +kernel
theorem dc_St_howManyWith_23 : decode M_St_howManyWith.2.1 23 = .ok (.iconst 0, 1) := by decide +kernel
theorem dc_St_howManyWith_24 : decode M_St_howManyWith.2.1 24 = .ok (.istore 5, 2) := by decide +kernel
theorem dc_St_howManyWith_26 : decode M_St_howManyWith.2.1 26 = .ok (.iconst 0, 1) := by decide +kernel
theorem dc_St_howManyWith_27 : decode M_St_howManyWith.2.1 27 = .ok (.istore 6, 2) := by decide +kernel
theorem dc_St_howManyWith_29 : decode M_St_howManyWith.2.1 29 = .ok (.iload 6, 2) := by decide +kernel
theorem dc_St_howManyWith_31 : decode M_St_howManyWith.2.1 31 = .ok (.bipush 7, 2) := by decide +kernel
theorem dc_St_howManyWith_33 : decode M_St_howManyWith.2.1 33 = .ok (.if_icmp .ge 38, 3) := by decide +kernel
theorem dc_St_howManyWith_36 : decode M_St_howManyWith.2.1 36 = .ok (.iload 4, 2) := by decide +kernel
theorem dc_St_howManyWith_38 : decode M_St_howManyWith.2.1 38 = .ok (.iload 6, 2) := by decide +kernel
theorem dc_St_howManyWith_40 : decode M_St_howManyWith.2.1 40 = .ok (.ishr, 1) := by decide +kernel
theorem dc_St_howManyWith_41 : decode M_St_howManyWith.2.1 41 = .ok (.iconst 1, 1) := by decide +kernel
theorem dc_St_howManyWith_42 : decode M_St_howManyWith.2.1 42 = .ok (.iand, 1) := by decide +kernel
theorem dc_St_howManyWith_43 : decode M_St_howManyWith.2.1 43 = .ok (.ifCond .ne 22, 3) := by decide +kernel
theorem dc_St_howManyWith_46 : decode M_St_howManyWith.2.1 46 = .ok (.aload_n 0, 1) := by decide +kernel
theorem dc_St_howManyWith_47 : decode M_St_howManyWith.2.1 47 = .ok (.iload 4, 2) := by decide +kernel
theorem dc_St_howManyWith_49 : decode M_St_howManyWith.2.1 49 = .ok (.iconst 1, 1) := by decide +kernel
theorem dc_St_howManyWith_50 : decode M_St_howManyWith.2.1 50 = .ok (.iload 6, 2) := by decide +kernel
theorem dc_St_howManyWith_52 : decode M_St_howManyWith.2.1 52 = .ok (.ishl, 1) := by decide +kernel
theorem dc_St_howManyWith_53 : decode M_St_howManyWith.2.1 53 = .ok (.ior, 1) := by decide +kernel
theorem dc_St_howManyWith_54 : decode M_St_howManyWith.2.1 54 = .ok (.iload_n 2, 1) := by decide +kernel
theorem dc_St_howManyWith_55 : decode M_St_howManyWith.2.1 55 = .ok (.iload_n 3, 1) := by decide +kernel
theorem dc_St_howManyWith_56 : decode M_St_howManyWith.2.1 56 = .ok (.invokevirtual 46, 3) := by decide +kernel
theorem dc_St_howManyWith_59 : decode M_St_howManyWith.2.1 59 = .ok (.ifCond .eq 6, 3) := by decide +kernel
theorem dc_St_howManyWith_62 : decode M_St_howManyWith.2.1 62 = .ok (.iinc 5 1, 3) := by decide +kernel
theorem dc_St_howManyWith_65 : decode M_St_howManyWith.2.1 65 = .ok (.iinc 6 1, 3) := by decide +kernel
theorem dc_St_howManyWith_68 : decode M_St_howManyWith.2.1 68 = .ok (.goto (-39), 3) := by decide +kernel
theorem dc_St_howManyWith_71 : decode M_St_howManyWith.2.1 71 = .ok (.iload 5, 2) := by decide +kernel
theorem dc_St_howManyWith_73 : decode M_St_howManyWith.2.1 73 = .ok (.ireturn, 1) := by decide +kernel
def f_St_howManyWith_L29 (a0 : Nat) (a1 : Int32) (a2 : Int32) (a3 : Int32) (a4 : Int32) : Nat → Int32 → Int32 → xH → (Int32 → Int32 → xH → Option (Int32 × xH)) → Option (Int32 × xH)
  | 0, _, _, _, _ => none
  | n + 1, a5, a6, h, K => if (7 : Int32) ≤ a6 then K a5 a6 h else jn (fun (x16 : Int32 × xH) => f_St_howManyWith_L29 a0 a1 a2 a3 a4 n x16.1 (a6 + (1 : Int32)) x16.2 K) (fun k17 => if ((jShr a4 a6) &&& (1 : Int32)) = 0 then gd (hK h a0 = 5) (Option.bind (f_St_stands a0 (a4 ||| (jShl (1 : Int32) a6)) a2 a3 h) (fun q19 => if q19.1 = 0 then k17 (a5, q19.2) else k17 ((a5 + (1 : Int32)), q19.2))) else k17 (a5, h))
def f_St_howManyWith (a0 : Nat) (a1 : Int32) (a2 : Int32) (a3 : Int32) (h : xH) : Option (Int32 × xH) := gd (hK h a0 = 5) (gd (hK h (hR h a0 0) = 3) (Option.bind (f_Se_lower (hR h a0 0) a1 h) (fun q10 => gd (hK q10.2 a0 = 5) (gd (hK q10.2 (hR q10.2 a0 0) = 3) (Option.bind (f_Se_higher (hR q10.2 a0 0) a1 q10.2) (fun q13 => f_St_howManyWith_L29 a0 a1 a2 a3 ((jShl (1 : Int32) q10.1) ||| (jShl (1 : Int32) q13.1)) fu (0 : Int32) (0 : Int32) q13.2 (fun v22 v23 h24 => some (v22, h24))))))))
theorem t_St_howManyWith_L29 {l : Launch} {z : xZ} {d mc ms : Nat} {Ph : Option xV → xH → Prop} {a0 : Nat} {a1 : Int32} {a2 : Int32} {a3 : Int32} {a4 : Int32}  (hd : 3 ≤ d) : ∀ (n : Nat) (a5 : Int32) (a6 : Int32) (h : xH) (K : Int32 → Int32 → xH → Option (Int32 × xH)), OK (f_St_howManyWith_L29 a0 a1 a2 a3 a4 n a5 a6 h K) (fun q => Ph (some (xI q.1)) q.2) → (∀ (a5 : Int32) (a6 : Int32) (h : xH), OK (K a5 a6 h) (fun q => Ph (some (xI q.1)) q.2) → Sx l z d mc ms M_St_howManyWith 71 [some (xR a0), some (xI a1), some (xI a2), some (xI a3), some (xI a4), some (xI a5), some (xI a6)] [] h Ph) → Sx l z d mc ms M_St_howManyWith 29 [some (xR a0), some (xI a1), some (xI a2), some (xI a3), some (xI a4), some (xI a5), some (xI a6)] [] h Ph := by
  intro n
  induction n with
  | zero => intro a5 a6 h K hk hE; exact hk.no
  | succ n ih =>
    intro a5 a6 h K hk hE
    rw [f_St_howManyWith_L29] at hk
    refine sx_iload dc_St_howManyWith_29 rfl ?_
    refine sx_bipush (v := (7 : Int32)) dc_St_howManyWith_31 (by decide) ?_
    refine sx_icmp_ge (tgt := 71) dc_St_howManyWith_33 (by decide) (fun c15 => ?_) (fun c15 => ?_)
    · replace hk := hk.t c15
      exact hE a5 a6 h hk
    · replace hk := hk.f c15
      refine sx_iload dc_St_howManyWith_36 rfl ?_
      refine sx_iload dc_St_howManyWith_38 rfl ?_
      refine sx_ishr dc_St_howManyWith_40 ?_
      refine sx_iconst (v := (1 : Int32)) dc_St_howManyWith_41 (by decide) ?_
      refine sx_iand dc_St_howManyWith_42 ?_
      refine hk.j (X := fun x16 => Sx l z d mc ms M_St_howManyWith 65 [some (xR a0), some (xI a1), some (xI a2), some (xI a3), some (xI a4), some (xI x16.1), some (xI a6)] [] x16.2 Ph) (fun x16 hk => ?_) (fun k17 jk17 hk => ?_)
      · refine sx_iinc (v := (1 : Int32)) dc_St_howManyWith_65 rfl (by decide) (by decide) (sx_eq (lc2 := [some (xR a0), some (xI a1), some (xI a2), some (xI a3), some (xI a4), some (xI x16.1), some (xI (a6 + (1 : Int32)))]) rfl rfl ?_)
        refine sx_goto (tgt := 29) dc_St_howManyWith_68 (by decide) ?_
        exact ih x16.1 (a6 + (1 : Int32)) x16.2 _ hk hE
      · refine sx_if_ne (tgt := 65) dc_St_howManyWith_43 (by decide) (fun c18 => ?_) (fun c18 => ?_)
        · replace hk := hk.f c18
          exact jk17 (a5, h) hk
        · replace hk := hk.t c18
          refine sx_aload_n dc_St_howManyWith_46 rfl ?_
          refine sx_iload dc_St_howManyWith_47 rfl ?_
          refine sx_iconst (v := (1 : Int32)) dc_St_howManyWith_49 (by decide) ?_
          refine sx_iload dc_St_howManyWith_50 rfl ?_
          refine sx_ishl dc_St_howManyWith_52 ?_
          refine sx_ior dc_St_howManyWith_53 ?_
          refine sx_iload_n dc_St_howManyWith_54 rfl ?_
          refine sx_iload_n dc_St_howManyWith_55 rfl ?_
          obtain ⟨g20, hk⟩ := hk.g
          obtain ⟨q19, eq19, hk⟩ := hk.bind
          refine sx_callV (d2 := d - 1) (mc2 := 0) (ms2 := 0) (as := [xI (a4 ||| (jShl (1 : Int32) a6)), xI a2, xI a3]) mk_St_stands rfl (x_rk (ci := 5) g20 rfl rfl) wM_St_46 mi_St_stands me_St_stands rfl (Nat.le_of_ble_eq_true rfl) (Nat.le_of_ble_eq_true rfl) dc_St_howManyWith_56 (by omega) (Nat.zero_le _) (Nat.zero_le _) ?_
          refine t_St_stands (by omega) ⟨q19, eq19, ?_⟩
          refine sx_eq0 (lc2 := [some (xR a0), some (xI a1), some (xI a2), some (xI a3), some (xI a4), some (xI a5), some (xI a6)]) (st2 := [xI q19.1]) rfl rfl ?_
          refine sx_if_eq (tgt := 65) dc_St_howManyWith_59 (by decide) (fun c21 => ?_) (fun c21 => ?_)
          · replace hk := hk.t c21
            exact jk17 (a5, q19.2) hk
          · replace hk := hk.f c21
            refine sx_iinc (v := (1 : Int32)) dc_St_howManyWith_62 rfl (by decide) (by decide) (sx_eq (lc2 := [some (xR a0), some (xI a1), some (xI a2), some (xI a3), some (xI a4), some (xI (a5 + (1 : Int32))), some (xI a6)]) rfl rfl ?_)
            exact jk17 ((a5 + (1 : Int32)), q19.2) hk
theorem t_St_howManyWith {l : Launch} {z : xZ} {d mc ms : Nat} {Ph : Option xV → xH → Prop} {a0 : Nat} {a1 : Int32} {a2 : Int32} {a3 : Int32}  {h : xH} (hd : 3 ≤ d) (hk : OK (f_St_howManyWith a0 a1 a2 a3 h) (fun q => Ph (some (xI q.1)) q.2)) : Sx l z d mc ms M_St_howManyWith 0 (x_en [xR a0, xI a1, xI a2, xI a3] 7) [] h Ph := by
  unfold f_St_howManyWith at hk
  refine sx_eq (lc2 := [some (xR a0), some (xI a1), some (xI a2), some (xI a3), none, none, none]) rfl rfl ?_
  refine sx_iconst (v := (1 : Int32)) dc_St_howManyWith_0 (by decide) ?_
  refine sx_aload_n dc_St_howManyWith_1 rfl ?_
  obtain ⟨g9, hk⟩ := hk.g
  refine sx_get (ci := 5) (k := 0) rfl (by decide) wF_St_18 g9 dc_St_howManyWith_2 ?_
  refine sx_iload_n dc_St_howManyWith_5 rfl ?_
  obtain ⟨g11, hk⟩ := hk.g
  obtain ⟨q10, eq10, hk⟩ := hk.bind
  refine sx_callV (d2 := d - 1) (mc2 := 0) (ms2 := 0) (as := [xI a1]) mk_Se_lower rfl (x_rk (ci := 3) g11 rfl rfl) wM_St_50 mi_Se_lower me_Se_lower rfl (Nat.le_of_ble_eq_true rfl) (Nat.le_of_ble_eq_true rfl) dc_St_howManyWith_6 (by omega) (Nat.zero_le _) (Nat.zero_le _) ?_
  refine t_Se_lower (by omega) ⟨q10, eq10, ?_⟩
  refine sx_eq0 (lc2 := [some (xR a0), some (xI a1), some (xI a2), some (xI a3), none, none, none]) (st2 := [xI q10.1, xI (1 : Int32)]) rfl rfl ?_
  refine sx_ishl dc_St_howManyWith_9 ?_
  refine sx_iconst (v := (1 : Int32)) dc_St_howManyWith_10 (by decide) ?_
  refine sx_aload_n dc_St_howManyWith_11 rfl ?_
  obtain ⟨g12, hk⟩ := hk.g
  refine sx_get (ci := 5) (k := 0) rfl (by decide) wF_St_18 g12 dc_St_howManyWith_12 ?_
  refine sx_iload_n dc_St_howManyWith_15 rfl ?_
  obtain ⟨g14, hk⟩ := hk.g
  obtain ⟨q13, eq13, hk⟩ := hk.bind
  refine sx_callV (d2 := d - 1) (mc2 := 0) (ms2 := 0) (as := [xI a1]) mk_Se_higher rfl (x_rk (ci := 3) g14 rfl rfl) wM_St_53 mi_Se_higher me_Se_higher rfl (Nat.le_of_ble_eq_true rfl) (Nat.le_of_ble_eq_true rfl) dc_St_howManyWith_16 (by omega) (Nat.zero_le _) (Nat.zero_le _) ?_
  refine t_Se_higher (by omega) ⟨q13, eq13, ?_⟩
  refine sx_eq0 (lc2 := [some (xR a0), some (xI a1), some (xI a2), some (xI a3), none, none, none]) (st2 := [xI q13.1, xI (1 : Int32), xI (jShl (1 : Int32) q10.1)]) rfl rfl ?_
  refine sx_ishl dc_St_howManyWith_19 ?_
  refine sx_ior dc_St_howManyWith_20 ?_
  refine sx_istore dc_St_howManyWith_21 (by decide) (sx_eq (lc2 := [some (xR a0), some (xI a1), some (xI a2), some (xI a3), some (xI ((jShl (1 : Int32) q10.1) ||| (jShl (1 : Int32) q13.1))), none, none]) rfl rfl ?_)
  refine sx_iconst (v := (0 : Int32)) dc_St_howManyWith_23 (by decide) ?_
  refine sx_istore dc_St_howManyWith_24 (by decide) (sx_eq (lc2 := [some (xR a0), some (xI a1), some (xI a2), some (xI a3), some (xI ((jShl (1 : Int32) q10.1) ||| (jShl (1 : Int32) q13.1))), some (xI (0 : Int32)), none]) rfl rfl ?_)
  refine sx_iconst (v := (0 : Int32)) dc_St_howManyWith_26 (by decide) ?_
  refine sx_istore dc_St_howManyWith_27 (by decide) (sx_eq (lc2 := [some (xR a0), some (xI a1), some (xI a2), some (xI a3), some (xI ((jShl (1 : Int32) q10.1) ||| (jShl (1 : Int32) q13.1))), some (xI (0 : Int32)), some (xI (0 : Int32))]) rfl rfl ?_)
  refine t_St_howManyWith_L29 (by omega) _ _ _ _ _ hk (fun v22 v23 h24 hk => ?_)
  refine sx_iload dc_St_howManyWith_71 rfl ?_
  exact sx_retI dc_St_howManyWith_73 rfl hk.val
theorem dc_Ta_init_0 : decode M_Ta_init.2.1 0 = .ok (.aload_n 0, 1) := by decide +kernel
theorem dc_Ta_init_1 : decode M_Ta_init.2.1 1 = .ok (.invokespecial 1, 3) := by decide +kernel
theorem dc_Ta_init_4 : decode M_Ta_init.2.1 4 = .ok (.aload_n 0, 1) := by decide +kernel
theorem dc_Ta_init_5 : decode M_Ta_init.2.1 5 = .ok (.aload_n 1, 1) := by decide +kernel
theorem dc_Ta_init_6 : decode M_Ta_init.2.1 6 = .ok (.putfield 7, 3) := by decide +kernel
theorem dc_Ta_init_9 : decode M_Ta_init.2.1 9 = .ok (.return_, 1) := by decide +kernel
def f_Ta_init (a0 : Nat) (a1 : Nat) (h : xH) : Option (Unit × xH) := gd (hK h a0 = 6) (some ((), hRu h a0 0 a1))
theorem t_Ta_init {l : Launch} {z : xZ} {d mc ms : Nat} {Ph : Option xV → xH → Prop} {a0 : Nat} {a1 : Nat}  {h : xH} (hd : 2 ≤ d) (hk : OK (f_Ta_init a0 a1 h) (fun q => Ph (none) q.2)) : Sx l z d mc ms M_Ta_init 0 (x_en [xR a0, xR a1] 2) [] h Ph := by
  unfold f_Ta_init at hk
  refine sx_eq (lc2 := [some (xR a0), some (xR a1)]) rfl rfl ?_
  refine sx_aload_n dc_Ta_init_0 rfl ?_
  obtain ⟨g2, hk⟩ := hk.g
  refine sx_objInit g2 (by decide) wM_Ta_1 wO wP (Nat.le_of_ble_eq_true rfl) (by omega) dc_Ta_init_1 ?_
  refine sx_aload_n dc_Ta_init_4 rfl ?_
  refine sx_aload_n dc_Ta_init_5 rfl ?_
  refine sx_putRF (ci := 6) (k := 0) rfl (by decide) wF_Ta_7 rfl (by rfl) rfl g2 rfl dc_Ta_init_6 ?_
  exact sx_retV dc_Ta_init_9 rfl hk.val
theorem dc_Ta_layBits_0 : decode M_Ta_layBits.2.1 0 = .ok (.aload_n 0, 1) := by decide +kernel
theorem dc_Ta_layBits_1 : decode M_Ta_layBits.2.1 1 = .ok (.iload_n 1, 1) := by decide +kernel
theorem dc_Ta_layBits_2 : decode M_Ta_layBits.2.1 2 = .ok (.putfield 25, 3) := by decide +kernel
theorem dc_Ta_layBits_5 : decode M_Ta_layBits.2.1 5 = .ok (.aload_n 0, 1) := by decide +kernel
theorem dc_Ta_layBits_6 : decode M_Ta_layBits.2.1 6 = .ok (.iload_n 2, 1) := by decide +kernel
theorem dc_Ta_layBits_7 : decode M_Ta_layBits.2.1 7 = .ok (.putfield 28, 3) := by decide +kernel
theorem dc_Ta_layBits_10 : decode M_Ta_layBits.2.1 10 = .ok (.return_, 1) := by decide +kernel
def f_Ta_layBits (a0 : Nat) (a1 : Int32) (a2 : Int32) (h : xH) : Option (Unit × xH) := gd (hK h a0 = 6) (some ((), hIu (hIu h a0 2 a1) a0 3 a2))
theorem t_Ta_layBits {l : Launch} {z : xZ} {d mc ms : Nat} {Ph : Option xV → xH → Prop} {a0 : Nat} {a1 : Int32} {a2 : Int32}  {h : xH} (hd : 1 ≤ d) (hk : OK (f_Ta_layBits a0 a1 a2 h) (fun q => Ph (none) q.2)) : Sx l z d mc ms M_Ta_layBits 0 (x_en [xR a0, xI a1, xI a2] 3) [] h Ph := by
  unfold f_Ta_layBits at hk
  refine sx_eq (lc2 := [some (xR a0), some (xI a1), some (xI a2)]) rfl rfl ?_
  refine sx_aload_n dc_Ta_layBits_0 rfl ?_
  refine sx_iload_n dc_Ta_layBits_1 rfl ?_
  obtain ⟨g2, hk⟩ := hk.g
  refine sx_putI (ci := 6) (k := 2) rfl (by decide) wF_Ta_25 rfl g2 (Or.inl rfl) dc_Ta_layBits_2 ?_
  refine sx_aload_n dc_Ta_layBits_5 rfl ?_
  refine sx_iload_n dc_Ta_layBits_6 rfl ?_
  refine sx_putI (ci := 6) (k := 3) rfl (by decide) wF_Ta_28 rfl g2 (Or.inl rfl) dc_Ta_layBits_7 ?_
  exact sx_retV dc_Ta_layBits_10 rfl hk.val
theorem dc_Ta_lay_0 : decode M_Ta_lay.2.1 0 = .ok (.aload_n 0, 1) := by decide +kernel
theorem dc_Ta_lay_1 : decode M_Ta_lay.2.1 1 = .ok (.iload_n 1, 1) := by decide +kernel
theorem dc_Ta_lay_2 : decode M_Ta_lay.2.1 2 = .ok (.putfield 13, 3) := by decide +kernel
theorem dc_Ta_lay_5 : decode M_Ta_lay.2.1 5 = .ok (.aload_n 0, 1) := by decide +kernel
theorem dc_Ta_lay_6 : decode M_Ta_lay.2.1 6 = .ok (.iconst 0, 1) := by decide +kernel
theorem dc_Ta_lay_7 : decode M_Ta_lay.2.1 7 = .ok (.aload_n 0, 1) := by decide +kernel
theorem dc_Ta_lay_8 : decode M_Ta_lay.2.1 8 = .ok (.invokevirtual 17, 3) := by decide +kernel
theorem dc_Ta_lay_11 : decode M_Ta_lay.2.1 11 = .ok (.invokevirtual 21, 3) := by decide +kernel
theorem dc_Ta_lay_14 : decode M_Ta_lay.2.1 14 = .ok (.return_, 1) := by decide +kernel
def f_Ta_lay (a0 : Nat) (a1 : Int32) (h : xH) : Option (Unit × xH) := gd (hK h a0 = 6) (Option.bind (f_Ta_everyPair a0 (hIu h a0 1 a1)) (fun q6 => gd (hK q6.2 a0 = 6) (Option.bind (f_Ta_layBits a0 (0 : Int32) q6.1 q6.2) (fun q7 => some ((), q7.2)))))
theorem t_Ta_lay {l : Launch} {z : xZ} {d mc ms : Nat} {Ph : Option xV → xH → Prop} {a0 : Nat} {a1 : Int32}  {h : xH} (hd : 3 ≤ d) (hk : OK (f_Ta_lay a0 a1 h) (fun q => Ph (none) q.2)) : Sx l z d mc ms M_Ta_lay 0 (x_en [xR a0, xI a1] 2) [] h Ph := by
  unfold f_Ta_lay at hk
  refine sx_eq (lc2 := [some (xR a0), some (xI a1)]) rfl rfl ?_
  refine sx_aload_n dc_Ta_lay_0 rfl ?_
  refine sx_iload_n dc_Ta_lay_1 rfl ?_
  obtain ⟨g5, hk⟩ := hk.g
  refine sx_putI (ci := 6) (k := 1) rfl (by decide) wF_Ta_13 rfl g5 (Or.inl rfl) dc_Ta_lay_2 ?_
  refine sx_aload_n dc_Ta_lay_5 rfl ?_
  refine sx_iconst (v := (0 : Int32)) dc_Ta_lay_6 (by decide) ?_
  refine sx_aload_n dc_Ta_lay_7 rfl ?_
  obtain ⟨q6, eq6, hk⟩ := hk.bind
  refine sx_callV (d2 := d - 1) (mc2 := 0) (ms2 := 0) (as := []) mk_Ta_everyPair rfl (x_rk (ci := 6) g5 rfl rfl) wM_Ta_17 mi_Ta_everyPair me_Ta_everyPair rfl (Nat.le_of_ble_eq_true rfl) (Nat.le_of_ble_eq_true rfl) dc_Ta_lay_8 (by omega) (Nat.zero_le _) (Nat.zero_le _) ?_
  refine t_Ta_everyPair (by omega) ⟨q6, eq6, ?_⟩
  refine sx_eq0 (lc2 := [some (xR a0), some (xI a1)]) (st2 := [xI q6.1, xI (0 : Int32), xR a0]) rfl rfl ?_
  obtain ⟨g8, hk⟩ := hk.g
  obtain ⟨q7, eq7, hk⟩ := hk.bind
  refine sx_callV (d2 := d - 1) (mc2 := 0) (ms2 := 0) (as := [xI (0 : Int32), xI q6.1]) mk_Ta_layBits rfl (x_rk (ci := 6) g8 rfl rfl) wM_Ta_21 mi_Ta_layBits me_Ta_layBits rfl (Nat.le_of_ble_eq_true rfl) (Nat.le_of_ble_eq_true rfl) dc_Ta_lay_11 (by omega) (Nat.zero_le _) (Nat.zero_le _) ?_
  refine t_Ta_layBits (by omega) ⟨q7, eq7, ?_⟩
  refine sx_eq0 (lc2 := [some (xR a0), some (xI a1)]) (st2 := []) rfl rfl ?_
  exact sx_retV dc_Ta_lay_14 rfl hk.val
theorem dc_Ta_layAs_0 : decode M_Ta_layAs.2.1 0 = .ok (.aload_n 0, 1) := by decide +kernel
theorem dc_Ta_layAs_1 : decode M_Ta_layAs.2.1 1 = .ok (.aload_n 1, 1) := by decide +kernel
theorem dc_Ta_layAs_2 : decode M_Ta_layAs.2.1 2 = .ok (.getfield 13, 3) := by decide +kernel
theorem dc_Ta_layAs_5 : decode M_Ta_layAs.2.1 5 = .ok (.putfield 13, 3) := by decide +kernel
theorem dc_Ta_layAs_8 : decode M_Ta_layAs.2.1 8 = .ok (.aload_n 0, 1) := by decide +kernel
theorem dc_Ta_layAs_9 : decode M_Ta_layAs.2.1 9 = .ok (.aload_n 1, 1) := by decide +kernel
theorem dc_Ta_layAs_10 : decode M_Ta_layAs.2.1 10 = .ok (.getfield 25, 3) := by decide +kernel
theorem dc_Ta_layAs_13 : decode M_Ta_layAs.2.1 13 = .ok (.aload_n 1, 1) := by decide +kernel
theorem dc_Ta_layAs_14 : decode M_Ta_layAs.2.1 14 = .ok (.getfield 28, 3) := by decide +kernel
theorem dc_Ta_layAs_17 : decode M_Ta_layAs.2.1 17 = .ok (.invokevirtual 21, 3) := by decide +kernel
theorem dc_Ta_layAs_20 : decode M_Ta_layAs.2.1 20 = .ok (.return_, 1) := by decide +kernel
def f_Ta_layAs (a0 : Nat) (a1 : Nat) (h : xH) : Option (Unit × xH) := gd (hK h a1 = 6) (gd (hK h a0 = 6) (Option.bind (f_Ta_layBits a0 (hI (hIu h a0 1 (hI h a1 1)) a1 2) (hI (hIu h a0 1 (hI h a1 1)) a1 3) (hIu h a0 1 (hI h a1 1))) (fun q6 => some ((), q6.2))))
theorem t_Ta_layAs {l : Launch} {z : xZ} {d mc ms : Nat} {Ph : Option xV → xH → Prop} {a0 : Nat} {a1 : Nat}  {h : xH} (hd : 2 ≤ d) (hk : OK (f_Ta_layAs a0 a1 h) (fun q => Ph (none) q.2)) : Sx l z d mc ms M_Ta_layAs 0 (x_en [xR a0, xR a1] 2) [] h Ph := by
  unfold f_Ta_layAs at hk
  refine sx_eq (lc2 := [some (xR a0), some (xR a1)]) rfl rfl ?_
  refine sx_aload_n dc_Ta_layAs_0 rfl ?_
  refine sx_aload_n dc_Ta_layAs_1 rfl ?_
  obtain ⟨g4, hk⟩ := hk.g
  refine sx_get (ci := 6) (k := 1) rfl (by decide) wF_Ta_13 g4 dc_Ta_layAs_2 ?_
  obtain ⟨g5, hk⟩ := hk.g
  refine sx_putI (ci := 6) (k := 1) rfl (by decide) wF_Ta_13 rfl g5 (Or.inl rfl) dc_Ta_layAs_5 ?_
  refine sx_aload_n dc_Ta_layAs_8 rfl ?_
  refine sx_aload_n dc_Ta_layAs_9 rfl ?_
  refine sx_get (ci := 6) (k := 2) rfl (by decide) wF_Ta_25 g4 dc_Ta_layAs_10 ?_
  refine sx_aload_n dc_Ta_layAs_13 rfl ?_
  refine sx_get (ci := 6) (k := 3) rfl (by decide) wF_Ta_28 g4 dc_Ta_layAs_14 ?_
  obtain ⟨q6, eq6, hk⟩ := hk.bind
  refine sx_callV (d2 := d - 1) (mc2 := 0) (ms2 := 0) (as := [xI (hI (hIu h a0 1 (hI h a1 1)) a1 2), xI (hI (hIu h a0 1 (hI h a1 1)) a1 3)]) mk_Ta_layBits rfl (x_rk (ci := 6) g5 rfl rfl) wM_Ta_21 mi_Ta_layBits me_Ta_layBits rfl (Nat.le_of_ble_eq_true rfl) (Nat.le_of_ble_eq_true rfl) dc_Ta_layAs_17 (by omega) (Nat.zero_le _) (Nat.zero_le _) ?_
  refine t_Ta_layBits (by omega) ⟨q6, eq6, ?_⟩
  refine sx_eq0 (lc2 := [some (xR a0), some (xR a1)]) (st2 := []) rfl rfl ?_
  exact sx_retV dc_Ta_layAs_20 rfl hk.val
theorem dc_Ta_put_0 : decode M_Ta_put.2.1 0 = .ok (.iconst 1, 1) := by decide +kernel
theorem dc_Ta_put_1 : decode M_Ta_put.2.1 1 = .ok (.iload_n 1, 1) := by decide +kernel
theorem dc_Ta_put_2 : decode M_Ta_put.2.1 2 = .ok (.ishl, 1) := by decide +kernel
theorem dc_Ta_put_3 : decode M_Ta_put.2.1 3 = .ok (.istore_n 3, 1) := by decide +kernel
theorem dc_Ta_put_4 : decode M_Ta_put.2.1 4 = .ok (.aload_n 0, 1) := by decide +kernel
theorem dc_Ta_put_5 : decode M_Ta_put.2.1 5 = .ok (.iload_n 2, 1) := by decide +kernel
theorem dc_Ta_put_6 : decode M_Ta_put.2.1 6 = .ok (.iconst 1, 1) := by decide +kernel
theorem dc_Ta_put_7 : decode M_Ta_put.2.1 7 = .ok (.if_icmp .ne 12, 3) := by decide +kernel
theorem dc_Ta_put_10 : decode M_Ta_put.2.1 10 = .ok (.aload_n 0, 1) := by decide +kernel
theorem dc_Ta_put_11 : decode M_Ta_put.2.1 11 = .ok (.getfield 25, 3) := by decide +kernel
theorem dc_Ta_put_14 : decode M_Ta_put.2.1 14 = .ok (.iload_n 3, 1) := by decide +kernel
theorem dc_Ta_put_15 : decode M_Ta_put.2.1 15 = .ok (.ior, 1) := by decide +kernel
theorem dc_Ta_put_16 : decode M_Ta_put.2.1 16 = .ok (.goto 11, 3) := by decide +kernel
theorem dc_Ta_put_19 : decode M_Ta_put.2.1 19 = .ok (.aload_n 0, 1) := by decide +kernel
theorem dc_Ta_put_20 : decode M_Ta_put.2.1 20 = .ok (.getfield 25, 3) := by decide +kernel
theorem dc_Ta_put_23 : decode M_Ta_put.2.1 23 = .ok (.iload_n 3, 1) := by decide +kernel
theorem dc_Ta_put_24 : decode M_Ta_put.2.1 24 = .ok (.iconst (-1), 1) := by decide +kernel
theorem dc_Ta_put_25 : decode M_Ta_put.2.1 25 = .ok (.ixor, 1) := by decide +kernel
theorem dc_Ta_put_26 : decode M_Ta_put.2.1 26 = .ok (.iand, 1) := by decide +kernel
theorem dc_Ta_put_27 : decode M_Ta_put.2.1 27 = .ok (.putfield 25, 3) := by decide +kernel
theorem dc_Ta_put_30 : decode M_Ta_put.2.1 30 = .ok (.aload_n 0, 1) := by decide +kernel
theorem dc_Ta_put_31 : decode M_Ta_put.2.1 31 = .ok (.iload_n 2, 1) := by decide +kernel
theorem dc_Ta_put_32 : decode M_Ta_put.2.1 32 = .ok (.ifCond .ne 12, 3) := by decide +kernel
theorem dc_Ta_put_35 : decode M_Ta_put.2.1 35 = .ok (.aload_n 0, 1) := by decide +kernel
theorem dc_Ta_put_36 : decode M_Ta_put.2.1 36 = .ok (.getfield 28, 3) := by decide +kernel
theorem dc_Ta_put_39 : decode M_Ta_put.2.1 39 = .ok (.iload_n 3, 1) := by decide +kernel
theorem dc_Ta_put_40 : decode M_Ta_put.2.1 40 = .ok (.ior, 1) := by decide +kernel
theorem dc_Ta_put_41 : decode M_Ta_put.2.1 41 = .ok (.goto 11, 3) := by decide +kernel
theorem dc_Ta_put_44 : decode M_Ta_put.2.1 44 = .ok (.aload_n 0, 1) := by decide +kernel
theorem dc_Ta_put_45 : decode M_Ta_put.2.1 45 = .ok (.getfield 28, 3) := by decide +kernel
theorem dc_Ta_put_48 : decode M_Ta_put.2.1 48 = .ok (.iload_n 3, 1) := by decide +kernel
theorem dc_Ta_put_49 : decode M_Ta_put.2.1 49 = .ok (.iconst (-1), 1) := by decide +kernel
theorem dc_Ta_put_50 : decode M_Ta_put.2.1 50 = .ok (.ixor, 1) := by decide +kernel
theorem dc_Ta_put_51 : decode M_Ta_put.2.1 51 = .ok (.iand, 1) := by decide +kernel
theorem dc_Ta_put_52 : decode M_Ta_put.2.1 52 = .ok (.putfield 28, 3) := by decide +kernel
theorem dc_Ta_put_55 : decode M_Ta_put.2.1 55 = .ok (.return_, 1) := by decide +kernel
def f_Ta_put (a0 : Nat) (a1 : Int32) (a2 : Int32) (h : xH) : Option (Unit × xH) := jn (fun (x3 : Int32) => gd (hK h a0 = 6) (jn (fun (x6 : Int32) => some ((), hIu (hIu h a0 2 x3) a0 3 x6)) (fun k7 => if a2 = 0 then k7 ((hI (hIu h a0 2 x3) a0 3) ||| (jShl (1 : Int32) a1)) else k7 ((hI (hIu h a0 2 x3) a0 3) &&& ((jShl (1 : Int32) a1) ^^^ (-1 : Int32)))))) (fun k4 => if a2 = (1 : Int32) then gd (hK h a0 = 6) (k4 ((hI h a0 2) ||| (jShl (1 : Int32) a1))) else gd (hK h a0 = 6) (k4 ((hI h a0 2) &&& ((jShl (1 : Int32) a1) ^^^ (-1 : Int32)))))
theorem t_Ta_put {l : Launch} {z : xZ} {d mc ms : Nat} {Ph : Option xV → xH → Prop} {a0 : Nat} {a1 : Int32} {a2 : Int32}  {h : xH} (hd : 1 ≤ d) (hk : OK (f_Ta_put a0 a1 a2 h) (fun q => Ph (none) q.2)) : Sx l z d mc ms M_Ta_put 0 (x_en [xR a0, xI a1, xI a2] 4) [] h Ph := by
  unfold f_Ta_put at hk
  refine sx_eq (lc2 := [some (xR a0), some (xI a1), some (xI a2), none]) rfl rfl ?_
  refine sx_iconst (v := (1 : Int32)) dc_Ta_put_0 (by decide) ?_
  refine sx_iload_n dc_Ta_put_1 rfl ?_
  refine sx_ishl dc_Ta_put_2 ?_
  refine sx_istore_n dc_Ta_put_3 (by decide) (sx_eq (lc2 := [some (xR a0), some (xI a1), some (xI a2), some (xI (jShl (1 : Int32) a1))]) rfl rfl ?_)
  refine sx_aload_n dc_Ta_put_4 rfl ?_
  refine sx_iload_n dc_Ta_put_5 rfl ?_
  refine sx_iconst (v := (1 : Int32)) dc_Ta_put_6 (by decide) ?_
  refine hk.j (X := fun x3 => Sx l z d mc ms M_Ta_put 27 [some (xR a0), some (xI a1), some (xI a2), some (xI (jShl (1 : Int32) a1))] [xI x3, xR a0] h Ph) (fun x3 hk => ?_) (fun k4 jk4 hk => ?_)
  · obtain ⟨g5, hk⟩ := hk.g
    refine sx_putI (ci := 6) (k := 2) rfl (by decide) wF_Ta_25 rfl g5 (Or.inl rfl) dc_Ta_put_27 ?_
    refine sx_aload_n dc_Ta_put_30 rfl ?_
    refine sx_iload_n dc_Ta_put_31 rfl ?_
    refine hk.j (X := fun x6 => Sx l z d mc ms M_Ta_put 52 [some (xR a0), some (xI a1), some (xI a2), some (xI (jShl (1 : Int32) a1))] [xI x6, xR a0] (hIu h a0 2 x3) Ph) (fun x6 hk => ?_) (fun k7 jk7 hk => ?_)
    · refine sx_putI (ci := 6) (k := 3) rfl (by decide) wF_Ta_28 rfl g5 (Or.inl rfl) dc_Ta_put_52 ?_
      exact sx_retV dc_Ta_put_55 rfl hk.val
    · refine sx_if_ne (tgt := 44) dc_Ta_put_32 (by decide) (fun c8 => ?_) (fun c8 => ?_)
      · replace hk := hk.f c8
        refine sx_aload_n dc_Ta_put_44 rfl ?_
        refine sx_get (ci := 6) (k := 3) rfl (by decide) wF_Ta_28 g5 dc_Ta_put_45 ?_
        refine sx_iload_n dc_Ta_put_48 rfl ?_
        refine sx_iconst (v := (-1 : Int32)) dc_Ta_put_49 (by decide) ?_
        refine sx_ixor dc_Ta_put_50 ?_
        refine sx_iand dc_Ta_put_51 ?_
        exact jk7 ((hI (hIu h a0 2 x3) a0 3) &&& ((jShl (1 : Int32) a1) ^^^ (-1 : Int32))) hk
      · replace hk := hk.t c8
        refine sx_aload_n dc_Ta_put_35 rfl ?_
        refine sx_get (ci := 6) (k := 3) rfl (by decide) wF_Ta_28 g5 dc_Ta_put_36 ?_
        refine sx_iload_n dc_Ta_put_39 rfl ?_
        refine sx_ior dc_Ta_put_40 ?_
        refine sx_goto (tgt := 52) dc_Ta_put_41 (by decide) ?_
        exact jk7 ((hI (hIu h a0 2 x3) a0 3) ||| (jShl (1 : Int32) a1)) hk
  · refine sx_icmp_ne (tgt := 19) dc_Ta_put_7 (by decide) (fun c9 => ?_) (fun c9 => ?_)
    · replace hk := hk.f c9
      refine sx_aload_n dc_Ta_put_19 rfl ?_
      obtain ⟨g10, hk⟩ := hk.g
      refine sx_get (ci := 6) (k := 2) rfl (by decide) wF_Ta_25 g10 dc_Ta_put_20 ?_
      refine sx_iload_n dc_Ta_put_23 rfl ?_
      refine sx_iconst (v := (-1 : Int32)) dc_Ta_put_24 (by decide) ?_
      refine sx_ixor dc_Ta_put_25 ?_
      refine sx_iand dc_Ta_put_26 ?_
      exact jk4 ((hI h a0 2) &&& ((jShl (1 : Int32) a1) ^^^ (-1 : Int32))) hk
    · replace hk := hk.t c9
      refine sx_aload_n dc_Ta_put_10 rfl ?_
      obtain ⟨g11, hk⟩ := hk.g
      refine sx_get (ci := 6) (k := 2) rfl (by decide) wF_Ta_25 g11 dc_Ta_put_11 ?_
      refine sx_iload_n dc_Ta_put_14 rfl ?_
      refine sx_ior dc_Ta_put_15 ?_
      refine sx_goto (tgt := 27) dc_Ta_put_16 (by decide) ?_
      exact jk4 ((hI h a0 2) ||| (jShl (1 : Int32) a1)) hk
theorem dc_To_init_0 : decode M_To_init.2.1 0 = .ok (.aload_n 0, 1) := by decide +kernel
theorem dc_To_init_1 : decode M_To_init.2.1 1 = .ok (.invokespecial 3, 3) := by decide +kernel
theorem dc_To_init_4 : decode M_To_init.2.1 4 = .ok (.aload_n 0, 1) := by decide +kernel
theorem dc_To_init_5 : decode M_To_init.2.1 5 = .ok (.iload_n 1, 1) := by decide +kernel
theorem dc_To_init_6 : decode M_To_init.2.1 6 = .ok (.putfield 9, 3) := by decide +kernel
theorem dc_To_init_9 : decode M_To_init.2.1 9 = .ok (.aload_n 0, 1) := by decide +kernel
theorem dc_To_init_10 : decode M_To_init.2.1 10 = .ok (.iload_n 2, 1) := by decide +kernel
theorem dc_To_init_11 : decode M_To_init.2.1 11 = .ok (.putfield 15, 3) := by decide +kernel
theorem dc_To_init_14 : decode M_To_init.2.1 14 = .ok (.return_, 1) := by decide +kernel
def f_To_init (a0 : Nat) (a1 : Int32) (a2 : Int32) (h : xH) : Option (Unit × xH) := gd (hK h a0 = 8) (some ((), hIu (hIu h a0 0 a1) a0 1 a2))
theorem t_To_init {l : Launch} {z : xZ} {d mc ms : Nat} {Ph : Option xV → xH → Prop} {a0 : Nat} {a1 : Int32} {a2 : Int32}  {h : xH} (hd : 2 ≤ d) (hk : OK (f_To_init a0 a1 a2 h) (fun q => Ph (none) q.2)) : Sx l z d mc ms M_To_init 0 (x_en [xR a0, xI a1, xI a2] 3) [] h Ph := by
  unfold f_To_init at hk
  refine sx_eq (lc2 := [some (xR a0), some (xI a1), some (xI a2)]) rfl rfl ?_
  refine sx_aload_n dc_To_init_0 rfl ?_
  obtain ⟨g2, hk⟩ := hk.g
  refine sx_objInit g2 (by decide) wM_To_3 wO wP (Nat.le_of_ble_eq_true rfl) (by omega) dc_To_init_1 ?_
  refine sx_aload_n dc_To_init_4 rfl ?_
  refine sx_iload_n dc_To_init_5 rfl ?_
  refine sx_putIF (ci := 8) (k := 0) rfl (by decide) wF_To_9 rfl (by rfl) rfl g2 (Or.inl rfl) dc_To_init_6 ?_
  refine sx_aload_n dc_To_init_9 rfl ?_
  refine sx_iload_n dc_To_init_10 rfl ?_
  refine sx_putIF (ci := 8) (k := 1) rfl (by decide) wF_To_15 rfl (by rfl) rfl g2 (Or.inl rfl) dc_To_init_11 ?_
  exact sx_retV dc_To_init_14 rfl hk.val
theorem dc_To_isOf_0 : decode M_To_isOf.2.1 0 = .ok (.aload_n 0, 1) := by decide +kernel
theorem dc_To_isOf_1 : decode M_To_isOf.2.1 1 = .ok (.getfield 9, 3) := by decide +kernel
theorem dc_To_isOf_4 : decode M_To_isOf.2.1 4 = .ok (.istore_n 2, 1) := by decide +kernel
theorem dc_To_isOf_5 : decode M_To_isOf.2.1 5 = .ok (.iconst 0, 1) := by decide +kernel
theorem dc_To_isOf_6 : decode M_To_isOf.2.1 6 = .ok (.istore_n 3, 1) := by decide +kernel
theorem dc_To_isOf_7 : decode M_To_isOf.2.1 7 = .ok (.iload_n 3, 1) := by decide +kernel
theorem dc_To_isOf_8 : decode M_To_isOf.2.1 8 = .ok (.bipush 6, 2) := by decide +kernel
theorem dc_To_isOf_10 : decode M_To_isOf.2.1 10 = .ok (.if_icmp .ge 32, 3) := by decide +kernel
theorem dc_To_isOf_13 : decode M_To_isOf.2.1 13 = .ok (.iload_n 2, 1) := by decide +kernel
theorem dc_To_isOf_14 : decode M_To_isOf.2.1 14 = .ok (.ifCond .lt 28, 3) := by decide +kernel
theorem dc_To_isOf_17 : decode M_To_isOf.2.1 17 = .ok (.iload_n 2, 1) := by decide +kernel
theorem dc_To_isOf_18 : decode M_To_isOf.2.1 18 = .ok (.bipush 6, 2) := by decide +kernel
theorem dc_To_isOf_20 : decode M_To_isOf.2.1 20 = .ok (.if_icmp .ge 22, 3) := by decide +kernel
theorem dc_To_isOf_23 : decode M_To_isOf.2.1 23 = .ok (.iload_n 2, 1) := by decide +kernel
theorem dc_To_isOf_24 : decode M_To_isOf.2.1 24 = .ok (.iload_n 1, 1) := by decide +kernel
theorem dc_To_isOf_25 : decode M_To_isOf.2.1 25 = .ok (.if_icmp .ne 5, 3) := by decide +kernel
theorem dc_To_isOf_28 : decode M_To_isOf.2.1 28 = .ok (.iconst 1, 1) := by decide +kernel
theorem dc_To_isOf_29 : decode M_To_isOf.2.1 29 = .ok (.ireturn, 1) := by decide +kernel
theorem dc_To_isOf_30 : decode M_To_isOf.2.1 30 = .ok (.getstatic 18, 3) := by decide +kernel
theorem dc_To_isOf_33 : decode M_To_isOf.2.1 33 = .ok (.iload_n 2, 1) := by decide +kernel
theorem dc_To_isOf_34 : decode M_To_isOf.2.1 34 = .ok (.iaload, 1) := by decide +kernel
theorem dc_To_isOf_35 : decode M_To_isOf.2.1 35 = .ok (.istore_n 2, 1) := by decide +kernel
theorem dc_To_isOf_36 : decode M_To_isOf.2.1 36 = .ok (.iinc 3 1, 3) := by decide +kernel
theorem dc_To_isOf_39 : decode M_To_isOf.2.1 39 = .ok (.goto (-32), 3) := by decide +kernel
theorem dc_To_isOf_42 : decode M_To_isOf.2.1 42 = .ok (.iconst 0, 1) := by decide +kernel
theorem dc_To_isOf_43 : decode M_To_isOf.2.1 43 = .ok (.ireturn, 1) := by decide +kernel
def f_To_isOf_L7 (a0 : Nat) (a1 : Int32) : Nat → Int32 → Int32 → xH → (Int32 → Int32 → xH → Option (Int32 × xH)) → Option (Int32 × xH)
  | 0, _, _, _, _ => none
  | n + 1, a2, a3, h, K => if (6 : Int32) ≤ a3 then K a2 a3 h else if a2 < 0 then K a2 a3 h else if (6 : Int32) ≤ a2 then K a2 a3 h else if a2 = a1 then some ((1 : Int32), h) else gd (¬ (a2 < 0 ∨ 6 ≤ a2.toNatClampNeg)) (f_To_isOf_L7 a0 a1 n (x_ab a2.toNatClampNeg) (a3 + (1 : Int32)) h K)
def f_To_isOf (a0 : Nat) (a1 : Int32) (h : xH) : Option (Int32 × xH) := gd (hK h a0 = 8) (f_To_isOf_L7 a0 a1 fu (hI h a0 0) (0 : Int32) h (fun v9 v10 h11 => some ((0 : Int32), h11)))
theorem t_To_isOf_L7 {l : Launch} {z : xZ} {d mc ms : Nat} {Ph : Option xV → xH → Prop} {a0 : Nat} {a1 : Int32}  (hd : 1 ≤ d) : ∀ (n : Nat) (a2 : Int32) (a3 : Int32) (h : xH) (K : Int32 → Int32 → xH → Option (Int32 × xH)), OK (f_To_isOf_L7 a0 a1 n a2 a3 h K) (fun q => Ph (some (xI q.1)) q.2) → (∀ (a2 : Int32) (a3 : Int32) (h : xH), OK (K a2 a3 h) (fun q => Ph (some (xI q.1)) q.2) → Sx l z d mc ms M_To_isOf 42 [some (xR a0), some (xI a1), some (xI a2), some (xI a3)] [] h Ph) → Sx l z d mc ms M_To_isOf 7 [some (xR a0), some (xI a1), some (xI a2), some (xI a3)] [] h Ph := by
  intro n
  induction n with
  | zero => intro a2 a3 h K hk hE; exact hk.no
  | succ n ih =>
    intro a2 a3 h K hk hE
    rw [f_To_isOf_L7] at hk
    refine sx_iload_n dc_To_isOf_7 rfl ?_
    refine sx_bipush (v := (6 : Int32)) dc_To_isOf_8 (by decide) ?_
    refine sx_icmp_ge (tgt := 42) dc_To_isOf_10 (by decide) (fun c4 => ?_) (fun c4 => ?_)
    · replace hk := hk.t c4
      exact hE a2 a3 h hk
    · replace hk := hk.f c4
      refine sx_iload_n dc_To_isOf_13 rfl ?_
      refine sx_if_lt (tgt := 42) dc_To_isOf_14 (by decide) (fun c5 => ?_) (fun c5 => ?_)
      · replace hk := hk.t c5
        exact hE a2 a3 h hk
      · replace hk := hk.f c5
        refine sx_iload_n dc_To_isOf_17 rfl ?_
        refine sx_bipush (v := (6 : Int32)) dc_To_isOf_18 (by decide) ?_
        refine sx_icmp_ge (tgt := 42) dc_To_isOf_20 (by decide) (fun c6 => ?_) (fun c6 => ?_)
        · replace hk := hk.t c6
          exact hE a2 a3 h hk
        · replace hk := hk.f c6
          refine sx_iload_n dc_To_isOf_23 rfl ?_
          refine sx_iload_n dc_To_isOf_24 rfl ?_
          refine sx_icmp_ne (tgt := 30) dc_To_isOf_25 (by decide) (fun c7 => ?_) (fun c7 => ?_)
          · replace hk := hk.f c7
            refine sx_above wF_To_18 dc_To_isOf_30 ?_
            refine sx_iload_n dc_To_isOf_33 rfl ?_
            obtain ⟨g8, hk⟩ := hk.g
            refine sx_abld g8 dc_To_isOf_34 ?_
            refine sx_istore_n dc_To_isOf_35 (by decide) (sx_eq (lc2 := [some (xR a0), some (xI a1), some (xI (x_ab a2.toNatClampNeg)), some (xI a3)]) rfl rfl ?_)
            refine sx_iinc (v := (1 : Int32)) dc_To_isOf_36 rfl (by decide) (by decide) (sx_eq (lc2 := [some (xR a0), some (xI a1), some (xI (x_ab a2.toNatClampNeg)), some (xI (a3 + (1 : Int32)))]) rfl rfl ?_)
            refine sx_goto (tgt := 7) dc_To_isOf_39 (by decide) ?_
            exact ih (x_ab a2.toNatClampNeg) (a3 + (1 : Int32)) h _ hk hE
          · replace hk := hk.t c7
            refine sx_iconst (v := (1 : Int32)) dc_To_isOf_28 (by decide) ?_
            exact sx_retT (v := (1 : Int32)) dc_To_isOf_29 (Or.inl ⟨rfl, rfl⟩) (by decide) hk.val
theorem t_To_isOf {l : Launch} {z : xZ} {d mc ms : Nat} {Ph : Option xV → xH → Prop} {a0 : Nat} {a1 : Int32}  {h : xH} (hd : 1 ≤ d) (hk : OK (f_To_isOf a0 a1 h) (fun q => Ph (some (xI q.1)) q.2)) : Sx l z d mc ms M_To_isOf 0 (x_en [xR a0, xI a1] 4) [] h Ph := by
  unfold f_To_isOf at hk
  refine sx_eq (lc2 := [some (xR a0), some (xI a1), none, none]) rfl rfl ?_
  refine sx_aload_n dc_To_isOf_0 rfl ?_
  obtain ⟨g3, hk⟩ := hk.g
  refine sx_get (ci := 8) (k := 0) rfl (by decide) wF_To_9 g3 dc_To_isOf_1 ?_
  refine sx_istore_n dc_To_isOf_4 (by decide) (sx_eq (lc2 := [some (xR a0), some (xI a1), some (xI (hI h a0 0)), none]) rfl rfl ?_)
  refine sx_iconst (v := (0 : Int32)) dc_To_isOf_5 (by decide) ?_
  refine sx_istore_n dc_To_isOf_6 (by decide) (sx_eq (lc2 := [some (xR a0), some (xI a1), some (xI (hI h a0 0)), some (xI (0 : Int32))]) rfl rfl ?_)
  refine t_To_isOf_L7 (by omega) _ _ _ _ _ hk (fun v9 v10 h11 hk => ?_)
  refine sx_iconst (v := (0 : Int32)) dc_To_isOf_42 (by decide) ?_
  exact sx_retT (v := (0 : Int32)) dc_To_isOf_43 (Or.inl ⟨rfl, rfl⟩) (by decide) hk.val
theorem dc_To_areUnlike_0 : decode M_To_areUnlike.2.1 0 = .ok (.iload_n 2, 1) := by decide +kernel
theorem dc_To_areUnlike_1 : decode M_To_areUnlike.2.1 1 = .ok (.ifCond .le 16, 3) := by decide +kernel
theorem dc_To_areUnlike_4 : decode M_To_areUnlike.2.1 4 = .ok (.iload_n 0, 1) := by decide +kernel
theorem dc_To_areUnlike_5 : decode M_To_areUnlike.2.1 5 = .ok (.iload_n 2, 1) := by decide +kernel
theorem dc_To_areUnlike_6 : decode M_To_areUnlike.2.1 6 = .ok (.irem, 1) := by decide +kernel
theorem dc_To_areUnlike_7 : decode M_To_areUnlike.2.1 7 = .ok (.iload_n 1, 1) := by decide +kernel
theorem dc_To_areUnlike_8 : decode M_To_areUnlike.2.1 8 = .ok (.iload_n 2, 1) := by decide +kernel
theorem dc_To_areUnlike_9 : decode M_To_areUnlike.2.1 9 = .ok (.irem, 1) := by decide +kernel
theorem dc_To_areUnlike_10 : decode M_To_areUnlike.2.1 10 = .ok (.if_icmp .eq 7, 3) := by decide +kernel
theorem dc_To_areUnlike_13 : decode M_To_areUnlike.2.1 13 = .ok (.iconst 1, 1) := by decide +kernel
theorem dc_To_areUnlike_14 : decode M_To_areUnlike.2.1 14 = .ok (.goto 4, 3) := by decide +kernel
theorem dc_To_areUnlike_17 : decode M_To_areUnlike.2.1 17 = .ok (.iconst 0, 1) := by decide +kernel
theorem dc_To_areUnlike_18 : decode M_To_areUnlike.2.1 18 = .ok (.ireturn, 1) := by decide +kernel
def f_To_areUnlike (a0 : Int32) (a1 : Int32) (a2 : Int32) (h : xH) : Option (Int32 × xH) := jn (fun (x3 : Int32) => some (nb x3, h)) (fun k4 => jn (fun (x5 : Unit) => k4 (0 : Int32)) (fun k6 => if a2 ≤ 0 then k6 () else gd (¬ a2 = 0) (gd (¬ a2 = 0) (if (jRem a0 a2) = (jRem a1 a2) then k6 () else k4 (1 : Int32)))))
theorem t_To_areUnlike {l : Launch} {z : xZ} {d mc ms : Nat} {Ph : Option xV → xH → Prop} {a0 : Int32} {a1 : Int32} {a2 : Int32}  {h : xH} (hd : 1 ≤ d) (hk : OK (f_To_areUnlike a0 a1 a2 h) (fun q => Ph (some (xI q.1)) q.2)) : Sx l z d mc ms M_To_areUnlike 0 (x_en [xI a0, xI a1, xI a2] 3) [] h Ph := by
  unfold f_To_areUnlike at hk
  refine sx_eq (lc2 := [some (xI a0), some (xI a1), some (xI a2)]) rfl rfl ?_
  refine sx_iload_n dc_To_areUnlike_0 rfl ?_
  refine hk.j (X := fun x3 => Sx l z d mc ms M_To_areUnlike 18 [some (xI a0), some (xI a1), some (xI a2)] [xI x3] h Ph) (fun x3 hk => ?_) (fun k4 jk4 hk => ?_)
  · exact sx_retT dc_To_areUnlike_18 (Or.inl ⟨rfl, rfl⟩) rfl hk.val
  · refine hk.j (X := fun x5 => Sx l z d mc ms M_To_areUnlike 17 [some (xI a0), some (xI a1), some (xI a2)] [] h Ph) (fun x5 hk => ?_) (fun k6 jk6 hk => ?_)
    · refine sx_iconst (v := (0 : Int32)) dc_To_areUnlike_17 (by decide) ?_
      exact jk4 (0 : Int32) hk
    · refine sx_if_le (tgt := 17) dc_To_areUnlike_1 (by decide) (fun c7 => ?_) (fun c7 => ?_)
      · replace hk := hk.t c7
        exact jk6 () hk
      · replace hk := hk.f c7
        refine sx_iload_n dc_To_areUnlike_4 rfl ?_
        refine sx_iload_n dc_To_areUnlike_5 rfl ?_
        obtain ⟨g8, hk⟩ := hk.g
        refine sx_irem dc_To_areUnlike_6 g8 ?_
        refine sx_iload_n dc_To_areUnlike_7 rfl ?_
        refine sx_iload_n dc_To_areUnlike_8 rfl ?_
        obtain ⟨g9, hk⟩ := hk.g
        refine sx_irem dc_To_areUnlike_9 g9 ?_
        refine sx_icmp_eq (tgt := 17) dc_To_areUnlike_10 (by decide) (fun c10 => ?_) (fun c10 => ?_)
        · replace hk := hk.t c10
          exact jk6 () hk
        · replace hk := hk.f c10
          refine sx_iconst (v := (1 : Int32)) dc_To_areUnlike_13 (by decide) ?_
          refine sx_goto (tgt := 18) dc_To_areUnlike_14 (by decide) ?_
          exact jk4 (1 : Int32) hk
theorem dc_To_areNextInRing_0 : decode M_To_areNextInRing.2.1 0 = .ok (.iload_n 2, 1) := by decide +kernel
theorem dc_To_areNextInRing_1 : decode M_To_areNextInRing.2.1 1 = .ok (.iload_n 1, 1) := by decide +kernel
theorem dc_To_areNextInRing_2 : decode M_To_areNextInRing.2.1 2 = .ok (.isub, 1) := by decide +kernel
theorem dc_To_areNextInRing_3 : decode M_To_areNextInRing.2.1 3 = .ok (.istore 4, 2) := by decide +kernel
theorem dc_To_areNextInRing_5 : decode M_To_areNextInRing.2.1 5 = .ok (.iload 4, 2) := by decide +kernel
theorem dc_To_areNextInRing_7 : decode M_To_areNextInRing.2.1 7 = .ok (.iconst 1, 1) := by decide +kernel
theorem dc_To_areNextInRing_8 : decode M_To_areNextInRing.2.1 8 = .ok (.if_icmp .eq 20, 3) := by decide +kernel
theorem dc_To_areNextInRing_11 : decode M_To_areNextInRing.2.1 11 = .ok (.iload 4, 2) := by decide +kernel
theorem dc_To_areNextInRing_13 : decode M_To_areNextInRing.2.1 13 = .ok (.iload_n 3, 1) := by decide +kernel
theorem dc_To_areNextInRing_14 : decode M_To_areNextInRing.2.1 14 = .ok (.iconst 1, 1) := by decide +kernel
theorem dc_To_areNextInRing_15 : decode M_To_areNextInRing.2.1 15 = .ok (.isub, 1) := by decide +kernel
theorem dc_To_areNextInRing_16 : decode M_To_areNextInRing.2.1 16 = .ok (.if_icmp .eq 12, 3) := by decide +kernel
theorem dc_To_areNextInRing_19 : decode M_To_areNextInRing.2.1 19 = .ok (.iload 4, 2) := by decide +kernel
theorem dc_To_areNextInRing_21 : decode M_To_areNextInRing.2.1 21 = .ok (.aload_n 0, 1) := by decide +kernel
theorem dc_To_areNextInRing_22 : decode M_To_areNextInRing.2.1 22 = .ok (.getfield 15, 3) := by decide +kernel
theorem dc_To_areNextInRing_25 : decode M_To_areNextInRing.2.1 25 = .ok (.if_icmp .ne 7, 3) := by decide +kernel
theorem dc_To_areNextInRing_28 : decode M_To_areNextInRing.2.1 28 = .ok (.iconst 1, 1) := by decide +kernel
theorem dc_To_areNextInRing_29 : decode M_To_areNextInRing.2.1 29 = .ok (.goto 4, 3) := by decide +kernel
theorem dc_To_areNextInRing_32 : decode M_To_areNextInRing.2.1 32 = .ok (.iconst 0, 1) := by decide +kernel
theorem dc_To_areNextInRing_33 : decode M_To_areNextInRing.2.1 33 = .ok (.ireturn, 1) := by decide +kernel
def f_To_areNextInRing (a0 : Nat) (a1 : Int32) (a2 : Int32) (a3 : Int32) (h : xH) : Option (Int32 × xH) := jn (fun (x2 : Int32) => some (nb x2, h)) (fun k3 => jn (fun (x4 : Unit) => k3 (1 : Int32)) (fun k5 => if (a2 - a1) = (1 : Int32) then k5 () else if (a2 - a1) = (a3 - (1 : Int32)) then k5 () else gd (hK h a0 = 8) (if (a2 - a1) = (hI h a0 1) then k5 () else k3 (0 : Int32))))
theorem t_To_areNextInRing {l : Launch} {z : xZ} {d mc ms : Nat} {Ph : Option xV → xH → Prop} {a0 : Nat} {a1 : Int32} {a2 : Int32} {a3 : Int32}  {h : xH} (hd : 1 ≤ d) (hk : OK (f_To_areNextInRing a0 a1 a2 a3 h) (fun q => Ph (some (xI q.1)) q.2)) : Sx l z d mc ms M_To_areNextInRing 0 (x_en [xR a0, xI a1, xI a2, xI a3] 5) [] h Ph := by
  unfold f_To_areNextInRing at hk
  refine sx_eq (lc2 := [some (xR a0), some (xI a1), some (xI a2), some (xI a3), none]) rfl rfl ?_
  refine sx_iload_n dc_To_areNextInRing_0 rfl ?_
  refine sx_iload_n dc_To_areNextInRing_1 rfl ?_
  refine sx_isub dc_To_areNextInRing_2 ?_
  refine sx_istore dc_To_areNextInRing_3 (by decide) (sx_eq (lc2 := [some (xR a0), some (xI a1), some (xI a2), some (xI a3), some (xI (a2 - a1))]) rfl rfl ?_)
  refine sx_iload dc_To_areNextInRing_5 rfl ?_
  refine sx_iconst (v := (1 : Int32)) dc_To_areNextInRing_7 (by decide) ?_
  refine hk.j (X := fun x2 => Sx l z d mc ms M_To_areNextInRing 33 [some (xR a0), some (xI a1), some (xI a2), some (xI a3), some (xI (a2 - a1))] [xI x2] h Ph) (fun x2 hk => ?_) (fun k3 jk3 hk => ?_)
  · exact sx_retT dc_To_areNextInRing_33 (Or.inl ⟨rfl, rfl⟩) rfl hk.val
  · refine hk.j (X := fun x4 => Sx l z d mc ms M_To_areNextInRing 28 [some (xR a0), some (xI a1), some (xI a2), some (xI a3), some (xI (a2 - a1))] [] h Ph) (fun x4 hk => ?_) (fun k5 jk5 hk => ?_)
    · refine sx_iconst (v := (1 : Int32)) dc_To_areNextInRing_28 (by decide) ?_
      refine sx_goto (tgt := 33) dc_To_areNextInRing_29 (by decide) ?_
      exact jk3 (1 : Int32) hk
    · refine sx_icmp_eq (tgt := 28) dc_To_areNextInRing_8 (by decide) (fun c6 => ?_) (fun c6 => ?_)
      · replace hk := hk.t c6
        exact jk5 () hk
      · replace hk := hk.f c6
        refine sx_iload dc_To_areNextInRing_11 rfl ?_
        refine sx_iload_n dc_To_areNextInRing_13 rfl ?_
        refine sx_iconst (v := (1 : Int32)) dc_To_areNextInRing_14 (by decide) ?_
        refine sx_isub dc_To_areNextInRing_15 ?_
        refine sx_icmp_eq (tgt := 28) dc_To_areNextInRing_16 (by decide) (fun c7 => ?_) (fun c7 => ?_)
        · replace hk := hk.t c7
          exact jk5 () hk
        · replace hk := hk.f c7
          refine sx_iload dc_To_areNextInRing_19 rfl ?_
          refine sx_aload_n dc_To_areNextInRing_21 rfl ?_
          obtain ⟨g8, hk⟩ := hk.g
          refine sx_get (ci := 8) (k := 1) rfl (by decide) wF_To_15 g8 dc_To_areNextInRing_22 ?_
          refine sx_icmp_ne (tgt := 32) dc_To_areNextInRing_25 (by decide) (fun c9 => ?_) (fun c9 => ?_)
          · replace hk := hk.f c9
            refine sx_iconst (v := (0 : Int32)) dc_To_areNextInRing_32 (by decide) ?_
            exact jk3 (0 : Int32) hk
          · replace hk := hk.t c9
            exact jk5 () hk
theorem dc_To_knows_0 : decode M_To_knows.2.1 0 = .ok (.aload_n 0, 1) := by decide +kernel
theorem dc_To_knows_1 : decode M_To_knows.2.1 1 = .ok (.getfield 9, 3) := by decide +kernel
theorem dc_To_knows_4 : decode M_To_knows.2.1 4 = .ok (.tableswitch 139 1 5 #[36, 43, 51, 80, 100], 36) := by decide +kernel
theorem dc_To_knows_40 : decode M_To_knows.2.1 40 = .ok (.iload_n 1, 1) := by decide +kernel
theorem dc_To_knows_41 : decode M_To_knows.2.1 41 = .ok (.iload_n 2, 1) := by decide +kernel
theorem dc_To_knows_42 : decode M_To_knows.2.1 42 = .ok (.iconst 2, 1) := by decide +kernel
theorem dc_To_knows_43 : decode M_To_knows.2.1 43 = .ok (.invokestatic 22, 3) := by decide +kernel
theorem dc_To_knows_46 : decode M_To_knows.2.1 46 = .ok (.ireturn, 1) := by decide +kernel
theorem dc_To_knows_47 : decode M_To_knows.2.1 47 = .ok (.aload_n 0, 1) := by decide +kernel
theorem dc_To_knows_48 : decode M_To_knows.2.1 48 = .ok (.iload_n 1, 1) := by decide +kernel
theorem dc_To_knows_49 : decode M_To_knows.2.1 49 = .ok (.iload_n 2, 1) := by decide +kernel
theorem dc_To_knows_50 : decode M_To_knows.2.1 50 = .ok (.iload_n 3, 1) := by decide +kernel
theorem dc_To_knows_51 : decode M_To_knows.2.1 51 = .ok (.invokevirtual 26, 3) := by decide +kernel
theorem dc_To_knows_54 : decode M_To_knows.2.1 54 = .ok (.ireturn, 1) := by decide +kernel
theorem dc_To_knows_55 : decode M_To_knows.2.1 55 = .ok (.iload_n 1, 1) := by decide +kernel
theorem dc_To_knows_56 : decode M_To_knows.2.1 56 = .ok (.iload_n 2, 1) := by decide +kernel
theorem dc_To_knows_57 : decode M_To_knows.2.1 57 = .ok (.iconst 2, 1) := by decide +kernel
theorem dc_To_knows_58 : decode M_To_knows.2.1 58 = .ok (.invokestatic 22, 3) := by decide +kernel
theorem dc_To_knows_61 : decode M_To_knows.2.1 61 = .ok (.ifCond .ne 17, 3) := by decide +kernel
theorem dc_To_knows_64 : decode M_To_knows.2.1 64 = .ok (.iload_n 1, 1) := by decide +kernel
theorem dc_To_knows_65 : decode M_To_knows.2.1 65 = .ok (.iload_n 2, 1) := by decide +kernel
theorem dc_To_knows_66 : decode M_To_knows.2.1 66 = .ok (.aload_n 0, 1) := by decide +kernel
theorem dc_To_knows_67 : decode M_To_knows.2.1 67 = .ok (.getfield 15, 3) := by decide +kernel
theorem dc_To_knows_70 : decode M_To_knows.2.1 70 = .ok (.iconst 2, 1) := by decide +kernel
theorem dc_To_knows_71 : decode M_To_knows.2.1 71 = .ok (.iadd, 1) := by decide +kernel
theorem dc_To_knows_72 : decode M_To_knows.2.1 72 = .ok (.invokestatic 22, 3) := by decide +kernel
theorem dc_To_knows_75 : decode M_To_knows.2.1 75 = .ok (.ifCond .eq 7, 3) := by decide +kernel
theorem dc_To_knows_78 : decode M_To_knows.2.1 78 = .ok (.iconst 1, 1) := by decide +kernel
theorem dc_To_knows_79 : decode M_To_knows.2.1 79 = .ok (.goto 4, 3) := by decide +kernel
theorem dc_To_knows_82 : decode M_To_knows.2.1 82 = .ok (.iconst 0, 1) := by decide +kernel
theorem dc_To_knows_83 : decode M_To_knows.2.1 83 = .ok (.ireturn, 1) := by decide +kernel
theorem dc_To_knows_84 : decode M_To_knows.2.1 84 = .ok (.aload_n 0, 1) := by decide +kernel
theorem dc_To_knows_85 : decode M_To_knows.2.1 85 = .ok (.iload_n 1, 1) := by decide +kernel
theorem dc_To_knows_86 : decode M_To_knows.2.1 86 = .ok (.iload_n 2, 1) := by decide +kernel
theorem dc_To_knows_87 : decode M_To_knows.2.1 87 = .ok (.iload_n 3, 1) := by decide +kernel
theorem dc_To_knows_88 : decode M_To_knows.2.1 88 = .ok (.invokevirtual 26, 3) := by decide +kernel
theorem dc_To_knows_91 : decode M_To_knows.2.1 91 = .ok (.ifCond .ne 7, 3) := by decide +kernel
theorem dc_To_knows_94 : decode M_To_knows.2.1 94 = .ok (.iload_n 1, 1) := by decide +kernel
theorem dc_To_knows_95 : decode M_To_knows.2.1 95 = .ok (.ifCond .ne 7, 3) := by decide +kernel
theorem dc_To_knows_98 : decode M_To_knows.2.1 98 = .ok (.iconst 1, 1) := by decide +kernel
theorem dc_To_knows_99 : decode M_To_knows.2.1 99 = .ok (.goto 4, 3) := by decide +kernel
theorem dc_To_knows_102 : decode M_To_knows.2.1 102 = .ok (.iconst 0, 1) := by decide +kernel
theorem dc_To_knows_103 : decode M_To_knows.2.1 103 = .ok (.ireturn, 1) := by decide +kernel
theorem dc_To_knows_104 : decode M_To_knows.2.1 104 = .ok (.aload_n 0, 1) := by decide +kernel
theorem dc_To_knows_105 : decode M_To_knows.2.1 105 = .ok (.iload_n 1, 1) := by decide +kernel
theorem dc_To_knows_106 : decode M_To_knows.2.1 106 = .ok (.iload_n 2, 1) := by decide +kernel
theorem dc_To_knows_107 : decode M_To_knows.2.1 107 = .ok (.iload_n 3, 1) := by decide +kernel
theorem dc_To_knows_108 : decode M_To_knows.2.1 108 = .ok (.invokevirtual 26, 3) := by decide +kernel
theorem dc_To_knows_111 : decode M_To_knows.2.1 111 = .ok (.iload_n 1, 1) := by decide +kernel
theorem dc_To_knows_112 : decode M_To_knows.2.1 112 = .ok (.bipush 7, 2) := by decide +kernel
theorem dc_To_knows_114 : decode M_To_knows.2.1 114 = .ok (.imul, 1) := by decide +kernel
theorem dc_To_knows_115 : decode M_To_knows.2.1 115 = .ok (.iload_n 2, 1) := by decide +kernel
theorem dc_To_knows_116 : decode M_To_knows.2.1 116 = .ok (.iconst 5, 1) := by decide +kernel
theorem dc_To_knows_117 : decode M_To_knows.2.1 117 = .ok (.imul, 1) := by decide +kernel
theorem dc_To_knows_118 : decode M_To_knows.2.1 118 = .ok (.iadd, 1) := by decide +kernel
theorem dc_To_knows_119 : decode M_To_knows.2.1 119 = .ok (.aload_n 0, 1) := by decide +kernel
theorem dc_To_knows_120 : decode M_To_knows.2.1 120 = .ok (.getfield 15, 3) := by decide +kernel
theorem dc_To_knows_123 : decode M_To_knows.2.1 123 = .ok (.iadd, 1) := by decide +kernel
theorem dc_To_knows_124 : decode M_To_knows.2.1 124 = .ok (.iconst 3, 1) := by decide +kernel
theorem dc_To_knows_125 : decode M_To_knows.2.1 125 = .ok (.irem, 1) := by decide +kernel
theorem dc_To_knows_126 : decode M_To_knows.2.1 126 = .ok (.ifCond .ne 7, 3) := by decide +kernel
theorem dc_To_knows_129 : decode M_To_knows.2.1 129 = .ok (.iconst 1, 1) := by decide +kernel
theorem dc_To_knows_130 : decode M_To_knows.2.1 130 = .ok (.goto 4, 3) := by decide +kernel
theorem dc_To_knows_133 : decode M_To_knows.2.1 133 = .ok (.iconst 0, 1) := by decide +kernel
theorem dc_To_knows_134 : decode M_To_knows.2.1 134 = .ok (.if_icmp .eq 7, 3) := by decide +kernel
theorem dc_To_knows_137 : decode M_To_knows.2.1 137 = .ok (.iconst 1, 1) := by decide +kernel
theorem dc_To_knows_138 : decode M_To_knows.2.1 138 = .ok (.goto 4, 3) := by decide +kernel
theorem dc_To_knows_141 : decode M_To_knows.2.1 141 = .ok (.iconst 0, 1) := by decide +kernel
theorem dc_To_knows_142 : decode M_To_knows.2.1 142 = .ok (.ireturn, 1) := by decide +kernel
theorem dc_To_knows_143 : decode M_To_knows.2.1 143 = .ok (.iconst 0, 1) := by decide +kernel
theorem dc_To_knows_144 : decode M_To_knows.2.1 144 = .ok (.ireturn, 1) := by decide +kernel
def f_To_knows (a0 : Nat) (a1 : Int32) (a2 : Int32) (a3 : Int32) (h : xH) : Option (Int32 × xH) := gd (hK h a0 = 8) (if (hI h a0 0) = (1 : Int32) then Option.bind (f_To_areUnlike a1 a2 (2 : Int32) h) (fun q11 => some (nb q11.1, q11.2)) else if (hI h a0 0) = (2 : Int32) then Option.bind (f_To_areNextInRing a0 a1 a2 a3 h) (fun q13 => some (nb q13.1, q13.2)) else if (hI h a0 0) = (3 : Int32) then Option.bind (f_To_areUnlike a1 a2 (2 : Int32) h) (fun q15 => jn (fun (x16 : Int32 × xH) => some (nb x16.1, x16.2)) (fun k17 => jn (fun (x18 : xH) => k17 ((1 : Int32), x18)) (fun k19 => if q15.1 = 0 then gd (hK q15.2 a0 = 8) (Option.bind (f_To_areUnlike a1 a2 ((hI q15.2 a0 1) + (2 : Int32)) q15.2) (fun q22 => if q22.1 = 0 then k17 ((0 : Int32), q22.2) else k19 q22.2)) else k19 q15.2))) else if (hI h a0 0) = (4 : Int32) then Option.bind (f_To_areNextInRing a0 a1 a2 a3 h) (fun q25 => jn (fun (x26 : Int32) => some (nb x26, q25.2)) (fun k27 => jn (fun (x28 : Unit) => k27 (1 : Int32)) (fun k29 => if q25.1 = 0 then if a1 = 0 then k29 () else k27 (0 : Int32) else k29 ()))) else if (hI h a0 0) = (5 : Int32) then Option.bind (f_To_areNextInRing a0 a1 a2 a3 h) (fun q33 => gd (hK q33.2 a0 = 8) (some (nb (if q33.1 = (if (jRem (((a1 * (7 : Int32)) + (a2 * (5 : Int32))) + (hI q33.2 a0 1)) (3 : Int32)) = 0 then (1 : Int32) else (0 : Int32)) then (0 : Int32) else (1 : Int32)), q33.2))) else some ((0 : Int32), h))
theorem t_To_knows {l : Launch} {z : xZ} {d mc ms : Nat} {Ph : Option xV → xH → Prop} {a0 : Nat} {a1 : Int32} {a2 : Int32} {a3 : Int32}  {h : xH} (hd : 2 ≤ d) (hk : OK (f_To_knows a0 a1 a2 a3 h) (fun q => Ph (some (xI q.1)) q.2)) : Sx l z d mc ms M_To_knows 0 (x_en [xR a0, xI a1, xI a2, xI a3] 4) [] h Ph := by
  unfold f_To_knows at hk
  refine sx_eq (lc2 := [some (xR a0), some (xI a1), some (xI a2), some (xI a3)]) rfl rfl ?_
  refine sx_aload_n dc_To_knows_0 rfl ?_
  obtain ⟨g10, hk⟩ := hk.g
  refine sx_get (ci := 8) (k := 0) rfl (by decide) wF_To_9 g10 dc_To_knows_1 ?_
  by_cases c12 : (hI h a0 0) = (1 : Int32)
  · replace hk := hk.t c12
    refine sx_tabIn (off := 36) (tgt := 40) dc_To_knows_4 (by rw [c12]; decide) (by rw [c12]; decide) (by rw [c12]; rfl) (by decide) ?_
    refine sx_iload_n dc_To_knows_40 rfl ?_
    refine sx_iload_n dc_To_knows_41 rfl ?_
    refine sx_iconst (v := (2 : Int32)) dc_To_knows_42 (by decide) ?_
    obtain ⟨q11, eq11, hk⟩ := hk.bind
    refine sx_callS (d2 := d - 1) (mc2 := 0) (ms2 := 0) (as := [xI a1, xI a2, xI (2 : Int32)]) mk_To_areUnlike rfl wM_To_22 mt_To_areUnlike rfl (Nat.le_of_ble_eq_true rfl) (Nat.le_of_ble_eq_true rfl) dc_To_knows_43 (by omega) (Nat.zero_le _) (Nat.zero_le _) ?_
    refine t_To_areUnlike (by omega) ⟨q11, eq11, ?_⟩
    refine sx_eq0 (lc2 := [some (xR a0), some (xI a1), some (xI a2), some (xI a3)]) (st2 := [xI q11.1]) rfl rfl ?_
    exact sx_retT dc_To_knows_46 (Or.inl ⟨rfl, rfl⟩) rfl hk.val
  · replace hk := hk.f c12
    by_cases c14 : (hI h a0 0) = (2 : Int32)
    · replace hk := hk.t c14
      refine sx_tabIn (off := 43) (tgt := 47) dc_To_knows_4 (by rw [c14]; decide) (by rw [c14]; decide) (by rw [c14]; rfl) (by decide) ?_
      refine sx_aload_n dc_To_knows_47 rfl ?_
      refine sx_iload_n dc_To_knows_48 rfl ?_
      refine sx_iload_n dc_To_knows_49 rfl ?_
      refine sx_iload_n dc_To_knows_50 rfl ?_
      obtain ⟨q13, eq13, hk⟩ := hk.bind
      refine sx_callV (d2 := d - 1) (mc2 := 0) (ms2 := 0) (as := [xI a1, xI a2, xI a3]) mk_To_areNextInRing rfl (x_rk (ci := 8) g10 rfl rfl) wM_To_26 mi_To_areNextInRing me_To_areNextInRing rfl (Nat.le_of_ble_eq_true rfl) (Nat.le_of_ble_eq_true rfl) dc_To_knows_51 (by omega) (Nat.zero_le _) (Nat.zero_le _) ?_
      refine t_To_areNextInRing (by omega) ⟨q13, eq13, ?_⟩
      refine sx_eq0 (lc2 := [some (xR a0), some (xI a1), some (xI a2), some (xI a3)]) (st2 := [xI q13.1]) rfl rfl ?_
      exact sx_retT dc_To_knows_54 (Or.inl ⟨rfl, rfl⟩) rfl hk.val
    · replace hk := hk.f c14
      by_cases c24 : (hI h a0 0) = (3 : Int32)
      · replace hk := hk.t c24
        refine sx_tabIn (off := 51) (tgt := 55) dc_To_knows_4 (by rw [c24]; decide) (by rw [c24]; decide) (by rw [c24]; rfl) (by decide) ?_
        refine sx_iload_n dc_To_knows_55 rfl ?_
        refine sx_iload_n dc_To_knows_56 rfl ?_
        refine sx_iconst (v := (2 : Int32)) dc_To_knows_57 (by decide) ?_
        obtain ⟨q15, eq15, hk⟩ := hk.bind
        refine sx_callS (d2 := d - 1) (mc2 := 0) (ms2 := 0) (as := [xI a1, xI a2, xI (2 : Int32)]) mk_To_areUnlike rfl wM_To_22 mt_To_areUnlike rfl (Nat.le_of_ble_eq_true rfl) (Nat.le_of_ble_eq_true rfl) dc_To_knows_58 (by omega) (Nat.zero_le _) (Nat.zero_le _) ?_
        refine t_To_areUnlike (by omega) ⟨q15, eq15, ?_⟩
        refine sx_eq0 (lc2 := [some (xR a0), some (xI a1), some (xI a2), some (xI a3)]) (st2 := [xI q15.1]) rfl rfl ?_
        refine hk.j (X := fun x16 => Sx l z d mc ms M_To_knows 83 [some (xR a0), some (xI a1), some (xI a2), some (xI a3)] [xI x16.1] x16.2 Ph) (fun x16 hk => ?_) (fun k17 jk17 hk => ?_)
        · exact sx_retT dc_To_knows_83 (Or.inl ⟨rfl, rfl⟩) rfl hk.val
        · refine hk.j (X := fun x18 => Sx l z d mc ms M_To_knows 78 [some (xR a0), some (xI a1), some (xI a2), some (xI a3)] [] x18 Ph) (fun x18 hk => ?_) (fun k19 jk19 hk => ?_)
          · refine sx_iconst (v := (1 : Int32)) dc_To_knows_78 (by decide) ?_
            refine sx_goto (tgt := 83) dc_To_knows_79 (by decide) ?_
            exact jk17 ((1 : Int32), x18) hk
          · refine sx_if_ne (tgt := 78) dc_To_knows_61 (by decide) (fun c20 => ?_) (fun c20 => ?_)
            · replace hk := hk.f c20
              exact jk19 q15.2 hk
            · replace hk := hk.t c20
              refine sx_iload_n dc_To_knows_64 rfl ?_
              refine sx_iload_n dc_To_knows_65 rfl ?_
              refine sx_aload_n dc_To_knows_66 rfl ?_
              obtain ⟨g21, hk⟩ := hk.g
              refine sx_get (ci := 8) (k := 1) rfl (by decide) wF_To_15 g21 dc_To_knows_67 ?_
              refine sx_iconst (v := (2 : Int32)) dc_To_knows_70 (by decide) ?_
              refine sx_iadd dc_To_knows_71 ?_
              obtain ⟨q22, eq22, hk⟩ := hk.bind
              refine sx_callS (d2 := d - 1) (mc2 := 0) (ms2 := 0) (as := [xI a1, xI a2, xI ((hI q15.2 a0 1) + (2 : Int32))]) mk_To_areUnlike rfl wM_To_22 mt_To_areUnlike rfl (Nat.le_of_ble_eq_true rfl) (Nat.le_of_ble_eq_true rfl) dc_To_knows_72 (by omega) (Nat.zero_le _) (Nat.zero_le _) ?_
              refine t_To_areUnlike (by omega) ⟨q22, eq22, ?_⟩
              refine sx_eq0 (lc2 := [some (xR a0), some (xI a1), some (xI a2), some (xI a3)]) (st2 := [xI q22.1]) rfl rfl ?_
              refine sx_if_eq (tgt := 82) dc_To_knows_75 (by decide) (fun c23 => ?_) (fun c23 => ?_)
              · replace hk := hk.t c23
                refine sx_iconst (v := (0 : Int32)) dc_To_knows_82 (by decide) ?_
                exact jk17 ((0 : Int32), q22.2) hk
              · replace hk := hk.f c23
                exact jk19 q22.2 hk
      · replace hk := hk.f c24
        by_cases c32 : (hI h a0 0) = (4 : Int32)
        · replace hk := hk.t c32
          refine sx_tabIn (off := 80) (tgt := 84) dc_To_knows_4 (by rw [c32]; decide) (by rw [c32]; decide) (by rw [c32]; rfl) (by decide) ?_
          refine sx_aload_n dc_To_knows_84 rfl ?_
          refine sx_iload_n dc_To_knows_85 rfl ?_
          refine sx_iload_n dc_To_knows_86 rfl ?_
          refine sx_iload_n dc_To_knows_87 rfl ?_
          obtain ⟨q25, eq25, hk⟩ := hk.bind
          refine sx_callV (d2 := d - 1) (mc2 := 0) (ms2 := 0) (as := [xI a1, xI a2, xI a3]) mk_To_areNextInRing rfl (x_rk (ci := 8) g10 rfl rfl) wM_To_26 mi_To_areNextInRing me_To_areNextInRing rfl (Nat.le_of_ble_eq_true rfl) (Nat.le_of_ble_eq_true rfl) dc_To_knows_88 (by omega) (Nat.zero_le _) (Nat.zero_le _) ?_
          refine t_To_areNextInRing (by omega) ⟨q25, eq25, ?_⟩
          refine sx_eq0 (lc2 := [some (xR a0), some (xI a1), some (xI a2), some (xI a3)]) (st2 := [xI q25.1]) rfl rfl ?_
          refine hk.j (X := fun x26 => Sx l z d mc ms M_To_knows 103 [some (xR a0), some (xI a1), some (xI a2), some (xI a3)] [xI x26] q25.2 Ph) (fun x26 hk => ?_) (fun k27 jk27 hk => ?_)
          · exact sx_retT dc_To_knows_103 (Or.inl ⟨rfl, rfl⟩) rfl hk.val
          · refine hk.j (X := fun x28 => Sx l z d mc ms M_To_knows 98 [some (xR a0), some (xI a1), some (xI a2), some (xI a3)] [] q25.2 Ph) (fun x28 hk => ?_) (fun k29 jk29 hk => ?_)
            · refine sx_iconst (v := (1 : Int32)) dc_To_knows_98 (by decide) ?_
              refine sx_goto (tgt := 103) dc_To_knows_99 (by decide) ?_
              exact jk27 (1 : Int32) hk
            · refine sx_if_ne (tgt := 98) dc_To_knows_91 (by decide) (fun c30 => ?_) (fun c30 => ?_)
              · replace hk := hk.f c30
                exact jk29 () hk
              · replace hk := hk.t c30
                refine sx_iload_n dc_To_knows_94 rfl ?_
                refine sx_if_ne (tgt := 102) dc_To_knows_95 (by decide) (fun c31 => ?_) (fun c31 => ?_)
                · replace hk := hk.f c31
                  refine sx_iconst (v := (0 : Int32)) dc_To_knows_102 (by decide) ?_
                  exact jk27 (0 : Int32) hk
                · replace hk := hk.t c31
                  exact jk29 () hk
        · replace hk := hk.f c32
          by_cases c39 : (hI h a0 0) = (5 : Int32)
          · replace hk := hk.t c39
            refine sx_tabIn (off := 100) (tgt := 104) dc_To_knows_4 (by rw [c39]; decide) (by rw [c39]; decide) (by rw [c39]; rfl) (by decide) ?_
            refine sx_aload_n dc_To_knows_104 rfl ?_
            refine sx_iload_n dc_To_knows_105 rfl ?_
            refine sx_iload_n dc_To_knows_106 rfl ?_
            refine sx_iload_n dc_To_knows_107 rfl ?_
            obtain ⟨q33, eq33, hk⟩ := hk.bind
            refine sx_callV (d2 := d - 1) (mc2 := 0) (ms2 := 0) (as := [xI a1, xI a2, xI a3]) mk_To_areNextInRing rfl (x_rk (ci := 8) g10 rfl rfl) wM_To_26 mi_To_areNextInRing me_To_areNextInRing rfl (Nat.le_of_ble_eq_true rfl) (Nat.le_of_ble_eq_true rfl) dc_To_knows_108 (by omega) (Nat.zero_le _) (Nat.zero_le _) ?_
            refine t_To_areNextInRing (by omega) ⟨q33, eq33, ?_⟩
            refine sx_eq0 (lc2 := [some (xR a0), some (xI a1), some (xI a2), some (xI a3)]) (st2 := [xI q33.1]) rfl rfl ?_
            refine sx_iload_n dc_To_knows_111 rfl ?_
            refine sx_bipush (v := (7 : Int32)) dc_To_knows_112 (by decide) ?_
            refine sx_imul dc_To_knows_114 ?_
            refine sx_iload_n dc_To_knows_115 rfl ?_
            refine sx_iconst (v := (5 : Int32)) dc_To_knows_116 (by decide) ?_
            refine sx_imul dc_To_knows_117 ?_
            refine sx_iadd dc_To_knows_118 ?_
            refine sx_aload_n dc_To_knows_119 rfl ?_
            obtain ⟨g34, hk⟩ := hk.g
            refine sx_get (ci := 8) (k := 1) rfl (by decide) wF_To_15 g34 dc_To_knows_120 ?_
            refine sx_iadd dc_To_knows_123 ?_
            refine sx_iconst (v := (3 : Int32)) dc_To_knows_124 (by decide) ?_
            refine sx_irem dc_To_knows_125 (by decide) ?_
            suffices J35 : Sx l z d mc ms M_To_knows 134 [some (xR a0), some (xI a1), some (xI a2), some (xI a3)] [xI (if (jRem (((a1 * (7 : Int32)) + (a2 * (5 : Int32))) + (hI q33.2 a0 1)) (3 : Int32)) = 0 then (1 : Int32) else (0 : Int32)), xI q33.1] q33.2 Ph by
              refine sx_if_ne (tgt := 133) dc_To_knows_126 (by decide) (fun c36 => ?_) (fun c36 => ?_)
              · try simp only [if_neg c36] at J35
                refine sx_iconst (v := (0 : Int32)) dc_To_knows_133 (by decide) ?_
                exact J35
              · try simp only [if_pos c36] at J35
                refine sx_iconst (v := (1 : Int32)) dc_To_knows_129 (by decide) ?_
                refine sx_goto (tgt := 134) dc_To_knows_130 (by decide) ?_
                exact J35
            suffices J37 : Sx l z d mc ms M_To_knows 142 [some (xR a0), some (xI a1), some (xI a2), some (xI a3)] [xI (if q33.1 = (if (jRem (((a1 * (7 : Int32)) + (a2 * (5 : Int32))) + (hI q33.2 a0 1)) (3 : Int32)) = 0 then (1 : Int32) else (0 : Int32)) then (0 : Int32) else (1 : Int32))] q33.2 Ph by
              refine sx_icmp_eq (tgt := 141) dc_To_knows_134 (by decide) (fun c38 => ?_) (fun c38 => ?_)
              · try simp only [if_pos c38] at J37
                refine sx_iconst (v := (0 : Int32)) dc_To_knows_141 (by decide) ?_
                exact J37
              · try simp only [if_neg c38] at J37
                refine sx_iconst (v := (1 : Int32)) dc_To_knows_137 (by decide) ?_
                refine sx_goto (tgt := 142) dc_To_knows_138 (by decide) ?_
                exact J37
            exact sx_retT dc_To_knows_142 (Or.inl ⟨rfl, rfl⟩) rfl hk.val
          · replace hk := hk.f c39
            refine sx_tabOut (tgt := 143) dc_To_knows_4 (sw_out (fun k h1 h2 => ?_)) (by decide) ?_
            · have h3 : k = 1 ∨ k = 2 ∨ k = 3 ∨ k = 4 ∨ k = 5 := by omega
              rcases h3 with rfl | rfl | rfl | rfl | rfl
              · exact c12
              · exact c14
              · exact c24
              · exact c32
              · exact c39
            · refine sx_iconst (v := (0 : Int32)) dc_To_knows_143 (by decide) ?_
              exact sx_retT (v := (0 : Int32)) dc_To_knows_144 (Or.inl ⟨rfl, rfl⟩) (by decide) hk.val
end
