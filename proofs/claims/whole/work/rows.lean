section
/-- a private method of a class that the tables say can be made, by its rows of tables_1 -/
def lw_okq (q : MethodName × Nat) : Prop := (q.1.cls ≠ "java/lang/invoke/MethodHandle" ∧ q.1.cls ≠ "java/lang/invoke/VarHandle") ∧ Cond.instantiable q.1.cls q.2 ∈ tables_1 ∧ Cond.privateMethod q.1 ∈ tables_1 ∧ Cond.instanceMethod q.1 ∈ tables_1
theorem lw_p0 : lw_okq (⟨"ThreesAtTable", "learnFirstText", "()V"⟩, 15) := ⟨⟨by decide +kernel, by decide +kernel⟩, List.mem_of_getElem? (i := 23) (by decide +kernel), List.mem_of_getElem? (i := 257) (by decide +kernel), List.mem_of_getElem? (i := 258) (by decide +kernel)⟩
theorem lw_p1 : lw_okq (⟨"ThreesAtTable$Reader", "advance", "()V"⟩, 9) := ⟨⟨by decide +kernel, by decide +kernel⟩, List.mem_of_getElem? (i := 199) (by decide +kernel), List.mem_of_getElem? (i := 318) (by decide +kernel), List.mem_of_getElem? (i := 319) (by decide +kernel)⟩
theorem lw_p2 : lw_okq (⟨"ThreesAtTable$Reader", "wordToken", "()I"⟩, 9) := ⟨⟨by decide +kernel, by decide +kernel⟩, List.mem_of_getElem? (i := 199) (by decide +kernel), List.mem_of_getElem? (i := 325) (by decide +kernel), List.mem_of_getElem? (i := 326) (by decide +kernel)⟩
theorem lw_p3 : lw_okq (⟨"ThreesAtTable$Reader", "spells", "(Ljava/lang/String;)Z"⟩, 9) := ⟨⟨by decide +kernel, by decide +kernel⟩, List.mem_of_getElem? (i := 199) (by decide +kernel), List.mem_of_getElem? (i := 345) (by decide +kernel), List.mem_of_getElem? (i := 346) (by decide +kernel)⟩
theorem lw_p4 : lw_okq (⟨"ThreesAtTable$Reader", "numberToken", "()I"⟩, 9) := ⟨⟨by decide +kernel, by decide +kernel⟩, List.mem_of_getElem? (i := 199) (by decide +kernel), List.mem_of_getElem? (i := 354) (by decide +kernel), List.mem_of_getElem? (i := 355) (by decide +kernel)⟩
theorem lw_p5 : lw_okq (⟨"ThreesAtTable$Reader", "takes", "(I)Z"⟩, 9) := ⟨⟨by decide +kernel, by decide +kernel⟩, List.mem_of_getElem? (i := 199) (by decide +kernel), List.mem_of_getElem? (i := 361) (by decide +kernel), List.mem_of_getElem? (i := 362) (by decide +kernel)⟩
theorem lw_p6 : lw_okq (⟨"ThreesAtTable$Reader", "readEither", "(I)Z"⟩, 9) := ⟨⟨by decide +kernel, by decide +kernel⟩, List.mem_of_getElem? (i := 199) (by decide +kernel), List.mem_of_getElem? (i := 365) (by decide +kernel), List.mem_of_getElem? (i := 366) (by decide +kernel)⟩
theorem lw_p7 : lw_okq (⟨"ThreesAtTable$Reader", "readBoth", "(I)Z"⟩, 9) := ⟨⟨by decide +kernel, by decide +kernel⟩, List.mem_of_getElem? (i := 199) (by decide +kernel), List.mem_of_getElem? (i := 369) (by decide +kernel), List.mem_of_getElem? (i := 370) (by decide +kernel)⟩
theorem lw_p8 : lw_okq (⟨"ThreesAtTable$Reader", "readNot", "(I)Z"⟩, 9) := ⟨⟨by decide +kernel, by decide +kernel⟩, List.mem_of_getElem? (i := 199) (by decide +kernel), List.mem_of_getElem? (i := 373) (by decide +kernel), List.mem_of_getElem? (i := 374) (by decide +kernel)⟩
theorem lw_p9 : lw_okq (⟨"ThreesAtTable$Reader", "readCompared", "(I)Z"⟩, 9) := ⟨⟨by decide +kernel, by decide +kernel⟩, List.mem_of_getElem? (i := 199) (by decide +kernel), List.mem_of_getElem? (i := 377) (by decide +kernel), List.mem_of_getElem? (i := 378) (by decide +kernel)⟩
theorem lw_p10 : lw_okq (⟨"ThreesAtTable$Reader", "readSum", "(I)Z"⟩, 9) := ⟨⟨by decide +kernel, by decide +kernel⟩, List.mem_of_getElem? (i := 199) (by decide +kernel), List.mem_of_getElem? (i := 381) (by decide +kernel), List.mem_of_getElem? (i := 382) (by decide +kernel)⟩
theorem lw_p11 : lw_okq (⟨"ThreesAtTable$Reader", "readTerm", "(I)Z"⟩, 9) := ⟨⟨by decide +kernel, by decide +kernel⟩, List.mem_of_getElem? (i := 199) (by decide +kernel), List.mem_of_getElem? (i := 385) (by decide +kernel), List.mem_of_getElem? (i := 386) (by decide +kernel)⟩
theorem lw_p12 : lw_okq (⟨"ThreesAtTable$Reader", "readOne", "(I)Z"⟩, 9) := ⟨⟨by decide +kernel, by decide +kernel⟩, List.mem_of_getElem? (i := 199) (by decide +kernel), List.mem_of_getElem? (i := 389) (by decide +kernel), List.mem_of_getElem? (i := 390) (by decide +kernel)⟩
theorem lw_p13 : lw_okq (⟨"ThreesAtTable$Reader", "readPlain", "(I)Z"⟩, 9) := ⟨⟨by decide +kernel, by decide +kernel⟩, List.mem_of_getElem? (i := 199) (by decide +kernel), List.mem_of_getElem? (i := 393) (by decide +kernel), List.mem_of_getElem? (i := 394) (by decide +kernel)⟩
theorem lw_p14 : lw_okq (⟨"ThreesAtTable$Reader", "write", "(I)V"⟩, 9) := ⟨⟨by decide +kernel, by decide +kernel⟩, List.mem_of_getElem? (i := 199) (by decide +kernel), List.mem_of_getElem? (i := 397) (by decide +kernel), List.mem_of_getElem? (i := 398) (by decide +kernel)⟩
theorem lw_p15 : lw_okq (⟨"ThreesAtTable", "keepText", "()I"⟩, 15) := ⟨⟨by decide +kernel, by decide +kernel⟩, List.mem_of_getElem? (i := 23) (by decide +kernel), List.mem_of_getElem? (i := 401) (by decide +kernel), List.mem_of_getElem? (i := 402) (by decide +kernel)⟩
def lw_privs_1 : List (MethodName × Nat) := [(⟨"ThreesAtTable", "learnFirstText", "()V"⟩, 15), (⟨"ThreesAtTable$Reader", "advance", "()V"⟩, 9), (⟨"ThreesAtTable$Reader", "wordToken", "()I"⟩, 9), (⟨"ThreesAtTable$Reader", "spells", "(Ljava/lang/String;)Z"⟩, 9), (⟨"ThreesAtTable$Reader", "numberToken", "()I"⟩, 9), (⟨"ThreesAtTable$Reader", "takes", "(I)Z"⟩, 9), (⟨"ThreesAtTable$Reader", "readEither", "(I)Z"⟩, 9), (⟨"ThreesAtTable$Reader", "readBoth", "(I)Z"⟩, 9), (⟨"ThreesAtTable$Reader", "readNot", "(I)Z"⟩, 9), (⟨"ThreesAtTable$Reader", "readCompared", "(I)Z"⟩, 9), (⟨"ThreesAtTable$Reader", "readSum", "(I)Z"⟩, 9), (⟨"ThreesAtTable$Reader", "readTerm", "(I)Z"⟩, 9), (⟨"ThreesAtTable$Reader", "readOne", "(I)Z"⟩, 9), (⟨"ThreesAtTable$Reader", "readPlain", "(I)Z"⟩, 9), (⟨"ThreesAtTable$Reader", "write", "(I)V"⟩, 9), (⟨"ThreesAtTable", "keepText", "()I"⟩, 15)]
theorem lw_r1 : ∀ q ∈ lw_privs_1, lw_okq q := List.forall_mem_cons.mpr ⟨lw_p0, List.forall_mem_cons.mpr ⟨lw_p1, List.forall_mem_cons.mpr ⟨lw_p2, List.forall_mem_cons.mpr ⟨lw_p3, List.forall_mem_cons.mpr ⟨lw_p4, List.forall_mem_cons.mpr ⟨lw_p5, List.forall_mem_cons.mpr ⟨lw_p6, List.forall_mem_cons.mpr ⟨lw_p7, List.forall_mem_cons.mpr ⟨lw_p8, List.forall_mem_cons.mpr ⟨lw_p9, List.forall_mem_cons.mpr ⟨lw_p10, List.forall_mem_cons.mpr ⟨lw_p11, List.forall_mem_cons.mpr ⟨lw_p12, List.forall_mem_cons.mpr ⟨lw_p13, List.forall_mem_cons.mpr ⟨lw_p14, List.forall_mem_cons.mpr ⟨lw_p15, fun _ h => absurd h List.not_mem_nil⟩⟩⟩⟩⟩⟩⟩⟩⟩⟩⟩⟩⟩⟩⟩⟩
theorem lw_p16 : lw_okq (⟨"ThreesAtTable", "useText", "(I)V"⟩, 15) := ⟨⟨by decide +kernel, by decide +kernel⟩, List.mem_of_getElem? (i := 23) (by decide +kernel), List.mem_of_getElem? (i := 463) (by decide +kernel), List.mem_of_getElem? (i := 464) (by decide +kernel)⟩
theorem lw_p17 : lw_okq (⟨"ThreesAtTable$Standing", "weighThree", "(LThreesAtTable$Rule;III)V"⟩, 4) := ⟨⟨by decide +kernel, by decide +kernel⟩, List.mem_of_getElem? (i := 124) (by decide +kernel), List.mem_of_getElem? (i := 478) (by decide +kernel), List.mem_of_getElem? (i := 479) (by decide +kernel)⟩
theorem lw_p18 : lw_okq (⟨"ThreesAtTable$Rule", "name", "(IIIII)V"⟩, 6) := ⟨⟨by decide +kernel, by decide +kernel⟩, List.mem_of_getElem? (i := 99) (by decide +kernel), List.mem_of_getElem? (i := 486) (by decide +kernel), List.mem_of_getElem? (i := 487) (by decide +kernel)⟩
theorem lw_p19 : lw_okq (⟨"ThreesAtTable$Rule", "answer", "(I)I"⟩, 6) := ⟨⟨by decide +kernel, by decide +kernel⟩, List.mem_of_getElem? (i := 99) (by decide +kernel), List.mem_of_getElem? (i := 490) (by decide +kernel), List.mem_of_getElem? (i := 491) (by decide +kernel)⟩
theorem lw_p20 : lw_okq (⟨"ThreesAtTable$Rule", "step", "(I)V"⟩, 6) := ⟨⟨by decide +kernel, by decide +kernel⟩, List.mem_of_getElem? (i := 99) (by decide +kernel), List.mem_of_getElem? (i := 507) (by decide +kernel), List.mem_of_getElem? (i := 508) (by decide +kernel)⟩
theorem lw_p21 : lw_okq (⟨"ThreesAtTable$Rule", "push", "(I)V"⟩, 6) := ⟨⟨by decide +kernel, by decide +kernel⟩, List.mem_of_getElem? (i := 99) (by decide +kernel), List.mem_of_getElem? (i := 511) (by decide +kernel), List.mem_of_getElem? (i := 512) (by decide +kernel)⟩
theorem lw_p22 : lw_okq (⟨"ThreesAtTable$Rule", "pop", "()I"⟩, 6) := ⟨⟨by decide +kernel, by decide +kernel⟩, List.mem_of_getElem? (i := 99) (by decide +kernel), List.mem_of_getElem? (i := 515) (by decide +kernel), List.mem_of_getElem? (i := 516) (by decide +kernel)⟩
theorem lw_p23 : lw_okq (⟨"ThreesAtTable", "pairNumber", "(II)I"⟩, 15) := ⟨⟨by decide +kernel, by decide +kernel⟩, List.mem_of_getElem? (i := 23) (by decide +kernel), List.mem_of_getElem? (i := 576) (by decide +kernel), List.mem_of_getElem? (i := 577) (by decide +kernel)⟩
theorem lw_p24 : lw_okq (⟨"ThreesAtTable", "isGuest", "(I)Z"⟩, 15) := ⟨⟨by decide +kernel, by decide +kernel⟩, List.mem_of_getElem? (i := 23) (by decide +kernel), List.mem_of_getElem? (i := 580) (by decide +kernel), List.mem_of_getElem? (i := 581) (by decide +kernel)⟩
theorem lw_p25 : lw_okq (⟨"ThreesAtTable", "townAt", "(I)LThreesAtTable$Town;"⟩, 15) := ⟨⟨by decide +kernel, by decide +kernel⟩, List.mem_of_getElem? (i := 23) (by decide +kernel), List.mem_of_getElem? (i := 618) (by decide +kernel), List.mem_of_getElem? (i := 619) (by decide +kernel)⟩
theorem lw_p26 : lw_okq (⟨"ThreesAtTable", "friendsIn", "(LThreesAtTable$Town;)I"⟩, 15) := ⟨⟨by decide +kernel, by decide +kernel⟩, List.mem_of_getElem? (i := 23) (by decide +kernel), List.mem_of_getElem? (i := 622) (by decide +kernel), List.mem_of_getElem? (i := 623) (by decide +kernel)⟩
theorem lw_p27 : lw_okq (⟨"ThreesAtTable$Town", "areNextInRing", "(III)Z"⟩, 2) := ⟨⟨by decide +kernel, by decide +kernel⟩, List.mem_of_getElem? (i := 600) (by decide +kernel), List.mem_of_getElem? (i := 633) (by decide +kernel), List.mem_of_getElem? (i := 634) (by decide +kernel)⟩
theorem lw_p28 : lw_okq (⟨"ThreesAtTable", "threesNow", "()I"⟩, 15) := ⟨⟨by decide +kernel, by decide +kernel⟩, List.mem_of_getElem? (i := 23) (by decide +kernel), List.mem_of_getElem? (i := 685) (by decide +kernel), List.mem_of_getElem? (i := 686) (by decide +kernel)⟩
theorem lw_p29 : lw_okq (⟨"ThreesAtTable", "firstThree", "()I"⟩, 15) := ⟨⟨by decide +kernel, by decide +kernel⟩, List.mem_of_getElem? (i := 23) (by decide +kernel), List.mem_of_getElem? (i := 689) (by decide +kernel), List.mem_of_getElem? (i := 690) (by decide +kernel)⟩
theorem lw_p30 : lw_okq (⟨"ThreesAtTable", "byDegrees", "()I"⟩, 15) := ⟨⟨by decide +kernel, by decide +kernel⟩, List.mem_of_getElem? (i := 23) (by decide +kernel), List.mem_of_getElem? (i := 694) (by decide +kernel), List.mem_of_getElem? (i := 695) (by decide +kernel)⟩
theorem lw_p31 : lw_okq (⟨"ThreesAtTable", "threesOf", "(I)I"⟩, 15) := ⟨⟨by decide +kernel, by decide +kernel⟩, List.mem_of_getElem? (i := 23) (by decide +kernel), List.mem_of_getElem? (i := 708) (by decide +kernel), List.mem_of_getElem? (i := 709) (by decide +kernel)⟩
def lw_privs_2 : List (MethodName × Nat) := [(⟨"ThreesAtTable", "useText", "(I)V"⟩, 15), (⟨"ThreesAtTable$Standing", "weighThree", "(LThreesAtTable$Rule;III)V"⟩, 4), (⟨"ThreesAtTable$Rule", "name", "(IIIII)V"⟩, 6), (⟨"ThreesAtTable$Rule", "answer", "(I)I"⟩, 6), (⟨"ThreesAtTable$Rule", "step", "(I)V"⟩, 6), (⟨"ThreesAtTable$Rule", "push", "(I)V"⟩, 6), (⟨"ThreesAtTable$Rule", "pop", "()I"⟩, 6), (⟨"ThreesAtTable", "pairNumber", "(II)I"⟩, 15), (⟨"ThreesAtTable", "isGuest", "(I)Z"⟩, 15), (⟨"ThreesAtTable", "townAt", "(I)LThreesAtTable$Town;"⟩, 15), (⟨"ThreesAtTable", "friendsIn", "(LThreesAtTable$Town;)I"⟩, 15), (⟨"ThreesAtTable$Town", "areNextInRing", "(III)Z"⟩, 2), (⟨"ThreesAtTable", "threesNow", "()I"⟩, 15), (⟨"ThreesAtTable", "firstThree", "()I"⟩, 15), (⟨"ThreesAtTable", "byDegrees", "()I"⟩, 15), (⟨"ThreesAtTable", "threesOf", "(I)I"⟩, 15)]
theorem lw_r2 : ∀ q ∈ lw_privs_2, lw_okq q := List.forall_mem_cons.mpr ⟨lw_p16, List.forall_mem_cons.mpr ⟨lw_p17, List.forall_mem_cons.mpr ⟨lw_p18, List.forall_mem_cons.mpr ⟨lw_p19, List.forall_mem_cons.mpr ⟨lw_p20, List.forall_mem_cons.mpr ⟨lw_p21, List.forall_mem_cons.mpr ⟨lw_p22, List.forall_mem_cons.mpr ⟨lw_p23, List.forall_mem_cons.mpr ⟨lw_p24, List.forall_mem_cons.mpr ⟨lw_p25, List.forall_mem_cons.mpr ⟨lw_p26, List.forall_mem_cons.mpr ⟨lw_p27, List.forall_mem_cons.mpr ⟨lw_p28, List.forall_mem_cons.mpr ⟨lw_p29, List.forall_mem_cons.mpr ⟨lw_p30, List.forall_mem_cons.mpr ⟨lw_p31, fun _ h => absurd h List.not_mem_nil⟩⟩⟩⟩⟩⟩⟩⟩⟩⟩⟩⟩⟩⟩⟩⟩
theorem lw_p32 : lw_okq (⟨"ThreesAtTable", "sentHome", "()I"⟩, 15) := ⟨⟨by decide +kernel, by decide +kernel⟩, List.mem_of_getElem? (i := 23) (by decide +kernel), List.mem_of_getElem? (i := 733) (by decide +kernel), List.mem_of_getElem? (i := 734) (by decide +kernel)⟩
theorem lw_p33 : lw_okq (⟨"ThreesAtTable", "leavesNone", "(I)Z"⟩, 15) := ⟨⟨by decide +kernel, by decide +kernel⟩, List.mem_of_getElem? (i := 23) (by decide +kernel), List.mem_of_getElem? (i := 737) (by decide +kernel), List.mem_of_getElem? (i := 738) (by decide +kernel)⟩
theorem lw_p34 : lw_okq (⟨"ThreesAtTable", "joyOf", "(I)I"⟩, 15) := ⟨⟨by decide +kernel, by decide +kernel⟩, List.mem_of_getElem? (i := 23) (by decide +kernel), List.mem_of_getElem? (i := 745) (by decide +kernel), List.mem_of_getElem? (i := 746) (by decide +kernel)⟩
theorem lw_p35 : lw_okq (⟨"ThreesAtTable", "bestChange", "()I"⟩, 15) := ⟨⟨by decide +kernel, by decide +kernel⟩, List.mem_of_getElem? (i := 23) (by decide +kernel), List.mem_of_getElem? (i := 753) (by decide +kernel), List.mem_of_getElem? (i := 754) (by decide +kernel)⟩
theorem lw_p36 : lw_okq (⟨"ThreesAtTable", "threesIfChanged", "(I)I"⟩, 15) := ⟨⟨by decide +kernel, by decide +kernel⟩, List.mem_of_getElem? (i := 23) (by decide +kernel), List.mem_of_getElem? (i := 758) (by decide +kernel), List.mem_of_getElem? (i := 759) (by decide +kernel)⟩
theorem lw_p37 : lw_okq (⟨"ThreesAtTable$Changes", "keepBest", "(I)V"⟩, 6) := ⟨⟨by decide +kernel, by decide +kernel⟩, List.mem_of_getElem? (i := 144) (by decide +kernel), List.mem_of_getElem? (i := 788) (by decide +kernel), List.mem_of_getElem? (i := 789) (by decide +kernel)⟩
theorem lw_p38 : lw_okq (⟨"ThreesAtTable", "friendsWithin", "(I)I"⟩, 15) := ⟨⟨by decide +kernel, by decide +kernel⟩, List.mem_of_getElem? (i := 23) (by decide +kernel), List.mem_of_getElem? (i := 801) (by decide +kernel), List.mem_of_getElem? (i := 802) (by decide +kernel)⟩
theorem lw_p39 : lw_okq (⟨"ThreesAtTable", "knownByBoth", "(II)I"⟩, 15) := ⟨⟨by decide +kernel, by decide +kernel⟩, List.mem_of_getElem? (i := 23) (by decide +kernel), List.mem_of_getElem? (i := 809) (by decide +kernel), List.mem_of_getElem? (i := 810) (by decide +kernel)⟩
theorem lw_p40 : lw_okq (⟨"ThreesAtTable", "whoKnowsAll", "()I"⟩, 15) := ⟨⟨by decide +kernel, by decide +kernel⟩, List.mem_of_getElem? (i := 23) (by decide +kernel), List.mem_of_getElem? (i := 817) (by decide +kernel), List.mem_of_getElem? (i := 818) (by decide +kernel)⟩
theorem lw_p41 : lw_okq (⟨"ThreesAtTable", "unseenPairs", "()I"⟩, 15) := ⟨⟨by decide +kernel, by decide +kernel⟩, List.mem_of_getElem? (i := 23) (by decide +kernel), List.mem_of_getElem? (i := 844) (by decide +kernel), List.mem_of_getElem? (i := 845) (by decide +kernel)⟩
theorem lw_p42 : lw_okq (⟨"ThreesAtTable", "sheetAt", "(I)LThreesAtTable$Sheet;"⟩, 15) := ⟨⟨by decide +kernel, by decide +kernel⟩, List.mem_of_getElem? (i := 23) (by decide +kernel), List.mem_of_getElem? (i := 892) (by decide +kernel), List.mem_of_getElem? (i := 893) (by decide +kernel)⟩
theorem lw_p43 : lw_okq (⟨"ThreesAtTable", "introduced", "(I)I"⟩, 15) := ⟨⟨by decide +kernel, by decide +kernel⟩, List.mem_of_getElem? (i := 23) (by decide +kernel), List.mem_of_getElem? (i := 904) (by decide +kernel), List.mem_of_getElem? (i := 905) (by decide +kernel)⟩
theorem lw_p44 : lw_okq (⟨"ThreesAtTableModel", "spell", "(IIIIIIIII)V"⟩, 45) := ⟨⟨by decide +kernel, by decide +kernel⟩, List.mem_of_getElem? (i := 978) (by decide +kernel), List.mem_of_getElem? (i := 984) (by decide +kernel), List.mem_of_getElem? (i := 985) (by decide +kernel)⟩
theorem lw_p45 : lw_okq (⟨"ThreesAtTableModel", "isPair", "(II)Z"⟩, 45) := ⟨⟨by decide +kernel, by decide +kernel⟩, List.mem_of_getElem? (i := 978) (by decide +kernel), List.mem_of_getElem? (i := 1138) (by decide +kernel), List.mem_of_getElem? (i := 1139) (by decide +kernel)⟩
theorem lw_p46 : lw_okq (⟨"ThreesAtTableModel", "isGuest", "(I)Z"⟩, 45) := ⟨⟨by decide +kernel, by decide +kernel⟩, List.mem_of_getElem? (i := 978) (by decide +kernel), List.mem_of_getElem? (i := 1142) (by decide +kernel), List.mem_of_getElem? (i := 1143) (by decide +kernel)⟩
theorem lw_p47 : lw_okq (⟨"ThreesAtTableModel", "pairAt", "(I)I"⟩, 45) := ⟨⟨by decide +kernel, by decide +kernel⟩, List.mem_of_getElem? (i := 978) (by decide +kernel), List.mem_of_getElem? (i := 1150) (by decide +kernel), List.mem_of_getElem? (i := 1151) (by decide +kernel)⟩
def lw_privs_3 : List (MethodName × Nat) := [(⟨"ThreesAtTable", "sentHome", "()I"⟩, 15), (⟨"ThreesAtTable", "leavesNone", "(I)Z"⟩, 15), (⟨"ThreesAtTable", "joyOf", "(I)I"⟩, 15), (⟨"ThreesAtTable", "bestChange", "()I"⟩, 15), (⟨"ThreesAtTable", "threesIfChanged", "(I)I"⟩, 15), (⟨"ThreesAtTable$Changes", "keepBest", "(I)V"⟩, 6), (⟨"ThreesAtTable", "friendsWithin", "(I)I"⟩, 15), (⟨"ThreesAtTable", "knownByBoth", "(II)I"⟩, 15), (⟨"ThreesAtTable", "whoKnowsAll", "()I"⟩, 15), (⟨"ThreesAtTable", "unseenPairs", "()I"⟩, 15), (⟨"ThreesAtTable", "sheetAt", "(I)LThreesAtTable$Sheet;"⟩, 15), (⟨"ThreesAtTable", "introduced", "(I)I"⟩, 15), (⟨"ThreesAtTableModel", "spell", "(IIIIIIIII)V"⟩, 45), (⟨"ThreesAtTableModel", "isPair", "(II)Z"⟩, 45), (⟨"ThreesAtTableModel", "isGuest", "(I)Z"⟩, 45), (⟨"ThreesAtTableModel", "pairAt", "(I)I"⟩, 45)]
theorem lw_r3 : ∀ q ∈ lw_privs_3, lw_okq q := List.forall_mem_cons.mpr ⟨lw_p32, List.forall_mem_cons.mpr ⟨lw_p33, List.forall_mem_cons.mpr ⟨lw_p34, List.forall_mem_cons.mpr ⟨lw_p35, List.forall_mem_cons.mpr ⟨lw_p36, List.forall_mem_cons.mpr ⟨lw_p37, List.forall_mem_cons.mpr ⟨lw_p38, List.forall_mem_cons.mpr ⟨lw_p39, List.forall_mem_cons.mpr ⟨lw_p40, List.forall_mem_cons.mpr ⟨lw_p41, List.forall_mem_cons.mpr ⟨lw_p42, List.forall_mem_cons.mpr ⟨lw_p43, List.forall_mem_cons.mpr ⟨lw_p44, List.forall_mem_cons.mpr ⟨lw_p45, List.forall_mem_cons.mpr ⟨lw_p46, List.forall_mem_cons.mpr ⟨lw_p47, fun _ h => absurd h List.not_mem_nil⟩⟩⟩⟩⟩⟩⟩⟩⟩⟩⟩⟩⟩⟩⟩⟩
theorem lw_p48 : lw_okq (⟨"ThreesAtTableModel", "isTown", "(I)Z"⟩, 45) := ⟨⟨by decide +kernel, by decide +kernel⟩, List.mem_of_getElem? (i := 978) (by decide +kernel), List.mem_of_getElem? (i := 1168) (by decide +kernel), List.mem_of_getElem? (i := 1169) (by decide +kernel)⟩
theorem lw_p49 : lw_okq (⟨"ThreesAtTableModel", "isSo", "(III)Z"⟩, 45) := ⟨⟨by decide +kernel, by decide +kernel⟩, List.mem_of_getElem? (i := 978) (by decide +kernel), List.mem_of_getElem? (i := 1172) (by decide +kernel), List.mem_of_getElem? (i := 1173) (by decide +kernel)⟩
theorem lw_p50 : lw_okq (⟨"ThreesAtTableModel", "price", "(III)I"⟩, 45) := ⟨⟨by decide +kernel, by decide +kernel⟩, List.mem_of_getElem? (i := 978) (by decide +kernel), List.mem_of_getElem? (i := 1183) (by decide +kernel), List.mem_of_getElem? (i := 1184) (by decide +kernel)⟩
theorem lw_p51 : lw_okq (⟨"ThreesAtTableModel", "read", "(II)I"⟩, 45) := ⟨⟨by decide +kernel, by decide +kernel⟩, List.mem_of_getElem? (i := 978) (by decide +kernel), List.mem_of_getElem? (i := 1200) (by decide +kernel), List.mem_of_getElem? (i := 1201) (by decide +kernel)⟩
theorem lw_p52 : lw_okq (⟨"ThreesAtTableModel", "next", "()V"⟩, 45) := ⟨⟨by decide +kernel, by decide +kernel⟩, List.mem_of_getElem? (i := 978) (by decide +kernel), List.mem_of_getElem? (i := 1204) (by decide +kernel), List.mem_of_getElem? (i := 1205) (by decide +kernel)⟩
theorem lw_p53 : lw_okq (⟨"ThreesAtTableModel", "byteAt", "(I)I"⟩, 45) := ⟨⟨by decide +kernel, by decide +kernel⟩, List.mem_of_getElem? (i := 978) (by decide +kernel), List.mem_of_getElem? (i := 1208) (by decide +kernel), List.mem_of_getElem? (i := 1209) (by decide +kernel)⟩
theorem lw_p54 : lw_okq (⟨"ThreesAtTableModel", "isWord", "(IIIIIIII)Z"⟩, 45) := ⟨⟨by decide +kernel, by decide +kernel⟩, List.mem_of_getElem? (i := 978) (by decide +kernel), List.mem_of_getElem? (i := 1217) (by decide +kernel), List.mem_of_getElem? (i := 1218) (by decide +kernel)⟩
theorem lw_p55 : lw_okq (⟨"ThreesAtTableModel", "isLetter", "(II)Z"⟩, 45) := ⟨⟨by decide +kernel, by decide +kernel⟩, List.mem_of_getElem? (i := 978) (by decide +kernel), List.mem_of_getElem? (i := 1221) (by decide +kernel), List.mem_of_getElem? (i := 1222) (by decide +kernel)⟩
theorem lw_p56 : lw_okq (⟨"ThreesAtTableModel", "part", "(Z)I"⟩, 45) := ⟨⟨by decide +kernel, by decide +kernel⟩, List.mem_of_getElem? (i := 978) (by decide +kernel), List.mem_of_getElem? (i := 1225) (by decide +kernel), List.mem_of_getElem? (i := 1226) (by decide +kernel)⟩
theorem lw_p57 : lw_okq (⟨"ThreesAtTableModel", "fail", "()V"⟩, 45) := ⟨⟨by decide +kernel, by decide +kernel⟩, List.mem_of_getElem? (i := 978) (by decide +kernel), List.mem_of_getElem? (i := 1229) (by decide +kernel), List.mem_of_getElem? (i := 1230) (by decide +kernel)⟩
theorem lw_p58 : lw_okq (⟨"ThreesAtTableModel", "either", "()I"⟩, 45) := ⟨⟨by decide +kernel, by decide +kernel⟩, List.mem_of_getElem? (i := 978) (by decide +kernel), List.mem_of_getElem? (i := 1233) (by decide +kernel), List.mem_of_getElem? (i := 1234) (by decide +kernel)⟩
theorem lw_p59 : lw_okq (⟨"ThreesAtTableModel", "both", "()I"⟩, 45) := ⟨⟨by decide +kernel, by decide +kernel⟩, List.mem_of_getElem? (i := 978) (by decide +kernel), List.mem_of_getElem? (i := 1237) (by decide +kernel), List.mem_of_getElem? (i := 1238) (by decide +kernel)⟩
theorem lw_p60 : lw_okq (⟨"ThreesAtTableModel", "not", "()I"⟩, 45) := ⟨⟨by decide +kernel, by decide +kernel⟩, List.mem_of_getElem? (i := 978) (by decide +kernel), List.mem_of_getElem? (i := 1241) (by decide +kernel), List.mem_of_getElem? (i := 1242) (by decide +kernel)⟩
theorem lw_p61 : lw_okq (⟨"ThreesAtTableModel", "opens", "()Z"⟩, 45) := ⟨⟨by decide +kernel, by decide +kernel⟩, List.mem_of_getElem? (i := 978) (by decide +kernel), List.mem_of_getElem? (i := 1245) (by decide +kernel), List.mem_of_getElem? (i := 1246) (by decide +kernel)⟩
theorem lw_p62 : lw_okq (⟨"ThreesAtTableModel", "added", "()I"⟩, 45) := ⟨⟨by decide +kernel, by decide +kernel⟩, List.mem_of_getElem? (i := 978) (by decide +kernel), List.mem_of_getElem? (i := 1249) (by decide +kernel), List.mem_of_getElem? (i := 1250) (by decide +kernel)⟩
theorem lw_p63 : lw_okq (⟨"ThreesAtTableModel", "term", "()I"⟩, 45) := ⟨⟨by decide +kernel, by decide +kernel⟩, List.mem_of_getElem? (i := 978) (by decide +kernel), List.mem_of_getElem? (i := 1253) (by decide +kernel), List.mem_of_getElem? (i := 1254) (by decide +kernel)⟩
def lw_privs_4 : List (MethodName × Nat) := [(⟨"ThreesAtTableModel", "isTown", "(I)Z"⟩, 45), (⟨"ThreesAtTableModel", "isSo", "(III)Z"⟩, 45), (⟨"ThreesAtTableModel", "price", "(III)I"⟩, 45), (⟨"ThreesAtTableModel", "read", "(II)I"⟩, 45), (⟨"ThreesAtTableModel", "next", "()V"⟩, 45), (⟨"ThreesAtTableModel", "byteAt", "(I)I"⟩, 45), (⟨"ThreesAtTableModel", "isWord", "(IIIIIIII)Z"⟩, 45), (⟨"ThreesAtTableModel", "isLetter", "(II)Z"⟩, 45), (⟨"ThreesAtTableModel", "part", "(Z)I"⟩, 45), (⟨"ThreesAtTableModel", "fail", "()V"⟩, 45), (⟨"ThreesAtTableModel", "either", "()I"⟩, 45), (⟨"ThreesAtTableModel", "both", "()I"⟩, 45), (⟨"ThreesAtTableModel", "not", "()I"⟩, 45), (⟨"ThreesAtTableModel", "opens", "()Z"⟩, 45), (⟨"ThreesAtTableModel", "added", "()I"⟩, 45), (⟨"ThreesAtTableModel", "term", "()I"⟩, 45)]
theorem lw_r4 : ∀ q ∈ lw_privs_4, lw_okq q := List.forall_mem_cons.mpr ⟨lw_p48, List.forall_mem_cons.mpr ⟨lw_p49, List.forall_mem_cons.mpr ⟨lw_p50, List.forall_mem_cons.mpr ⟨lw_p51, List.forall_mem_cons.mpr ⟨lw_p52, List.forall_mem_cons.mpr ⟨lw_p53, List.forall_mem_cons.mpr ⟨lw_p54, List.forall_mem_cons.mpr ⟨lw_p55, List.forall_mem_cons.mpr ⟨lw_p56, List.forall_mem_cons.mpr ⟨lw_p57, List.forall_mem_cons.mpr ⟨lw_p58, List.forall_mem_cons.mpr ⟨lw_p59, List.forall_mem_cons.mpr ⟨lw_p60, List.forall_mem_cons.mpr ⟨lw_p61, List.forall_mem_cons.mpr ⟨lw_p62, List.forall_mem_cons.mpr ⟨lw_p63, fun _ h => absurd h List.not_mem_nil⟩⟩⟩⟩⟩⟩⟩⟩⟩⟩⟩⟩⟩⟩⟩⟩
theorem lw_p64 : lw_okq (⟨"ThreesAtTableModel", "atom", "()I"⟩, 45) := ⟨⟨by decide +kernel, by decide +kernel⟩, List.mem_of_getElem? (i := 978) (by decide +kernel), List.mem_of_getElem? (i := 1257) (by decide +kernel), List.mem_of_getElem? (i := 1258) (by decide +kernel)⟩
theorem lw_p65 : lw_okq (⟨"ThreesAtTableModel", "isSign", "(I)Z"⟩, 45) := ⟨⟨by decide +kernel, by decide +kernel⟩, List.mem_of_getElem? (i := 978) (by decide +kernel), List.mem_of_getElem? (i := 1261) (by decide +kernel), List.mem_of_getElem? (i := 1262) (by decide +kernel)⟩
theorem lw_p66 : lw_okq (⟨"ThreesAtTableModel", "name", "()I"⟩, 45) := ⟨⟨by decide +kernel, by decide +kernel⟩, List.mem_of_getElem? (i := 978) (by decide +kernel), List.mem_of_getElem? (i := 1265) (by decide +kernel), List.mem_of_getElem? (i := 1266) (by decide +kernel)⟩
theorem lw_p67 : lw_okq (⟨"ThreesAtTableModel", "degree", "(I)I"⟩, 45) := ⟨⟨by decide +kernel, by decide +kernel⟩, List.mem_of_getElem? (i := 978) (by decide +kernel), List.mem_of_getElem? (i := 1280) (by decide +kernel), List.mem_of_getElem? (i := 1281) (by decide +kernel)⟩
theorem lw_p68 : lw_okq (⟨"ThreesAtTableModel", "know", "(II)Z"⟩, 45) := ⟨⟨by decide +kernel, by decide +kernel⟩, List.mem_of_getElem? (i := 978) (by decide +kernel), List.mem_of_getElem? (i := 1284) (by decide +kernel), List.mem_of_getElem? (i := 1285) (by decide +kernel)⟩
theorem lw_p69 : lw_okq (⟨"ThreesAtTableModel", "gathers", "()V"⟩, 45) := ⟨⟨by decide +kernel, by decide +kernel⟩, List.mem_of_getElem? (i := 978) (by decide +kernel), List.mem_of_getElem? (i := 1288) (by decide +kernel), List.mem_of_getElem? (i := 1289) (by decide +kernel)⟩
theorem lw_p70 : lw_okq (⟨"ThreesAtTableModel", "says", "(IIIIII)I"⟩, 45) := ⟨⟨by decide +kernel, by decide +kernel⟩, List.mem_of_getElem? (i := 978) (by decide +kernel), List.mem_of_getElem? (i := 1292) (by decide +kernel), List.mem_of_getElem? (i := 1293) (by decide +kernel)⟩
theorem lw_p71 : lw_okq (⟨"ThreesAtTableModel", "sortOf", "(III)I"⟩, 45) := ⟨⟨by decide +kernel, by decide +kernel⟩, List.mem_of_getElem? (i := 978) (by decide +kernel), List.mem_of_getElem? (i := 1296) (by decide +kernel), List.mem_of_getElem? (i := 1297) (by decide +kernel)⟩
theorem lw_p72 : lw_okq (⟨"ThreesAtTableModel", "joy", "(I)I"⟩, 45) := ⟨⟨by decide +kernel, by decide +kernel⟩, List.mem_of_getElem? (i := 978) (by decide +kernel), List.mem_of_getElem? (i := 1304) (by decide +kernel), List.mem_of_getElem? (i := 1305) (by decide +kernel)⟩
theorem lw_p73 : lw_okq (⟨"ThreesAtTableModel", "threesOf", "(I)I"⟩, 45) := ⟨⟨by decide +kernel, by decide +kernel⟩, List.mem_of_getElem? (i := 978) (by decide +kernel), List.mem_of_getElem? (i := 1311) (by decide +kernel), List.mem_of_getElem? (i := 1312) (by decide +kernel)⟩
theorem lw_p74 : lw_okq (⟨"ThreesAtTableModel", "meetsAll", "(I)Z"⟩, 45) := ⟨⟨by decide +kernel, by decide +kernel⟩, List.mem_of_getElem? (i := 978) (by decide +kernel), List.mem_of_getElem? (i := 1326) (by decide +kernel), List.mem_of_getElem? (i := 1327) (by decide +kernel)⟩
theorem lw_p75 : lw_okq (⟨"ThreesAtTableModel", "gathersCosts", "()V"⟩, 45) := ⟨⟨by decide +kernel, by decide +kernel⟩, List.mem_of_getElem? (i := 978) (by decide +kernel), List.mem_of_getElem? (i := 1334) (by decide +kernel), List.mem_of_getElem? (i := 1335) (by decide +kernel)⟩
theorem lw_p76 : lw_okq (⟨"ThreesAtTableModel", "allThrees", "(II)I"⟩, 45) := ⟨⟨by decide +kernel, by decide +kernel⟩, List.mem_of_getElem? (i := 978) (by decide +kernel), List.mem_of_getElem? (i := 1338) (by decide +kernel), List.mem_of_getElem? (i := 1339) (by decide +kernel)⟩
theorem lw_p77 : lw_okq (⟨"ThreesAtTableModel", "leaves", "(IIII)V"⟩, 45) := ⟨⟨by decide +kernel, by decide +kernel⟩, List.mem_of_getElem? (i := 978) (by decide +kernel), List.mem_of_getElem? (i := 1346) (by decide +kernel), List.mem_of_getElem? (i := 1347) (by decide +kernel)⟩
theorem lw_p78 : lw_okq (⟨"ThreesAtTableModel", "areAll", "(II)Z"⟩, 45) := ⟨⟨by decide +kernel, by decide +kernel⟩, List.mem_of_getElem? (i := 978) (by decide +kernel), List.mem_of_getElem? (i := 1354) (by decide +kernel), List.mem_of_getElem? (i := 1355) (by decide +kernel)⟩
theorem lw_p79 : lw_okq (⟨"ThreesAtTableModel", "ring", "(IIII)I"⟩, 45) := ⟨⟨by decide +kernel, by decide +kernel⟩, List.mem_of_getElem? (i := 978) (by decide +kernel), List.mem_of_getElem? (i := 1366) (by decide +kernel), List.mem_of_getElem? (i := 1367) (by decide +kernel)⟩
def lw_privs_5 : List (MethodName × Nat) := [(⟨"ThreesAtTableModel", "atom", "()I"⟩, 45), (⟨"ThreesAtTableModel", "isSign", "(I)Z"⟩, 45), (⟨"ThreesAtTableModel", "name", "()I"⟩, 45), (⟨"ThreesAtTableModel", "degree", "(I)I"⟩, 45), (⟨"ThreesAtTableModel", "know", "(II)Z"⟩, 45), (⟨"ThreesAtTableModel", "gathers", "()V"⟩, 45), (⟨"ThreesAtTableModel", "says", "(IIIIII)I"⟩, 45), (⟨"ThreesAtTableModel", "sortOf", "(III)I"⟩, 45), (⟨"ThreesAtTableModel", "joy", "(I)I"⟩, 45), (⟨"ThreesAtTableModel", "threesOf", "(I)I"⟩, 45), (⟨"ThreesAtTableModel", "meetsAll", "(I)Z"⟩, 45), (⟨"ThreesAtTableModel", "gathersCosts", "()V"⟩, 45), (⟨"ThreesAtTableModel", "allThrees", "(II)I"⟩, 45), (⟨"ThreesAtTableModel", "leaves", "(IIII)V"⟩, 45), (⟨"ThreesAtTableModel", "areAll", "(II)Z"⟩, 45), (⟨"ThreesAtTableModel", "ring", "(IIII)I"⟩, 45)]
theorem lw_r5 : ∀ q ∈ lw_privs_5, lw_okq q := List.forall_mem_cons.mpr ⟨lw_p64, List.forall_mem_cons.mpr ⟨lw_p65, List.forall_mem_cons.mpr ⟨lw_p66, List.forall_mem_cons.mpr ⟨lw_p67, List.forall_mem_cons.mpr ⟨lw_p68, List.forall_mem_cons.mpr ⟨lw_p69, List.forall_mem_cons.mpr ⟨lw_p70, List.forall_mem_cons.mpr ⟨lw_p71, List.forall_mem_cons.mpr ⟨lw_p72, List.forall_mem_cons.mpr ⟨lw_p73, List.forall_mem_cons.mpr ⟨lw_p74, List.forall_mem_cons.mpr ⟨lw_p75, List.forall_mem_cons.mpr ⟨lw_p76, List.forall_mem_cons.mpr ⟨lw_p77, List.forall_mem_cons.mpr ⟨lw_p78, List.forall_mem_cons.mpr ⟨lw_p79, fun _ h => absurd h List.not_mem_nil⟩⟩⟩⟩⟩⟩⟩⟩⟩⟩⟩⟩⟩⟩⟩⟩
theorem lw_p80 : lw_okq (⟨"ThreesAtTableModel", "unseen", "()I"⟩, 45) := ⟨⟨by decide +kernel, by decide +kernel⟩, List.mem_of_getElem? (i := 978) (by decide +kernel), List.mem_of_getElem? (i := 1382) (by decide +kernel), List.mem_of_getElem? (i := 1383) (by decide +kernel)⟩
theorem lw_p81 : lw_okq (⟨"ThreesAtTableModel", "waysWithout", "()I"⟩, 45) := ⟨⟨by decide +kernel, by decide +kernel⟩, List.mem_of_getElem? (i := 978) (by decide +kernel), List.mem_of_getElem? (i := 1386) (by decide +kernel), List.mem_of_getElem? (i := 1387) (by decide +kernel)⟩
theorem lw_p82 : lw_okq (⟨"ThreesAtTableModel", "value", "(III)I"⟩, 45) := ⟨⟨by decide +kernel, by decide +kernel⟩, List.mem_of_getElem? (i := 978) (by decide +kernel), List.mem_of_getElem? (i := 1399) (by decide +kernel), List.mem_of_getElem? (i := 1400) (by decide +kernel)⟩
theorem lw_p83 : lw_okq (⟨"ThreesAtTableModel", "turn", "(IIII)I"⟩, 45) := ⟨⟨by decide +kernel, by decide +kernel⟩, List.mem_of_getElem? (i := 978) (by decide +kernel), List.mem_of_getElem? (i := 1403) (by decide +kernel), List.mem_of_getElem? (i := 1404) (by decide +kernel)⟩
theorem lw_p84 : lw_okq (⟨"ThreesAtTableModel", "hasThree", "(IIII)Z"⟩, 45) := ⟨⟨by decide +kernel, by decide +kernel⟩, List.mem_of_getElem? (i := 978) (by decide +kernel), List.mem_of_getElem? (i := 1407) (by decide +kernel), List.mem_of_getElem? (i := 1408) (by decide +kernel)⟩
def lw_privs_6 : List (MethodName × Nat) := [(⟨"ThreesAtTableModel", "unseen", "()I"⟩, 45), (⟨"ThreesAtTableModel", "waysWithout", "()I"⟩, 45), (⟨"ThreesAtTableModel", "value", "(III)I"⟩, 45), (⟨"ThreesAtTableModel", "turn", "(IIII)I"⟩, 45), (⟨"ThreesAtTableModel", "hasThree", "(IIII)Z"⟩, 45)]
theorem lw_r6 : ∀ q ∈ lw_privs_6, lw_okq q := List.forall_mem_cons.mpr ⟨lw_p80, List.forall_mem_cons.mpr ⟨lw_p81, List.forall_mem_cons.mpr ⟨lw_p82, List.forall_mem_cons.mpr ⟨lw_p83, List.forall_mem_cons.mpr ⟨lw_p84, fun _ h => absurd h List.not_mem_nil⟩⟩⟩⟩⟩
def lw_privs : List (MethodName × Nat) := lw_privs_1 ++ (lw_privs_2 ++ (lw_privs_3 ++ (lw_privs_4 ++ (lw_privs_5 ++ (lw_privs_6)))))
def lw_tbl : List Cond := k2_sels lw_privs ++ tables_1
theorem lw_privs_ok : ∀ q ∈ lw_privs, lw_okq q := by
  show ∀ q ∈ lw_privs_1 ++ (lw_privs_2 ++ (lw_privs_3 ++ (lw_privs_4 ++ (lw_privs_5 ++ (lw_privs_6))))), lw_okq q
  exact List.forall_mem_append.mpr ⟨lw_r1, List.forall_mem_append.mpr ⟨lw_r2, List.forall_mem_append.mpr ⟨lw_r3, List.forall_mem_append.mpr ⟨lw_r4, List.forall_mem_append.mpr ⟨lw_r5, lw_r6⟩⟩⟩⟩⟩
end
section
def xR_Ch : String := "ThreesAtTable$Changes"
def xR_Ga : String := "ThreesAtTable$Game"
def xR_Re : String := "ThreesAtTable$Reader"
def xR_Ru : String := "ThreesAtTable$Rule"
def xR_Se : String := "ThreesAtTable$Seats"
def xR_Sh : String := "ThreesAtTable$Sheet"
def xR_St : String := "ThreesAtTable$Standing"
def xR_Ta : String := "ThreesAtTable$Table"
def xR_Te : String := "ThreesAtTable$Text"
def xR_To : String := "ThreesAtTable$Town"
def xR_Wa : String := "ThreesAtTable$Ways"
def xR_Ma : String := "ThreesAtTable"
def xR_Mo : String := "ThreesAtTableModel"
def xR_In : String := "java/lang/Integer"
def xR_Mt : String := "java/lang/Math"
def xR_Sg : String := "java/lang/String"
def xR_Sl : String := "java/lang/StringLatin1"
def xR_Su : String := "java/lang/StringUTF16"
def xR_Ar : String := "java/util/Arrays"
def xR_Pc : String := "jdk/internal/util/Preconditions"
def xR_La : String := "ThreesAtTableLaw"
def xT_Ch : u_T := fun k => match k with
  | 0 => ("ThreesAtTable$Changes", "seats", "LThreesAtTable$Seats;", true)
  | 1 => ("ThreesAtTable$Changes", "standing", "LThreesAtTable$Standing;", true)
  | 2 => ("ThreesAtTable$Changes", "costs", "[I", true)
  | 3 => ("ThreesAtTable$Changes", "found", "Z", false)
  | 4 => ("ThreesAtTable$Changes", "best", "I", false)
  | _ => ("ThreesAtTable$Changes", "leastCosts", "I", false)
def xY_Ch : Nat → FieldType := fun k => match k with
  | 0 => .object "ThreesAtTable$Seats"
  | 1 => .object "ThreesAtTable$Standing"
  | 2 => .array .int
  | 3 => .boolean
  | 4 => .int
  | _ => .int
def xT_Re : u_T := fun k => match k with
  | 0 => ("ThreesAtTable$Reader", "tape", "[I", true)
  | 1 => ("ThreesAtTable$Reader", "size", "I", false)
  | 2 => ("ThreesAtTable$Reader", "start", "I", false)
  | 3 => ("ThreesAtTable$Reader", "next", "I", false)
  | 4 => ("ThreesAtTable$Reader", "token", "I", false)
  | 5 => ("ThreesAtTable$Reader", "number", "I", false)
  | 6 => ("ThreesAtTable$Reader", "codes", "[I", true)
  | 7 => ("ThreesAtTable$Reader", "codeCount", "I", false)
  | _ => ("ThreesAtTable$Reader", "ends", "[I", true)
def xY_Re : Nat → FieldType := fun k => match k with
  | 0 => .array .int
  | 1 => .int
  | 2 => .int
  | 3 => .int
  | 4 => .int
  | 5 => .int
  | 6 => .array .int
  | 7 => .int
  | _ => .array .int
def xT_Ru : u_T := fun k => match k with
  | 0 => ("ThreesAtTable$Rule", "seats", "LThreesAtTable$Seats;", true)
  | 1 => ("ThreesAtTable$Rule", "table", "LThreesAtTable$Table;", true)
  | 2 => ("ThreesAtTable$Rule", "names", "[I", true)
  | 3 => ("ThreesAtTable$Rule", "stack", "[I", true)
  | 4 => ("ThreesAtTable$Rule", "height", "I", false)
  | _ => ("ThreesAtTable$Rule", "text", "LThreesAtTable$Text;", false)
def xY_Ru : Nat → FieldType := fun k => match k with
  | 0 => .object "ThreesAtTable$Seats"
  | 1 => .object "ThreesAtTable$Table"
  | 2 => .array .int
  | 3 => .array .int
  | 4 => .int
  | _ => .object "ThreesAtTable$Text"
def xT_Se : u_T := fun k => match k with
  | 0 => ("ThreesAtTable$Seats", "within", "[I", true)
  | 1 => ("ThreesAtTable$Seats", "lower", "[I", true)
  | 2 => ("ThreesAtTable$Seats", "higher", "[I", true)
  | _ => ("ThreesAtTable$Seats", "threes", "[I", true)
def xY_Se : Nat → FieldType := fun k => match k with
  | 0 => .array .int
  | 1 => .array .int
  | 2 => .array .int
  | _ => .array .int
def xT_Sh : u_T := fun k => match k with
  | 0 => ("ThreesAtTable$Sheet", "sort", "I", false)
  | 1 => ("ThreesAtTable$Sheet", "size", "I", false)
  | _ => ("ThreesAtTable$Sheet", "items", "[I", true)
def xY_Sh : Nat → FieldType := fun k => match k with
  | 0 => .int
  | 1 => .int
  | _ => .array .int
def xT_St : u_T := fun k => match k with
  | 0 => ("ThreesAtTable$Standing", "seats", "LThreesAtTable$Seats;", true)
  | 1 => ("ThreesAtTable$Standing", "friendsCount", "[Z", true)
  | 2 => ("ThreesAtTable$Standing", "strangersCount", "[Z", true)
  | _ => ("ThreesAtTable$Standing", "threes", "I", false)
def xY_St : Nat → FieldType := fun k => match k with
  | 0 => .object "ThreesAtTable$Seats"
  | 1 => .array .boolean
  | 2 => .array .boolean
  | _ => .int
def xT_Ta : u_T := fun k => match k with
  | 0 => ("ThreesAtTable$Table", "seats", "LThreesAtTable$Seats;", true)
  | 1 => ("ThreesAtTable$Table", "guests", "I", false)
  | 2 => ("ThreesAtTable$Table", "friends", "I", false)
  | _ => ("ThreesAtTable$Table", "strangers", "I", false)
def xY_Ta : Nat → FieldType := fun k => match k with
  | 0 => .object "ThreesAtTable$Seats"
  | 1 => .int
  | 2 => .int
  | _ => .int
def xT_Te : u_T := fun k => match k with
  | 0 => ("ThreesAtTable$Text", "codes", "[I", true)
  | _ => ("ThreesAtTable$Text", "ends", "[I", true)
def xY_Te : Nat → FieldType := fun k => match k with
  | 0 => .array .int
  | _ => .array .int
def xT_To : u_T := fun k => match k with
  | 0 => ("ThreesAtTable$Town", "kind", "I", true)
  | _ => ("ThreesAtTable$Town", "number", "I", true)
def xY_To : Nat → FieldType := fun k => match k with
  | 0 => .int
  | _ => .int
def xT_Wa : u_T := fun k => match k with
  | 0 => ("ThreesAtTable$Ways", "seats", "LThreesAtTable$Seats;", true)
  | 1 => ("ThreesAtTable$Ways", "standing", "LThreesAtTable$Standing;", true)
  | 2 => ("ThreesAtTable$Ways", "pairs", "I", false)
  | 3 => ("ThreesAtTable$Ways", "without", "I", false)
  | 4 => ("ThreesAtTable$Ways", "mostThrees", "I", false)
  | _ => ("ThreesAtTable$Ways", "least", "I", false)
def xY_Wa : Nat → FieldType := fun k => match k with
  | 0 => .object "ThreesAtTable$Seats"
  | 1 => .object "ThreesAtTable$Standing"
  | 2 => .int
  | 3 => .int
  | 4 => .int
  | _ => .int
def xT_Ma : u_T := fun k => match k with
  | 0 => ("ThreesAtTable", "seats", "LThreesAtTable$Seats;", true)
  | 1 => ("ThreesAtTable", "table", "LThreesAtTable$Table;", true)
  | 2 => ("ThreesAtTable", "rule", "LThreesAtTable$Rule;", true)
  | 3 => ("ThreesAtTable", "standing", "LThreesAtTable$Standing;", true)
  | 4 => ("ThreesAtTable", "changes", "LThreesAtTable$Changes;", true)
  | 5 => ("ThreesAtTable", "ways", "LThreesAtTable$Ways;", true)
  | 6 => ("ThreesAtTable", "reader", "LThreesAtTable$Reader;", true)
  | 7 => ("ThreesAtTable", "texts", "[LThreesAtTable$Text;", true)
  | 8 => ("ThreesAtTable", "towns", "[LThreesAtTable$Town;", true)
  | 9 => ("ThreesAtTable", "sheets", "[LThreesAtTable$Sheet;", true)
  | 10 => ("ThreesAtTable", "kept", "LThreesAtTable$Table;", true)
  | 11 => ("ThreesAtTable", "textCount", "I", false)
  | 12 => ("ThreesAtTable", "townCount", "I", false)
  | 13 => ("ThreesAtTable", "ruleNumber", "I", false)
  | _ => ("ThreesAtTable", "keptRule", "I", false)
def xY_Ma : Nat → FieldType := fun k => match k with
  | 0 => .object "ThreesAtTable$Seats"
  | 1 => .object "ThreesAtTable$Table"
  | 2 => .object "ThreesAtTable$Rule"
  | 3 => .object "ThreesAtTable$Standing"
  | 4 => .object "ThreesAtTable$Changes"
  | 5 => .object "ThreesAtTable$Ways"
  | 6 => .object "ThreesAtTable$Reader"
  | 7 => .array (.object "ThreesAtTable$Text")
  | 8 => .array (.object "ThreesAtTable$Town")
  | 9 => .array (.object "ThreesAtTable$Sheet")
  | 10 => .object "ThreesAtTable$Table"
  | 11 => .int
  | 12 => .int
  | 13 => .int
  | _ => .int
def xT_Mo : u_T := fun k => match k with
  | 0 => ("ThreesAtTableModel", "thrown", "I", false)
  | 1 => ("ThreesAtTableModel", "texts", "[I", true)
  | 2 => ("ThreesAtTableModel", "textSize", "[I", true)
  | 3 => ("ThreesAtTableModel", "textCount", "I", false)
  | 4 => ("ThreesAtTableModel", "rule", "I", false)
  | 5 => ("ThreesAtTableModel", "tape", "[I", true)
  | 6 => ("ThreesAtTableModel", "taped", "I", false)
  | 7 => ("ThreesAtTableModel", "n", "I", false)
  | 8 => ("ThreesAtTableModel", "knows", "I", false)
  | 9 => ("ThreesAtTableModel", "seen", "I", false)
  | 10 => ("ThreesAtTableModel", "kinds", "[I", true)
  | 11 => ("ThreesAtTableModel", "numbers", "[I", true)
  | 12 => ("ThreesAtTableModel", "towns", "I", false)
  | 13 => ("ThreesAtTableModel", "ofOne", "I", false)
  | 14 => ("ThreesAtTableModel", "ofOther", "I", false)
  | 15 => ("ThreesAtTableModel", "ofThird", "I", false)
  | 16 => ("ThreesAtTableModel", "ofKnow", "I", false)
  | 17 => ("ThreesAtTableModel", "ofSeen", "I", false)
  | 18 => ("ThreesAtTableModel", "ofMany", "I", false)
  | 19 => ("ThreesAtTableModel", "from", "I", false)
  | 20 => ("ThreesAtTableModel", "size", "I", false)
  | 21 => ("ThreesAtTableModel", "here", "I", false)
  | 22 => ("ThreesAtTableModel", "token", "I", false)
  | 23 => ("ThreesAtTableModel", "tokenAt", "I", false)
  | 24 => ("ThreesAtTableModel", "tokenWorth", "J", false)
  | 25 => ("ThreesAtTableModel", "open", "I", false)
  | 26 => ("ThreesAtTableModel", "bad", "Z", false)
  | 27 => ("ThreesAtTableModel", "fault", "I", false)
  | 28 => ("ThreesAtTableModel", "three", "[I", true)
  | 29 => ("ThreesAtTableModel", "threeWho", "[I", true)
  | 30 => ("ThreesAtTableModel", "asFriends", "[Z", true)
  | 31 => ("ThreesAtTableModel", "asStrangers", "[Z", true)
  | 32 => ("ThreesAtTableModel", "threeMany", "I", false)
  | 33 => ("ThreesAtTableModel", "costs", "[I", true)
  | 34 => ("ThreesAtTableModel", "bestSet", "I", false)
  | 35 => ("ThreesAtTableModel", "bestCost", "I", false)
  | 36 => ("ThreesAtTableModel", "mostThrees", "I", false)
  | 37 => ("ThreesAtTableModel", "nKept", "I", false)
  | 38 => ("ThreesAtTableModel", "knowsKept", "I", false)
  | 39 => ("ThreesAtTableModel", "seenKept", "I", false)
  | 40 => ("ThreesAtTableModel", "ruleKept", "I", false)
  | 41 => ("ThreesAtTableModel", "isThere", "[Z", true)
  | 42 => ("ThreesAtTableModel", "sorts", "[I", true)
  | 43 => ("ThreesAtTableModel", "sheetSize", "[I", true)
  | _ => ("ThreesAtTableModel", "items", "[I", true)
def xY_Mo : Nat → FieldType := fun k => match k with
  | 0 => .int
  | 1 => .array .int
  | 2 => .array .int
  | 3 => .int
  | 4 => .int
  | 5 => .array .int
  | 6 => .int
  | 7 => .int
  | 8 => .int
  | 9 => .int
  | 10 => .array .int
  | 11 => .array .int
  | 12 => .int
  | 13 => .int
  | 14 => .int
  | 15 => .int
  | 16 => .int
  | 17 => .int
  | 18 => .int
  | 19 => .int
  | 20 => .int
  | 21 => .int
  | 22 => .int
  | 23 => .int
  | 24 => .long
  | 25 => .int
  | 26 => .boolean
  | 27 => .int
  | 28 => .array .int
  | 29 => .array .int
  | 30 => .array .boolean
  | 31 => .array .boolean
  | 32 => .int
  | 33 => .array .int
  | 34 => .int
  | 35 => .int
  | 36 => .int
  | 37 => .int
  | 38 => .int
  | 39 => .int
  | 40 => .int
  | 41 => .array .boolean
  | 42 => .array .int
  | 43 => .array .int
  | _ => .array .int
/-- the kinds of objects: name, fields, how many; what type each field has -/
def xcl : List (vw_C × (Nat → FieldType)) := [((xR_Ch, xT_Ch, 6), xY_Ch), ((xR_Re, xT_Re, 9), xY_Re), ((xR_Ru, xT_Ru, 6), xY_Ru), ((xR_Se, xT_Se, 4), xY_Se), ((xR_Sh, xT_Sh, 3), xY_Sh), ((xR_St, xT_St, 4), xY_St), ((xR_Ta, xT_Ta, 4), xY_Ta), ((xR_Te, xT_Te, 2), xY_Te), ((xR_To, xT_To, 2), xY_To), ((xR_Wa, xT_Wa, 6), xY_Wa), ((xR_Ma, xT_Ma, 15), xY_Ma), ((xR_Mo, xT_Mo, 45), xY_Mo)]
def xC : List vw_C := xcl.map (fun q => q.1)
theorem x_sub {big ws : List Cond} (ps : List Nat) (hp : ws = ps.filterMap (fun i => big[i]?)) : ∀ w ∈ ws, w ∈ big := by
  intro w hw
  rw [hp] at hw
  obtain ⟨i, -, hi⟩ := List.mem_filterMap.mp hw
  exact List.mem_of_getElem? hi
def xTB : List Cond := lw_tbl.filter goodWord
theorem x_in {w : Cond} (i : Nat) (h : tables_1[i]? = some w) (g : goodWord w = true) : w ∈ xTB := List.mem_filter.mpr ⟨List.mem_append_right _ (List.mem_of_getElem? h), g⟩
theorem x_inp {w : Cond} (i : Nat) (h : (k2_sels lw_privs)[i]? = some w) (g : goodWord w = true) : w ∈ xTB := List.mem_filter.mpr ⟨List.mem_append_left _ (List.mem_of_getElem? h), g⟩
theorem x_subT {ws : List Cond} (ps : List Nat) (hp : ws = ps.filterMap (fun i => tables_1[i]?)) (hg : ws.all goodWord = true) : ∀ w ∈ ws, w ∈ xTB := fun w hw => List.mem_filter.mpr ⟨List.mem_append_right _ (x_sub ps hp w hw), List.all_eq_true.mp hg w hw⟩
theorem xl_Ch : ∀ w ∈ u_ws xR_Ch xT_Ch 6, w ∈ xTB := x_subT [157, 159, 161, 163, 165, 167] (by decide +kernel) (by decide +kernel)
theorem xn_Ch : ∀ a, a < 6 → ∀ b, b < 6 → a ≠ b → (xT_Ch a).2.1 ≠ (xT_Ch b).2.1 := by decide +kernel
theorem xy_Ch : ∀ k, k < 6 → parseFieldDescriptor (xT_Ch k).2.2.1 = some (xY_Ch k) ∧ (xT_Ch k).1 = xR_Ch := by decide +kernel
theorem xl_Re : ∀ w ∈ u_ws xR_Re xT_Re 9, w ∈ xTB := x_subT [213, 215, 217, 219, 221, 223, 225, 227, 229] (by decide +kernel) (by decide +kernel)
theorem xn_Re : ∀ a, a < 9 → ∀ b, b < 9 → a ≠ b → (xT_Re a).2.1 ≠ (xT_Re b).2.1 := by decide +kernel
theorem xy_Re : ∀ k, k < 9 → parseFieldDescriptor (xT_Re k).2.2.1 = some (xY_Re k) ∧ (xT_Re k).1 = xR_Re := by decide +kernel
theorem xl_Ru : ∀ w ∈ u_ws xR_Ru xT_Ru 6, w ∈ xTB := x_subT [110, 112, 114, 116, 118, 120] (by decide +kernel) (by decide +kernel)
theorem xn_Ru : ∀ a, a < 6 → ∀ b, b < 6 → a ≠ b → (xT_Ru a).2.1 ≠ (xT_Ru b).2.1 := by decide +kernel
theorem xy_Ru : ∀ k, k < 6 → parseFieldDescriptor (xT_Ru k).2.2.1 = some (xY_Ru k) ∧ (xT_Ru k).1 = xR_Ru := by decide +kernel
theorem xl_Se : ∀ w ∈ u_ws xR_Se xT_Se 4, w ∈ xTB := x_subT [58, 60, 62, 64] (by decide +kernel) (by decide +kernel)
theorem xn_Se : ∀ a, a < 4 → ∀ b, b < 4 → a ≠ b → (xT_Se a).2.1 ≠ (xT_Se b).2.1 := by decide +kernel
theorem xy_Se : ∀ k, k < 4 → parseFieldDescriptor (xT_Se k).2.2.1 = some (xY_Se k) ∧ (xT_Se k).1 = xR_Se := by decide +kernel
theorem xl_Sh : ∀ w ∈ u_ws xR_Sh xT_Sh 3, w ∈ xTB := x_subT [249, 251, 253] (by decide +kernel) (by decide +kernel)
theorem xn_Sh : ∀ a, a < 3 → ∀ b, b < 3 → a ≠ b → (xT_Sh a).2.1 ≠ (xT_Sh b).2.1 := by decide +kernel
theorem xy_Sh : ∀ k, k < 3 → parseFieldDescriptor (xT_Sh k).2.2.1 = some (xY_Sh k) ∧ (xT_Sh k).1 = xR_Sh := by decide +kernel
theorem xl_St : ∀ w ∈ u_ws xR_St xT_St 4, w ∈ xTB := x_subT [133, 135, 137, 139] (by decide +kernel) (by decide +kernel)
theorem xn_St : ∀ a, a < 4 → ∀ b, b < 4 → a ≠ b → (xT_St a).2.1 ≠ (xT_St b).2.1 := by decide +kernel
theorem xy_St : ∀ k, k < 4 → parseFieldDescriptor (xT_St k).2.2.1 = some (xY_St k) ∧ (xT_St k).1 = xR_St := by decide +kernel
theorem xl_Ta : ∀ w ∈ u_ws xR_Ta xT_Ta 4, w ∈ xTB := x_subT [89, 91, 93, 95] (by decide +kernel) (by decide +kernel)
theorem xn_Ta : ∀ a, a < 4 → ∀ b, b < 4 → a ≠ b → (xT_Ta a).2.1 ≠ (xT_Ta b).2.1 := by decide +kernel
theorem xy_Ta : ∀ k, k < 4 → parseFieldDescriptor (xT_Ta k).2.2.1 = some (xY_Ta k) ∧ (xT_Ta k).1 = xR_Ta := by decide +kernel
theorem xl_Te : ∀ w ∈ u_ws xR_Te xT_Te 2, w ∈ xTB := x_subT [432, 434] (by decide +kernel) (by decide +kernel)
theorem xn_Te : ∀ a, a < 2 → ∀ b, b < 2 → a ≠ b → (xT_Te a).2.1 ≠ (xT_Te b).2.1 := by decide +kernel
theorem xy_Te : ∀ k, k < 2 → parseFieldDescriptor (xT_Te k).2.2.1 = some (xY_Te k) ∧ (xT_Te k).1 = xR_Te := by decide +kernel
theorem xl_To : ∀ w ∈ u_ws xR_To xT_To 2, w ∈ xTB := x_subT [608, 610] (by decide +kernel) (by decide +kernel)
theorem xn_To : ∀ a, a < 2 → ∀ b, b < 2 → a ≠ b → (xT_To a).2.1 ≠ (xT_To b).2.1 := by decide +kernel
theorem xy_To : ∀ k, k < 2 → parseFieldDescriptor (xT_To k).2.2.1 = some (xY_To k) ∧ (xT_To k).1 = xR_To := by decide +kernel
theorem xl_Wa : ∀ w ∈ u_ws xR_Wa xT_Wa 6, w ∈ xTB := x_subT [185, 187, 189, 191, 193, 195] (by decide +kernel) (by decide +kernel)
theorem xn_Wa : ∀ a, a < 6 → ∀ b, b < 6 → a ≠ b → (xT_Wa a).2.1 ≠ (xT_Wa b).2.1 := by decide +kernel
theorem xy_Wa : ∀ k, k < 6 → parseFieldDescriptor (xT_Wa k).2.2.1 = some (xY_Wa k) ∧ (xT_Wa k).1 = xR_Wa := by decide +kernel
theorem xl_Ma : ∀ w ∈ u_ws xR_Ma xT_Ma 15, w ∈ xTB := x_subT [536, 538, 540, 542, 544, 546, 548, 550, 552, 554, 556, 558, 560, 562, 564] (by decide +kernel) (by decide +kernel)
theorem xn_Ma : ∀ a, a < 15 → ∀ b, b < 15 → a ≠ b → (xT_Ma a).2.1 ≠ (xT_Ma b).2.1 := by decide +kernel
theorem xy_Ma : ∀ k, k < 15 → parseFieldDescriptor (xT_Ma k).2.2.1 = some (xY_Ma k) ∧ (xT_Ma k).1 = xR_Ma := by decide +kernel
theorem xl_Mo : ∀ w ∈ u_ws xR_Mo xT_Mo 45, w ∈ xTB := x_subT [1031, 1033, 1035, 1037, 1039, 1041, 1043, 1045, 1047, 1049, 1051, 1053, 1055, 1057, 1059, 1061, 1063, 1065, 1067, 1069, 1071, 1073, 1075, 1077, 1079, 1081, 1083, 1085, 1087, 1089, 1091, 1093, 1095, 1097, 1099, 1101, 1103, 1105, 1107, 1109, 1111, 1113, 1115, 1117, 1119] (by decide +kernel) (by decide +kernel)
theorem xn_Mo : ∀ a, a < 45 → ∀ b, b < 45 → a ≠ b → (xT_Mo a).2.1 ≠ (xT_Mo b).2.1 := by decide +kernel
theorem xy_Mo : ∀ k, k < 45 → parseFieldDescriptor (xT_Mo k).2.2.1 = some (xY_Mo k) ∧ (xT_Mo k).1 = xR_Mo := by decide +kernel
abbrev xM : Type := MethodName × ByteArray × Nat × Option FieldType
def M_Ch_init : xM := (⟨xR_Ch, "<init>", "(LThreesAtTable$Seats;LThreesAtTable$Standing;)V"⟩, prog_2_method_1_code, 3, none)
def M_Ch_seek : xM := (⟨xR_Ch, "seek", "(LThreesAtTable$Table;LThreesAtTable$Rule;)Z"⟩, prog_2_method_2_code, 4, (some .boolean))
def M_Ch_tryChanges : xM := (⟨xR_Ch, "tryChanges", "(LThreesAtTable$Changes;IIII)V"⟩, prog_2_method_3_code, 9, none)
def M_Ch_keepBest : xM := (⟨xR_Ch, "keepBest", "(I)V"⟩, prog_2_method_4_code, 4, none)
def M_Ga_value : xM := (⟨xR_Ga, "value", "(LThreesAtTable$Seats;LThreesAtTable$Table;)I"⟩, prog_3_method_2_code, 2, (some .int))
def M_Ga_pair : xM := (⟨xR_Ga, "pair", "(LThreesAtTable$Seats;LThreesAtTable$Table;)I"⟩, prog_3_method_3_code, 6, (some .int))
def M_Ga_worth : xM := (⟨xR_Ga, "worth", "(LThreesAtTable$Seats;IIII)I"⟩, prog_3_method_4_code, 8, (some .int))
def M_Ga_worthOfTurn : xM := (⟨xR_Ga, "worthOfTurn", "(LThreesAtTable$Seats;IIIII)I"⟩, prog_3_method_5_code, 6, (some .int))
def M_Re_init : xM := (⟨xR_Re, "<init>", "()V"⟩, prog_4_method_1_code, 1, none)
def M_Re_size : xM := (⟨xR_Re, "size", "()I"⟩, prog_4_method_2_code, 1, (some .int))
def M_Re_empty : xM := (⟨xR_Re, "empty", "()V"⟩, prog_4_method_3_code, 1, none)
def M_Re_put : xM := (⟨xR_Re, "put", "(I)Z"⟩, prog_4_method_4_code, 2, (some .boolean))
def M_Re_written : xM := (⟨xR_Re, "written", "()LThreesAtTable$Text;"⟩, prog_4_method_5_code, 1, (some (.object "ThreesAtTable$Text")))
def M_Re_read : xM := (⟨xR_Re, "read", "()I"⟩, prog_4_method_6_code, 2, (some .int))
def M_Re_takes : xM := (⟨xR_Re, "takes", "(I)Z"⟩, prog_4_method_7_code, 2, (some .boolean))
def M_Re_readEither : xM := (⟨xR_Re, "readEither", "(I)Z"⟩, prog_4_method_8_code, 3, (some .boolean))
def M_Re_readBoth : xM := (⟨xR_Re, "readBoth", "(I)Z"⟩, prog_4_method_9_code, 3, (some .boolean))
def M_Re_readNot : xM := (⟨xR_Re, "readNot", "(I)Z"⟩, prog_4_method_10_code, 4, (some .boolean))
def M_Re_readCompared : xM := (⟨xR_Re, "readCompared", "(I)Z"⟩, prog_4_method_11_code, 3, (some .boolean))
def M_Re_readSum : xM := (⟨xR_Re, "readSum", "(I)Z"⟩, prog_4_method_12_code, 4, (some .boolean))
def M_Re_readTerm : xM := (⟨xR_Re, "readTerm", "(I)Z"⟩, prog_4_method_13_code, 3, (some .boolean))
def M_Re_readOne : xM := (⟨xR_Re, "readOne", "(I)Z"⟩, prog_4_method_14_code, 4, (some .boolean))
def M_Re_readPlain : xM := (⟨xR_Re, "readPlain", "(I)Z"⟩, prog_4_method_15_code, 2, (some .boolean))
def M_Re_write : xM := (⟨xR_Re, "write", "(I)V"⟩, prog_4_method_16_code, 2, none)
def M_Re_advance : xM := (⟨xR_Re, "advance", "()V"⟩, prog_4_method_17_code, 1, none)
def M_Re_isLetter : xM := (⟨xR_Re, "isLetter", "(I)Z"⟩, prog_4_method_18_code, 1, (some .boolean))
def M_Re_isDigit : xM := (⟨xR_Re, "isDigit", "(I)Z"⟩, prog_4_method_19_code, 1, (some .boolean))
def M_Re_isSign : xM := (⟨xR_Re, "isSign", "(I)Z"⟩, prog_4_method_20_code, 1, (some .boolean))
def M_Re_wordToken : xM := (⟨xR_Re, "wordToken", "()I"⟩, prog_4_method_21_code, 2, (some .int))
def M_Re_numberToken : xM := (⟨xR_Re, "numberToken", "()I"⟩, prog_4_method_22_code, 1, (some .int))
def M_Re_spells : xM := (⟨xR_Re, "spells", "(Ljava/lang/String;)Z"⟩, prog_4_method_23_code, 3, (some .boolean))
def M_Re_wordOf : xM := (⟨xR_Re, "wordOf", "(I)Ljava/lang/String;"⟩, prog_4_method_24_code, 1, (some (.object "java/lang/String")))
def M_Ru_init : xM := (⟨xR_Ru, "<init>", "(LThreesAtTable$Seats;LThreesAtTable$Table;)V"⟩, prog_5_method_1_code, 3, none)
def M_Ru_follow : xM := (⟨xR_Ru, "follow", "(LThreesAtTable$Text;)V"⟩, prog_5_method_2_code, 2, none)
def M_Ru_counts : xM := (⟨xR_Ru, "counts", "(IIII)Z"⟩, prog_5_method_3_code, 5, (some .boolean))
def M_Ru_costs : xM := (⟨xR_Ru, "costs", "(I)I"⟩, prog_5_method_4_code, 3, (some .int))
def M_Ru_joy : xM := (⟨xR_Ru, "joy", "(I)I"⟩, prog_5_method_5_code, 2, (some .int))
def M_Ru_bounded : xM := (⟨xR_Ru, "bounded", "(I)I"⟩, prog_5_method_6_code, 1, (some .int))
def M_Ru_name : xM := (⟨xR_Ru, "name", "(IIIII)V"⟩, prog_5_method_7_code, 6, none)
def M_Ru_answer : xM := (⟨xR_Ru, "answer", "(I)I"⟩, prog_5_method_8_code, 3, (some .int))
def M_Ru_step : xM := (⟨xR_Ru, "step", "(I)V"⟩, prog_5_method_9_code, 3, none)
def M_Ru_joined : xM := (⟨xR_Ru, "joined", "(III)I"⟩, prog_5_method_10_code, 3, (some .int))
def M_Ru_push : xM := (⟨xR_Ru, "push", "(I)V"⟩, prog_5_method_11_code, 2, none)
def M_Ru_pop : xM := (⟨xR_Ru, "pop", "()I"⟩, prog_5_method_12_code, 1, (some .int))
def M_Se_init : xM := (⟨xR_Se, "<init>", "()V"⟩, prog_6_method_1_code, 5, none)
def M_Se_pairsAmong : xM := (⟨xR_Se, "pairsAmong", "(I)I"⟩, prog_6_method_2_code, 1, (some .int))
def M_Se_threesAmong : xM := (⟨xR_Se, "threesAmong", "(I)I"⟩, prog_6_method_3_code, 1, (some .int))
def M_Se_pairOf : xM := (⟨xR_Se, "pairOf", "(II)I"⟩, prog_6_method_4_code, 2, (some .int))
def M_Se_lower : xM := (⟨xR_Se, "lower", "(I)I"⟩, prog_6_method_5_code, 2, (some .int))
def M_Se_higher : xM := (⟨xR_Se, "higher", "(I)I"⟩, prog_6_method_6_code, 2, (some .int))
def M_Se_within : xM := (⟨xR_Se, "within", "(I)I"⟩, prog_6_method_7_code, 2, (some .int))
def M_Se_three : xM := (⟨xR_Se, "three", "(I)I"⟩, prog_6_method_8_code, 2, (some .int))
def M_Se_closes : xM := (⟨xR_Se, "closes", "(II)Z"⟩, prog_6_method_9_code, 6, (some .boolean))
def M_Sh_init : xM := (⟨xR_Sh, "<init>", "()V"⟩, prog_7_method_1_code, 1, none)
def M_Sh_isMissing : xM := (⟨xR_Sh, "isMissing", "()Z"⟩, prog_7_method_2_code, 1, (some .boolean))
def M_Sh_become : xM := (⟨xR_Sh, "become", "(II)V"⟩, prog_7_method_3_code, 3, none)
def M_Sh_hasRun : xM := (⟨xR_Sh, "hasRun", "(II)Z"⟩, prog_7_method_4_code, 3, (some .boolean))
def M_Sh_item : xM := (⟨xR_Sh, "item", "(I)I"⟩, prog_7_method_5_code, 2, (some .int))
def M_Sh_write : xM := (⟨xR_Sh, "write", "(II)Z"⟩, prog_7_method_6_code, 3, (some .boolean))
def M_St_init : xM := (⟨xR_St, "<init>", "(LThreesAtTable$Seats;)V"⟩, prog_8_method_1_code, 2, none)
def M_St_weigh : xM := (⟨xR_St, "weigh", "(LThreesAtTable$Rule;I)V"⟩, prog_8_method_2_code, 6, none)
def M_St_weighThree : xM := (⟨xR_St, "weighThree", "(LThreesAtTable$Rule;III)V"⟩, prog_8_method_3_code, 6, none)
def M_St_stands : xM := (⟨xR_St, "stands", "(III)Z"⟩, prog_8_method_4_code, 5, (some .boolean))
def M_St_howMany : xM := (⟨xR_St, "howMany", "(II)I"⟩, prog_8_method_5_code, 5, (some .int))
def M_St_anyThree : xM := (⟨xR_St, "anyThree", "(II)I"⟩, prog_8_method_6_code, 5, (some .int))
def M_St_howManyWith : xM := (⟨xR_St, "howManyWith", "(III)I"⟩, prog_8_method_7_code, 7, (some .int))
def M_Ta_init : xM := (⟨xR_Ta, "<init>", "(LThreesAtTable$Seats;)V"⟩, prog_9_method_1_code, 2, none)
def M_Ta_lay : xM := (⟨xR_Ta, "lay", "(I)V"⟩, prog_9_method_2_code, 2, none)
def M_Ta_layBits : xM := (⟨xR_Ta, "layBits", "(II)V"⟩, prog_9_method_3_code, 3, none)
def M_Ta_layAs : xM := (⟨xR_Ta, "layAs", "(LThreesAtTable$Table;)V"⟩, prog_9_method_4_code, 2, none)
def M_Ta_everyone : xM := (⟨xR_Ta, "everyone", "()I"⟩, prog_9_method_5_code, 1, (some .int))
def M_Ta_everyPair : xM := (⟨xR_Ta, "everyPair", "()I"⟩, prog_9_method_6_code, 1, (some .int))
def M_Ta_look : xM := (⟨xR_Ta, "look", "(I)I"⟩, prog_9_method_7_code, 2, (some .int))
def M_Ta_put : xM := (⟨xR_Ta, "put", "(II)V"⟩, prog_9_method_8_code, 4, none)
def M_Ta_knownBy : xM := (⟨xR_Ta, "knownBy", "(I)I"⟩, prog_9_method_9_code, 4, (some .int))
def M_Te_init : xM := (⟨xR_Te, "<init>", "([I[I)V"⟩, prog_10_method_1_code, 3, none)
def M_Te_begin : xM := (⟨xR_Te, "begin", "(I)I"⟩, prog_10_method_2_code, 2, (some .int))
def M_Te_end : xM := (⟨xR_Te, "end", "(I)I"⟩, prog_10_method_3_code, 2, (some .int))
def M_Te_code : xM := (⟨xR_Te, "code", "(I)I"⟩, prog_10_method_4_code, 2, (some .int))
def M_To_init : xM := (⟨xR_To, "<init>", "(II)V"⟩, prog_11_method_1_code, 3, none)
def M_To_isOf : xM := (⟨xR_To, "isOf", "(I)Z"⟩, prog_11_method_2_code, 4, (some .boolean))
def M_To_knows : xM := (⟨xR_To, "knows", "(III)Z"⟩, prog_11_method_3_code, 4, (some .boolean))
def M_To_price : xM := (⟨xR_To, "price", "(II)I"⟩, prog_11_method_4_code, 3, (some .int))
def M_To_areUnlike : xM := (⟨xR_To, "areUnlike", "(III)Z"⟩, prog_11_method_5_code, 3, (some .boolean))
def M_To_areNextInRing : xM := (⟨xR_To, "areNextInRing", "(III)Z"⟩, prog_11_method_6_code, 5, (some .boolean))
def M_Wa_init : xM := (⟨xR_Wa, "<init>", "(LThreesAtTable$Seats;LThreesAtTable$Standing;)V"⟩, prog_12_method_1_code, 3, none)
def M_Wa_fillAll : xM := (⟨xR_Wa, "fillAll", "(LThreesAtTable$Table;)V"⟩, prog_12_method_2_code, 3, none)
def M_Wa_fillFrom : xM := (⟨xR_Wa, "fillFrom", "(LThreesAtTable$Ways;IIII)V"⟩, prog_12_method_3_code, 8, none)
def M_Wa_drawAll : xM := (⟨xR_Wa, "drawAll", "(I)V"⟩, prog_12_method_4_code, 2, none)
def M_Wa_drawFrom : xM := (⟨xR_Wa, "drawFrom", "(LThreesAtTable$Ways;III)V"⟩, prog_12_method_5_code, 6, none)
def M_Ma_init : xM := (⟨xR_Ma, "<init>", "()V"⟩, prog_1_method_1_code, 2, none)
def M_Ma_sit : xM := (⟨xR_Ma, "sit", "(I)I"⟩, prog_1_method_2_code, 3, (some .int))
def M_Ma_meet : xM := (⟨xR_Ma, "meet", "(III)I"⟩, prog_1_method_3_code, 6, (some .int))
def M_Ma_told : xM := (⟨xR_Ma, "told", "(II)I"⟩, prog_1_method_4_code, 4, (some .int))
def M_Ma_town : xM := (⟨xR_Ma, "town", "(II)I"⟩, prog_1_method_5_code, 3, (some .int))
def M_Ma_asIn : xM := (⟨xR_Ma, "asIn", "(I)I"⟩, prog_1_method_6_code, 4, (some .int))
def M_Ma_tells : xM := (⟨xR_Ma, "tells", "(IIII)I"⟩, prog_1_method_7_code, 6, (some .int))
def M_Ma_isGuest : xM := (⟨xR_Ma, "isGuest", "(I)Z"⟩, prog_1_method_8_code, 2, (some .boolean))
def M_Ma_isWithin : xM := (⟨xR_Ma, "isWithin", "(II)Z"⟩, prog_1_method_9_code, 2, (some .boolean))
def M_Ma_pairNumber : xM := (⟨xR_Ma, "pairNumber", "(II)I"⟩, prog_1_method_10_code, 3, (some .int))
def M_Ma_townAt : xM := (⟨xR_Ma, "townAt", "(I)LThreesAtTable$Town;"⟩, prog_1_method_11_code, 2, (some (.object "ThreesAtTable$Town")))
def M_Ma_friendsIn : xM := (⟨xR_Ma, "friendsIn", "(LThreesAtTable$Town;)I"⟩, prog_1_method_12_code, 5, (some .int))
def M_Ma_feed : xM := (⟨xR_Ma, "feed", "(I)I"⟩, prog_1_method_13_code, 2, (some .int))
def M_Ma_text : xM := (⟨xR_Ma, "text", "()I"⟩, prog_1_method_14_code, 2, (some .int))
def M_Ma_force : xM := (⟨xR_Ma, "force", "(I)I"⟩, prog_1_method_15_code, 3, (some .int))
def M_Ma_keepText : xM := (⟨xR_Ma, "keepText", "()I"⟩, prog_1_method_16_code, 1, (some .int))
def M_Ma_learnFirstText : xM := (⟨xR_Ma, "learnFirstText", "()V"⟩, prog_1_method_17_code, 2, none)
def M_Ma_useText : xM := (⟨xR_Ma, "useText", "(I)V"⟩, prog_1_method_18_code, 2, none)
def M_Ma_threes : xM := (⟨xR_Ma, "threes", "(I)I"⟩, prog_1_method_19_code, 2, (some .int))
def M_Ma_guest : xM := (⟨xR_Ma, "guest", "(II)I"⟩, prog_1_method_20_code, 3, (some .int))
def M_Ma_most : xM := (⟨xR_Ma, "most", "()I"⟩, prog_1_method_21_code, 5, (some .int))
def M_Ma_threesNow : xM := (⟨xR_Ma, "threesNow", "()I"⟩, prog_1_method_22_code, 1, (some .int))
def M_Ma_firstThree : xM := (⟨xR_Ma, "firstThree", "()I"⟩, prog_1_method_23_code, 5, (some .int))
def M_Ma_byDegrees : xM := (⟨xR_Ma, "byDegrees", "()I"⟩, prog_1_method_24_code, 4, (some .int))
def M_Ma_threesOf : xM := (⟨xR_Ma, "threesOf", "(I)I"⟩, prog_1_method_25_code, 3, (some .int))
def M_Ma_home : xM := (⟨xR_Ma, "home", "(I)I"⟩, prog_1_method_26_code, 3, (some .int))
def M_Ma_change : xM := (⟨xR_Ma, "change", "(I)I"⟩, prog_1_method_27_code, 3, (some .int))
def M_Ma_noneLeft : xM := (⟨xR_Ma, "noneLeft", "(I)I"⟩, prog_1_method_28_code, 2, (some .int))
def M_Ma_sentHome : xM := (⟨xR_Ma, "sentHome", "()I"⟩, prog_1_method_29_code, 3, (some .int))
def M_Ma_leavesNone : xM := (⟨xR_Ma, "leavesNone", "(I)Z"⟩, prog_1_method_30_code, 3, (some .boolean))
def M_Ma_joyOf : xM := (⟨xR_Ma, "joyOf", "(I)I"⟩, prog_1_method_31_code, 4, (some .int))
def M_Ma_bestChange : xM := (⟨xR_Ma, "bestChange", "()I"⟩, prog_1_method_32_code, 6, (some .int))
def M_Ma_threesIfChanged : xM := (⟨xR_Ma, "threesIfChanged", "(I)I"⟩, prog_1_method_33_code, 2, (some .int))
def M_Ma_all : xM := (⟨xR_Ma, "all", "(II)I"⟩, prog_1_method_34_code, 7, (some .int))
def M_Ma_halved : xM := (⟨xR_Ma, "halved", "(I)I"⟩, prog_1_method_35_code, 6, (some .int))
def M_Ma_fours : xM := (⟨xR_Ma, "fours", "()I"⟩, prog_1_method_36_code, 5, (some .int))
def M_Ma_common : xM := (⟨xR_Ma, "common", "(I)I"⟩, prog_1_method_37_code, 4, (some .int))
def M_Ma_friendsWithin : xM := (⟨xR_Ma, "friendsWithin", "(I)I"⟩, prog_1_method_38_code, 2, (some .int))
def M_Ma_knownByBoth : xM := (⟨xR_Ma, "knownByBoth", "(II)I"⟩, prog_1_method_39_code, 3, (some .int))
def M_Ma_whoKnowsAll : xM := (⟨xR_Ma, "whoKnowsAll", "()I"⟩, prog_1_method_40_code, 2, (some .int))
def M_Ma_without : xM := (⟨xR_Ma, "without", "(II)I"⟩, prog_1_method_41_code, 3, (some .int))
def M_Ma_half : xM := (⟨xR_Ma, "half", "(I)I"⟩, prog_1_method_42_code, 2, (some .int))
def M_Ma_chance : xM := (⟨xR_Ma, "chance", "(I)J"⟩, prog_1_method_43_code, 5, (some .long))
def M_Ma_game : xM := (⟨xR_Ma, "game", "(I)I"⟩, prog_1_method_44_code, 2, (some .int))
def M_Ma_judge : xM := (⟨xR_Ma, "judge", "(II)I"⟩, prog_1_method_45_code, 8, (some .int))
def M_Ma_drawn : xM := (⟨xR_Ma, "drawn", "(I)I"⟩, prog_1_method_46_code, 5, (some .int))
def M_Ma_like : xM := (⟨xR_Ma, "like", "(I)I"⟩, prog_1_method_47_code, 6, (some .int))
def M_Ma_image : xM := (⟨xR_Ma, "image", "()I"⟩, prog_1_method_48_code, 1, (some .int))
def M_Ma_back : xM := (⟨xR_Ma, "back", "()I"⟩, prog_1_method_49_code, 1, (some .int))
def M_Ma_count : xM := (⟨xR_Ma, "count", "(I)I"⟩, prog_1_method_50_code, 2, (some .int))
def M_Ma_unseenPairs : xM := (⟨xR_Ma, "unseenPairs", "()I"⟩, prog_1_method_51_code, 1, (some .int))
def M_Ma_introduced : xM := (⟨xR_Ma, "introduced", "(I)I"⟩, prog_1_method_52_code, 2, (some .int))
def M_Ma_sheet : xM := (⟨xR_Ma, "sheet", "(III)I"⟩, prog_1_method_53_code, 5, (some .int))
def M_Ma_cell : xM := (⟨xR_Ma, "cell", "(III)I"⟩, prog_1_method_54_code, 5, (some .int))
def M_Ma_copy : xM := (⟨xR_Ma, "copy", "(IIIII)I"⟩, prog_1_method_55_code, 8, (some .int))
def M_Ma_pairs : xM := (⟨xR_Ma, "pairs", "(IIII)I"⟩, prog_1_method_56_code, 9, (some .int))
def M_Ma_taken : xM := (⟨xR_Ma, "taken", "(II)I"⟩, prog_1_method_57_code, 4, (some .int))
def M_Ma_sheetAt : xM := (⟨xR_Ma, "sheetAt", "(I)LThreesAtTable$Sheet;"⟩, prog_1_method_58_code, 2, (some (.object "ThreesAtTable$Sheet")))
def M_Mo_in : xM := (⟨xR_Mo, "in", "(JJJ)Z"⟩, prog_14_method_2_code, 6, (some .boolean))
def M_Mo_within : xM := (⟨xR_Mo, "within", "(III)I"⟩, prog_14_method_3_code, 3, (some .int))
def M_Mo_bitsOf : xM := (⟨xR_Mo, "bitsOf", "(I)I"⟩, prog_14_method_4_code, 3, (some .int))
def M_Mo_init : xM := (⟨xR_Mo, "<init>", "()V"⟩, prog_14_method_5_code, 1, none)
def M_Mo_spell : xM := (⟨xR_Mo, "spell", "(IIIIIIIII)V"⟩, prog_14_method_6_code, 10, none)
def M_Mo_isGuest : xM := (⟨xR_Mo, "isGuest", "(I)Z"⟩, prog_14_method_7_code, 2, (some .boolean))
def M_Mo_seat : xM := (⟨xR_Mo, "seat", "(II)I"⟩, prog_14_method_8_code, 2, (some .int))
def M_Mo_allOf : xM := (⟨xR_Mo, "allOf", "(I)I"⟩, prog_14_method_9_code, 1, (some .int))
def M_Mo_know : xM := (⟨xR_Mo, "know", "(II)Z"⟩, prog_14_method_10_code, 3, (some .boolean))
def M_Mo_isPair : xM := (⟨xR_Mo, "isPair", "(II)Z"⟩, prog_14_method_11_code, 3, (some .boolean))
def M_Mo_sit : xM := (⟨xR_Mo, "sit", "(I)I"⟩, prog_14_method_12_code, 3, (some .int))
def M_Mo_pairAt : xM := (⟨xR_Mo, "pairAt", "(I)I"⟩, prog_14_method_13_code, 2, (some .int))
def M_Mo_meet : xM := (⟨xR_Mo, "meet", "(III)I"⟩, prog_14_method_14_code, 6, (some .int))
def M_Mo_told : xM := (⟨xR_Mo, "told", "(II)I"⟩, prog_14_method_15_code, 3, (some .int))
def M_Mo_isTown : xM := (⟨xR_Mo, "isTown", "(I)Z"⟩, prog_14_method_16_code, 2, (some .boolean))
def M_Mo_town : xM := (⟨xR_Mo, "town", "(II)I"⟩, prog_14_method_17_code, 3, (some .int))
def M_Mo_isSo : xM := (⟨xR_Mo, "isSo", "(III)Z"⟩, prog_14_method_18_code, 8, (some .boolean))
def M_Mo_price : xM := (⟨xR_Mo, "price", "(III)I"⟩, prog_14_method_19_code, 7, (some .int))
def M_Mo_asIn : xM := (⟨xR_Mo, "asIn", "(I)I"⟩, prog_14_method_20_code, 4, (some .int))
def M_Mo_tells : xM := (⟨xR_Mo, "tells", "(IIII)I"⟩, prog_14_method_21_code, 5, (some .int))
def M_Mo_like : xM := (⟨xR_Mo, "like", "(I)I"⟩, prog_14_method_22_code, 6, (some .int))
def M_Mo_feed : xM := (⟨xR_Mo, "feed", "(I)I"⟩, prog_14_method_23_code, 2, (some .int))
def M_Mo_byteAt : xM := (⟨xR_Mo, "byteAt", "(I)I"⟩, prog_14_method_24_code, 2, (some .int))
def M_Mo_next : xM := (⟨xR_Mo, "next", "()V"⟩, prog_14_method_25_code, 3, none)
def M_Mo_fail : xM := (⟨xR_Mo, "fail", "()V"⟩, prog_14_method_26_code, 1, none)
def M_Mo_isLetter : xM := (⟨xR_Mo, "isLetter", "(II)Z"⟩, prog_14_method_27_code, 3, (some .boolean))
def M_Mo_isWord : xM := (⟨xR_Mo, "isWord", "(IIIIIIII)Z"⟩, prog_14_method_28_code, 9, (some .boolean))
def M_Mo_isSign : xM := (⟨xR_Mo, "isSign", "(I)Z"⟩, prog_14_method_29_code, 2, (some .boolean))
def M_Mo_opens : xM := (⟨xR_Mo, "opens", "()Z"⟩, prog_14_method_30_code, 1, (some .boolean))
def M_Mo_name : xM := (⟨xR_Mo, "name", "()I"⟩, prog_14_method_31_code, 1, (some .int))
def M_Mo_atom : xM := (⟨xR_Mo, "atom", "()I"⟩, prog_14_method_32_code, 2, (some .int))
def M_Mo_term : xM := (⟨xR_Mo, "term", "()I"⟩, prog_14_method_33_code, 2, (some .int))
def M_Mo_added : xM := (⟨xR_Mo, "added", "()I"⟩, prog_14_method_34_code, 4, (some .int))
def M_Mo_not : xM := (⟨xR_Mo, "not", "()I"⟩, prog_14_method_35_code, 4, (some .int))
def M_Mo_both : xM := (⟨xR_Mo, "both", "()I"⟩, prog_14_method_36_code, 3, (some .int))
def M_Mo_either : xM := (⟨xR_Mo, "either", "()I"⟩, prog_14_method_37_code, 3, (some .int))
def M_Mo_part : xM := (⟨xR_Mo, "part", "(Z)I"⟩, prog_14_method_38_code, 3, (some .int))
def M_Mo_read : xM := (⟨xR_Mo, "read", "(II)I"⟩, prog_14_method_39_code, 6, (some .int))
def M_Mo_text : xM := (⟨xR_Mo, "text", "()I"⟩, prog_14_method_40_code, 2, (some .int))
def M_Mo_force : xM := (⟨xR_Mo, "force", "(I)I"⟩, prog_14_method_41_code, 3, (some .int))
def M_Mo_says : xM := (⟨xR_Mo, "says", "(IIIIII)I"⟩, prog_14_method_42_code, 7, (some .int))
def M_Mo_gathers : xM := (⟨xR_Mo, "gathers", "()V"⟩, prog_14_method_43_code, 4, none)
def M_Mo_sortOf : xM := (⟨xR_Mo, "sortOf", "(III)I"⟩, prog_14_method_44_code, 4, (some .int))
def M_Mo_allThrees : xM := (⟨xR_Mo, "allThrees", "(II)I"⟩, prog_14_method_45_code, 5, (some .int))
def M_Mo_degree : xM := (⟨xR_Mo, "degree", "(I)I"⟩, prog_14_method_46_code, 4, (some .int))
def M_Mo_threes : xM := (⟨xR_Mo, "threes", "(I)I"⟩, prog_14_method_47_code, 7, (some .int))
def M_Mo_isIn : xM := (⟨xR_Mo, "isIn", "(II)Z"⟩, prog_14_method_48_code, 2, (some .boolean))
def M_Mo_threesOf : xM := (⟨xR_Mo, "threesOf", "(I)I"⟩, prog_14_method_49_code, 4, (some .int))
def M_Mo_joy : xM := (⟨xR_Mo, "joy", "(I)I"⟩, prog_14_method_50_code, 2, (some .int))
def M_Mo_guest : xM := (⟨xR_Mo, "guest", "(II)I"⟩, prog_14_method_51_code, 3, (some .int))
def M_Mo_most : xM := (⟨xR_Mo, "most", "()I"⟩, prog_14_method_52_code, 5, (some .int))
def M_Mo_meetsAll : xM := (⟨xR_Mo, "meetsAll", "(I)Z"⟩, prog_14_method_53_code, 5, (some .boolean))
def M_Mo_home : xM := (⟨xR_Mo, "home", "(I)I"⟩, prog_14_method_54_code, 5, (some .int))
def M_Mo_gathersCosts : xM := (⟨xR_Mo, "gathersCosts", "()V"⟩, prog_14_method_55_code, 4, none)
def M_Mo_change : xM := (⟨xR_Mo, "change", "(I)I"⟩, prog_14_method_56_code, 6, (some .int))
def M_Mo_leaves : xM := (⟨xR_Mo, "leaves", "(IIII)V"⟩, prog_14_method_57_code, 6, none)
def M_Mo_noneLeft : xM := (⟨xR_Mo, "noneLeft", "(I)I"⟩, prog_14_method_58_code, 3, (some .int))
def M_Mo_areAll : xM := (⟨xR_Mo, "areAll", "(II)Z"⟩, prog_14_method_59_code, 5, (some .boolean))
def M_Mo_all : xM := (⟨xR_Mo, "all", "(II)I"⟩, prog_14_method_60_code, 5, (some .int))
def M_Mo_halved : xM := (⟨xR_Mo, "halved", "(I)I"⟩, prog_14_method_61_code, 8, (some .int))
def M_Mo_ring : xM := (⟨xR_Mo, "ring", "(IIII)I"⟩, prog_14_method_62_code, 5, (some .int))
def M_Mo_fours : xM := (⟨xR_Mo, "fours", "()I"⟩, prog_14_method_63_code, 6, (some .int))
def M_Mo_common : xM := (⟨xR_Mo, "common", "(I)I"⟩, prog_14_method_64_code, 6, (some .int))
def M_Mo_without : xM := (⟨xR_Mo, "without", "(II)I"⟩, prog_14_method_65_code, 11, (some .int))
def M_Mo_unseen : xM := (⟨xR_Mo, "unseen", "()I"⟩, prog_14_method_66_code, 1, (some .int))
def M_Mo_waysWithout : xM := (⟨xR_Mo, "waysWithout", "()I"⟩, prog_14_method_67_code, 6, (some .int))
def M_Mo_half : xM := (⟨xR_Mo, "half", "(I)I"⟩, prog_14_method_68_code, 3, (some .int))
def M_Mo_chance : xM := (⟨xR_Mo, "chance", "(I)J"⟩, prog_14_method_69_code, 12, (some .long))
def M_Mo_hasThree : xM := (⟨xR_Mo, "hasThree", "(IIII)Z"⟩, prog_14_method_70_code, 7, (some .boolean))
def M_Mo_turn : xM := (⟨xR_Mo, "turn", "(IIII)I"⟩, prog_14_method_71_code, 7, (some .int))
def M_Mo_value : xM := (⟨xR_Mo, "value", "(III)I"⟩, prog_14_method_72_code, 7, (some .int))
def M_Mo_game : xM := (⟨xR_Mo, "game", "(I)I"⟩, prog_14_method_73_code, 4, (some .int))
def M_Mo_judge : xM := (⟨xR_Mo, "judge", "(II)I"⟩, prog_14_method_74_code, 10, (some .int))
def M_Mo_drawn : xM := (⟨xR_Mo, "drawn", "(I)I"⟩, prog_14_method_75_code, 5, (some .int))
def M_Mo_image : xM := (⟨xR_Mo, "image", "()I"⟩, prog_14_method_76_code, 1, (some .int))
def M_Mo_back : xM := (⟨xR_Mo, "back", "()I"⟩, prog_14_method_77_code, 1, (some .int))
def M_Mo_count : xM := (⟨xR_Mo, "count", "(I)I"⟩, prog_14_method_78_code, 2, (some .int))
def M_Mo_isSheet : xM := (⟨xR_Mo, "isSheet", "(I)Z"⟩, prog_14_method_79_code, 1, (some .boolean))
def M_Mo_sheet : xM := (⟨xR_Mo, "sheet", "(III)I"⟩, prog_14_method_80_code, 5, (some .int))
def M_Mo_cell : xM := (⟨xR_Mo, "cell", "(III)I"⟩, prog_14_method_81_code, 4, (some .int))
def M_Mo_copy : xM := (⟨xR_Mo, "copy", "(IIIII)I"⟩, prog_14_method_82_code, 9, (some .int))
def M_Mo_pairs : xM := (⟨xR_Mo, "pairs", "(IIII)I"⟩, prog_14_method_83_code, 8, (some .int))
def M_Mo_over : xM := (⟨xR_Mo, "over", "(I)I"⟩, prog_14_method_84_code, 1, (some .int))
def M_Mo_taken : xM := (⟨xR_Mo, "taken", "(II)I"⟩, prog_14_method_85_code, 4, (some .int))
def M_In_bitCount : xM := (⟨xR_In, "bitCount", "(I)I"⟩, prog_16_method_49_code, 1, (some .int))
def M_Mt_max : xM := (⟨xR_Mt, "max", "(II)I"⟩, prog_17_method_65_code, 2, (some .int))
def M_Mt_min : xM := (⟨xR_Mt, "min", "(II)I"⟩, prog_17_method_69_code, 2, (some .int))
def M_Sg_length : xM := (⟨xR_Sg, "length", "()I"⟩, prog_18_method_54_code, 1, (some .int))
def M_Sg_charAt : xM := (⟨xR_Sg, "charAt", "(I)C"⟩, prog_18_method_56_code, 2, (some .char))
def M_Sg_coder : xM := (⟨xR_Sg, "coder", "()B"⟩, prog_18_method_152_code, 1, (some .byte))
def M_Sg_isLatin1 : xM := (⟨xR_Sg, "isLatin1", "()Z"⟩, prog_18_method_154_code, 1, (some .boolean))
def M_Sg_checkIndex : xM := (⟨xR_Sg, "checkIndex", "(II)V"⟩, prog_18_method_155_code, 2, none)
def M_Sl_charAt : xM := (⟨xR_Sl, "charAt", "([BI)C"⟩, prog_19_method_2_code, 2, (some .char))
def M_Su_getChar : xM := (⟨xR_Su, "getChar", "([BI)C"⟩, prog_20_method_5_code, 2, (some .char))
def M_Su_length : xM := (⟨xR_Su, "length", "([B)I"⟩, prog_20_method_6_code, 1, (some .int))
def M_Su_charAt : xM := (⟨xR_Su, "charAt", "([BI)C"⟩, prog_20_method_83_code, 2, (some .char))
def M_Su_checkIndex : xM := (⟨xR_Su, "checkIndex", "(I[B)V"⟩, prog_20_method_91_code, 2, none)
def M_Ar_fill : xM := (⟨xR_Ar, "fill", "([II)V"⟩, prog_22_method_103_code, 4, none)
def M_Ar_copyOf : xM := (⟨xR_Ar, "copyOf", "([II)[I"⟩, prog_22_method_123_code, 3, (some (.array .int)))
def M_Pc_checkIndex : xM := (⟨xR_Pc, "checkIndex", "(IILjava/util/function/BiFunction;)I"⟩, prog_23_method_11_code, 3, (some .int))
def M_La_law : xM := (⟨xR_La, "law", "([I)Z"⟩, code, 4, some .boolean)
end
section
/-! a pure machine: values (ints, longs, places of the heap with 0 for null, things outside), and a heap of numbered places -/
abbrev xV : Type := Int32 ⊕ (Int64 ⊕ (Nat ⊕ Nat))
abbrev xI (v : Int32) : xV := Sum.inl v
abbrev xJ (v : Int64) : xV := Sum.inr (Sum.inl v)
abbrev xR (v : Nat) : xV := Sum.inr (Sum.inr (Sum.inl v))
abbrev xS (v : Nat) : xV := Sum.inr (Sum.inr (Sum.inr v))
abbrev xH : Type := Nat × (Nat → Nat) × (Nat → Nat) × (Nat → Nat → Int32) × (Nat → Nat → Nat)
def hN (h : xH) : Nat := h.1
def hK (h : xH) (p : Nat) : Nat := h.2.1 p
def hL (h : xH) (p : Nat) : Nat := h.2.2.1 p
def hI (h : xH) (p k : Nat) : Int32 := h.2.2.2.1 p k
def hR (h : xH) (p k : Nat) : Nat := h.2.2.2.2 p k
def hIu (h : xH) (p k : Nat) (v : Int32) : xH := (h.1, h.2.1, h.2.2.1, (fun q j => if q = p ∧ j = k then v else h.2.2.2.1 q j), h.2.2.2.2)
def hRu (h : xH) (p k v : Nat) : xH := (h.1, h.2.1, h.2.2.1, h.2.2.2.1, fun q j => if q = p ∧ j = k then v else h.2.2.2.2 q j)
def hIr (h : xH) (p : Nat) (f : Nat → Int32) : xH := (h.1, h.2.1, h.2.2.1, (fun q j => if q = p then f j else h.2.2.2.1 q j), h.2.2.2.2)
def hNw (h : xH) (kd ln : Nat) : xH := (h.1 + 1, (fun q => if q = h.1 then kd else h.2.1 q), (fun q => if q = h.1 then ln else h.2.2.1 q), (fun q j => if q = h.1 then 0 else h.2.2.2.1 q j), fun q j => if q = h.1 then 0 else h.2.2.2.2 q j)
/-- what outside things are: 0..13 texts, 14 the script, 15 the row ABOVE, 16..29 the texts' bytes, 31 the formatter -/
def x_ab (j : Nat) : Int32 := ([-1, 0, 0, 1, 2, 2] : List Int32).getD j 0
def x_len : List Nat := [35, 3, 5, 5, 4, 4, 4, 6, 5, 3, 2, 3, 3, 0]
def x_byt : List (List Int32) := [[99, 111, 117, 110, 116, 115, 32, 49, 32, 59, 32, 99, 111, 115, 116, 115, 32, 49, 32, 59, 32, 106, 111, 121, 32, 53, 32, 45, 32, 107, 110, 111, 119, 32, 59], [111, 110, 101], [111, 116, 104, 101, 114], [116, 104, 105, 114, 100], [107, 110, 111, 119], [115, 101, 101, 110], [109, 97, 110, 121], [99, 111, 117, 110, 116, 115], [99, 111, 115, 116, 115], [106, 111, 121], [111, 114], [97, 110, 100], [110, 111, 116], []]
def x_sl : List (String × Nat × String) := [("ThreesAtTable", 186, "counts 1 ; costs 1 ; joy 5 - know ;"), ("ThreesAtTable$Reader", 124, "one"), ("ThreesAtTable$Reader", 126, "other"), ("ThreesAtTable$Reader", 128, "third"), ("ThreesAtTable$Reader", 130, "know"), ("ThreesAtTable$Reader", 132, "seen"), ("ThreesAtTable$Reader", 134, "many"), ("ThreesAtTable$Reader", 136, "counts"), ("ThreesAtTable$Reader", 138, "costs"), ("ThreesAtTable$Reader", 140, "joy"), ("ThreesAtTable$Reader", 142, "or"), ("ThreesAtTable$Reader", 144, "and"), ("ThreesAtTable$Reader", 146, "not"), ("ThreesAtTable$Reader", 148, "")]
def x_ao : List String := ["ThreesAtTable$Text", "ThreesAtTable$Town", "ThreesAtTable$Sheet"]
abbrev xK : Type := (Nat → Nat) × Option Nat
def x_r (al : Nat → Nat) (p : Nat) : Option Nat := if p = 0 then none else some (al p)
def x_t (al : Nat → Nat) (ka : xK) (v : xV) : Value := match v with
  | .inl v => .int v
  | .inr (.inl v) => .long v
  | .inr (.inr (.inl p)) => va_rf (x_r al p)
  | .inr (.inr (.inr k)) => if k = 31 then va_rf ka.2 else .ref (ka.1 k)
def x_fv (al : Nat → Nat) (h : xH) (p : Nat) (t : FieldType) (k : Nat) : Value := match t with
  | .int => .int (hI h p k)
  | .boolean => .int (hI h p k)
  | .long => .long (hI h p k).toInt64
  | _ => va_rf (x_r al (hR h p k))
def x_fs (al : Nat → Nat) (h : xH) (p n : Nat) (t : Nat → FieldType) : List Value := (List.range n).map (fun k => x_fv al h p (t k) k)
def x_g (cA : Nat → ClassId) (al : Nat → Nat) (h : xH) (p : Nat) : va_E := match xcl[hK h p]? with
  | some q => .inr (hK h p, x_fs al h p q.1.2.2 q.2)
  | none => if hK h p = 12 ∨ hK h p = 13 then .inl (cA (hK h p), (hL h p, .inl (hI h p))) else .inl (cA (hK h p), (hL h p, .inr (.inr (.inr (.inr (fun j => x_r al (hR h p j)))))))
def x_w (cA : Nat → ClassId) (al : Nat → Nat) (h : xH) : va_W := (List.range (hN h - 1)).map (fun i => (al (i + 1), x_g cA al h (i + 1)))
def x_tys (cA : Nat → ClassId) : List (ClassId × FieldType) := [(cA 12, .int), (cA 13, .boolean), (cA 14, .object "ThreesAtTable$Text"), (cA 15, .object "ThreesAtTable$Town"), (cA 16, .object "ThreesAtTable$Sheet")]
def x_ok (h : xH) : Prop := 1 ≤ hN h ∧ (∀ p k, hR h p k < hN h) ∧ ∀ p, (p = 0 ∨ hN h ≤ p) → hK h p = 99
def x_vo (n : Nat) (v : xV) : Prop := match v with
  | .inr (.inr (.inl p)) => p < n
  | _ => True
abbrev xZ : Type := Nat × (Nat → Int32)
def x_Str (ka : xK) (z : xZ) (A : Nat → Prop) (s : State) : Prop :=
  vk_S 14 x_len x_byt ka.1 (fun i => ka.1 (16 + i)) A s s.heap ∧ (∀ (i : Nat) (q : String × Nat × String), x_sl[i]? = some q → vk_R q.1 q.2.1 q.2.2 (ka.1 i) s) ∧
  va_Z "java/lang/String" "COMPACT_STRINGS" "Z" (.int 1) A s s.heap ∧ va_Z "jdk/internal/util/Preconditions" "SIOOBE_FORMATTER" "Ljava/util/function/BiFunction;" (va_rf ka.2) A s s.heap ∧
  va_Z "ThreesAtTable$Town" "ABOVE" "[I" (.ref (ka.1 15)) A s s.heap ∧ va_T .int (ka.1 15) 6 (fun j => .int (x_ab j)) A s s.heap ∧
  va_X (ka.1 14) z.1 z.2 s s.heap ∧ ka.1 14 < s.heap.size ∧ ¬ A (ka.1 14) ∧ (∀ C ∈ x_ao, va_AO C s) ∧ va_Nw (.castable "[I" "java/lang/Cloneable") s
theorem x_Str.same {ka : xK} {z : xZ} {A : Nat → Prop} {u U : State} (hv : U.vm = u.vm) (hh : U.heap = u.heap) (h : x_Str ka z A u) : x_Str ka z A U := by
  have hal : u.vm.Alike U.vm := by rw [hv]; exact Vm.Alike.refl u.vm
  obtain ⟨a1, a2, a3, a4, a5, a6, a7, a8, a9, a10⟩ := h
  unfold x_Str
  rw [hh]
  exact ⟨a1.moved hal, fun i q hq => (a2 i q hq).same hv, a3.moved hal, a4.moved hal, a5.moved hal, a6.moved hal, a7.moved hal, a8, a9, fun C hC => (a10.1 C hC).moved hal, va_tabs rfl hv.symm a10.2⟩
theorem x_Str.call {ka : xK} {z : xZ} {A B : Nat → Prop} {s U : State} {locs : List Loc} (h : x_Str ka z A s) (hW : s.WarmedH U.vm) (hS : va_S A s.heap U.heap locs) (hAB : ∀ q, B q → A q) : x_Str ka z B U := by
  obtain ⟨a1, a2, a3, a4, a5, a6, a7, a8, a9, a10⟩ := h
  have hal := hW.alike
  refine ⟨((a1.moved hal).kept hS.2.1).narrow hAB, fun i q hq => (a2 i q hq).warm hW, ((a3.moved hal).kept hS.2.1).narrow hAB, ((a4.moved hal).kept hS.2.1).narrow hAB, ((a5.moved hal).kept hS.2.1).narrow hAB, ((a6.moved hal).kept hS.2.1).narrow hAB, (a7.moved hal).kept (hS.2.1 _ a8 a9), Nat.lt_of_lt_of_le a8 hS.1, fun q => a9 (hAB _ q), fun C hC => (a10.1 C hC).moved hal, va_Nw.warmC hW a10.2⟩
/-! worlds of the pure heap -/
theorem x_w_at {cA : Nat → ClassId} {al : Nat → Nat} {h : xH} {p : Nat} (h0 : 0 < p) (h1 : p < hN h) : (x_w cA al h)[p - 1]? = some (al p, x_g cA al h p) := by
  unfold x_w
  rw [List.getElem?_map, List.getElem?_range (by omega)]
  show some (al (p - 1 + 1), x_g cA al h (p - 1 + 1)) = _
  rw [show p - 1 + 1 = p by omega]
theorem x_w_of {cA : Nat → ClassId} {al : Nat → Nat} {h : xH} {k : Nat} {q : Nat × va_E} (hk : (x_w cA al h)[k]? = some q) : k + 1 < hN h ∧ q = (al (k + 1), x_g cA al h (k + 1)) := by
  unfold x_w at hk
  rw [List.getElem?_map] at hk
  by_cases hl : k < hN h - 1
  · rw [List.getElem?_range hl] at hk
    exact ⟨by omega, (Option.some.inj hk).symm⟩
  · rw [List.getElem?_eq_none (by simp; omega)] at hk
    cases hk
theorem x_w_len {cA : Nat → ClassId} {al : Nat → Nat} {h : xH} : (x_w cA al h).length = hN h - 1 := by simp [x_w]
theorem x_w_set {cA : Nat → ClassId} {al : Nat → Nat} {h h2 : xH} {p : Nat} (hn : hN h2 = hN h) (h0 : 0 < p) (hq : ∀ q, q ≠ p → x_g cA al h2 q = x_g cA al h q) : (x_w cA al h).set (p - 1) (al p, x_g cA al h2 p) = x_w cA al h2 := by
  apply List.ext_getElem?
  intro k
  by_cases hk : k + 1 < hN h
  · rw [List.getElem?_set]
    have e2 : (x_w cA al h2)[k]? = some (al (k + 1), x_g cA al h2 (k + 1)) := x_w_at (p := k + 1) (by omega) (by omega)
    have e1 : (x_w cA al h)[k]? = some (al (k + 1), x_g cA al h (k + 1)) := x_w_at (p := k + 1) (by omega) hk
    rw [e2, e1]
    by_cases he : p - 1 = k
    · rw [if_pos he, if_pos (by rw [x_w_len]; omega), show k + 1 = p by omega]
    · rw [if_neg he, hq (k + 1) (by omega)]
  · rw [List.getElem?_eq_none (by rw [List.length_set, x_w_len]; omega), List.getElem?_eq_none (by rw [x_w_len]; omega)]
theorem x_w_push {cA : Nat → ClassId} {al : Nat → Nat} {h h2 : xH} {a : Nat} (hp : 1 ≤ hN h) (hn : hN h2 = hN h + 1) (hq : ∀ q, q < hN h → x_g cA (va_up al (hN h) a) h2 q = x_g cA al h q) : x_w cA al h ++ [(a, x_g cA (va_up al (hN h) a) h2 (hN h))] = x_w cA (va_up al (hN h) a) h2 := by
  apply List.ext_getElem?
  intro k
  by_cases hk : k + 1 < hN h
  · rw [List.getElem?_append_left (by rw [x_w_len]; omega)]
    have e2 : (x_w cA (va_up al (hN h) a) h2)[k]? = some (va_up al (hN h) a (k + 1), x_g cA (va_up al (hN h) a) h2 (k + 1)) := x_w_at (p := k + 1) (by omega) (by omega)
    have e1 : (x_w cA al h)[k]? = some (al (k + 1), x_g cA al h (k + 1)) := x_w_at (p := k + 1) (by omega) hk
    rw [e2, e1, hq _ hk]
    simp only [va_up, if_neg (show ¬ k + 1 = hN h by omega)]
  · by_cases hk2 : k + 1 = hN h
    · have e2 : (x_w cA (va_up al (hN h) a) h2)[k]? = some (va_up al (hN h) a (k + 1), x_g cA (va_up al (hN h) a) h2 (k + 1)) := x_w_at (p := k + 1) (by omega) (by omega)
      rw [e2, List.getElem?_append_right (by rw [x_w_len]; omega), x_w_len, show k - (hN h - 1) = 0 by omega, hk2]
      simp [va_up]
    · rw [List.getElem?_eq_none (by rw [List.length_append, x_w_len]; simp; omega), List.getElem?_eq_none (by rw [x_w_len]; omega)]
theorem x_ok.pos {h : xH} (ho : x_ok h) {p ci : Nat} (hk : hK h p = ci) (hc : ci < 99) : 0 < p ∧ p < hN h := by
  refine ⟨?_, ?_⟩
  · rcases Nat.eq_zero_or_pos p with q | q
    · have := ho.2.2 p (Or.inl q); omega
    · exact q
  · rcases Nat.lt_or_ge p (hN h) with q | q
    · exact q
    · have := ho.2.2 p (Or.inr q); omega
theorem x_C_at {ci : Nat} {q : vw_C × (Nat → FieldType)} (h : xcl[ci]? = some q) : xC[ci]? = some q.1 := by
  unfold xC
  rw [List.getElem?_map, h]
  rfl
theorem x_g_obj {cA : Nat → ClassId} {al : Nat → Nat} {h : xH} {p ci : Nat} {q : vw_C × (Nat → FieldType)} (hk : hK h p = ci) (hc : xcl[ci]? = some q) : x_g cA al h p = .inr (ci, x_fs al h p q.1.2.2 q.2) := by
  unfold x_g
  rw [hk, hc]
theorem x_g_int {cA : Nat → ClassId} {al : Nat → Nat} {h : xH} {p ci : Nat} (hk : hK h p = ci) (hc : ci = 12 ∨ ci = 13) : x_g cA al h p = .inl (cA ci, (hL h p, .inl (hI h p))) := by
  unfold x_g
  rw [hk]
  rcases hc with rfl | rfl <;> rfl
theorem x_g_ref {cA : Nat → ClassId} {al : Nat → Nat} {h : xH} {p ci : Nat} (hk : hK h p = ci) (hc : 14 ≤ ci ∧ ci ≤ 16) : x_g cA al h p = .inl (cA ci, (hL h p, .inr (.inr (.inr (.inr (fun j => x_r al (hR h p j))))))) := by
  unfold x_g
  rw [hk]
  have : ci = 14 ∨ ci = 15 ∨ ci = 16 := by omega
  rcases this with rfl | rfl | rfl <;> rfl
theorem x_fs_at {al : Nat → Nat} {h : xH} {p n k : Nat} {t : Nat → FieldType} (hk : k < n) : (x_fs al h p n t)[k]? = some (x_fv al h p (t k) k) := by
  unfold x_fs
  rw [List.getElem?_map, List.getElem?_range hk]
  rfl
theorem x_fs_len {al : Nat → Nat} {h : xH} {p n : Nat} {t : Nat → FieldType} : (x_fs al h p n t).length = n := by simp [x_fs]
theorem x_fs_set {al : Nat → Nat} {h h2 : xH} {p n k : Nat} {t : Nat → FieldType} (hj : ∀ j, j ≠ k → x_fv al h2 p (t j) j = x_fv al h p (t j) j) : (x_fs al h p n t).set k (x_fv al h2 p (t k) k) = x_fs al h2 p n t := by
  apply List.ext_getElem?
  intro j
  by_cases hl : j < n
  · rw [List.getElem?_set, x_fs_at hl, x_fs_at hl]
    by_cases he : k = j
    · subst he
      rw [if_pos rfl, if_pos (by rw [x_fs_len]; exact hl)]
    · rw [if_neg he, hj j (Ne.symm he)]
  · rw [List.getElem?_eq_none (by rw [List.length_set, x_fs_len]; omega), List.getElem?_eq_none (by rw [x_fs_len]; omega)]
/-! the judgement -/
def x_ws (M : xM) : List Cond := Cond.code M.1 M.2.1 M.2.2.1 M.2.2.2 :: xTB
def x_rm (d mc ms : Nat) : Room := { frames := d, cells := mc, slots := ms, locals := 40 * d }
def x_C (M : xM) (z : xZ) (p : Program) (s : State) (m : MethodId) (args : Array Value) (meth : Method) (c : Code) (D : va_G) (cA : Nat → ClassId) (ka : xK) (A : Nat → Prop) : Prop :=
  p.tables.exec = Jvm.exec ∧ c.code = M.2.1 ∧ c.maxLocals = M.2.2.1 ∧ meth.sig.returnType = M.2.2.2 ∧ s.vm.findClass M.1.cls = some m.cls ∧ (∀ w ∈ xTB, w.before args s = true) ∧ va_K D xC (x_tys cA) s ∧ meth.locks = false ∧
  (M.1.name = "<init>" → meth.name = "<init>") ∧ (∀ q, s.heap.size ≤ q → A q) ∧ x_Str ka z A s
def x_B (D : va_G) (cA : Nat → ClassId) (al : Nat → Nat) (A : Nat → Prop) (s : State) (h : xH) (H : Heap) (locs : List Loc) : Prop :=
  va_P D xC (x_w cA al h) H ∧ va_D A (x_w cA al h) ∧ va_S A s.heap H locs ∧ x_ok h
def x_L (al : Nat → Nat) (ka : xK) (np n : Nat) (lc : List (Option xV)) (ls : Array Slot) : Prop :=
  ls.size = n ∧ lv_wf ls ∧ ∀ (i : Nat) (v : xV), lc[i]? = some (some v) → ls[i]? = some (.val (x_t al ka v)) ∧ x_vo np v
/-- how a method ends: the instruction, the stack that it wants, the answer -/
def x_rr (ret : Option FieldType) (i : Instr) (st : List xV) (r : Option xV) : Prop := match ret with
  | none => i = .return_ ∧ st = [] ∧ r = none
  | some .long => i = .lreturn ∧ ∃ v, st = [xJ v] ∧ r = some (xJ v)
  | some (.object _) => i = .areturn ∧ ∃ v, st = [Sum.inr (Sum.inr v)] ∧ r = some (Sum.inr (Sum.inr v))
  | some (.array _) => i = .areturn ∧ ∃ v, st = [Sum.inr (Sum.inr v)] ∧ r = some (Sum.inr (Sum.inr v))
  | some .float => False
  | some .double => False
  | some t => i = .ireturn ∧ ∃ v v0, st = [xI v0] ∧ r = some (xI v) ∧ narrow t (.int v0) = .int v
def x_E (l : Launch) (M : xM) (p : Program) (e : Env) (R : Room) (s : State) (m : MethodId) (args : Array Value) (below : List Frame) (meth : Method) (c : Code) (D : va_G) (cA : Nat → ClassId) (ka : xK) (A : Nat → Prop) (Q : State → Prop) (n0 : Nat) (a0 : Nat → Nat) (mcT msT : Nat) (Ph : Option xV → xH → Prop) : Prop :=
  ∀ (H : Heap) (locs : List Loc) (cells slots : Nat) (al : Nat → Nat) (ls : Array Slot) (h : xH) (pc : Nat) (i : Instr) (st : List xV) (r : Option xV), cells ≤ mcT → slots ≤ msT → (∀ q, q < n0 → al q = a0 q) → n0 ≤ hN h → x_B D cA al A s h H locs →
    (∀ v, r = some v → x_vo (hN h) v) → Ph r h → decode M.2.1 pc = .ok (i, 1) → x_rr M.2.2.2 i st r → W p l e R s m args below meth c H locs cells slots Q (F0 m pc ls (st.map (x_t al ka)))
def Sx (l : Launch) (z : xZ) (d mc ms : Nat) (M : xM) (pc : Nat) (lc : List (Option xV)) (st : List xV) (h : xH) (Ph : Option xV → xH → Prop) : Prop :=
  ∀ (p : Program) (e : Env) (R : Room) (s : State) (m : MethodId) (args : Array Value) (below : List Frame) (meth : Method) (c : Code) (D : va_G) (cA : Nat → ClassId) (ka : xK) (A : Nat → Prop) (Q : State → Prop) (n0 : Nat) (a0 : Nat → Nat) (mcT msT : Nat),
    x_C M z p s m args meth c D cA ka A → (d ≤ R.frames ∧ 40 * d ≤ R.locals ∧ mcT ≤ R.cells ∧ msT ≤ R.slots) → x_E l M p e R s m args below meth c D cA ka A Q n0 a0 mcT msT Ph →
    ∀ (H : Heap) (locs : List Loc) (cells slots : Nat) (al : Nat → Nat) (ls : Array Slot), cells + mc ≤ mcT → slots + ms ≤ msT → (∀ q, q < n0 → al q = a0 q) → n0 ≤ hN h → x_B D cA al A s h H locs → x_L al ka (hN h) M.2.2.1 lc ls → (∀ v ∈ st, x_vo (hN h) v) →
      W p l e R s m args below meth c H locs cells slots Q (F0 m pc ls (st.map (x_t al ka)))
end
section
section XR
variable {l : Launch} {z : xZ} {d mc ms : Nat} {M : xM} {pc : Nat} {lc : List (Option xV)} {st : List xV} {h : xH} {Ph : Option xV → xH → Prop}
def jShl (x y : Int32) : Int32 := x <<< (y &&& 31)
def jShr (x y : Int32) : Int32 := x >>> (y &&& 31)
def jUshr (x y : Int32) : Int32 := (x.toUInt32 >>> (y.toUInt32 &&& Int32.toUInt32 31)).toInt32
def jRem (x y : Int32) : Int32 := x - x / y * y
def jRemL (x y : Int64) : Int64 := x - x / y * y
def jShlL (x : Int64) (y : Int32) : Int64 := x <<< (y.toInt64 &&& 63)
def jCmpL (x y : Int64) : Int32 := lg_cmp x y
def jB (x : Int32) : Int32 := x.toInt8.toInt32
def jS (x : Int32) : Int32 := x.toInt16.toInt32
def jCh (x : Int32) : Int32 := (x.toUInt32 % 65536).toInt32
theorem x_t_ref (al : Nat → Nat) (ka : xK) (v : Nat ⊕ Nat) : x_t al ka (Sum.inr (Sum.inr v)) = .null ∨ ∃ a, x_t al ka (Sum.inr (Sum.inr v)) = .ref a := by
  rcases v with v | v
  · exact va_rf_or _
  · show (if v = 31 then va_rf ka.2 else .ref (ka.1 v)) = .null ∨ ∃ a, (if v = 31 then va_rf ka.2 else .ref (ka.1 v)) = .ref a
    by_cases hv : v = 31
    · rw [if_pos hv]; exact va_rf_or _
    · rw [if_neg hv]; exact Or.inr ⟨_, rfl⟩
theorem x_t_cat1 (al : Nat → Nat) (ka : xK) (v : Nat ⊕ Nat) : (x_t al ka (Sum.inr (Sum.inr v))).category = 1 := by
  rcases x_t_ref al ka v with q | ⟨a, q⟩ <;> rw [q] <;> rfl
/-! the locals as a list of those that are known -/
def x_lv (al : Nat → Nat) (ka : xK) (lc : List (Option xV)) : List (Nat × Value) := (List.range lc.length).filterMap (fun j => match lc[j]? with
  | some (some v) => some (j, x_t al ka v)
  | _ => none)
theorem x_lv_in {al : Nat → Nat} {ka : xK} {lc : List (Option xV)} {j : Nat} {v : xV} (hj : lc[j]? = some (some v)) : (j, x_t al ka v) ∈ x_lv al ka lc := by
  refine List.mem_filterMap.mpr ⟨j, List.mem_range.mpr (List.getElem?_eq_some_iff.mp hj).1, ?_⟩
  simp only [hj]
theorem x_lv_of {al : Nat → Nat} {ka : xK} {lc : List (Option xV)} {q : Nat × Value} (hq : q ∈ x_lv al ka lc) : ∃ v, lc[q.1]? = some (some v) ∧ q.2 = x_t al ka v := by
  obtain ⟨j, -, hj⟩ := List.mem_filterMap.mp hq
  split at hj
  · next v hv =>
    cases hj
    exact ⟨v, hv, rfl⟩
  · cases hj
theorem x_L.has {al : Nat → Nat} {ka : xK} {np n : Nat} {ls : Array Slot} (h : x_L al ka np n lc ls) : lv_has ls n (x_lv al ka lc) := ⟨h.1, h.2.1, fun q hq => by
  obtain ⟨v, h3, h4⟩ := x_lv_of hq
  rw [h4]
  exact (h.2.2 _ _ h3).1⟩
def x_wide (v : Option (Option xV)) : Bool := match v with
  | some (some (Sum.inr (Sum.inl _))) => true
  | _ => false
def x_s0 (lc : List (Option xV)) (i : Nat) : List (Option xV) := match i with
  | 0 => lc
  | j + 1 => if x_wide lc[j]? = true then lc.set j none else lc
def x_s1 (lc : List (Option xV)) (i : Nat) (v : xV) : List (Option xV) := (x_s0 lc i).set i (some v)
def x_s2 (lc : List (Option xV)) (i : Nat) (v : xV) : List (Option xV) := ((x_s0 lc i).set (i + 1) none).set i (some v)
theorem x_s0_at {i j : Nat} {w : xV} (h : (x_s0 lc i)[j]? = some (some w)) : lc[j]? = some (some w) ∧ ¬ (j + 1 = i ∧ x_wide (some (some w)) = true) := by
  cases i with
  | zero => exact ⟨h, fun q => by omega⟩
  | succ k =>
    unfold x_s0 at h
    by_cases hw : x_wide lc[k]? = true
    · simp only [hw, if_true] at h
      rw [List.getElem?_set] at h
      by_cases hk : k = j
      · rw [if_pos hk] at h
        split at h <;> cases h
      · rw [if_neg hk] at h
        exact ⟨h, fun q => hk (by omega)⟩
    · simp only [hw] at h
      refine ⟨h, fun q => hw ?_⟩
      rw [show k = j by omega]
      have h' : lc[j]? = some (some w) := h
      rw [h']
      exact q.2
theorem x_s1_at {i j : Nat} {v w : xV} (h : (x_s1 lc i v)[j]? = some (some w)) : (j = i ∧ w = v) ∨ (j ≠ i ∧ lc[j]? = some (some w) ∧ ¬ (j + 1 = i ∧ x_wide (some (some w)) = true)) := by
  unfold x_s1 at h
  rw [List.getElem?_set] at h
  by_cases hk : i = j
  · rw [if_pos hk] at h
    split at h
    · cases h; exact Or.inl ⟨hk.symm, rfl⟩
    · cases h
  · rw [if_neg hk] at h
    exact Or.inr ⟨Ne.symm hk, x_s0_at h⟩
theorem x_s2_at {i j : Nat} {v w : xV} (h : (x_s2 lc i v)[j]? = some (some w)) : (j = i ∧ w = v) ∨ (j ≠ i ∧ j ≠ i + 1 ∧ lc[j]? = some (some w) ∧ ¬ (j + 1 = i ∧ x_wide (some (some w)) = true)) := by
  unfold x_s2 at h
  rw [List.getElem?_set] at h
  by_cases hk : i = j
  · rw [if_pos hk] at h
    split at h
    · cases h; exact Or.inl ⟨hk.symm, rfl⟩
    · cases h
  · rw [if_neg hk] at h
    rw [List.getElem?_set] at h
    by_cases hk1 : i + 1 = j
    · rw [if_pos hk1] at h
      split at h <;> cases h
    · rw [if_neg hk1] at h
      exact Or.inr ⟨Ne.symm hk, Ne.symm hk1, x_s0_at h⟩
theorem x_wide_t (al : Nat → Nat) (ka : xK) (w : xV) : (x_t al ka w).category = 2 ↔ x_wide (some (some w)) = true := by
  rcases w with w | w | w
  · exact ⟨fun h => (by cases h), fun h => (by cases h)⟩
  · exact ⟨fun _ => rfl, fun _ => rfl⟩
  · have := x_t_cat1 al ka w
    exact ⟨fun h => by omega, fun h => by cases h⟩
theorem x_L.st1 {al : Nat → Nat} {ka : xK} {np n i : Nat} {ls : Array Slot} {v : xV} (h : x_L al ka np n lc ls) (hv : x_vo np v) {ls2 : Array Slot} (h2 : lv_has ls2 n ((i, x_t al ka v) :: (x_lv al ka lc).filter (fun q => !(q.1 == i) && !(q.1 + 1 == i && q.2.category == 2)))) : x_L al ka np n (x_s1 lc i v) ls2 := by
  refine ⟨h2.1, h2.2.1, fun j w hj => ?_⟩
  rcases x_s1_at hj with ⟨rfl, rfl⟩ | ⟨e1, e2, e3⟩
  · exact ⟨h2.2.2 _ List.mem_cons_self, hv⟩
  · refine ⟨h2.2.2 (j, x_t al ka w) (List.mem_cons_of_mem _ (List.mem_filter.mpr ⟨x_lv_in e2, ?_⟩)), (h.2.2 j w e2).2⟩
    have e4 : ¬ (j + 1 = i ∧ (x_t al ka w).category = 2) := fun q => e3 ⟨q.1, (x_wide_t al ka w).mp q.2⟩
    simp only [Bool.and_eq_true, Bool.not_eq_true', beq_eq_false_iff_ne, Bool.and_eq_false_iff, ne_eq]
    refine ⟨e1, ?_⟩
    by_cases q : j + 1 = i
    · exact Or.inr (fun q2 => e4 ⟨q, q2⟩)
    · exact Or.inl q
theorem x_L.st2 {al : Nat → Nat} {ka : xK} {np n i : Nat} {ls : Array Slot} {v : xV} (h : x_L al ka np n lc ls) (hv : x_vo np v) {ls2 : Array Slot} (h2 : lv_has ls2 n ((i, x_t al ka v) :: (x_lv al ka lc).filter (fun q => !(q.1 == i) && (!(q.1 == i + 1) && !(q.1 + 1 == i && q.2.category == 2))))) : x_L al ka np n (x_s2 lc i v) ls2 := by
  refine ⟨h2.1, h2.2.1, fun j w hj => ?_⟩
  rcases x_s2_at hj with ⟨rfl, rfl⟩ | ⟨e1, e0, e2, e3⟩
  · exact ⟨h2.2.2 _ List.mem_cons_self, hv⟩
  · refine ⟨h2.2.2 (j, x_t al ka w) (List.mem_cons_of_mem _ (List.mem_filter.mpr ⟨x_lv_in e2, ?_⟩)), (h.2.2 j w e2).2⟩
    have e4 : ¬ (j + 1 = i ∧ (x_t al ka w).category = 2) := fun q => e3 ⟨q.1, (x_wide_t al ka w).mp q.2⟩
    simp only [Bool.and_eq_true, Bool.not_eq_true', beq_eq_false_iff_ne, Bool.and_eq_false_iff, ne_eq]
    refine ⟨e1, e0, ?_⟩
    by_cases q : j + 1 = i
    · exact Or.inr (fun q2 => e4 ⟨q, q2⟩)
    · exact Or.inl q
theorem sx_iconst {n : Int} {v : Int32} (hd : decode M.2.1 pc = .ok (.iconst n, 1)) (hc : Int32.ofInt n = v) (kk : Sx l z d mc ms M (pc + 1) lc (xI v :: st) h Ph) : Sx l z d mc ms M pc lc st h Ph := by
  intro p e R s m args below meth c D cA ka A Q n0 a0 mcT msT hC hR hE H locs cells slots al ls h1 h2 h3 h4 hB hL hv
  exact lv_iconst hC.1 hC.2.1 hd hc (kk p e R s m args below meth c D cA ka A Q n0 a0 mcT msT hC hR hE H locs cells slots al ls h1 h2 h3 h4 hB hL (List.forall_mem_cons.mpr ⟨trivial, hv⟩))
theorem sx_bipush {n : Int} {v : Int32} (hd : decode M.2.1 pc = .ok (.bipush n, 2)) (hc : (Int8.ofInt n).toInt32 = v) (kk : Sx l z d mc ms M (pc + 2) lc (xI v :: st) h Ph) : Sx l z d mc ms M pc lc st h Ph := by
  intro p e R s m args below meth c D cA ka A Q n0 a0 mcT msT hC hR hE H locs cells slots al ls h1 h2 h3 h4 hB hL hv
  exact lv_bipush hC.1 hC.2.1 hd hc (kk p e R s m args below meth c D cA ka A Q n0 a0 mcT msT hC hR hE H locs cells slots al ls h1 h2 h3 h4 hB hL (List.forall_mem_cons.mpr ⟨trivial, hv⟩))
theorem sx_sipush {n : Int} {v : Int32} (hd : decode M.2.1 pc = .ok (.sipush n, 3)) (hc : (Int16.ofInt n).toInt32 = v) (kk : Sx l z d mc ms M (pc + 3) lc (xI v :: st) h Ph) : Sx l z d mc ms M pc lc st h Ph := by
  intro p e R s m args below meth c D cA ka A Q n0 a0 mcT msT hC hR hE H locs cells slots al ls h1 h2 h3 h4 hB hL hv
  exact lv_sipush hC.1 hC.2.1 hd hc (kk p e R s m args below meth c D cA ka A Q n0 a0 mcT msT hC hR hE H locs cells slots al ls h1 h2 h3 h4 hB hL (List.forall_mem_cons.mpr ⟨trivial, hv⟩))
theorem sx_lconst {n : Fin 2} {v : Int64} (hd : decode M.2.1 pc = .ok (.lconst n, 1)) (hc : Int64.ofNat (n : Nat) = v) (kk : Sx l z d mc ms M (pc + 1) lc (xJ v :: st) h Ph) : Sx l z d mc ms M pc lc st h Ph := by
  intro p e R s m args below meth c D cA ka A Q n0 a0 mcT msT hC hR hE H locs cells slots al ls h1 h2 h3 h4 hB hL hv
  exact lv_lconst hC.1 hC.2.1 hd hc (kk p e R s m args below meth c D cA ka A Q n0 a0 mcT msT hC hR hE H locs cells slots al ls h1 h2 h3 h4 hB hL (List.forall_mem_cons.mpr ⟨trivial, hv⟩))
theorem sx_null  (hd : decode M.2.1 pc = .ok (.aconst_null, 1)) (kk : Sx l z d mc ms M (pc + 1) lc (xR 0 :: st) h Ph) : Sx l z d mc ms M pc lc st h Ph := by
  intro p e R s m args below meth c D cA ka A Q n0 a0 mcT msT hC hR hE H locs cells slots al ls h1 h2 h3 h4 hB hL hv
  exact lv_null hC.1 hC.2.1 hd (kk p e R s m args below meth c D cA ka A Q n0 a0 mcT msT hC hR hE H locs cells slots al ls h1 h2 h3 h4 hB hL (List.forall_mem_cons.mpr ⟨Nat.lt_of_lt_of_le Nat.zero_lt_one hB.2.2.2.1, hv⟩))
theorem sx_iload_n {k : Fin 4} {x : Int32} (hd : decode M.2.1 pc = .ok (.iload_n k, 1)) (hl : lc[(k : Nat)]? = some (some (xI x))) (kk : Sx l z d mc ms M (pc + 1) lc (xI x :: st) h Ph) : Sx l z d mc ms M pc lc st h Ph := by
  intro p e R s m args below meth c D cA ka A Q n0 a0 mcT msT hC hR hE H locs cells slots al ls h1 h2 h3 h4 hB hL hv
  exact lv_iload_n hC.1 hC.2.1 hd rfl (hL.2.2 _ _ hl).1 (kk p e R s m args below meth c D cA ka A Q n0 a0 mcT msT hC hR hE H locs cells slots al ls h1 h2 h3 h4 hB hL (List.forall_mem_cons.mpr ⟨trivial, hv⟩))
theorem sx_iload {i : Nat} {x : Int32} (hd : decode M.2.1 pc = .ok (.iload i, 2)) (hl : lc[i]? = some (some (xI x))) (kk : Sx l z d mc ms M (pc + 2) lc (xI x :: st) h Ph) : Sx l z d mc ms M pc lc st h Ph := by
  intro p e R s m args below meth c D cA ka A Q n0 a0 mcT msT hC hR hE H locs cells slots al ls h1 h2 h3 h4 hB hL hv
  exact lv_iload hC.1 hC.2.1 hd (hL.2.2 _ _ hl).1 (kk p e R s m args below meth c D cA ka A Q n0 a0 mcT msT hC hR hE H locs cells slots al ls h1 h2 h3 h4 hB hL (List.forall_mem_cons.mpr ⟨trivial, hv⟩))
theorem sx_lload_n {k : Fin 4} {x : Int64} (hd : decode M.2.1 pc = .ok (.lload_n k, 1)) (hl : lc[(k : Nat)]? = some (some (xJ x))) (kk : Sx l z d mc ms M (pc + 1) lc (xJ x :: st) h Ph) : Sx l z d mc ms M pc lc st h Ph := by
  intro p e R s m args below meth c D cA ka A Q n0 a0 mcT msT hC hR hE H locs cells slots al ls h1 h2 h3 h4 hB hL hv
  exact lv_lload_n hC.1 hC.2.1 hd rfl (hL.2.2 _ _ hl).1 (kk p e R s m args below meth c D cA ka A Q n0 a0 mcT msT hC hR hE H locs cells slots al ls h1 h2 h3 h4 hB hL (List.forall_mem_cons.mpr ⟨trivial, hv⟩))
theorem sx_lload {i : Nat} {x : Int64} (hd : decode M.2.1 pc = .ok (.lload i, 2)) (hl : lc[i]? = some (some (xJ x))) (kk : Sx l z d mc ms M (pc + 2) lc (xJ x :: st) h Ph) : Sx l z d mc ms M pc lc st h Ph := by
  intro p e R s m args below meth c D cA ka A Q n0 a0 mcT msT hC hR hE H locs cells slots al ls h1 h2 h3 h4 hB hL hv
  exact lv_lload hC.1 hC.2.1 hd (hL.2.2 _ _ hl).1 (kk p e R s m args below meth c D cA ka A Q n0 a0 mcT msT hC hR hE H locs cells slots al ls h1 h2 h3 h4 hB hL (List.forall_mem_cons.mpr ⟨trivial, hv⟩))
theorem sx_aload_n {k : Fin 4} {v : Nat ⊕ Nat} (hd : decode M.2.1 pc = .ok (.aload_n k, 1)) (hl : lc[(k : Nat)]? = some (some (Sum.inr (Sum.inr v)))) (kk : Sx l z d mc ms M (pc + 1) lc (Sum.inr (Sum.inr v) :: st) h Ph) : Sx l z d mc ms M pc lc st h Ph := by
  intro p e R s m args below meth c D cA ka A Q n0 a0 mcT msT hC hR hE H locs cells slots al ls h1 h2 h3 h4 hB hL hv
  have hq := hL.2.2 _ _ hl
  have kk9 := (kk p e R s m args below meth c D cA ka A Q n0 a0 mcT msT hC hR hE H locs cells slots al ls h1 h2 h3 h4 hB hL (List.forall_mem_cons.mpr ⟨hq.2, hv⟩))
  rw [List.map_cons] at kk9
  rcases x_t_ref al ka v with q | ⟨a, q⟩ <;> rw [q] at hq kk9
  · exact lv_aload_nN hC.1 hC.2.1 hd rfl hq.1 kk9
  · exact lv_aload_n hC.1 hC.2.1 hd rfl hq.1 kk9
theorem sx_aload {i : Nat} {v : Nat ⊕ Nat} (hd : decode M.2.1 pc = .ok (.aload i, 2)) (hl : lc[i]? = some (some (Sum.inr (Sum.inr v)))) (kk : Sx l z d mc ms M (pc + 2) lc (Sum.inr (Sum.inr v) :: st) h Ph) : Sx l z d mc ms M pc lc st h Ph := by
  intro p e R s m args below meth c D cA ka A Q n0 a0 mcT msT hC hR hE H locs cells slots al ls h1 h2 h3 h4 hB hL hv
  have hq := hL.2.2 _ _ hl
  have kk9 := (kk p e R s m args below meth c D cA ka A Q n0 a0 mcT msT hC hR hE H locs cells slots al ls h1 h2 h3 h4 hB hL (List.forall_mem_cons.mpr ⟨hq.2, hv⟩))
  rw [List.map_cons] at kk9
  rcases x_t_ref al ka v with q | ⟨a, q⟩ <;> rw [q] at hq kk9
  · exact lv_aloadN hC.1 hC.2.1 hd hq.1 kk9
  · exact lv_aload hC.1 hC.2.1 hd hq.1 kk9
theorem sx_istore_n {k : Fin 4} {x : Int32} (hd : decode M.2.1 pc = .ok (.istore_n k, 1)) (hi : (k : Nat) < M.2.2.1) (kk : Sx l z d mc ms M (pc + 1) (x_s1 lc (k : Nat) (xI x)) st h Ph) : Sx l z d mc ms M pc lc (xI x :: st) h Ph := by
  intro p e R s m args below meth c D cA ka A Q n0 a0 mcT msT hC hR hE H locs cells slots al ls h1 h2 h3 h4 hB hL hv
  exact lv_istore_n hC.1 hC.2.1 hd rfl hL.has hi rfl (fun ls2 hl2 => (kk p e R s m args below meth c D cA ka A Q n0 a0 mcT msT hC hR hE H locs cells slots al ls2 h1 h2 h3 h4 hB (hL.st1 (v := xI x) trivial hl2) (fun v hm => hv v (List.mem_cons_of_mem _ hm))))
theorem sx_lstore_n {k : Fin 4} {x : Int64} (hd : decode M.2.1 pc = .ok (.lstore_n k, 1)) (hi : (k : Nat) + 1 < M.2.2.1) (kk : Sx l z d mc ms M (pc + 1) (x_s2 lc (k : Nat) (xJ x)) st h Ph) : Sx l z d mc ms M pc lc (xJ x :: st) h Ph := by
  intro p e R s m args below meth c D cA ka A Q n0 a0 mcT msT hC hR hE H locs cells slots al ls h1 h2 h3 h4 hB hL hv
  exact lv_lstore_n hC.1 hC.2.1 hd rfl hL.has hi rfl (fun ls2 hl2 => (kk p e R s m args below meth c D cA ka A Q n0 a0 mcT msT hC hR hE H locs cells slots al ls2 h1 h2 h3 h4 hB (hL.st2 (v := xJ x) trivial hl2) (fun v hm => hv v (List.mem_cons_of_mem _ hm))))
theorem sx_astore_n {k : Fin 4} {v : Nat ⊕ Nat} (hd : decode M.2.1 pc = .ok (.astore_n k, 1)) (hi : (k : Nat) < M.2.2.1) (kk : Sx l z d mc ms M (pc + 1) (x_s1 lc (k : Nat) (Sum.inr (Sum.inr v))) st h Ph) : Sx l z d mc ms M pc lc (Sum.inr (Sum.inr v) :: st) h Ph := by
  intro p e R s m args below meth c D cA ka A Q n0 a0 mcT msT hC hR hE H locs cells slots al ls h1 h2 h3 h4 hB hL hv
  have hvo := hv _ List.mem_cons_self
  rw [List.map_cons]
  have kk9 := fun (ls2 : Array Slot) (hl2 : lv_has ls2 M.2.2.1 (((k : Nat), x_t al ka (Sum.inr (Sum.inr v))) :: (x_lv al ka lc).filter (fun q => !(q.1 == (k : Nat)) && !(q.1 + 1 == (k : Nat) && q.2.category == 2)))) => (kk p e R s m args below meth c D cA ka A Q n0 a0 mcT msT hC hR hE H locs cells slots al ls2 h1 h2 h3 h4 hB (hL.st1 hvo hl2) (fun v hm => hv v (List.mem_cons_of_mem _ hm)))
  rcases x_t_ref al ka v with q | ⟨a, q⟩ <;> rw [q] at kk9 ⊢
  · exact lv_astore_nN hC.1 hC.2.1 hd rfl hL.has hi rfl kk9
  · exact lv_astore_n hC.1 hC.2.1 hd rfl hL.has hi rfl kk9
theorem sx_istore {i : Nat} {x : Int32} (hd : decode M.2.1 pc = .ok (.istore i, 2)) (hi : i < M.2.2.1) (kk : Sx l z d mc ms M (pc + 2) (x_s1 lc i (xI x)) st h Ph) : Sx l z d mc ms M pc lc (xI x :: st) h Ph := by
  intro p e R s m args below meth c D cA ka A Q n0 a0 mcT msT hC hR hE H locs cells slots al ls h1 h2 h3 h4 hB hL hv
  exact lv_istore hC.1 hC.2.1 hd hL.has hi rfl (fun ls2 hl2 => (kk p e R s m args below meth c D cA ka A Q n0 a0 mcT msT hC hR hE H locs cells slots al ls2 h1 h2 h3 h4 hB (hL.st1 (v := xI x) trivial hl2) (fun v hm => hv v (List.mem_cons_of_mem _ hm))))
theorem sx_lstore {i : Nat} {x : Int64} (hd : decode M.2.1 pc = .ok (.lstore i, 2)) (hi : i + 1 < M.2.2.1) (kk : Sx l z d mc ms M (pc + 2) (x_s2 lc i (xJ x)) st h Ph) : Sx l z d mc ms M pc lc (xJ x :: st) h Ph := by
  intro p e R s m args below meth c D cA ka A Q n0 a0 mcT msT hC hR hE H locs cells slots al ls h1 h2 h3 h4 hB hL hv
  exact lv_lstore hC.1 hC.2.1 hd hL.has hi rfl (fun ls2 hl2 => (kk p e R s m args below meth c D cA ka A Q n0 a0 mcT msT hC hR hE H locs cells slots al ls2 h1 h2 h3 h4 hB (hL.st2 (v := xJ x) trivial hl2) (fun v hm => hv v (List.mem_cons_of_mem _ hm))))
theorem sx_astore {i : Nat} {v : Nat ⊕ Nat} (hd : decode M.2.1 pc = .ok (.astore i, 2)) (hi : i < M.2.2.1) (kk : Sx l z d mc ms M (pc + 2) (x_s1 lc i (Sum.inr (Sum.inr v))) st h Ph) : Sx l z d mc ms M pc lc (Sum.inr (Sum.inr v) :: st) h Ph := by
  intro p e R s m args below meth c D cA ka A Q n0 a0 mcT msT hC hR hE H locs cells slots al ls h1 h2 h3 h4 hB hL hv
  have hvo := hv _ List.mem_cons_self
  rw [List.map_cons]
  have kk9 := fun (ls2 : Array Slot) (hl2 : lv_has ls2 M.2.2.1 ((i, x_t al ka (Sum.inr (Sum.inr v))) :: (x_lv al ka lc).filter (fun q => !(q.1 == i) && !(q.1 + 1 == i && q.2.category == 2)))) => (kk p e R s m args below meth c D cA ka A Q n0 a0 mcT msT hC hR hE H locs cells slots al ls2 h1 h2 h3 h4 hB (hL.st1 hvo hl2) (fun v hm => hv v (List.mem_cons_of_mem _ hm)))
  rcases x_t_ref al ka v with q | ⟨a, q⟩ <;> rw [q] at kk9 ⊢
  · exact lv_astoreN hC.1 hC.2.1 hd hL.has hi rfl kk9
  · exact lv_astore hC.1 hC.2.1 hd hL.has hi rfl kk9
theorem sx_iinc {i : Nat} {n : Int} {x v : Int32} (hd : decode M.2.1 pc = .ok (.iinc i n, 3)) (hl : lc[i]? = some (some (xI x))) (hc : Int32.ofInt n = v) (hi : i < M.2.2.1) (kk : Sx l z d mc ms M (pc + 3) (x_s1 lc i (xI (x + v))) st h Ph) : Sx l z d mc ms M pc lc st h Ph := by
  intro p e R s m args below meth c D cA ka A Q n0 a0 mcT msT hC hR hE H locs cells slots al ls h1 h2 h3 h4 hB hL hv
  obtain ⟨j, hj⟩ := List.getElem?_of_mem (x_lv_in (al := al) (ka := ka) hl)
  exact lv_iinc hC.1 hC.2.1 hd hL.has hj (by rw [hc]) hi rfl (fun ls2 hl2 => (kk p e R s m args below meth c D cA ka A Q n0 a0 mcT msT hC hR hE H locs cells slots al ls2 h1 h2 h3 h4 hB (hL.st1 (v := xI (x + v)) trivial hl2) hv))
theorem sx_iadd {x y : Int32} (hd : decode M.2.1 pc = .ok (.iadd, 1)) (kk : Sx l z d mc ms M (pc + 1) lc (xI (x + y) :: st) h Ph) : Sx l z d mc ms M pc lc (xI y :: xI x :: st) h Ph := by
  intro p e R s m args below meth c D cA ka A Q n0 a0 mcT msT hC hR hE H locs cells slots al ls h1 h2 h3 h4 hB hL hv
  exact lv_iadd hC.1 hC.2.1 hd (kk p e R s m args below meth c D cA ka A Q n0 a0 mcT msT hC hR hE H locs cells slots al ls h1 h2 h3 h4 hB hL (List.forall_mem_cons.mpr ⟨trivial, (fun v hm => hv v (List.mem_cons_of_mem _ (List.mem_cons_of_mem _ hm)))⟩))
theorem sx_isub {x y : Int32} (hd : decode M.2.1 pc = .ok (.isub, 1)) (kk : Sx l z d mc ms M (pc + 1) lc (xI (x - y) :: st) h Ph) : Sx l z d mc ms M pc lc (xI y :: xI x :: st) h Ph := by
  intro p e R s m args below meth c D cA ka A Q n0 a0 mcT msT hC hR hE H locs cells slots al ls h1 h2 h3 h4 hB hL hv
  exact lv_isub hC.1 hC.2.1 hd (kk p e R s m args below meth c D cA ka A Q n0 a0 mcT msT hC hR hE H locs cells slots al ls h1 h2 h3 h4 hB hL (List.forall_mem_cons.mpr ⟨trivial, (fun v hm => hv v (List.mem_cons_of_mem _ (List.mem_cons_of_mem _ hm)))⟩))
theorem sx_imul {x y : Int32} (hd : decode M.2.1 pc = .ok (.imul, 1)) (kk : Sx l z d mc ms M (pc + 1) lc (xI (x * y) :: st) h Ph) : Sx l z d mc ms M pc lc (xI y :: xI x :: st) h Ph := by
  intro p e R s m args below meth c D cA ka A Q n0 a0 mcT msT hC hR hE H locs cells slots al ls h1 h2 h3 h4 hB hL hv
  exact lv_imul hC.1 hC.2.1 hd (kk p e R s m args below meth c D cA ka A Q n0 a0 mcT msT hC hR hE H locs cells slots al ls h1 h2 h3 h4 hB hL (List.forall_mem_cons.mpr ⟨trivial, (fun v hm => hv v (List.mem_cons_of_mem _ (List.mem_cons_of_mem _ hm)))⟩))
theorem sx_iand {x y : Int32} (hd : decode M.2.1 pc = .ok (.iand, 1)) (kk : Sx l z d mc ms M (pc + 1) lc (xI (x &&& y) :: st) h Ph) : Sx l z d mc ms M pc lc (xI y :: xI x :: st) h Ph := by
  intro p e R s m args below meth c D cA ka A Q n0 a0 mcT msT hC hR hE H locs cells slots al ls h1 h2 h3 h4 hB hL hv
  exact lv_iand hC.1 hC.2.1 hd (kk p e R s m args below meth c D cA ka A Q n0 a0 mcT msT hC hR hE H locs cells slots al ls h1 h2 h3 h4 hB hL (List.forall_mem_cons.mpr ⟨trivial, (fun v hm => hv v (List.mem_cons_of_mem _ (List.mem_cons_of_mem _ hm)))⟩))
theorem sx_ior {x y : Int32} (hd : decode M.2.1 pc = .ok (.ior, 1)) (kk : Sx l z d mc ms M (pc + 1) lc (xI (x ||| y) :: st) h Ph) : Sx l z d mc ms M pc lc (xI y :: xI x :: st) h Ph := by
  intro p e R s m args below meth c D cA ka A Q n0 a0 mcT msT hC hR hE H locs cells slots al ls h1 h2 h3 h4 hB hL hv
  exact lv_ior hC.1 hC.2.1 hd (kk p e R s m args below meth c D cA ka A Q n0 a0 mcT msT hC hR hE H locs cells slots al ls h1 h2 h3 h4 hB hL (List.forall_mem_cons.mpr ⟨trivial, (fun v hm => hv v (List.mem_cons_of_mem _ (List.mem_cons_of_mem _ hm)))⟩))
theorem sx_ixor {x y : Int32} (hd : decode M.2.1 pc = .ok (.ixor, 1)) (kk : Sx l z d mc ms M (pc + 1) lc (xI (x ^^^ y) :: st) h Ph) : Sx l z d mc ms M pc lc (xI y :: xI x :: st) h Ph := by
  intro p e R s m args below meth c D cA ka A Q n0 a0 mcT msT hC hR hE H locs cells slots al ls h1 h2 h3 h4 hB hL hv
  exact lv_ixor hC.1 hC.2.1 hd (kk p e R s m args below meth c D cA ka A Q n0 a0 mcT msT hC hR hE H locs cells slots al ls h1 h2 h3 h4 hB hL (List.forall_mem_cons.mpr ⟨trivial, (fun v hm => hv v (List.mem_cons_of_mem _ (List.mem_cons_of_mem _ hm)))⟩))
theorem sx_ishl {x y : Int32} (hd : decode M.2.1 pc = .ok (.ishl, 1)) (kk : Sx l z d mc ms M (pc + 1) lc (xI (jShl x y) :: st) h Ph) : Sx l z d mc ms M pc lc (xI y :: xI x :: st) h Ph := by
  intro p e R s m args below meth c D cA ka A Q n0 a0 mcT msT hC hR hE H locs cells slots al ls h1 h2 h3 h4 hB hL hv
  exact lv_ishl hC.1 hC.2.1 hd (kk p e R s m args below meth c D cA ka A Q n0 a0 mcT msT hC hR hE H locs cells slots al ls h1 h2 h3 h4 hB hL (List.forall_mem_cons.mpr ⟨trivial, (fun v hm => hv v (List.mem_cons_of_mem _ (List.mem_cons_of_mem _ hm)))⟩))
theorem sx_ishr {x y : Int32} (hd : decode M.2.1 pc = .ok (.ishr, 1)) (kk : Sx l z d mc ms M (pc + 1) lc (xI (jShr x y) :: st) h Ph) : Sx l z d mc ms M pc lc (xI y :: xI x :: st) h Ph := by
  intro p e R s m args below meth c D cA ka A Q n0 a0 mcT msT hC hR hE H locs cells slots al ls h1 h2 h3 h4 hB hL hv
  exact lv_ishr hC.1 hC.2.1 hd (kk p e R s m args below meth c D cA ka A Q n0 a0 mcT msT hC hR hE H locs cells slots al ls h1 h2 h3 h4 hB hL (List.forall_mem_cons.mpr ⟨trivial, (fun v hm => hv v (List.mem_cons_of_mem _ (List.mem_cons_of_mem _ hm)))⟩))
theorem sx_iushr {x y : Int32} (hd : decode M.2.1 pc = .ok (.iushr, 1)) (kk : Sx l z d mc ms M (pc + 1) lc (xI (jUshr x y) :: st) h Ph) : Sx l z d mc ms M pc lc (xI y :: xI x :: st) h Ph := by
  intro p e R s m args below meth c D cA ka A Q n0 a0 mcT msT hC hR hE H locs cells slots al ls h1 h2 h3 h4 hB hL hv
  exact lv_iushr hC.1 hC.2.1 hd rfl (kk p e R s m args below meth c D cA ka A Q n0 a0 mcT msT hC hR hE H locs cells slots al ls h1 h2 h3 h4 hB hL (List.forall_mem_cons.mpr ⟨trivial, (fun v hm => hv v (List.mem_cons_of_mem _ (List.mem_cons_of_mem _ hm)))⟩))
theorem sx_ineg {x : Int32} (hd : decode M.2.1 pc = .ok (.ineg, 1)) (kk : Sx l z d mc ms M (pc + 1) lc (xI (-x) :: st) h Ph) : Sx l z d mc ms M pc lc (xI x :: st) h Ph := by
  intro p e R s m args below meth c D cA ka A Q n0 a0 mcT msT hC hR hE H locs cells slots al ls h1 h2 h3 h4 hB hL hv
  exact lv_ineg hC.1 hC.2.1 hd (kk p e R s m args below meth c D cA ka A Q n0 a0 mcT msT hC hR hE H locs cells slots al ls h1 h2 h3 h4 hB hL (List.forall_mem_cons.mpr ⟨trivial, (fun v hm => hv v (List.mem_cons_of_mem _ hm))⟩))
theorem sx_idiv {x y : Int32} (hd : decode M.2.1 pc = .ok (.idiv, 1)) (hy : ¬ y = 0) (kk : Sx l z d mc ms M (pc + 1) lc (xI (x / y) :: st) h Ph) : Sx l z d mc ms M pc lc (xI y :: xI x :: st) h Ph := by
  intro p e R s m args below meth c D cA ka A Q n0 a0 mcT msT hC hR hE H locs cells slots al ls h1 h2 h3 h4 hB hL hv
  exact lv_idiv hC.1 hC.2.1 hd hy (kk p e R s m args below meth c D cA ka A Q n0 a0 mcT msT hC hR hE H locs cells slots al ls h1 h2 h3 h4 hB hL (List.forall_mem_cons.mpr ⟨trivial, (fun v hm => hv v (List.mem_cons_of_mem _ (List.mem_cons_of_mem _ hm)))⟩))
theorem sx_irem {x y : Int32} (hd : decode M.2.1 pc = .ok (.irem, 1)) (hy : ¬ y = 0) (kk : Sx l z d mc ms M (pc + 1) lc (xI (jRem x y) :: st) h Ph) : Sx l z d mc ms M pc lc (xI y :: xI x :: st) h Ph := by
  intro p e R s m args below meth c D cA ka A Q n0 a0 mcT msT hC hR hE H locs cells slots al ls h1 h2 h3 h4 hB hL hv
  exact lv_irem hC.1 hC.2.1 hd hy (kk p e R s m args below meth c D cA ka A Q n0 a0 mcT msT hC hR hE H locs cells slots al ls h1 h2 h3 h4 hB hL (List.forall_mem_cons.mpr ⟨trivial, (fun v hm => hv v (List.mem_cons_of_mem _ (List.mem_cons_of_mem _ hm)))⟩))
theorem sx_ladd {x y : Int64} (hd : decode M.2.1 pc = .ok (.ladd, 1)) (kk : Sx l z d mc ms M (pc + 1) lc (xJ (x + y) :: st) h Ph) : Sx l z d mc ms M pc lc (xJ y :: xJ x :: st) h Ph := by
  intro p e R s m args below meth c D cA ka A Q n0 a0 mcT msT hC hR hE H locs cells slots al ls h1 h2 h3 h4 hB hL hv
  exact lv_ladd hC.1 hC.2.1 hd (kk p e R s m args below meth c D cA ka A Q n0 a0 mcT msT hC hR hE H locs cells slots al ls h1 h2 h3 h4 hB hL (List.forall_mem_cons.mpr ⟨trivial, (fun v hm => hv v (List.mem_cons_of_mem _ (List.mem_cons_of_mem _ hm)))⟩))
theorem sx_lsub {x y : Int64} (hd : decode M.2.1 pc = .ok (.lsub, 1)) (kk : Sx l z d mc ms M (pc + 1) lc (xJ (x - y) :: st) h Ph) : Sx l z d mc ms M pc lc (xJ y :: xJ x :: st) h Ph := by
  intro p e R s m args below meth c D cA ka A Q n0 a0 mcT msT hC hR hE H locs cells slots al ls h1 h2 h3 h4 hB hL hv
  exact lv_lsub hC.1 hC.2.1 hd (kk p e R s m args below meth c D cA ka A Q n0 a0 mcT msT hC hR hE H locs cells slots al ls h1 h2 h3 h4 hB hL (List.forall_mem_cons.mpr ⟨trivial, (fun v hm => hv v (List.mem_cons_of_mem _ (List.mem_cons_of_mem _ hm)))⟩))
theorem sx_lmul {x y : Int64} (hd : decode M.2.1 pc = .ok (.lmul, 1)) (kk : Sx l z d mc ms M (pc + 1) lc (xJ (x * y) :: st) h Ph) : Sx l z d mc ms M pc lc (xJ y :: xJ x :: st) h Ph := by
  intro p e R s m args below meth c D cA ka A Q n0 a0 mcT msT hC hR hE H locs cells slots al ls h1 h2 h3 h4 hB hL hv
  exact lv_lmul hC.1 hC.2.1 hd (kk p e R s m args below meth c D cA ka A Q n0 a0 mcT msT hC hR hE H locs cells slots al ls h1 h2 h3 h4 hB hL (List.forall_mem_cons.mpr ⟨trivial, (fun v hm => hv v (List.mem_cons_of_mem _ (List.mem_cons_of_mem _ hm)))⟩))
theorem sx_ldiv {x y : Int64} (hd : decode M.2.1 pc = .ok (.ldiv, 1)) (hy : ¬ y = 0) (kk : Sx l z d mc ms M (pc + 1) lc (xJ (x / y) :: st) h Ph) : Sx l z d mc ms M pc lc (xJ y :: xJ x :: st) h Ph := by
  intro p e R s m args below meth c D cA ka A Q n0 a0 mcT msT hC hR hE H locs cells slots al ls h1 h2 h3 h4 hB hL hv
  exact lv_ldiv hC.1 hC.2.1 hd hy (kk p e R s m args below meth c D cA ka A Q n0 a0 mcT msT hC hR hE H locs cells slots al ls h1 h2 h3 h4 hB hL (List.forall_mem_cons.mpr ⟨trivial, (fun v hm => hv v (List.mem_cons_of_mem _ (List.mem_cons_of_mem _ hm)))⟩))
theorem sx_lrem {x y : Int64} (hd : decode M.2.1 pc = .ok (.lrem, 1)) (hy : ¬ y = 0) (kk : Sx l z d mc ms M (pc + 1) lc (xJ (jRemL x y) :: st) h Ph) : Sx l z d mc ms M pc lc (xJ y :: xJ x :: st) h Ph := by
  intro p e R s m args below meth c D cA ka A Q n0 a0 mcT msT hC hR hE H locs cells slots al ls h1 h2 h3 h4 hB hL hv
  exact lv_lrem hC.1 hC.2.1 hd hy (kk p e R s m args below meth c D cA ka A Q n0 a0 mcT msT hC hR hE H locs cells slots al ls h1 h2 h3 h4 hB hL (List.forall_mem_cons.mpr ⟨trivial, (fun v hm => hv v (List.mem_cons_of_mem _ (List.mem_cons_of_mem _ hm)))⟩))
theorem sx_lcmp {x y : Int64} (hd : decode M.2.1 pc = .ok (.lcmp, 1)) (kk : Sx l z d mc ms M (pc + 1) lc (xI (jCmpL x y) :: st) h Ph) : Sx l z d mc ms M pc lc (xJ y :: xJ x :: st) h Ph := by
  intro p e R s m args below meth c D cA ka A Q n0 a0 mcT msT hC hR hE H locs cells slots al ls h1 h2 h3 h4 hB hL hv
  exact W.lcmp hC.1 hC.2.1 hd (kk p e R s m args below meth c D cA ka A Q n0 a0 mcT msT hC hR hE H locs cells slots al ls h1 h2 h3 h4 hB hL (List.forall_mem_cons.mpr ⟨trivial, (fun v hm => hv v (List.mem_cons_of_mem _ (List.mem_cons_of_mem _ hm)))⟩))
theorem sx_lshl {x : Int64} {y : Int32} (hd : decode M.2.1 pc = .ok (.lshl, 1)) (kk : Sx l z d mc ms M (pc + 1) lc (xJ (jShlL x y) :: st) h Ph) : Sx l z d mc ms M pc lc (xI y :: xJ x :: st) h Ph := by
  intro p e R s m args below meth c D cA ka A Q n0 a0 mcT msT hC hR hE H locs cells slots al ls h1 h2 h3 h4 hB hL hv
  exact lv_lshl hC.1 hC.2.1 hd rfl (kk p e R s m args below meth c D cA ka A Q n0 a0 mcT msT hC hR hE H locs cells slots al ls h1 h2 h3 h4 hB hL (List.forall_mem_cons.mpr ⟨trivial, (fun v hm => hv v (List.mem_cons_of_mem _ (List.mem_cons_of_mem _ hm)))⟩))
theorem sx_i2l {x : Int32} (hd : decode M.2.1 pc = .ok (.i2l, 1)) (kk : Sx l z d mc ms M (pc + 1) lc (xJ x.toInt64 :: st) h Ph) : Sx l z d mc ms M pc lc (xI x :: st) h Ph := by
  intro p e R s m args below meth c D cA ka A Q n0 a0 mcT msT hC hR hE H locs cells slots al ls h1 h2 h3 h4 hB hL hv
  exact lv_i2l hC.1 hC.2.1 hd rfl (kk p e R s m args below meth c D cA ka A Q n0 a0 mcT msT hC hR hE H locs cells slots al ls h1 h2 h3 h4 hB hL (List.forall_mem_cons.mpr ⟨trivial, (fun v hm => hv v (List.mem_cons_of_mem _ hm))⟩))
theorem sx_l2i {x : Int64} (hd : decode M.2.1 pc = .ok (.l2i, 1)) (kk : Sx l z d mc ms M (pc + 1) lc (xI x.toInt32 :: st) h Ph) : Sx l z d mc ms M pc lc (xJ x :: st) h Ph := by
  intro p e R s m args below meth c D cA ka A Q n0 a0 mcT msT hC hR hE H locs cells slots al ls h1 h2 h3 h4 hB hL hv
  exact lv_l2i hC.1 hC.2.1 hd rfl (kk p e R s m args below meth c D cA ka A Q n0 a0 mcT msT hC hR hE H locs cells slots al ls h1 h2 h3 h4 hB hL (List.forall_mem_cons.mpr ⟨trivial, (fun v hm => hv v (List.mem_cons_of_mem _ hm))⟩))
theorem sx_i2b {x : Int32} (hd : decode M.2.1 pc = .ok (.i2b, 1)) (kk : Sx l z d mc ms M (pc + 1) lc (xI (jB x) :: st) h Ph) : Sx l z d mc ms M pc lc (xI x :: st) h Ph := by
  intro p e R s m args below meth c D cA ka A Q n0 a0 mcT msT hC hR hE H locs cells slots al ls h1 h2 h3 h4 hB hL hv
  exact lv_i2b hC.1 hC.2.1 hd rfl (kk p e R s m args below meth c D cA ka A Q n0 a0 mcT msT hC hR hE H locs cells slots al ls h1 h2 h3 h4 hB hL (List.forall_mem_cons.mpr ⟨trivial, (fun v hm => hv v (List.mem_cons_of_mem _ hm))⟩))
theorem sx_i2s {x : Int32} (hd : decode M.2.1 pc = .ok (.i2s, 1)) (kk : Sx l z d mc ms M (pc + 1) lc (xI (jS x) :: st) h Ph) : Sx l z d mc ms M pc lc (xI x :: st) h Ph := by
  intro p e R s m args below meth c D cA ka A Q n0 a0 mcT msT hC hR hE H locs cells slots al ls h1 h2 h3 h4 hB hL hv
  exact lv_i2s hC.1 hC.2.1 hd rfl (kk p e R s m args below meth c D cA ka A Q n0 a0 mcT msT hC hR hE H locs cells slots al ls h1 h2 h3 h4 hB hL (List.forall_mem_cons.mpr ⟨trivial, (fun v hm => hv v (List.mem_cons_of_mem _ hm))⟩))
theorem sx_i2c {x : Int32} (hd : decode M.2.1 pc = .ok (.i2c, 1)) (kk : Sx l z d mc ms M (pc + 1) lc (xI (jCh x) :: st) h Ph) : Sx l z d mc ms M pc lc (xI x :: st) h Ph := by
  intro p e R s m args below meth c D cA ka A Q n0 a0 mcT msT hC hR hE H locs cells slots al ls h1 h2 h3 h4 hB hL hv
  exact lv_i2c hC.1 hC.2.1 hd rfl (kk p e R s m args below meth c D cA ka A Q n0 a0 mcT msT hC hR hE H locs cells slots al ls h1 h2 h3 h4 hB hL (List.forall_mem_cons.mpr ⟨trivial, (fun v hm => hv v (List.mem_cons_of_mem _ hm))⟩))
theorem sx_dup {v : xV} (hd : decode M.2.1 pc = .ok (.dup, 1)) (hw : x_wide (some (some v)) = false) (kk : Sx l z d mc ms M (pc + 1) lc (v :: v :: st) h Ph) : Sx l z d mc ms M pc lc (v :: st) h Ph := by
  intro p e R s m args below meth c D cA ka A Q n0 a0 mcT msT hC hR hE H locs cells slots al ls h1 h2 h3 h4 hB hL hv
  have hcat : ∀ w : xV, x_wide (some (some w)) = false → (x_t al ka w).category = 1 := fun w hw => (lv_cat _).elim id (fun q => by rw [(x_wide_t al ka w).mp q] at hw; cases hw)
  exact lv_dup hC.1 hC.2.1 hd (hcat _ hw) (kk p e R s m args below meth c D cA ka A Q n0 a0 mcT msT hC hR hE H locs cells slots al ls h1 h2 h3 h4 hB hL (List.forall_mem_cons.mpr ⟨hv _ List.mem_cons_self, hv⟩))
theorem sx_dup_x1 {v w : xV} (hd : decode M.2.1 pc = .ok (.dup_x1, 1)) (hw : x_wide (some (some v)) = false) (hw2 : x_wide (some (some w)) = false) (kk : Sx l z d mc ms M (pc + 1) lc (v :: w :: v :: st) h Ph) : Sx l z d mc ms M pc lc (v :: w :: st) h Ph := by
  intro p e R s m args below meth c D cA ka A Q n0 a0 mcT msT hC hR hE H locs cells slots al ls h1 h2 h3 h4 hB hL hv
  have hcat : ∀ w : xV, x_wide (some (some w)) = false → (x_t al ka w).category = 1 := fun w hw => (lv_cat _).elim id (fun q => by rw [(x_wide_t al ka w).mp q] at hw; cases hw)
  exact lv_dup_x1 hC.1 hC.2.1 hd (hcat _ hw) (hcat _ hw2) (kk p e R s m args below meth c D cA ka A Q n0 a0 mcT msT hC hR hE H locs cells slots al ls h1 h2 h3 h4 hB hL (List.forall_mem_cons.mpr ⟨hv _ List.mem_cons_self, List.forall_mem_cons.mpr ⟨hv _ (List.mem_cons_of_mem _ List.mem_cons_self), List.forall_mem_cons.mpr ⟨hv _ List.mem_cons_self, (fun v hm => hv v (List.mem_cons_of_mem _ (List.mem_cons_of_mem _ hm)))⟩⟩⟩))
theorem sx_pop {v : xV} (hd : decode M.2.1 pc = .ok (.pop, 1)) (hw : x_wide (some (some v)) = false) (kk : Sx l z d mc ms M (pc + 1) lc st h Ph) : Sx l z d mc ms M pc lc (v :: st) h Ph := by
  intro p e R s m args below meth c D cA ka A Q n0 a0 mcT msT hC hR hE H locs cells slots al ls h1 h2 h3 h4 hB hL hv
  have hcat : ∀ w : xV, x_wide (some (some w)) = false → (x_t al ka w).category = 1 := fun w hw => (lv_cat _).elim id (fun q => by rw [(x_wide_t al ka w).mp q] at hw; cases hw)
  exact lv_pop hC.1 hC.2.1 hd (hcat _ hw) (kk p e R s m args below meth c D cA ka A Q n0 a0 mcT msT hC hR hE H locs cells slots al ls h1 h2 h3 h4 hB hL (fun v hm => hv v (List.mem_cons_of_mem _ hm)))
theorem sx_if_eq {x : Int32} {off : Int} {tgt : Nat} (hd : decode M.2.1 pc = .ok (.ifCond .eq off, 3)) (ht : (pc : Int) + off = (tgt : Int)) (kt : x = 0 → Sx l z d mc ms M tgt lc st h Ph) (kf : ¬ x = 0 → Sx l z d mc ms M (pc + 3) lc st h Ph) : Sx l z d mc ms M pc lc (xI x :: st) h Ph := by
  intro p e R s m args below meth c D cA ka A Q n0 a0 mcT msT hC hR hE H locs cells slots al ls h1 h2 h3 h4 hB hL hv
  exact lv_if_eq hC.1 hC.2.1 hd ht (fun q => (kt q p e R s m args below meth c D cA ka A Q n0 a0 mcT msT hC hR hE H locs cells slots al ls h1 h2 h3 h4 hB hL (fun v hm => hv v (List.mem_cons_of_mem _ hm)))) (fun q => (kf q p e R s m args below meth c D cA ka A Q n0 a0 mcT msT hC hR hE H locs cells slots al ls h1 h2 h3 h4 hB hL (fun v hm => hv v (List.mem_cons_of_mem _ hm))))
theorem sx_icmp_eq {x y : Int32} {off : Int} {tgt : Nat} (hd : decode M.2.1 pc = .ok (.if_icmp .eq off, 3)) (ht : (pc : Int) + off = (tgt : Int)) (kt : x = y → Sx l z d mc ms M tgt lc st h Ph) (kf : ¬ x = y → Sx l z d mc ms M (pc + 3) lc st h Ph) : Sx l z d mc ms M pc lc (xI y :: xI x :: st) h Ph := by
  intro p e R s m args below meth c D cA ka A Q n0 a0 mcT msT hC hR hE H locs cells slots al ls h1 h2 h3 h4 hB hL hv
  exact lv_icmp_eq hC.1 hC.2.1 hd ht (fun q => (kt q p e R s m args below meth c D cA ka A Q n0 a0 mcT msT hC hR hE H locs cells slots al ls h1 h2 h3 h4 hB hL (fun v hm => hv v (List.mem_cons_of_mem _ (List.mem_cons_of_mem _ hm))))) (fun q => (kf q p e R s m args below meth c D cA ka A Q n0 a0 mcT msT hC hR hE H locs cells slots al ls h1 h2 h3 h4 hB hL (fun v hm => hv v (List.mem_cons_of_mem _ (List.mem_cons_of_mem _ hm)))))
theorem sx_if_ne {x : Int32} {off : Int} {tgt : Nat} (hd : decode M.2.1 pc = .ok (.ifCond .ne off, 3)) (ht : (pc : Int) + off = (tgt : Int)) (kt : ¬ x = 0 → Sx l z d mc ms M tgt lc st h Ph) (kf : x = 0 → Sx l z d mc ms M (pc + 3) lc st h Ph) : Sx l z d mc ms M pc lc (xI x :: st) h Ph := by
  intro p e R s m args below meth c D cA ka A Q n0 a0 mcT msT hC hR hE H locs cells slots al ls h1 h2 h3 h4 hB hL hv
  exact lv_if_ne hC.1 hC.2.1 hd ht (fun q => (kt q p e R s m args below meth c D cA ka A Q n0 a0 mcT msT hC hR hE H locs cells slots al ls h1 h2 h3 h4 hB hL (fun v hm => hv v (List.mem_cons_of_mem _ hm)))) (fun q => (kf q p e R s m args below meth c D cA ka A Q n0 a0 mcT msT hC hR hE H locs cells slots al ls h1 h2 h3 h4 hB hL (fun v hm => hv v (List.mem_cons_of_mem _ hm))))
theorem sx_icmp_ne {x y : Int32} {off : Int} {tgt : Nat} (hd : decode M.2.1 pc = .ok (.if_icmp .ne off, 3)) (ht : (pc : Int) + off = (tgt : Int)) (kt : ¬ x = y → Sx l z d mc ms M tgt lc st h Ph) (kf : x = y → Sx l z d mc ms M (pc + 3) lc st h Ph) : Sx l z d mc ms M pc lc (xI y :: xI x :: st) h Ph := by
  intro p e R s m args below meth c D cA ka A Q n0 a0 mcT msT hC hR hE H locs cells slots al ls h1 h2 h3 h4 hB hL hv
  exact lv_icmp_ne hC.1 hC.2.1 hd ht (fun q => (kt q p e R s m args below meth c D cA ka A Q n0 a0 mcT msT hC hR hE H locs cells slots al ls h1 h2 h3 h4 hB hL (fun v hm => hv v (List.mem_cons_of_mem _ (List.mem_cons_of_mem _ hm))))) (fun q => (kf q p e R s m args below meth c D cA ka A Q n0 a0 mcT msT hC hR hE H locs cells slots al ls h1 h2 h3 h4 hB hL (fun v hm => hv v (List.mem_cons_of_mem _ (List.mem_cons_of_mem _ hm)))))
theorem sx_if_lt {x : Int32} {off : Int} {tgt : Nat} (hd : decode M.2.1 pc = .ok (.ifCond .lt off, 3)) (ht : (pc : Int) + off = (tgt : Int)) (kt : x < 0 → Sx l z d mc ms M tgt lc st h Ph) (kf : ¬ x < 0 → Sx l z d mc ms M (pc + 3) lc st h Ph) : Sx l z d mc ms M pc lc (xI x :: st) h Ph := by
  intro p e R s m args below meth c D cA ka A Q n0 a0 mcT msT hC hR hE H locs cells slots al ls h1 h2 h3 h4 hB hL hv
  exact lv_if_lt hC.1 hC.2.1 hd ht (fun q => (kt q p e R s m args below meth c D cA ka A Q n0 a0 mcT msT hC hR hE H locs cells slots al ls h1 h2 h3 h4 hB hL (fun v hm => hv v (List.mem_cons_of_mem _ hm)))) (fun q => (kf q p e R s m args below meth c D cA ka A Q n0 a0 mcT msT hC hR hE H locs cells slots al ls h1 h2 h3 h4 hB hL (fun v hm => hv v (List.mem_cons_of_mem _ hm))))
theorem sx_icmp_lt {x y : Int32} {off : Int} {tgt : Nat} (hd : decode M.2.1 pc = .ok (.if_icmp .lt off, 3)) (ht : (pc : Int) + off = (tgt : Int)) (kt : x < y → Sx l z d mc ms M tgt lc st h Ph) (kf : ¬ x < y → Sx l z d mc ms M (pc + 3) lc st h Ph) : Sx l z d mc ms M pc lc (xI y :: xI x :: st) h Ph := by
  intro p e R s m args below meth c D cA ka A Q n0 a0 mcT msT hC hR hE H locs cells slots al ls h1 h2 h3 h4 hB hL hv
  exact lv_icmp_lt hC.1 hC.2.1 hd ht (fun q => (kt q p e R s m args below meth c D cA ka A Q n0 a0 mcT msT hC hR hE H locs cells slots al ls h1 h2 h3 h4 hB hL (fun v hm => hv v (List.mem_cons_of_mem _ (List.mem_cons_of_mem _ hm))))) (fun q => (kf q p e R s m args below meth c D cA ka A Q n0 a0 mcT msT hC hR hE H locs cells slots al ls h1 h2 h3 h4 hB hL (fun v hm => hv v (List.mem_cons_of_mem _ (List.mem_cons_of_mem _ hm)))))
theorem sx_if_ge {x : Int32} {off : Int} {tgt : Nat} (hd : decode M.2.1 pc = .ok (.ifCond .ge off, 3)) (ht : (pc : Int) + off = (tgt : Int)) (kt : 0 ≤ x → Sx l z d mc ms M tgt lc st h Ph) (kf : ¬ 0 ≤ x → Sx l z d mc ms M (pc + 3) lc st h Ph) : Sx l z d mc ms M pc lc (xI x :: st) h Ph := by
  intro p e R s m args below meth c D cA ka A Q n0 a0 mcT msT hC hR hE H locs cells slots al ls h1 h2 h3 h4 hB hL hv
  exact lv_if_ge hC.1 hC.2.1 hd ht (fun q => (kt q p e R s m args below meth c D cA ka A Q n0 a0 mcT msT hC hR hE H locs cells slots al ls h1 h2 h3 h4 hB hL (fun v hm => hv v (List.mem_cons_of_mem _ hm)))) (fun q => (kf q p e R s m args below meth c D cA ka A Q n0 a0 mcT msT hC hR hE H locs cells slots al ls h1 h2 h3 h4 hB hL (fun v hm => hv v (List.mem_cons_of_mem _ hm))))
theorem sx_icmp_ge {x y : Int32} {off : Int} {tgt : Nat} (hd : decode M.2.1 pc = .ok (.if_icmp .ge off, 3)) (ht : (pc : Int) + off = (tgt : Int)) (kt : y ≤ x → Sx l z d mc ms M tgt lc st h Ph) (kf : ¬ y ≤ x → Sx l z d mc ms M (pc + 3) lc st h Ph) : Sx l z d mc ms M pc lc (xI y :: xI x :: st) h Ph := by
  intro p e R s m args below meth c D cA ka A Q n0 a0 mcT msT hC hR hE H locs cells slots al ls h1 h2 h3 h4 hB hL hv
  exact lv_icmp_ge hC.1 hC.2.1 hd ht (fun q => (kt q p e R s m args below meth c D cA ka A Q n0 a0 mcT msT hC hR hE H locs cells slots al ls h1 h2 h3 h4 hB hL (fun v hm => hv v (List.mem_cons_of_mem _ (List.mem_cons_of_mem _ hm))))) (fun q => (kf q p e R s m args below meth c D cA ka A Q n0 a0 mcT msT hC hR hE H locs cells slots al ls h1 h2 h3 h4 hB hL (fun v hm => hv v (List.mem_cons_of_mem _ (List.mem_cons_of_mem _ hm)))))
theorem sx_if_gt {x : Int32} {off : Int} {tgt : Nat} (hd : decode M.2.1 pc = .ok (.ifCond .gt off, 3)) (ht : (pc : Int) + off = (tgt : Int)) (kt : 0 < x → Sx l z d mc ms M tgt lc st h Ph) (kf : ¬ 0 < x → Sx l z d mc ms M (pc + 3) lc st h Ph) : Sx l z d mc ms M pc lc (xI x :: st) h Ph := by
  intro p e R s m args below meth c D cA ka A Q n0 a0 mcT msT hC hR hE H locs cells slots al ls h1 h2 h3 h4 hB hL hv
  exact lv_if_gt hC.1 hC.2.1 hd ht (fun q => (kt q p e R s m args below meth c D cA ka A Q n0 a0 mcT msT hC hR hE H locs cells slots al ls h1 h2 h3 h4 hB hL (fun v hm => hv v (List.mem_cons_of_mem _ hm)))) (fun q => (kf q p e R s m args below meth c D cA ka A Q n0 a0 mcT msT hC hR hE H locs cells slots al ls h1 h2 h3 h4 hB hL (fun v hm => hv v (List.mem_cons_of_mem _ hm))))
theorem sx_icmp_gt {x y : Int32} {off : Int} {tgt : Nat} (hd : decode M.2.1 pc = .ok (.if_icmp .gt off, 3)) (ht : (pc : Int) + off = (tgt : Int)) (kt : y < x → Sx l z d mc ms M tgt lc st h Ph) (kf : ¬ y < x → Sx l z d mc ms M (pc + 3) lc st h Ph) : Sx l z d mc ms M pc lc (xI y :: xI x :: st) h Ph := by
  intro p e R s m args below meth c D cA ka A Q n0 a0 mcT msT hC hR hE H locs cells slots al ls h1 h2 h3 h4 hB hL hv
  exact lv_icmp_gt hC.1 hC.2.1 hd ht (fun q => (kt q p e R s m args below meth c D cA ka A Q n0 a0 mcT msT hC hR hE H locs cells slots al ls h1 h2 h3 h4 hB hL (fun v hm => hv v (List.mem_cons_of_mem _ (List.mem_cons_of_mem _ hm))))) (fun q => (kf q p e R s m args below meth c D cA ka A Q n0 a0 mcT msT hC hR hE H locs cells slots al ls h1 h2 h3 h4 hB hL (fun v hm => hv v (List.mem_cons_of_mem _ (List.mem_cons_of_mem _ hm)))))
theorem sx_if_le {x : Int32} {off : Int} {tgt : Nat} (hd : decode M.2.1 pc = .ok (.ifCond .le off, 3)) (ht : (pc : Int) + off = (tgt : Int)) (kt : x ≤ 0 → Sx l z d mc ms M tgt lc st h Ph) (kf : ¬ x ≤ 0 → Sx l z d mc ms M (pc + 3) lc st h Ph) : Sx l z d mc ms M pc lc (xI x :: st) h Ph := by
  intro p e R s m args below meth c D cA ka A Q n0 a0 mcT msT hC hR hE H locs cells slots al ls h1 h2 h3 h4 hB hL hv
  exact lv_if_le hC.1 hC.2.1 hd ht (fun q => (kt q p e R s m args below meth c D cA ka A Q n0 a0 mcT msT hC hR hE H locs cells slots al ls h1 h2 h3 h4 hB hL (fun v hm => hv v (List.mem_cons_of_mem _ hm)))) (fun q => (kf q p e R s m args below meth c D cA ka A Q n0 a0 mcT msT hC hR hE H locs cells slots al ls h1 h2 h3 h4 hB hL (fun v hm => hv v (List.mem_cons_of_mem _ hm))))
theorem sx_icmp_le {x y : Int32} {off : Int} {tgt : Nat} (hd : decode M.2.1 pc = .ok (.if_icmp .le off, 3)) (ht : (pc : Int) + off = (tgt : Int)) (kt : x ≤ y → Sx l z d mc ms M tgt lc st h Ph) (kf : ¬ x ≤ y → Sx l z d mc ms M (pc + 3) lc st h Ph) : Sx l z d mc ms M pc lc (xI y :: xI x :: st) h Ph := by
  intro p e R s m args below meth c D cA ka A Q n0 a0 mcT msT hC hR hE H locs cells slots al ls h1 h2 h3 h4 hB hL hv
  exact lv_icmp_le hC.1 hC.2.1 hd ht (fun q => (kt q p e R s m args below meth c D cA ka A Q n0 a0 mcT msT hC hR hE H locs cells slots al ls h1 h2 h3 h4 hB hL (fun v hm => hv v (List.mem_cons_of_mem _ (List.mem_cons_of_mem _ hm))))) (fun q => (kf q p e R s m args below meth c D cA ka A Q n0 a0 mcT msT hC hR hE H locs cells slots al ls h1 h2 h3 h4 hB hL (fun v hm => hv v (List.mem_cons_of_mem _ (List.mem_cons_of_mem _ hm)))))
theorem sx_goto {off : Int} {tgt : Nat} (hd : decode M.2.1 pc = .ok (.goto off, 3)) (ht : (pc : Int) + off = (tgt : Int)) (kk : Sx l z d mc ms M tgt lc st h Ph) : Sx l z d mc ms M pc lc st h Ph := by
  intro p e R s m args below meth c D cA ka A Q n0 a0 mcT msT hC hR hE H locs cells slots al ls h1 h2 h3 h4 hB hL hv
  exact lv_goto hC.1 hC.2.1 hd ht (kk p e R s m args below meth c D cA ka A Q n0 a0 mcT msT hC hR hE H locs cells slots al ls h1 h2 h3 h4 hB hL hv)
theorem sx_ifnull {q : Nat} {off : Int} {tgt : Nat} (hd : decode M.2.1 pc = .ok (.ifnull off, 3)) (ht : (pc : Int) + off = (tgt : Int)) (kt : q = 0 → Sx l z d mc ms M tgt lc st h Ph) (kf : ¬ q = 0 → Sx l z d mc ms M (pc + 3) lc st h Ph) : Sx l z d mc ms M pc lc (xR q :: st) h Ph := by
  intro p e R s m args below meth c D cA ka A Q n0 a0 mcT msT hC hR hE H locs cells slots al ls h1 h2 h3 h4 hB hL hv
  rw [List.map_cons]
  by_cases hq : q = 0
  · rw [show x_t al ka (xR q) = .null by rw [hq]; rfl]
    exact lv_ifnullN hC.1 hC.2.1 hd ht (kt hq p e R s m args below meth c D cA ka A Q n0 a0 mcT msT hC hR hE H locs cells slots al ls h1 h2 h3 h4 hB hL (fun v hm => hv v (List.mem_cons_of_mem _ hm)))
  · rw [show x_t al ka (xR q) = .ref (al q) by show va_rf (x_r al q) = _; unfold x_r; rw [if_neg hq]; rfl]
    exact lv_ifnull hC.1 hC.2.1 hd (kf hq p e R s m args below meth c D cA ka A Q n0 a0 mcT msT hC hR hE H locs cells slots al ls h1 h2 h3 h4 hB hL (fun v hm => hv v (List.mem_cons_of_mem _ hm)))
theorem sx_ifnonnull {q : Nat} {off : Int} {tgt : Nat} (hd : decode M.2.1 pc = .ok (.ifnonnull off, 3)) (ht : (pc : Int) + off = (tgt : Int)) (kt : ¬ q = 0 → Sx l z d mc ms M tgt lc st h Ph) (kf : q = 0 → Sx l z d mc ms M (pc + 3) lc st h Ph) : Sx l z d mc ms M pc lc (xR q :: st) h Ph := by
  intro p e R s m args below meth c D cA ka A Q n0 a0 mcT msT hC hR hE H locs cells slots al ls h1 h2 h3 h4 hB hL hv
  rw [List.map_cons]
  by_cases hq : q = 0
  · rw [show x_t al ka (xR q) = .null by rw [hq]; rfl]
    exact lv_ifnonnullN hC.1 hC.2.1 hd (kf hq p e R s m args below meth c D cA ka A Q n0 a0 mcT msT hC hR hE H locs cells slots al ls h1 h2 h3 h4 hB hL (fun v hm => hv v (List.mem_cons_of_mem _ hm)))
  · rw [show x_t al ka (xR q) = .ref (al q) by show va_rf (x_r al q) = _; unfold x_r; rw [if_neg hq]; rfl]
    exact lv_ifnonnull hC.1 hC.2.1 hd ht (kt hq p e R s m args below meth c D cA ka A Q n0 a0 mcT msT hC hR hE H locs cells slots al ls h1 h2 h3 h4 hB hL (fun v hm => hv v (List.mem_cons_of_mem _ hm)))
theorem sx_tabOut {dflt lo hi : Int} {offs : Array Int} {len : Nat} {x : Int32} {tgt : Nat} (hd : decode M.2.1 pc = .ok (.tableswitch dflt lo hi offs, len)) (hq : x.toInt < lo ∨ hi < x.toInt) (ht : (pc : Int) + dflt = (tgt : Int)) (kk : Sx l z d mc ms M tgt lc st h Ph) : Sx l z d mc ms M pc lc (xI x :: st) h Ph := by
  intro p e R s m args below meth c D cA ka A Q n0 a0 mcT msT hC hR hE H locs cells slots al ls h1 h2 h3 h4 hB hL hv
  exact lv_tableOut hC.1 hC.2.1 hd hq ht (kk p e R s m args below meth c D cA ka A Q n0 a0 mcT msT hC hR hE H locs cells slots al ls h1 h2 h3 h4 hB hL (fun v hm => hv v (List.mem_cons_of_mem _ hm)))
theorem sx_tabIn {dflt lo hi : Int} {offs : Array Int} {len : Nat} {x : Int32} {off : Int} {tgt : Nat} (hd : decode M.2.1 pc = .ok (.tableswitch dflt lo hi offs, len)) (hq1 : ¬ x.toInt < lo) (hq2 : ¬ hi < x.toInt) (ho : offs[(x.toInt - lo).toNat]? = some off) (ht : (pc : Int) + off = (tgt : Int)) (kk : Sx l z d mc ms M tgt lc st h Ph) : Sx l z d mc ms M pc lc (xI x :: st) h Ph := by
  intro p e R s m args below meth c D cA ka A Q n0 a0 mcT msT hC hR hE H locs cells slots al ls h1 h2 h3 h4 hB hL hv
  exact lv_tableIn hC.1 hC.2.1 hd hq1 hq2 ho ht (kk p e R s m args below meth c D cA ka A Q n0 a0 mcT msT hC hR hE H locs cells slots al ls h1 h2 h3 h4 hB hL (fun v hm => hv v (List.mem_cons_of_mem _ hm)))
theorem sx_ldc {k : Nat} {v : Int32} (hw : Cond.constant M.1.cls k v ∈ xTB) (hd : decode M.2.1 pc = .ok (.ldc k, 2)) (kk : Sx l z d mc ms M (pc + 2) lc (xI v :: st) h Ph) : Sx l z d mc ms M pc lc st h Ph := by
  intro p e R s m args below meth c D cA ka A Q n0 a0 mcT msT hC hR hE H locs cells slots al ls h1 h2 h3 h4 hB hL hv
  exact W.ldc hC.1 hC.2.1 hC.2.2.2.2.1 (hC.2.2.2.2.2.1 _ hw) rfl hd (kk p e R s m args below meth c D cA ka A Q n0 a0 mcT msT hC hR hE H locs cells slots al ls h1 h2 h3 h4 hB hL (List.forall_mem_cons.mpr ⟨trivial, hv⟩))
theorem sx_ldcw {k : Nat} {v : Int32} (hw : Cond.constant M.1.cls k v ∈ xTB) (hd : decode M.2.1 pc = .ok (.ldc_w k, 3)) (kk : Sx l z d mc ms M (pc + 3) lc (xI v :: st) h Ph) : Sx l z d mc ms M pc lc st h Ph := by
  intro p e R s m args below meth c D cA ka A Q n0 a0 mcT msT hC hR hE H locs cells slots al ls h1 h2 h3 h4 hB hL hv
  exact lv_ldcw hC.1 hC.2.1 hC.2.2.2.2.1 (hC.2.2.2.2.2.1 _ hw) hd (kk p e R s m args below meth c D cA ka A Q n0 a0 mcT msT hC hR hE H locs cells slots al ls h1 h2 h3 h4 hB hL (List.forall_mem_cons.mpr ⟨trivial, hv⟩))
theorem sx_ldc2 {k : Nat} {v : Int64} (hw : Cond.constantLong M.1.cls k v ∈ xTB) (hd : decode M.2.1 pc = .ok (.ldc2_w k, 3)) (kk : Sx l z d mc ms M (pc + 3) lc (xJ v :: st) h Ph) : Sx l z d mc ms M pc lc st h Ph := by
  intro p e R s m args below meth c D cA ka A Q n0 a0 mcT msT hC hR hE H locs cells slots al ls h1 h2 h3 h4 hB hL hv
  exact W.ldc2 hC.1 hC.2.1 hC.2.2.2.2.1 (hC.2.2.2.2.2.1 _ hw) rfl hd (kk p e R s m args below meth c D cA ka A Q n0 a0 mcT msT hC hR hE H locs cells slots al ls h1 h2 h3 h4 hB hL (List.forall_mem_cons.mpr ⟨trivial, hv⟩))
theorem sx_ldcS {k : Nat} {i : Nat} {tx : String} (hw : x_sl[i]? = some (M.1.cls, k, tx)) (hi : i < 14) (hd : decode M.2.1 pc = .ok (.ldc k, 2)) (kk : Sx l z d mc ms M (pc + 2) lc (xS i :: st) h Ph) : Sx l z d mc ms M pc lc st h Ph := by
  intro p e R s m args below meth c D cA ka A Q n0 a0 mcT msT hC hR hE H locs cells slots al ls h1 h2 h3 h4 hB hL hv
  have k9 := (kk p e R s m args below meth c D cA ka A Q n0 a0 mcT msT hC hR hE H locs cells slots al ls h1 h2 h3 h4 hB hL (List.forall_mem_cons.mpr ⟨trivial, hv⟩))
  rw [List.map_cons, show x_t al ka (xS i) = .ref (ka.1 i) by show (if i = 31 then va_rf ka.2 else .ref (ka.1 i)) = _; rw [if_neg (by omega)]] at k9
  exact va_ldcS hC.1 hC.2.1 hC.2.2.2.2.1 (hC.2.2.2.2.2.2.2.2.2.2.2.1 i _ hw) hd k9
end XR
end
section
section XH
variable {l : Launch} {z : xZ} {d mc ms : Nat} {M : xM} {pc : Nat} {lc : List (Option xV)} {st : List xV} {h : xH} {Ph : Option xV → xH → Prop}
def x_clok (q : vw_C × (Nat → FieldType)) : Prop := (∀ w ∈ u_ws q.1.1 q.1.2.1 q.1.2.2, w ∈ xTB) ∧ (∀ k, k < q.1.2.2 → parseFieldDescriptor (q.1.2.1 k).2.2.1 = some (q.2 k) ∧ (q.1.2.1 k).1 = q.1.1) ∧ ∀ a, a < q.1.2.2 → ∀ b, b < q.1.2.2 → a ≠ b → (q.1.2.1 a).2.1 ≠ (q.1.2.1 b).2.1
theorem x_clall : ∀ q ∈ xcl, x_clok q := by
  unfold xcl
  refine List.forall_mem_cons.mpr ⟨⟨xl_Ch, xy_Ch, xn_Ch⟩, List.forall_mem_cons.mpr ⟨⟨xl_Re, xy_Re, xn_Re⟩, List.forall_mem_cons.mpr ⟨⟨xl_Ru, xy_Ru, xn_Ru⟩, List.forall_mem_cons.mpr ⟨⟨xl_Se, xy_Se, xn_Se⟩, List.forall_mem_cons.mpr ⟨⟨xl_Sh, xy_Sh, xn_Sh⟩, List.forall_mem_cons.mpr ⟨⟨xl_St, xy_St, xn_St⟩, List.forall_mem_cons.mpr ⟨⟨xl_Ta, xy_Ta, xn_Ta⟩, List.forall_mem_cons.mpr ⟨⟨xl_Te, xy_Te, xn_Te⟩, List.forall_mem_cons.mpr ⟨⟨xl_To, xy_To, xn_To⟩, List.forall_mem_cons.mpr ⟨⟨xl_Wa, xy_Wa, xn_Wa⟩, List.forall_mem_cons.mpr ⟨⟨xl_Ma, xy_Ma, xn_Ma⟩, List.forall_mem_cons.mpr ⟨⟨xl_Mo, xy_Mo, xn_Mo⟩, fun _ h => absurd h List.not_mem_nil⟩⟩⟩⟩⟩⟩⟩⟩⟩⟩⟩⟩
theorem x_cok {ci : Nat} {q : vw_C × (Nat → FieldType)} (hc : xcl[ci]? = some q) : x_clok q := x_clall q (List.mem_of_getElem? hc)
theorem x_clt {ci : Nat} {q : vw_C × (Nat → FieldType)} (hc : xcl[ci]? = some q) : ci < 12 := (List.getElem?_eq_some_iff.mp hc).1
theorem x_t_R {al : Nat → Nat} {ka : xK} {p : Nat} (hp : 0 < p) : x_t al ka (xR p) = .ref (al p) := by
  show va_rf (x_r al p) = _
  unfold x_r
  rw [if_neg (by omega)]
  rfl
def x_V (h : xH) (p : Nat) (t : FieldType) (k : Nat) : xV := match t with
  | .int => xI (hI h p k)
  | .boolean => xI (hI h p k)
  | .long => xJ (hI h p k).toInt64
  | _ => xR (hR h p k)
theorem x_V_t {al : Nat → Nat} {ka : xK} {p k : Nat} {t : FieldType} : x_t al ka (x_V h p t k) = x_fv al h p t k := by cases t <;> rfl
theorem x_V_vo {p k : Nat} {t : FieldType} (ho : x_ok h) : x_vo (hN h) (x_V h p t k) := by cases t <;> first | trivial | exact ho.2.1 p k
theorem sx_get {ci k idx p : Nat} {q : vw_C × (Nat → FieldType)} (hc : xcl[ci]? = some q) (hk : k < q.1.2.2) (hw : Cond.fieldLink M.1.cls idx (q.1.2.1 k).1 (q.1.2.1 k).2.1 (q.1.2.1 k).2.2.1 ∈ xTB) (hp : hK h p = ci) (hd : decode M.2.1 pc = .ok (.getfield idx, 3)) (kk : Sx l z d mc ms M (pc + 3) lc (x_V h p (q.2 k) k :: st) h Ph) : Sx l z d mc ms M pc lc (xR p :: st) h Ph := by
  intro pp e R s m args below meth c D cA ka A Q n0 a0 mcT msT hC gR hE H locs cells slots al ls h1 h2 h3 h4 hB gL hv
  have hpos := hB.2.2.2.pos hp (by have := x_clt hc; omega)
  rw [List.map_cons, x_t_R hpos.1]
  refine va_get (D := D) (ci := ci) hC.1 hC.2.1 hC.2.2.2.2.2.1 (x_cok hc).1 hC.2.2.2.2.1 hC.2.2.2.2.2.2.1 hB.1 (p - 1) ((x_w_at hpos.1 hpos.2).trans (by rw [x_g_obj hp hc])) (x_C_at hc) k hk (hC.2.2.2.2.2.1 _ hw) (fun _ h9 => h9) (x_fs_at hk) hd ?_
  rw [← x_V_t (ka := ka)]
  exact kk pp e R s m args below meth c D cA ka A Q n0 a0 mcT msT hC gR hE H locs cells slots al ls h1 h2 h3 h4 hB gL (List.forall_mem_cons.mpr ⟨x_V_vo hB.2.2.2, fun v hm => hv v (List.mem_cons_of_mem _ hm)⟩)
/-! writing: the heap behind, and its world -/
theorem x_B_of {D : va_G} {cA : Nat → ClassId} {al : Nat → Nat} {A : Nat → Prop} {s : State} {H H1 : Heap} {locs locs1 : List Loc} {h2 : xH} {ws : va_W} (hB : x_B D cA al A s h H locs) (ew : ws = x_w cA al h2) (hP : va_P D xC ws H1) (hD : va_D A ws) (hS : va_S A s.heap H1 locs1) (ho : x_ok h2) : x_B D cA al A s h2 H1 locs1 := by
  subst ew
  exact ⟨hP, hD, hS, ho⟩
theorem x_okI {p k : Nat} {v : Int32} (ho : x_ok h) : x_ok (hIu h p k v) := ho
theorem x_okR {p k v : Nat} (ho : x_ok h) (hv : v < hN h) : x_ok (hRu h p k v) := ⟨ho.1, fun q j => by
  show (if q = p ∧ j = k then v else hR h q j) < hN h
  by_cases e : q = p ∧ j = k
  · rw [if_pos e]; exact hv
  · rw [if_neg e]; exact ho.2.1 q j, ho.2.2⟩
theorem x_g_ne {cA : Nat → ClassId} {al : Nat → Nat} {h2 : xH} {q : Nat} (e1 : hK h2 q = hK h q) (e2 : hL h2 q = hL h q) (e3 : hI h2 q = hI h q) (e4 : hR h2 q = hR h q) : x_g cA al h2 q = x_g cA al h q := by
  have e5 : ∀ (n : Nat) (t : Nat → FieldType), x_fs al h2 q n t = x_fs al h q n t := by
    intro n t
    unfold x_fs
    congr 1
    funext k
    unfold x_fv
    rw [e3, e4]
  unfold x_g
  rw [e1, e2, e3, e4]
  simp only [e5]
theorem hI_ne {p k q : Nat} {v : Int32} (hq : q ≠ p) : hI (hIu h p k v) q = hI h q := by
  funext j
  show (if q = p ∧ j = k then v else hI h q j) = _
  rw [if_neg (fun e => hq e.1)]
theorem hR_ne {p k q v : Nat} (hq : q ≠ p) : hR (hRu h p k v) q = hR h q := by
  funext j
  show (if q = p ∧ j = k then v else hR h q j) = _
  rw [if_neg (fun e => hq e.1)]
theorem hI_at {p k j : Nat} {v : Int32} : hI (hIu h p k v) p j = if j = k then v else hI h p j := by
  show (if p = p ∧ j = k then v else hI h p j) = _
  by_cases e : j = k
  · rw [if_pos ⟨rfl, e⟩, if_pos e]
  · rw [if_neg (fun q => e q.2), if_neg e]
theorem hR_at {p k j v : Nat} : hR (hRu h p k v) p j = if j = k then v else hR h p j := by
  show (if p = p ∧ j = k then v else hR h p j) = _
  by_cases e : j = k
  · rw [if_pos ⟨rfl, e⟩, if_pos e]
  · rw [if_neg (fun q => e q.2), if_neg e]
def x_isI (t : FieldType) : Bool := match t with
  | .int | .boolean | .long => true
  | .float | .double | .byte | .char | .short => false
  | _ => false
def x_isR (t : FieldType) : Bool := match t with
  | .object _ | .array _ => true
  | _ => false
theorem x_fv_I {al : Nat → Nat} {p k j : Nat} {v : Int32} {t : FieldType} (hj : j ≠ k) : x_fv al (hIu h p k v) p t j = x_fv al h p t j := by
  unfold x_fv
  rw [hI_at, if_neg hj]
  rfl
theorem x_fv_R {al : Nat → Nat} {p k j v : Nat} {t : FieldType} (hj : j ≠ k) : x_fv al (hRu h p k v) p t j = x_fv al h p t j := by
  unfold x_fv
  rw [hR_at, if_neg hj]
  rfl
theorem x_w_I {cA : Nat → ClassId} {al : Nat → Nat} {p k ci : Nat} {v : Int32} {q : vw_C × (Nat → FieldType)} (h0 : 0 < p) (hp : hK h p = ci) (hc : xcl[ci]? = some q) {w : Value} (hw : x_fv al (hIu h p k v) p (q.2 k) k = w) : (x_w cA al h).set (p - 1) (al p, .inr (ci, (x_fs al h p q.1.2.2 q.2).set k w)) = x_w cA al (hIu h p k v) := by
  subst hw
  rw [x_fs_set (h2 := hIu h p k v) (fun j hj => x_fv_I hj), ← x_g_obj (h := hIu h p k v) (cA := cA) hp hc]
  exact x_w_set rfl h0 (fun q hq => x_g_ne rfl rfl (hI_ne hq) rfl)
theorem x_w_R {cA : Nat → ClassId} {al : Nat → Nat} {p k ci v : Nat} {q : vw_C × (Nat → FieldType)} (h0 : 0 < p) (hp : hK h p = ci) (hc : xcl[ci]? = some q) {w : Value} (hw : x_fv al (hRu h p k v) p (q.2 k) k = w) : (x_w cA al h).set (p - 1) (al p, .inr (ci, (x_fs al h p q.1.2.2 q.2).set k w)) = x_w cA al (hRu h p k v) := by
  subst hw
  rw [x_fs_set (h2 := hRu h p k v) (fun j hj => x_fv_R hj), ← x_g_obj (h := hRu h p k v) (cA := cA) hp hc]
  exact x_w_set rfl h0 (fun q hq => x_g_ne rfl rfl rfl (hR_ne hq))
theorem x_w_Ia {cA : Nat → ClassId} {al : Nat → Nat} {p k ci : Nat} {v : Int32} (h0 : 0 < p) (hp : hK h p = ci) (hc : ci = 12 ∨ ci = 13) : (x_w cA al h).set (p - 1) (al p, .inl (cA ci, (hL h p, .inl (upd (hI h p) k v)))) = x_w cA al (hIu h p k v) := by
  have e : upd (hI h p) k v = hI (hIu h p k v) p := by
    funext j
    rw [hI_at]
    rfl
  rw [e, show hL h p = hL (hIu h p k v) p from rfl, ← x_g_int (h := hIu h p k v) (cA := cA) (al := al) hp hc]
  exact x_w_set rfl h0 (fun q hq => x_g_ne rfl rfl (hI_ne hq) rfl)
theorem x_w_Ra {cA : Nat → ClassId} {al : Nat → Nat} {p k ci v : Nat} (h0 : 0 < p) (hp : hK h p = ci) (hc : 14 ≤ ci ∧ ci ≤ 16) : (x_w cA al h).set (p - 1) (al p, .inl (cA ci, (hL h p, .inr (.inr (.inr (.inr (va_up (fun j => x_r al (hR h p j)) k (x_r al v)))))))) = x_w cA al (hRu h p k v) := by
  have e : va_up (fun j => x_r al (hR h p j)) k (x_r al v) = fun j => x_r al (hR (hRu h p k v) p j) := by
    funext j
    rw [hR_at]
    unfold va_up
    by_cases e : j = k
    · rw [if_pos e, if_pos e]
    · rw [if_neg e, if_neg e]
  rw [e, show hL h p = hL (hRu h p k v) p from rfl, ← x_g_ref (h := hRu h p k v) (cA := cA) (al := al) hp hc]
  exact x_w_set rfl h0 (fun q hq => x_g_ne rfl rfl rfl (hR_ne hq))
theorem x_nR {t : FieldType} (ht : x_isR t = true) (al : Nat → Nat) (v : Nat) : narrow t (va_rf (x_r al v)) = va_rf (x_r al v) ∧ fits t (va_rf (x_r al v)) = true := by
  cases t <;> first | (cases ht; done) | (unfold x_r; by_cases hv : v = 0 <;> simp [hv, va_rf, narrow, fits])
theorem x_fR {al : Nat → Nat} {p k v : Nat} {t : FieldType} (ht : x_isR t = true) : x_fv al (hRu h p k v) p t k = va_rf (x_r al v) := by
  cases t <;> first | (cases ht; done) | (unfold x_fv; rw [hR_at, if_pos rfl])
/-- an int goes into an int or a boolean as it is -/
def x_tI (t : FieldType) (v : Int32) : Prop := t = .int ∨ (t = .boolean ∧ (v = 0 ∨ v = 1))
theorem x_tI.ok {al : Nat → Nat} {p k : Nat} {v : Int32} {t : FieldType} (ht : x_tI t v) : narrow t (.int v) = .int v ∧ fits t (.int v) = true ∧ x_fv al (hIu h p k v) p t k = .int v := by
  rcases ht with rfl | ⟨rfl, rfl | rfl⟩
  · exact ⟨rfl, rfl, by unfold x_fv; rw [hI_at, if_pos rfl]⟩
  · exact ⟨by decide, by decide, by unfold x_fv; rw [hI_at, if_pos rfl]⟩
  · exact ⟨by decide, by decide, by unfold x_fv; rw [hI_at, if_pos rfl]⟩
theorem sx_putI {ci k idx p : Nat} {v : Int32} {q : vw_C × (Nat → FieldType)} (hc : xcl[ci]? = some q) (hk : k < q.1.2.2) (hw : Cond.fieldLink M.1.cls idx (q.1.2.1 k).1 (q.1.2.1 k).2.1 (q.1.2.1 k).2.2.1 ∈ xTB) (hf : (q.1.2.1 k).2.2.2 = false) (hp : hK h p = ci) (ht0 : x_tI (q.2 k) v) (hd : decode M.2.1 pc = .ok (.putfield idx, 3)) (kk : Sx l z d mc ms M (pc + 3) lc st (hIu h p k v) Ph) : Sx l z d mc ms M pc lc (xI v :: xR p :: st) h Ph := by
  intro pp e R s m args below meth c D cA ka A Q n0 a0 mcT msT hC gR hE H locs cells slots al ls h1 h2 h3 h4 hB gL hv
  have hpos := hB.2.2.2.pos hp (by have := x_clt hc; omega)
  rw [List.map_cons, List.map_cons, x_t_R hpos.1]
  refine va_put (D := D) (ci := ci) hC.1 hC.2.1 hC.2.2.2.2.2.1 (x_cok hc).1 q.2 (fun k hk => ((x_cok hc).2.1 k hk).1) (x_cok hc).2.2 hC.2.2.2.2.1 hC.2.2.2.2.2.2.1 hB.1 hB.2.1 hB.2.2.1 (p - 1) ((x_w_at hpos.1 hpos.2).trans (by rw [x_g_obj hp hc])) (x_C_at hc) k hk (hC.2.2.2.2.2.1 _ hw) (fun _ h9 => h9) hf ((x_cok hc).2.1 k hk).1 (ht0.ok (h := h) (al := al) (p := p) (k := k)).1 (ht0.ok (h := h) (al := al) (p := p) (k := k)).2.1 (by rw [x_fs_len]; exact hk) hd ?_
  intro H1 locs1 hP1 hD1 hS1
  have hB1 := x_B_of hB (x_w_I hpos.1 hp hc (v := v) (ht0.ok (h := h)).2.2) hP1 hD1 hS1 (x_okI hB.2.2.2)
  exact kk pp e R s m args below meth c D cA ka A Q n0 a0 mcT msT hC gR hE H1 locs1 cells slots al ls h1 h2 h3 h4 hB1 gL (fun v hm => hv v (List.mem_cons_of_mem _ (List.mem_cons_of_mem _ hm)))
theorem sx_putR {ci k idx p : Nat} {v : Nat} {q : vw_C × (Nat → FieldType)} (hc : xcl[ci]? = some q) (hk : k < q.1.2.2) (hw : Cond.fieldLink M.1.cls idx (q.1.2.1 k).1 (q.1.2.1 k).2.1 (q.1.2.1 k).2.2.1 ∈ xTB) (hf : (q.1.2.1 k).2.2.2 = false) (hp : hK h p = ci) (ht : x_isR (q.2 k) = true) (hd : decode M.2.1 pc = .ok (.putfield idx, 3)) (kk : Sx l z d mc ms M (pc + 3) lc st (hRu h p k v) Ph) : Sx l z d mc ms M pc lc (xR v :: xR p :: st) h Ph := by
  intro pp e R s m args below meth c D cA ka A Q n0 a0 mcT msT hC gR hE H locs cells slots al ls h1 h2 h3 h4 hB gL hv
  have hpos := hB.2.2.2.pos hp (by have := x_clt hc; omega)
  rw [List.map_cons, List.map_cons, x_t_R hpos.1]
  refine va_put (D := D) (ci := ci) hC.1 hC.2.1 hC.2.2.2.2.2.1 (x_cok hc).1 q.2 (fun k hk => ((x_cok hc).2.1 k hk).1) (x_cok hc).2.2 hC.2.2.2.2.1 hC.2.2.2.2.2.2.1 hB.1 hB.2.1 hB.2.2.1 (p - 1) ((x_w_at hpos.1 hpos.2).trans (by rw [x_g_obj hp hc])) (x_C_at hc) k hk (hC.2.2.2.2.2.1 _ hw) (fun _ h9 => h9) hf ((x_cok hc).2.1 k hk).1 (x_nR ht _ _).1 (x_nR ht al v).2 (by rw [x_fs_len]; exact hk) hd ?_
  intro H1 locs1 hP1 hD1 hS1
  have hB1 := x_B_of hB (x_w_R hpos.1 hp hc (v := v) (x_fR ht)) hP1 hD1 hS1 (x_okR hB.2.2.2 (hv _ List.mem_cons_self))
  exact kk pp e R s m args below meth c D cA ka A Q n0 a0 mcT msT hC gR hE H1 locs1 cells slots al ls h1 h2 h3 h4 hB1 gL (fun v hm => hv v (List.mem_cons_of_mem _ (List.mem_cons_of_mem _ hm)))
theorem sx_putIF {ci k idx p : Nat} {v : Int32} {q : vw_C × (Nat → FieldType)} (hc : xcl[ci]? = some q) (hk : k < q.1.2.2) (hw : Cond.fieldLink M.1.cls idx (q.1.2.1 k).1 (q.1.2.1 k).2.1 (q.1.2.1 k).2.2.1 ∈ xTB) (hf : (q.1.2.1 k).2.2.2 = true) (hi : M.1.name = "<init>") (hq : q.1.1 = M.1.cls) (hp : hK h p = ci) (ht0 : x_tI (q.2 k) v) (hd : decode M.2.1 pc = .ok (.putfield idx, 3)) (kk : Sx l z d mc ms M (pc + 3) lc st (hIu h p k v) Ph) : Sx l z d mc ms M pc lc (xI v :: xR p :: st) h Ph := by
  intro pp e R s m args below meth c D cA ka A Q n0 a0 mcT msT hC gR hE H locs cells slots al ls h1 h2 h3 h4 hB gL hv
  have hpos := hB.2.2.2.pos hp (by have := x_clt hc; omega)
  rw [List.map_cons, List.map_cons, x_t_R hpos.1]
  refine va_putF (D := D) (ci := ci) hC.1 hC.2.1 hC.2.2.2.2.2.1 (x_cok hc).1 q.2 (fun k hk => ((x_cok hc).2.1 k hk).1) (x_cok hc).2.2 hC.2.2.2.2.1 hC.2.2.2.2.2.2.1 hB.1 hB.2.1 hB.2.2.1 (p - 1) ((x_w_at hpos.1 hpos.2).trans (by rw [x_g_obj hp hc])) (x_C_at hc) k hk (hC.2.2.2.2.2.1 _ hw) (fun _ h9 => h9) hf (hC.2.2.2.2.2.2.2.2.1 hi) (((x_cok hc).2.1 k hk).2.trans hq) ((x_cok hc).2.1 k hk).1 (ht0.ok (h := h) (al := al) (p := p) (k := k)).1 (ht0.ok (h := h) (al := al) (p := p) (k := k)).2.1 (by rw [x_fs_len]; exact hk) hd ?_
  intro H1 locs1 hP1 hD1 hS1
  have hB1 := x_B_of hB (x_w_I hpos.1 hp hc (v := v) (ht0.ok (h := h)).2.2) hP1 hD1 hS1 (x_okI hB.2.2.2)
  exact kk pp e R s m args below meth c D cA ka A Q n0 a0 mcT msT hC gR hE H1 locs1 cells slots al ls h1 h2 h3 h4 hB1 gL (fun v hm => hv v (List.mem_cons_of_mem _ (List.mem_cons_of_mem _ hm)))
theorem sx_putRF {ci k idx p : Nat} {v : Nat} {q : vw_C × (Nat → FieldType)} (hc : xcl[ci]? = some q) (hk : k < q.1.2.2) (hw : Cond.fieldLink M.1.cls idx (q.1.2.1 k).1 (q.1.2.1 k).2.1 (q.1.2.1 k).2.2.1 ∈ xTB) (hf : (q.1.2.1 k).2.2.2 = true) (hi : M.1.name = "<init>") (hq : q.1.1 = M.1.cls) (hp : hK h p = ci) (ht : x_isR (q.2 k) = true) (hd : decode M.2.1 pc = .ok (.putfield idx, 3)) (kk : Sx l z d mc ms M (pc + 3) lc st (hRu h p k v) Ph) : Sx l z d mc ms M pc lc (xR v :: xR p :: st) h Ph := by
  intro pp e R s m args below meth c D cA ka A Q n0 a0 mcT msT hC gR hE H locs cells slots al ls h1 h2 h3 h4 hB gL hv
  have hpos := hB.2.2.2.pos hp (by have := x_clt hc; omega)
  rw [List.map_cons, List.map_cons, x_t_R hpos.1]
  refine va_putF (D := D) (ci := ci) hC.1 hC.2.1 hC.2.2.2.2.2.1 (x_cok hc).1 q.2 (fun k hk => ((x_cok hc).2.1 k hk).1) (x_cok hc).2.2 hC.2.2.2.2.1 hC.2.2.2.2.2.2.1 hB.1 hB.2.1 hB.2.2.1 (p - 1) ((x_w_at hpos.1 hpos.2).trans (by rw [x_g_obj hp hc])) (x_C_at hc) k hk (hC.2.2.2.2.2.1 _ hw) (fun _ h9 => h9) hf (hC.2.2.2.2.2.2.2.2.1 hi) (((x_cok hc).2.1 k hk).2.trans hq) ((x_cok hc).2.1 k hk).1 (x_nR ht _ _).1 (x_nR ht al v).2 (by rw [x_fs_len]; exact hk) hd ?_
  intro H1 locs1 hP1 hD1 hS1
  have hB1 := x_B_of hB (x_w_R hpos.1 hp hc (v := v) (x_fR ht)) hP1 hD1 hS1 (x_okR hB.2.2.2 (hv _ List.mem_cons_self))
  exact kk pp e R s m args below meth c D cA ka A Q n0 a0 mcT msT hC gR hE H1 locs1 cells slots al ls h1 h2 h3 h4 hB1 gL (fun v hm => hv v (List.mem_cons_of_mem _ (List.mem_cons_of_mem _ hm)))
theorem sx_putJ {ci k idx p : Nat} {v : Int64} {q : vw_C × (Nat → FieldType)} (hc : xcl[ci]? = some q) (hk : k < q.1.2.2) (hw : Cond.fieldLink M.1.cls idx (q.1.2.1 k).1 (q.1.2.1 k).2.1 (q.1.2.1 k).2.2.1 ∈ xTB) (hf : (q.1.2.1 k).2.2.2 = false) (hp : hK h p = ci) (ht : q.2 k = .long ∧ v.toInt32.toInt64 = v) (hd : decode M.2.1 pc = .ok (.putfield idx, 3)) (kk : Sx l z d mc ms M (pc + 3) lc st (hIu h p k v.toInt32) Ph) : Sx l z d mc ms M pc lc (xJ v :: xR p :: st) h Ph := by
  intro pp e R s m args below meth c D cA ka A Q n0 a0 mcT msT hC gR hE H locs cells slots al ls h1 h2 h3 h4 hB gL hv
  have hpos := hB.2.2.2.pos hp (by have := x_clt hc; omega)
  rw [List.map_cons, List.map_cons, x_t_R hpos.1]
  refine va_put (D := D) (ci := ci) hC.1 hC.2.1 hC.2.2.2.2.2.1 (x_cok hc).1 q.2 (fun k hk => ((x_cok hc).2.1 k hk).1) (x_cok hc).2.2 hC.2.2.2.2.1 hC.2.2.2.2.2.2.1 hB.1 hB.2.1 hB.2.2.1 (p - 1) ((x_w_at hpos.1 hpos.2).trans (by rw [x_g_obj hp hc])) (x_C_at hc) k hk (hC.2.2.2.2.2.1 _ hw) (fun _ h9 => h9) hf ((x_cok hc).2.1 k hk).1 (by rw [ht.1]; rfl) (by rw [ht.1]; rfl) (by rw [x_fs_len]; exact hk) hd ?_
  intro H1 locs1 hP1 hD1 hS1
  have hB1 := x_B_of hB (x_w_I hpos.1 hp hc (v := v.toInt32) (by rw [ht.1]; unfold x_fv; rw [hI_at, if_pos rfl, ht.2]; rfl)) hP1 hD1 hS1 (x_okI hB.2.2.2)
  exact kk pp e R s m args below meth c D cA ka A Q n0 a0 mcT msT hC gR hE H1 locs1 cells slots al ls h1 h2 h3 h4 hB1 gL (fun v hm => hv v (List.mem_cons_of_mem _ (List.mem_cons_of_mem _ hm)))
theorem sx_iald {p : Nat} {i : Int32} (hp : hK h p = 12) (hi : vp_in i (hL h p)) (hd : decode M.2.1 pc = .ok (.iaload, 1)) (kk : Sx l z d mc ms M (pc + 1) lc (xI (hI h p i.toNatClampNeg) :: st) h Ph) : Sx l z d mc ms M pc lc (xI i :: xR p :: st) h Ph := by
  intro pp e R s m args below meth c D cA ka A Q n0 a0 mcT msT hC gR hE H locs cells slots al ls h1 h2 h3 h4 hB gL hv
  have hpos := hB.2.2.2.pos hp (by omega)
  rw [List.map_cons, List.map_cons, x_t_R hpos.1]
  exact va_iald hC.1 hC.2.1 hC.2.2.2.2.2.2.1 hB.1 (p - 1) 0 ((x_w_at hpos.1 hpos.2).trans (by rw [x_g_int hp (by omega)])) rfl hi hd (kk pp e R s m args below meth c D cA ka A Q n0 a0 mcT msT hC gR hE H locs cells slots al ls h1 h2 h3 h4 hB gL (List.forall_mem_cons.mpr ⟨trivial, (fun v hm => hv v (List.mem_cons_of_mem _ (List.mem_cons_of_mem _ hm)))⟩))
theorem sx_zald {p : Nat} {i : Int32} (hp : hK h p = 13) (hi : vp_in i (hL h p)) (hd : decode M.2.1 pc = .ok (.baload, 1)) (kk : Sx l z d mc ms M (pc + 1) lc (xI (hI h p i.toNatClampNeg) :: st) h Ph) : Sx l z d mc ms M pc lc (xI i :: xR p :: st) h Ph := by
  intro pp e R s m args below meth c D cA ka A Q n0 a0 mcT msT hC gR hE H locs cells slots al ls h1 h2 h3 h4 hB gL hv
  have hpos := hB.2.2.2.pos hp (by omega)
  rw [List.map_cons, List.map_cons, x_t_R hpos.1]
  exact va_zald hC.1 hC.2.1 hC.2.2.2.2.2.2.1 hB.1 (p - 1) 1 ((x_w_at hpos.1 hpos.2).trans (by rw [x_g_int hp (by omega)])) rfl hi hd (kk pp e R s m args below meth c D cA ka A Q n0 a0 mcT msT hC gR hE H locs cells slots al ls h1 h2 h3 h4 hB gL (List.forall_mem_cons.mpr ⟨trivial, (fun v hm => hv v (List.mem_cons_of_mem _ (List.mem_cons_of_mem _ hm)))⟩))
theorem sx_aald {p ci : Nat} {i : Int32} (hp : hK h p = ci) (hc : 14 ≤ ci ∧ ci ≤ 16) (hi : vp_in i (hL h p)) (hd : decode M.2.1 pc = .ok (.aaload, 1)) (kk : Sx l z d mc ms M (pc + 1) lc (xR (hR h p i.toNatClampNeg) :: st) h Ph) : Sx l z d mc ms M pc lc (xI i :: xR p :: st) h Ph := by
  intro pp e R s m args below meth c D cA ka A Q n0 a0 mcT msT hC gR hE H locs cells slots al ls h1 h2 h3 h4 hB gL hv
  have hpos := hB.2.2.2.pos hp (by omega)
  rw [List.map_cons, List.map_cons, x_t_R hpos.1]
  have kk9 := kk pp e R s m args below meth c D cA ka A Q n0 a0 mcT msT hC gR hE H locs cells slots al ls h1 h2 h3 h4 hB gL (List.forall_mem_cons.mpr ⟨hB.2.2.2.2.1 _ _, (fun v hm => hv v (List.mem_cons_of_mem _ (List.mem_cons_of_mem _ hm)))⟩)
  have h3c : ci = 14 ∨ ci = 15 ∨ ci = 16 := by omega
  rcases h3c with rfl | rfl | rfl
  · exact va_aldq (f := fun j => x_r al (hR h p j)) hC.1 hC.2.1 hC.2.2.2.2.2.2.1 hB.1 (p - 1) 2 ((x_w_at hpos.1 hpos.2).trans (by rw [x_g_ref hp hc])) rfl hi hd kk9
  · exact va_aldq (f := fun j => x_r al (hR h p j)) hC.1 hC.2.1 hC.2.2.2.2.2.2.1 hB.1 (p - 1) 3 ((x_w_at hpos.1 hpos.2).trans (by rw [x_g_ref hp hc])) rfl hi hd kk9
  · exact va_aldq (f := fun j => x_r al (hR h p j)) hC.1 hC.2.1 hC.2.2.2.2.2.2.1 hB.1 (p - 1) 4 ((x_w_at hpos.1 hpos.2).trans (by rw [x_g_ref hp hc])) rfl hi hd kk9
theorem sx_iast {p : Nat} {i v : Int32} (hp : hK h p = 12) (hi : vp_in i (hL h p)) (hd : decode M.2.1 pc = .ok (.iastore, 1)) (kk : Sx l z d mc ms M (pc + 1) lc st (hIu h p i.toNatClampNeg v) Ph) : Sx l z d mc ms M pc lc (xI v :: xI i :: xR p :: st) h Ph := by
  intro pp e R s m args below meth c D cA ka A Q n0 a0 mcT msT hC gR hE H locs cells slots al ls h1 h2 h3 h4 hB gL hv
  have hpos := hB.2.2.2.pos hp (by omega)
  rw [List.map_cons, List.map_cons, List.map_cons, x_t_R hpos.1]
  refine va_iast hC.1 hC.2.1 hC.2.2.2.2.2.2.1 hB.1 hB.2.1 hB.2.2.1 (p - 1) 0 ((x_w_at hpos.1 hpos.2).trans (by rw [x_g_int hp (by omega)])) rfl hi hd (fun H1 locs1 hP1 hD1 hS1 => ?_)
  exact kk pp e R s m args below meth c D cA ka A Q n0 a0 mcT msT hC gR hE H1 locs1 cells slots al ls h1 h2 h3 h4 (x_B_of hB (x_w_Ia hpos.1 hp (by omega)) hP1 hD1 hS1 (x_okI hB.2.2.2)) gL (fun v hm => hv v (List.mem_cons_of_mem _ (List.mem_cons_of_mem _ (List.mem_cons_of_mem _ hm))))
theorem sx_zast {p : Nat} {i v : Int32} (hp : hK h p = 13) (hi : vp_in i (hL h p)) (hd : decode M.2.1 pc = .ok (.bastore, 1)) (kk : Sx l z d mc ms M (pc + 1) lc st (hIu h p i.toNatClampNeg (vp_nar .boolean v)) Ph) : Sx l z d mc ms M pc lc (xI v :: xI i :: xR p :: st) h Ph := by
  intro pp e R s m args below meth c D cA ka A Q n0 a0 mcT msT hC gR hE H locs cells slots al ls h1 h2 h3 h4 hB gL hv
  have hpos := hB.2.2.2.pos hp (by omega)
  rw [List.map_cons, List.map_cons, List.map_cons, x_t_R hpos.1]
  refine va_zast hC.1 hC.2.1 hC.2.2.2.2.2.2.1 hB.1 hB.2.1 hB.2.2.1 (p - 1) 1 ((x_w_at hpos.1 hpos.2).trans (by rw [x_g_int hp (by omega)])) rfl hi hd (fun H1 locs1 hP1 hD1 hS1 => ?_)
  exact kk pp e R s m args below meth c D cA ka A Q n0 a0 mcT msT hC gR hE H1 locs1 cells slots al ls h1 h2 h3 h4 (x_B_of hB (x_w_Ia hpos.1 hp (by omega)) hP1 hD1 hS1 (x_okI hB.2.2.2)) gL (fun v hm => hv v (List.mem_cons_of_mem _ (List.mem_cons_of_mem _ (List.mem_cons_of_mem _ hm))))
theorem sx_aast {p ci v cv : Nat} {i : Int32} (hp : hK h p = ci) (hc : (ci = 14 ∧ cv = 7) ∨ (ci = 15 ∧ cv = 8) ∨ (ci = 16 ∧ cv = 4)) (hw : hK h v = cv) (hi : vp_in i (hL h p)) (hd : decode M.2.1 pc = .ok (.aastore, 1)) (kk : Sx l z d mc ms M (pc + 1) lc st (hRu h p i.toNatClampNeg v) Ph) : Sx l z d mc ms M pc lc (xR v :: xI i :: xR p :: st) h Ph := by
  intro pp e R s m args below meth c D cA ka A Q n0 a0 mcT msT hC gR hE H locs cells slots al ls h1 h2 h3 h4 hB gL hv
  have hpos := hB.2.2.2.pos hp (by omega)
  have hpv := hB.2.2.2.pos hw (by omega)
  rw [List.map_cons, List.map_cons, List.map_cons, x_t_R hpos.1, x_t_R hpv.1]
  have kk9 := fun (H1 : Heap) (locs1 : List Loc) hP1 hD1 hS1 => kk pp e R s m args below meth c D cA ka A Q n0 a0 mcT msT hC gR hE H1 locs1 cells slots al ls h1 h2 h3 h4 (x_B_of hB (x_w_Ra (cA := cA) (al := al) (k := i.toNatClampNeg) (v := v) hpos.1 hp (by omega)) hP1 hD1 hS1 (x_okR hB.2.2.2 hpv.2)) gL (fun v hm => hv v (List.mem_cons_of_mem _ (List.mem_cons_of_mem _ (List.mem_cons_of_mem _ hm))))
  rw [show x_r al v = some (al v) by unfold x_r; rw [if_neg (by omega)]] at kk9
  rcases hc with ⟨rfl, rfl⟩ | ⟨rfl, rfl⟩ | ⟨rfl, rfl⟩
  · exact va_astq hC.1 hC.2.1 hC.2.2.2.2.2.2.1 hB.1 hB.2.1 hB.2.2.1 (p - 1) 2 (v - 1) 7 (r := (xR_Te, xT_Te, 2)) ((x_w_at hpos.1 hpos.2).trans (by rw [x_g_ref hp (by omega)])) rfl ((x_w_at hpv.1 hpv.2).trans (by rw [x_g_obj hw rfl])) rfl hi hd kk9
  · exact va_astq hC.1 hC.2.1 hC.2.2.2.2.2.2.1 hB.1 hB.2.1 hB.2.2.1 (p - 1) 3 (v - 1) 8 (r := (xR_To, xT_To, 2)) ((x_w_at hpos.1 hpos.2).trans (by rw [x_g_ref hp (by omega)])) rfl ((x_w_at hpv.1 hpv.2).trans (by rw [x_g_obj hw rfl])) rfl hi hd kk9
  · exact va_astq hC.1 hC.2.1 hC.2.2.2.2.2.2.1 hB.1 hB.2.1 hB.2.2.1 (p - 1) 4 (v - 1) 4 (r := (xR_Sh, xT_Sh, 3)) ((x_w_at hpos.1 hpos.2).trans (by rw [x_g_ref hp (by omega)])) rfl ((x_w_at hpv.1 hpv.2).trans (by rw [x_g_obj hw rfl])) rfl hi hd kk9
theorem sx_alen {p ci : Nat} (hp : hK h p = ci) (hc : 12 ≤ ci ∧ ci ≤ 16) (hd : decode M.2.1 pc = .ok (.arraylength, 1)) (kk : Sx l z d mc ms M (pc + 1) lc (xI (Int32.ofNat (hL h p)) :: st) h Ph) : Sx l z d mc ms M pc lc (xR p :: st) h Ph := by
  intro pp e R s m args below meth c D cA ka A Q n0 a0 mcT msT hC gR hE H locs cells slots al ls h1 h2 h3 h4 hB gL hv
  have hpos := hB.2.2.2.pos hp (by omega)
  rw [List.map_cons, x_t_R hpos.1]
  have kk9 := (kk pp e R s m args below meth c D cA ka A Q n0 a0 mcT msT hC gR hE H locs cells slots al ls h1 h2 h3 h4 hB gL (List.forall_mem_cons.mpr ⟨trivial, (fun v hm => hv v (List.mem_cons_of_mem _ hm))⟩))
  have h3c : ci = 12 ∨ ci = 13 ∨ ci = 14 ∨ ci = 15 ∨ ci = 16 := by omega
  rcases h3c with rfl | rfl | rfl | rfl | rfl
  · exact va_alen (x := (hL h p, .inl (hI h p))) hC.1 hC.2.1 hC.2.2.2.2.2.2.1 hB.1 (p - 1) 0 ((x_w_at hpos.1 hpos.2).trans (by rw [x_g_int hp (by omega)])) rfl rfl hd kk9
  · exact va_alen (x := (hL h p, .inl (hI h p))) hC.1 hC.2.1 hC.2.2.2.2.2.2.1 hB.1 (p - 1) 1 ((x_w_at hpos.1 hpos.2).trans (by rw [x_g_int hp (by omega)])) rfl rfl hd kk9
  · exact va_alen (x := (hL h p, .inr (.inr (.inr (.inr (fun j => x_r al (hR h p j))))))) hC.1 hC.2.1 hC.2.2.2.2.2.2.1 hB.1 (p - 1) 2 ((x_w_at hpos.1 hpos.2).trans (by rw [x_g_ref hp (by omega)])) rfl rfl hd kk9
  · exact va_alen (x := (hL h p, .inr (.inr (.inr (.inr (fun j => x_r al (hR h p j))))))) hC.1 hC.2.1 hC.2.2.2.2.2.2.1 hB.1 (p - 1) 3 ((x_w_at hpos.1 hpos.2).trans (by rw [x_g_ref hp (by omega)])) rfl rfl hd kk9
  · exact va_alen (x := (hL h p, .inr (.inr (.inr (.inr (fun j => x_r al (hR h p j))))))) hC.1 hC.2.1 hC.2.2.2.2.2.2.1 hB.1 (p - 1) 4 ((x_w_at hpos.1 hpos.2).trans (by rw [x_g_ref hp (by omega)])) rfl rfl hd kk9
/-! the script, and the row ABOVE -/
theorem x_t_S {al : Nat → Nat} {ka : xK} {k : Nat} (hk : k ≠ 31) : x_t al ka (xS k) = .ref (ka.1 k) := by
  show (if k = 31 then va_rf ka.2 else .ref (ka.1 k)) = _
  rw [if_neg hk]
theorem sx_slen (hd : decode M.2.1 pc = .ok (.arraylength, 1)) (kk : Sx l z d mc ms M (pc + 1) lc (xI (Int32.ofNat z.1) :: st) h Ph) : Sx l z d mc ms M pc lc (xS 14 :: st) h Ph := by
  intro pp e R s m args below meth c D cA ka A Q n0 a0 mcT msT hC gR hE H locs cells slots al ls h1 h2 h3 h4 hB gL hv
  rw [List.map_cons, x_t_S (by decide)]
  obtain ⟨a1, a2, a3, a4, a5, a6, a7, a8, a9, a10⟩ := hC.2.2.2.2.2.2.2.2.2.2
  exact va_slen hC.1 hC.2.1 a7 a8 a9 hB.2.2.1 hd (kk pp e R s m args below meth c D cA ka A Q n0 a0 mcT msT hC gR hE H locs cells slots al ls h1 h2 h3 h4 hB gL (List.forall_mem_cons.mpr ⟨trivial, (fun v hm => hv v (List.mem_cons_of_mem _ hm))⟩))
theorem sx_sld {i : Int32} (hi : vp_in i z.1) (hd : decode M.2.1 pc = .ok (.iaload, 1)) (kk : Sx l z d mc ms M (pc + 1) lc (xI (z.2 i.toNatClampNeg) :: st) h Ph) : Sx l z d mc ms M pc lc (xI i :: xS 14 :: st) h Ph := by
  intro pp e R s m args below meth c D cA ka A Q n0 a0 mcT msT hC gR hE H locs cells slots al ls h1 h2 h3 h4 hB gL hv
  rw [List.map_cons, List.map_cons, x_t_S (by decide)]
  obtain ⟨a1, a2, a3, a4, a5, a6, a7, a8, a9, a10⟩ := hC.2.2.2.2.2.2.2.2.2.2
  exact va_sld hC.1 hC.2.1 a7 a8 a9 hB.2.2.1 hi hd (kk pp e R s m args below meth c D cA ka A Q n0 a0 mcT msT hC gR hE H locs cells slots al ls h1 h2 h3 h4 hB gL (List.forall_mem_cons.mpr ⟨trivial, (fun v hm => hv v (List.mem_cons_of_mem _ (List.mem_cons_of_mem _ hm)))⟩))
theorem sx_above {idx : Nat} (hw : Cond.fieldLink M.1.cls idx "ThreesAtTable$Town" "ABOVE" "[I" ∈ xTB) (hd : decode M.2.1 pc = .ok (.getstatic idx, 3)) (kk : Sx l z d mc ms M (pc + 3) lc (xS 15 :: st) h Ph) : Sx l z d mc ms M pc lc st h Ph := by
  intro pp e R s m args below meth c D cA ka A Q n0 a0 mcT msT hC gR hE H locs cells slots al ls h1 h2 h3 h4 hB gL hv
  obtain ⟨a1, a2, a3, a4, a5, a6, a7, a8, a9, a10⟩ := hC.2.2.2.2.2.2.2.2.2.2
  have kk9 := (kk pp e R s m args below meth c D cA ka A Q n0 a0 mcT msT hC gR hE H locs cells slots al ls h1 h2 h3 h4 hB gL (List.forall_mem_cons.mpr ⟨trivial, hv⟩))
  rw [List.map_cons, x_t_S (by decide)] at kk9
  exact va_gets hC.1 hC.2.1 a5 hB.2.2.1 hC.2.2.2.2.1 (hC.2.2.2.2.2.1 _ hw) (fun _ h9 => h9) hd kk9
theorem sx_abld {i : Int32} (hi : vp_in i 6) (hd : decode M.2.1 pc = .ok (.iaload, 1)) (kk : Sx l z d mc ms M (pc + 1) lc (xI (x_ab i.toNatClampNeg) :: st) h Ph) : Sx l z d mc ms M pc lc (xI i :: xS 15 :: st) h Ph := by
  intro pp e R s m args below meth c D cA ka A Q n0 a0 mcT msT hC gR hE H locs cells slots al ls h1 h2 h3 h4 hB gL hv
  rw [List.map_cons, List.map_cons, x_t_S (by decide)]
  obtain ⟨a1, a2, a3, a4, a5, a6, a7, a8, a9, a10⟩ := hC.2.2.2.2.2.2.2.2.2.2
  obtain ⟨cell, b1, b2, b3, b4, b5, b6, b7⟩ := a6.kept hB.2.2.1.2.1
  have hlt : i.toNatClampNeg < 6 := Nat.not_le.mp fun q => hi (Or.inr q)
  exact W.iald (v := .int (x_ab i.toNatClampNeg)) hC.1 hC.2.1 b1 b2 b3 (fun q => q.elim (fun q => hi (Or.inl q)) (fun q => by omega)) (b6 _ hlt) rfl rfl hd (kk pp e R s m args below meth c D cA ka A Q n0 a0 mcT msT hC gR hE H locs cells slots al ls h1 h2 h3 h4 hB gL (List.forall_mem_cons.mpr ⟨trivial, (fun v hm => hv v (List.mem_cons_of_mem _ (List.mem_cons_of_mem _ hm)))⟩))
end XH
end
section
section XM
variable {l : Launch} {z : xZ} {d mc ms : Nat} {M : xM} {pc : Nat} {lc : List (Option xV)} {st : List xV} {h : xH} {Ph : Option xV → xH → Prop}
theorem x_rr_vo {ret : Option FieldType} {i : Instr} {r : Option xV} {n : Nat} (hr : x_rr ret i st r) (hv : ∀ v ∈ st, x_vo n v) : ∀ v, r = some v → x_vo n v := by
  intro v hv1
  unfold x_rr at hr
  split at hr
  · rw [hr.2.2] at hv1; cases hv1
  · obtain ⟨-, w, h1, h2⟩ := hr
    rw [h2] at hv1; cases hv1; trivial
  · obtain ⟨-, w, h1, h2⟩ := hr
    rw [h2] at hv1; cases hv1
    exact hv _ (by rw [h1]; exact List.mem_cons_self)
  · obtain ⟨-, w, h1, h2⟩ := hr
    rw [h2] at hv1; cases hv1
    exact hv _ (by rw [h1]; exact List.mem_cons_self)
  · exact hr.elim
  · exact hr.elim
  · obtain ⟨-, w, w0, h1, h2, h3⟩ := hr
    rw [h2] at hv1; cases hv1; trivial
theorem sx_ret {i : Instr} {r : Option xV} (hd : decode M.2.1 pc = .ok (i, 1)) (hr : x_rr M.2.2.2 i st r) (hp : Ph r h) : Sx l z d mc ms M pc lc st h Ph := by
  intro pp e R s m args below meth c D cA ka A Q n0 a0 mcT msT hC gR hE H locs cells slots al ls h1 h2 h3 h4 hB gL hv
  exact hE H locs cells slots al ls h pc i st r (by omega) (by omega) h3 h4 hB (x_rr_vo hr hv) hp hd hr
/-! a method's contract out of its walk -/
def x_ar (as : List xV) : List (Option xV) := as.flatMap (fun v => if x_wide (some (some v)) = true then [some v, none] else [some v])
def x_en (as : List xV) (n : Nat) : List (Option xV) := x_ar as ++ List.replicate (n - (x_ar as).length) none
theorem x_ar_len {al : Nat → Nat} {ka : xK} (as : List xV) : (lg_sl (as.map (x_t al ka))).length = (x_ar as).length := by
  induction as with
  | nil => rfl
  | cons v t ih =>
    rw [List.map_cons]
    unfold lg_sl x_ar at ih ⊢
    rw [List.flatMap_cons, List.flatMap_cons, List.length_append, List.length_append, ih]
    by_cases hw : x_wide (some (some v)) = true
    · rw [if_pos ((x_wide_t al ka v).mpr hw), if_pos hw]; rfl
    · rw [if_neg (fun q => hw ((x_wide_t al ka v).mp q)), if_neg hw]; rfl
theorem x_ar_in {al : Nat → Nat} {ka : xK} (as : List xV) : ∀ (k i : Nat) (v : xV), (x_ar as)[i]? = some (some v) → (k + i, x_t al ka v) ∈ lv_args k (as.map (x_t al ka)) ∧ v ∈ as := by
  induction as with
  | nil => intro k i v hi; cases hi
  | cons a t ih =>
    intro k i v hi
    have e : x_ar (a :: t) = (if x_wide (some (some a)) = true then [some a, none] else [some a]) ++ x_ar t := by unfold x_ar; rw [List.flatMap_cons]
    rw [e] at hi
    rw [List.map_cons]
    show _ ∈ (k, x_t al ka a) :: lv_args (if (x_t al ka a).category = 2 then k + 2 else k + 1) (t.map (x_t al ka)) ∧ _
    by_cases hw : x_wide (some (some a)) = true
    · rw [if_pos hw] at hi
      rw [if_pos ((x_wide_t al ka a).mpr hw)]
      match i, hi with
      | 0, hi => cases hi; exact ⟨List.mem_cons_self, List.mem_cons_self⟩
      | 1, hi => cases hi
      | i + 2, hi =>
        have := ih (k + 2) i v (by simpa using hi)
        rw [show k + 2 + i = k + (i + 2) by omega] at this
        exact ⟨List.mem_cons_of_mem _ this.1, List.mem_cons_of_mem _ this.2⟩
    · rw [if_neg hw] at hi
      rw [if_neg (fun q => hw ((x_wide_t al ka a).mp q))]
      match i, hi with
      | 0, hi => cases hi; exact ⟨List.mem_cons_self, List.mem_cons_self⟩
      | i + 1, hi =>
        have := ih (k + 1) i v (by simpa using hi)
        rw [show k + 1 + i = k + (i + 1) by omega] at this
        exact ⟨List.mem_cons_of_mem _ this.1, List.mem_cons_of_mem _ this.2⟩
theorem x_en_L {al : Nat → Nat} {ka : xK} {as : List xV} {np n : Nat} (hn : (x_ar as).length ≤ n) (hv : ∀ v ∈ as, x_vo np v) : x_L al ka np n (x_en as n) ((lg_sl (as.map (x_t al ka)) ++ List.replicate (n - (lg_sl (as.map (x_t al ka))).length) Slot.unset).toArray) := by
  have hl := lv_entry (as.map (x_t al ka)) (n := n) (by rw [x_ar_len]; exact hn)
  refine ⟨hl.1, hl.2.1, fun i v hi => ?_⟩
  have hi2 : (x_ar as)[i]? = some (some v) := by
    unfold x_en at hi
    by_cases hlt : i < (x_ar as).length
    · rwa [List.getElem?_append_left hlt] at hi
    · rw [List.getElem?_append_right (by omega), List.getElem?_replicate] at hi
      split at hi <;> cases hi
  have h9 := x_ar_in (al := al) (ka := ka) as 0 i v hi2
  rw [Nat.zero_add] at h9
  exact ⟨hl.2.2 _ h9.1, hv v h9.2⟩
theorem x_zret {p : Program} {e : Env} {R : Room} {s : State} {m : MethodId} {args : Array Value} {below : List Frame} {meth : Method} {c : Code} {H : Heap} {locs : List Loc} {cells slots : Nat} {cc : ByteArray} {Qc : Array Value → State → Outcome → State → Prop} {free : Addr → Prop} {v v0 : Int32} {ty : FieldType} (hexec : p.tables.exec = Jvm.exec) (hb : c.code = cc) (hr : meth.sig.returnType = some ty) (hn : narrow ty (.int v0) = .int v)
    (hq : ∀ t : State, t.heap = H → s.WarmedH t.vm → Qc args s (.returned (some (.int v))) t) (hf : ∀ q ∈ locs, free q.base)
    {pc : Nat} {ls : Array Slot} (hdg : decode cc pc = .ok (.ireturn, 1)) (hlocks : meth.locks = false) : W p l e R s m args below meth c H locs cells slots (MQ below Qc args s cells slots free) (F0 m pc ls [.int v0]) := by
  intro T hT X
  obtain ⟨fs, hret, hrun, hended, hW, hframe⟩ := X.leave (v := some (.int v)) (fun h => by rw [hr] at h; cases h)
  have hmeth' : T.vm.method? m = some meth := X.method'
  refine ⟨T.setFrames fs, ?_, .returned (some (.int v)), hrun, hended, hq _ hT hW, locs, ⟨⟨_, rfl⟩, hW, hframe⟩, hf⟩
  jvm_step X.here [X.here.top, hexec, hb, hdg, hmeth', hr, hn]
  (try refine ⟨rfl, ?_⟩); (try refine ⟨rfl, ?_⟩)
  first | (intro acts; rw [hret _ acts rfl rfl rfl]) | rw [hret _ _ rfl rfl rfl]
  exact Steps.refl _
def x_Pc (D : va_G) (cA : Nat → ClassId) (ka : xK) (z : xZ) (al : Nat → Nat) (sz : Nat) (as : List xV) (h : xH) : Array Value → State → Prop :=
  va_Pc (as.map (x_t al ka)) (fun U => U.heap.size = sz ∧ va_P D xC (x_w cA al h) U.heap ∧ va_K D xC (x_tys cA) U ∧ va_D (fun _ => True) (x_w cA al h) ∧ x_Str ka z (va_A (x_w cA al h) sz) U)
def x_Qc (D : va_G) (cA : Nat → ClassId) (ka : xK) (al : Nat → Nat) (sz : Nat) (h : xH) (Ph : Option xV → xH → Prop) : Array Value → State → Outcome → State → Prop := fun _ st oc t =>
  (∃ (r : Option xV) (h2 : xH) (al2 : Nat → Nat), oc = .returned (r.map (x_t al2 ka)) ∧ Ph r h2 ∧ (∀ v, r = some v → x_vo (hN h2) v) ∧ x_ok h2 ∧ hN h ≤ hN h2 ∧ (∀ q, q < hN h → al2 q = al q) ∧ va_P D xC (x_w cA al2 h2) t.heap ∧ va_K D xC (x_tys cA) t ∧ va_D (va_A (x_w cA al h) sz) (x_w cA al2 h2)) ∧ va_F (va_A (x_w cA al h) sz) st t
theorem Sx.met {as : List xV} (hpl : plainName M.1.cls = true) (hn : (x_ar as).length ≤ M.2.2.1) (hx : Sx l z d mc ms M 0 (x_en as M.2.2.1) [] h Ph) (hvo : ∀ v ∈ as, x_vo (hN h) v) (hok : x_ok h) (D : va_G) (cA : Nat → ClassId) (ka : xK) (al : Nat → Nat) (sz : Nat) :
    Met l M.1 (x_ws M) (x_rm d mc ms) (x_Pc D cA ka z al sz as h) (x_Qc D cA ka al sz h Ph) mc ms (va_A (x_w cA al h) sz) := by
  refine Met.ofW (cc := M.2.1) (maxL := M.2.2.1) (ret := M.2.2.2) hpl rfl ?_
  intro p e s m args below meth c s₁ B hml hv
  obtain ⟨rfl, hsz, hP, hKs, hD0, hStr⟩ := hv
  subst hsz
  have hts := atoms_spec (ws := x_ws M) B.pre
  have hA : ∀ q : Nat, s.heap.size ≤ q → va_A (x_w cA al h) s.heap.size q := fun q h => Or.inr h
  have hC : x_C M z p s m (as.map (x_t al ka)).toArray meth c D cA ka (va_A (x_w cA al h) s.heap.size) :=
    ⟨B.exec, B.bytes, hml, B.returns, findClass_of_methodNamed B.named, fun w hw => hts w (List.mem_cons_of_mem _ hw), hKs, B.notSynchronized, fun hi => by rw [← hi]; exact (name_of_methodNamed B.named B.method).1, hA, hStr⟩
  have hB : x_B D cA al (va_A (x_w cA al h) s.heap.size) s h s.heap [] := ⟨hP, hD0.self, va_S.rf, hok⟩
  rw [lg_entry_eq]
  refine hx p e (x_rm d mc ms) s m (as.map (x_t al ka)).toArray below meth c D cA ka (va_A (x_w cA al h) s.heap.size) _ (hN h) al mc ms hC ⟨Nat.le_refl _, Nat.le_refl _, Nat.le_refl _, Nat.le_refl _⟩ ?_ s.heap [] 0 0 al _ (by omega) (by omega) (fun _ _ => rfl) (Nat.le_refl _) hB (x_en_L hn hvo) (fun v hv => absurd hv List.not_mem_nil)
  intro H locs cells slots al2 ls h2 pc i st r q1 q2 q3 q4 qB qv qp qd qr
  refine W.widen q1 q2 ?_
  have hq : ∀ t : State, t.heap = H → s.WarmedH t.vm → x_Qc D cA ka al s.heap.size h Ph (as.map (x_t al ka)).toArray s (.returned (r.map (x_t al2 ka))) t := fun t ht hW =>
    ⟨⟨r, h2, al2, rfl, qp, qv, qB.2.2.2, q4, q3, by rw [ht]; exact qB.1, va_K.moved hW.alike hKs, qB.2.1⟩, qB.2.2.1.F ht⟩
  have hlk := B.notSynchronized
  have hrt := B.returns
  generalize hret : M.2.2.2 = ret at qr hrt
  unfold x_rr at qr
  split at qr
  · obtain ⟨rfl, rfl, rfl⟩ := qr
    exact W.vret B.exec B.bytes hrt hq qB.2.2.1.2.2 qd
  · obtain ⟨rfl, w, rfl, rfl⟩ := qr
    exact W.lret B.exec B.bytes hrt hq qB.2.2.1.2.2 qd
  · obtain ⟨rfl, w, rfl, rfl⟩ := qr
    exact W.aret B.exec B.bytes hrt (Or.inl ⟨_, rfl⟩) (x_t_ref al2 ka w) hq qB.2.2.1.2.2 qd
  · obtain ⟨rfl, w, rfl, rfl⟩ := qr
    exact W.aret B.exec B.bytes hrt (Or.inr ⟨_, rfl⟩) (x_t_ref al2 ka w) hq qB.2.2.1.2.2 qd
  · exact qr.elim
  · exact qr.elim
  · obtain ⟨rfl, w, w0, rfl, rfl, hnw⟩ := qr
    exact x_zret B.exec B.bytes hrt hnw hq qB.2.2.1.2.2 qd hlk
/-! calls -/
theorem x_blind {D : va_G} {cA : Nat → ClassId} {ka : xK} {al : Nat → Nat} {sz : Nat} {as : List xV} : FrameBlind (x_Pc D cA ka z al sz as h) := by
  intro a U g mk hq
  obtain ⟨q0, q1, qP, qK, qD, qS⟩ := hq
  exact ⟨q0, q1, qP, va_K.moved (u := U) (U := U.calling g mk a) (Vm.Alike.refl U.vm) qK, qD, qS.same rfl rfl⟩
theorem x_after {p : Program} {e : Env} {R : Room} {s : State} {m : MethodId} {args : Array Value} {below : List Frame} {meth : Method} {c : Code} {H : Heap} {locs : List Loc} {cells slots mc2 ms2 : Nat} {Q : State → Prop} {ls : Array Slot} {st0 rest : List Value} {a : Array Value} {D : va_G} {cA : Nat → ClassId} {ka : xK} {al : Nat → Nat} {A : Nat → Prop} {Ps : Option xV → xH → Prop}
    (hr : va_Run p l e R s m args below meth c H locs cells slots mc2 ms2 (F0 m pc ls st0) rest (x_Qc D cA ka al H.size h Ps a) (va_A (x_w cA al h) H.size)) (hB : x_B D cA al A s h H locs) (hAA : ∀ q, s.heap.size ≤ q → A q)
    (kk : ∀ (r : Option xV) (h2 : xH) (al2 : Nat → Nat) (H1 : Heap) (locs1 : List Loc), Ps r h2 → (∀ v, r = some v → x_vo (hN h2) v) → hN h ≤ hN h2 → (∀ q, q < hN h → al2 q = al q) → x_B D cA al2 A s h2 H1 locs1 → W p l e R s m args below meth c H1 locs1 (cells + mc2) (slots + ms2) Q (F0 m (pc + 3) ls (r.toList.map (x_t al2 ka) ++ rest))) : W p l e R s m args below meth c H locs cells slots Q (F0 m pc ls st0) := by
  intro T hT X
  obtain ⟨v, st₀, t, T', L, h0, X', hLf, e1, e2, ⟨⟨r, h2, al2, hoc, hps, hvo, hok, hnn, hal, hP, hKt, hD⟩, hz, hk⟩, st⟩ := hr T hT X
  rw [h0] at hz hk
  have hAf : ∀ q, va_A (x_w cA al h) H.size q → A q := by
    intro q hq
    rcases hq with ⟨k, e, hq⟩ | hq
    · exact hB.2.1.2 k (q, e) hq
    · exact hAA q (Nat.le_trans hB.2.2.1.1 hq)
  have hv : v = r.map (x_t al2 ka) := by
    injection hoc
  subst hv
  have hS : va_S A s.heap T'.heap (locs ++ L) := ⟨Nat.le_trans hB.2.2.1.1 (by rw [e1]; exact hz), fun q h1 h2 => by rw [e1, hk q (Nat.lt_of_lt_of_le h1 hB.2.2.1.1) (fun z => h2 (hAf q z))]; exact hB.2.2.1.2.1 q h1 h2, fun q hq => by
      rcases List.mem_append.mp hq with h | h
      · exact hB.2.2.1.2.2 q h
      · exact hAf _ (hLf q h)⟩
  obtain ⟨t2, a1, b1⟩ := kk r h2 al2 T'.heap (locs ++ L) hps hvo hnn hal ⟨by rw [e1]; exact hP, hD.weaken (fun _ _ _ h => hAf _ h), hS, hok⟩ T' rfl X'
  have es : (r.map (x_t al2 ka)).toList = r.toList.map (x_t al2 ka) := by cases r <;> rfl
  rw [← es] at a1
  exact ⟨t2, st t2 a1, b1⟩
/-- what a method's own tables say -/
def x_mk (M2 : xM) (n : Nat) : Prop := plainName M2.1.cls = true ∧ (M2.1.cls ≠ "java/lang/invoke/MethodHandle" ∧ M2.1.cls ≠ "java/lang/invoke/VarHandle" ∧ (parseMethodDescriptor M2.1.desc).map (fun d => d.parameters.length) = some n) ∧ M2.2.2.1 ≤ 20 ∧ Cond.initialized M2.1.cls ∈ xTB ∧ Cond.code M2.1 M2.2.1 M2.2.2.1 M2.2.2.2 ∈ xTB
theorem x_TBgood {w : Cond} (hw : w ∈ xTB) : goodWord w = true := (List.mem_filter.mp hw).2
theorem x_goodIn {M2 : xM} (h2 : Cond.code M2.1 M2.2.1 M2.2.2.1 M2.2.2.2 ∈ xTB) : GoodIn xTB (x_ws M2) := fun w hw => by
  rcases List.mem_cons.mp hw with rfl | hw
  · exact ⟨h2, good_of_word (x_TBgood h2)⟩
  · exact ⟨hw, good_of_word (x_TBgood hw)⟩
theorem x_pre {D : va_G} {cA : Nat → ClassId} {ka : xK} {al : Nat → Nat} {A : Nat → Prop} {p : Program} {s : State} {m : MethodId} {args : Array Value} {meth : Method} {c : Code} {H : Heap} {locs : List Loc} {as : List xV} (hC : x_C M z p s m args meth c D cA ka A) (hB : x_B D cA al A s h H locs) : PreS s H (x_Pc D cA ka z al H.size as h) (as.map (x_t al ka)) := by
  refine ⟨x_blind, fun U hU hW => ⟨rfl, by rw [hU], by rw [hU]; exact hB.1, va_K.moved hW.alike hC.2.2.2.2.2.2.1, hB.2.1.weaken (fun _ _ _ _ => trivial), hC.2.2.2.2.2.2.2.2.2.2.call (locs := locs) hW (by rw [hU]; exact hB.2.2.1) (fun q hq => ?_)⟩⟩
  rcases hq with ⟨k, e, hq⟩ | hq
  · exact hB.2.1.2 k (q, e) hq
  · exact hC.2.2.2.2.2.2.2.2.2.1 q (Nat.le_trans hB.2.2.1.1 hq)
def x_ct (v : xV) : Nat := if x_wide (some (some v)) = true then 2 else 1
theorem x_ct_t (al : Nat → Nat) (ka : xK) (st : List xV) : ((st.map (x_t al ka)).map fun v => v.category).sum = (st.map x_ct).sum := by
  induction st with
  | nil => rfl
  | cons v t ih =>
    rw [List.map_cons, List.map_cons, List.map_cons, List.sum_cons, List.sum_cons, ih]
    congr 1
    unfold x_ct
    by_cases hw : x_wide (some (some v)) = true
    · rw [if_pos hw]; exact (x_wide_t al ka v).mpr hw
    · rw [if_neg hw]
      rcases lv_cat (x_t al ka v) with q | q
      · exact q
      · exact absurd ((x_wide_t al ka v).mp q) hw
theorem x_L.moved {al al2 : Nat → Nat} {ka : xK} {np np2 n : Nat} {ls : Array Slot} (h : x_L al ka np n lc ls) (h1 : np ≤ np2) (h2 : ∀ q, q < np → al2 q = al q) : x_L al2 ka np2 n lc ls := by
  refine ⟨h.1, h.2.1, fun i v hi => ?_⟩
  obtain ⟨a1, a2⟩ := h.2.2 i v hi
  rcases v with v | v | v | v
  · exact ⟨a1, trivial⟩
  · exact ⟨a1, trivial⟩
  · have a3 : v < np := a2
    refine ⟨?_, Nat.lt_of_lt_of_le a3 h1⟩
    rw [a1]
    show some (Slot.val (va_rf (x_r al v))) = some (Slot.val (va_rf (x_r al2 v)))
    unfold x_r
    rw [h2 v a3]
  · exact ⟨a1, trivial⟩
theorem x_st_moved {al al2 : Nat → Nat} {ka : xK} {np : Nat} (hv : ∀ v ∈ st, x_vo np v) (h2 : ∀ q, q < np → al2 q = al q) : st.map (x_t al2 ka) = st.map (x_t al ka) := by
  apply List.map_congr_left
  intro v hm
  have a2 := hv v hm
  rcases v with v | v | v | v
  · rfl
  · rfl
  · have a3 : v < np := a2
    show va_rf (x_r al2 v) = va_rf (x_r al v)
    unfold x_r
    rw [h2 v a3]
  · rfl
theorem x_vo_mono {n n2 : Nat} (hn : n ≤ n2) {v : xV} (hv : x_vo n v) : x_vo n2 v := by
  rcases v with v | v | v | v
  · trivial
  · trivial
  · exact Nat.lt_of_lt_of_le hv hn
  · trivial
theorem sx_callV {M2 : xM} {as stk : List xV} {b : Nat} {d2 mc2 ms2 idx n : Nat} (hm : x_mk M2 n) (hst : stk = as.reverse ++ xR b :: st) (hk : ∃ q, xcl[hK h b]? = some q ∧ q.1.1 = M2.1.cls) (hl : Cond.methodLink M.1.cls idx M2.1 ∈ xTB) (hin : Cond.instanceMethod M2.1 ∈ xTB) (hse : Cond.selects M2.1.cls M2.1 M2.1 ∈ xTB) (hn : as.length = n) (hz : (x_ar (xR b :: as)).length ≤ M2.2.2.1) (hct : (st.map x_ct).sum ≤ 8) (hd : decode M.2.1 pc = .ok (.invokevirtual idx, 3)) (hd2 : d2 + 1 ≤ d) (hmc : mc2 ≤ mc) (hms : ms2 ≤ ms) (kk : Sx l z d2 mc2 ms2 M2 0 (x_en (xR b :: as) M2.2.2.1) [] h (fun r h2 => Sx l z d (mc - mc2) (ms - ms2) M (pc + 3) lc (r.toList ++ st) h2 Ph)) : Sx l z d mc ms M pc lc stk h Ph := by
  intro pp e R s m args below meth c D cA ka A Q n0 a0 mcT msT hC gR hE H locs cells slots al ls h1 h2 h3 h4 hB gL hv
  obtain ⟨k1, k2, k3, k4, k5⟩ := hm
  have hts := hC.2.2.2.2.2.1
  have hvA : ∀ v ∈ (xR b :: as), x_vo (hN h) v := fun v hm => hv v (by rw [hst]; exact (List.mem_cons.mp hm).elim (fun e => by rw [e]; exact List.mem_append_right _ List.mem_cons_self) (fun hm => List.mem_append_left _ (List.mem_reverse.mpr hm)))
  have hmet := Sx.met k1 hz kk hvA hB.2.2.2 D cA ka al H.size
  have hpre := x_pre (as := xR b :: as) hC hB
  have hR : (x_rm d2 mc2 ms2).frames + 1 ≤ R.frames ∧ 8 + (M2.2.2.1 + 11) + (x_rm d2 mc2 ms2).locals ≤ R.locals := by
    show d2 + 1 ≤ R.frames ∧ 8 + (M2.2.2.1 + 11) + 40 * d2 ≤ R.locals
    omega
  have hW : 2 * (F0 m pc ls (stk.map (x_t al ka))).monitorRoom + ((st.map (x_t al ka)).map fun v => v.category).sum ≤ 8 := lv_room (by rw [x_ct_t]; exact hct)
  have hn2 : (as.map (x_t al ka)).length = n := by rw [List.length_map]; exact hn
  have hb0 : 0 < b := by
    obtain ⟨q, hq, -⟩ := hk
    exact (hB.2.2.2.pos rfl (by have := x_clt hq; omega)).1
  have hstk : (F0 m pc ls (stk.map (x_t al ka))).stack = (as.map (x_t al ka)).reverse ++ .ref (al b) :: st.map (x_t al ka) := by show stk.map (x_t al ka) = _; rw [hst, List.map_append, List.map_reverse, List.map_cons, x_t_R hb0]
  rw [List.map_cons, x_t_R hb0] at hpre
  have hrecv : ∃ cellB : Cell, H[al b]? = some cellB ∧ cellB.vm.isStatics = false ∧ s.vm.findClass M2.1.cls = some cellB.cls := by
    obtain ⟨q, hq, hq2⟩ := hk
    have hpos := hB.2.2.2.pos (p := b) rfl (by have := x_clt hq; omega)
    rw [← hq2]
    exact va_recv hC.2.2.2.2.2.2.1 hB.1 (x_C_at hq) ((x_w_at hpos.1 hpos.2).trans (by rw [x_g_obj rfl hq]))
  have hcw := callB_of (R := R) (own := M.1.cls) (index := idx) n hts (x_goodIn k5) (ws' := xTB) rfl (rm := x_rm d2 mc2 ms2) rfl rfl (hts _ k4) (hts _ hl) k2 hR
  have hrun := va_runV (own := M.1.cls) (e := e) (below := below) (meth := meth) (locs := locs) (cells := cells) (slots := slots) ⟨hC.1, hC.2.1, hC.2.2.1, hC.2.2.2.2.1, hts⟩ hmet ⟨hcw, hts _ hin, hts _ hse⟩ ⟨hpre.1, hrecv, hpre.2⟩ (g := F0 m pc ls (stk.map (x_t al ka))) rfl hn2 gL.1 hstk hW hd (by omega)
  refine x_after hrun hB hC.2.2.2.2.2.2.2.2.2.1 (fun r h2 al2 H1 locs1 hps hvo hnn hal hB1 => ?_)
  have hv9 : ∀ v ∈ st, x_vo (hN h) v := fun v hm => hv v (by rw [hst]; exact List.mem_append_right _ (List.mem_cons_of_mem _ hm))
  have kk9 := hps pp e R s m args below meth c D cA ka A Q n0 a0 mcT msT hC gR hE H1 locs1 (cells + mc2) (slots + ms2) al2 ls (by omega) (by omega) (fun q hq => (hal q (Nat.lt_of_lt_of_le hq h4)).trans (h3 q hq)) (Nat.le_trans h4 hnn) hB1 (gL.moved hnn hal) (fun v hm => by
    rcases List.mem_append.mp hm with hm | hm
    · exact hvo v (Option.mem_toList.mp hm)
    · exact x_vo_mono hnn (hv9 v hm))
  rw [List.map_append, x_st_moved hv9 hal] at kk9
  exact kk9
theorem sx_callX {M2 : xM} {as stk : List xV} {b : Nat} {d2 mc2 ms2 idx n : Nat} (hm : x_mk M2 n) (hst : stk = as.reverse ++ xS b :: st) (hk : b < 14) (hq : M2.1.cls = "java/lang/String") (hl : Cond.methodLink M.1.cls idx M2.1 ∈ xTB) (hin : Cond.instanceMethod M2.1 ∈ xTB) (hse : Cond.selects M2.1.cls M2.1 M2.1 ∈ xTB) (hn : as.length = n) (hz : (x_ar (xS b :: as)).length ≤ M2.2.2.1) (hct : (st.map x_ct).sum ≤ 8) (hd : decode M.2.1 pc = .ok (.invokevirtual idx, 3)) (hd2 : d2 + 1 ≤ d) (hmc : mc2 ≤ mc) (hms : ms2 ≤ ms) (kk : Sx l z d2 mc2 ms2 M2 0 (x_en (xS b :: as) M2.2.2.1) [] h (fun r h2 => Sx l z d (mc - mc2) (ms - ms2) M (pc + 3) lc (r.toList ++ st) h2 Ph)) : Sx l z d mc ms M pc lc stk h Ph := by
  intro pp e R s m args below meth c D cA ka A Q n0 a0 mcT msT hC gR hE H locs cells slots al ls h1 h2 h3 h4 hB gL hv
  obtain ⟨k1, k2, k3, k4, k5⟩ := hm
  have hts := hC.2.2.2.2.2.1
  have hvA : ∀ v ∈ (xS b :: as), x_vo (hN h) v := fun v hm => hv v (by rw [hst]; exact (List.mem_cons.mp hm).elim (fun e => by rw [e]; exact List.mem_append_right _ List.mem_cons_self) (fun hm => List.mem_append_left _ (List.mem_reverse.mpr hm)))
  have hmet := Sx.met k1 hz kk hvA hB.2.2.2 D cA ka al H.size
  have hpre := x_pre (as := xS b :: as) hC hB
  have hR : (x_rm d2 mc2 ms2).frames + 1 ≤ R.frames ∧ 8 + (M2.2.2.1 + 11) + (x_rm d2 mc2 ms2).locals ≤ R.locals := by
    show d2 + 1 ≤ R.frames ∧ 8 + (M2.2.2.1 + 11) + 40 * d2 ≤ R.locals
    omega
  have hW : 2 * (F0 m pc ls (stk.map (x_t al ka))).monitorRoom + ((st.map (x_t al ka)).map fun v => v.category).sum ≤ 8 := lv_room (by rw [x_ct_t]; exact hct)
  have hn2 : (as.map (x_t al ka)).length = n := by rw [List.length_map]; exact hn
  have hstk : (F0 m pc ls (stk.map (x_t al ka))).stack = (as.map (x_t al ka)).reverse ++ .ref (ka.1 b) :: st.map (x_t al ka) := by show stk.map (x_t al ka) = _; rw [hst, List.map_append, List.map_reverse, List.map_cons, x_t_S (by omega)]
  rw [List.map_cons, x_t_S (by omega)] at hpre
  have hrecv : ∃ cellB : Cell, H[ka.1 b]? = some cellB ∧ cellB.vm.isStatics = false ∧ s.vm.findClass M2.1.cls = some cellB.cls := by
    rw [hq]
    exact vk_recv hC.2.2.2.2.2.2.2.2.2.2.1 hk hB.2.2.1
  have hcw := callB_of (R := R) (own := M.1.cls) (index := idx) n hts (x_goodIn k5) (ws' := xTB) rfl (rm := x_rm d2 mc2 ms2) rfl rfl (hts _ k4) (hts _ hl) k2 hR
  have hrun := va_runV (own := M.1.cls) (e := e) (below := below) (meth := meth) (locs := locs) (cells := cells) (slots := slots) ⟨hC.1, hC.2.1, hC.2.2.1, hC.2.2.2.2.1, hts⟩ hmet ⟨hcw, hts _ hin, hts _ hse⟩ ⟨hpre.1, hrecv, hpre.2⟩ (g := F0 m pc ls (stk.map (x_t al ka))) rfl hn2 gL.1 hstk hW hd (by omega)
  refine x_after hrun hB hC.2.2.2.2.2.2.2.2.2.1 (fun r h2 al2 H1 locs1 hps hvo hnn hal hB1 => ?_)
  have hv9 : ∀ v ∈ st, x_vo (hN h) v := fun v hm => hv v (by rw [hst]; exact List.mem_append_right _ (List.mem_cons_of_mem _ hm))
  have kk9 := hps pp e R s m args below meth c D cA ka A Q n0 a0 mcT msT hC gR hE H1 locs1 (cells + mc2) (slots + ms2) al2 ls (by omega) (by omega) (fun q hq => (hal q (Nat.lt_of_lt_of_le hq h4)).trans (h3 q hq)) (Nat.le_trans h4 hnn) hB1 (gL.moved hnn hal) (fun v hm => by
    rcases List.mem_append.mp hm with hm | hm
    · exact hvo v (Option.mem_toList.mp hm)
    · exact x_vo_mono hnn (hv9 v hm))
  rw [List.map_append, x_st_moved hv9 hal] at kk9
  exact kk9
theorem sx_callS {M2 : xM} {as stk : List xV} {d2 mc2 ms2 idx n : Nat} (hm : x_mk M2 n) (hst : stk = as.reverse ++ st) (hl : Cond.methodLink M.1.cls idx M2.1 ∈ xTB) (hin : Cond.static M2.1 ∈ xTB) (hn : as.length = n) (hz : (x_ar (as)).length ≤ M2.2.2.1) (hct : (st.map x_ct).sum ≤ 8) (hd : decode M.2.1 pc = .ok (.invokestatic idx, 3)) (hd2 : d2 + 1 ≤ d) (hmc : mc2 ≤ mc) (hms : ms2 ≤ ms) (kk : Sx l z d2 mc2 ms2 M2 0 (x_en (as) M2.2.2.1) [] h (fun r h2 => Sx l z d (mc - mc2) (ms - ms2) M (pc + 3) lc (r.toList ++ st) h2 Ph)) : Sx l z d mc ms M pc lc stk h Ph := by
  intro pp e R s m args below meth c D cA ka A Q n0 a0 mcT msT hC gR hE H locs cells slots al ls h1 h2 h3 h4 hB gL hv
  obtain ⟨k1, k2, k3, k4, k5⟩ := hm
  have hts := hC.2.2.2.2.2.1
  have hvA : ∀ v ∈ (as), x_vo (hN h) v := fun v hm => hv v (by rw [hst]; exact List.mem_append_left _ (List.mem_reverse.mpr hm))
  have hmet := Sx.met k1 hz kk hvA hB.2.2.2 D cA ka al H.size
  have hpre := x_pre (as := as) hC hB
  have hR : (x_rm d2 mc2 ms2).frames + 1 ≤ R.frames ∧ 8 + (M2.2.2.1 + 11) + (x_rm d2 mc2 ms2).locals ≤ R.locals := by
    show d2 + 1 ≤ R.frames ∧ 8 + (M2.2.2.1 + 11) + 40 * d2 ≤ R.locals
    omega
  have hW : 2 * (F0 m pc ls (stk.map (x_t al ka))).monitorRoom + ((st.map (x_t al ka)).map fun v => v.category).sum ≤ 8 := lv_room (by rw [x_ct_t]; exact hct)
  have hn2 : (as.map (x_t al ka)).length = n := by rw [List.length_map]; exact hn
  have hstk : (F0 m pc ls (stk.map (x_t al ka))).stack = (as.map (x_t al ka)).reverse ++ st.map (x_t al ka) := by rw [hst, List.map_append, List.map_reverse]
  have hcw := callB_of (R := R) (own := M.1.cls) (index := idx) n hts (x_goodIn k5) (ws' := xTB) rfl (rm := x_rm d2 mc2 ms2) rfl rfl (hts _ k4) (hts _ hl) k2 hR
  have hrun := va_runS (own := M.1.cls) (e := e) (below := below) (meth := meth) (locs := locs) (cells := cells) (slots := slots) ⟨hC.1, hC.2.1, hC.2.2.1, hC.2.2.2.2.1, hts⟩ hmet ⟨hcw, hts _ hin⟩ hpre (g := F0 m pc ls (stk.map (x_t al ka))) rfl hn2 gL.1 hstk hW hd (by omega)
  refine x_after hrun hB hC.2.2.2.2.2.2.2.2.2.1 (fun r h2 al2 H1 locs1 hps hvo hnn hal hB1 => ?_)
  have hv9 : ∀ v ∈ st, x_vo (hN h) v := fun v hm => hv v (by rw [hst]; exact List.mem_append_right _ hm)
  have kk9 := hps pp e R s m args below meth c D cA ka A Q n0 a0 mcT msT hC gR hE H1 locs1 (cells + mc2) (slots + ms2) al2 ls (by omega) (by omega) (fun q hq => (hal q (Nat.lt_of_lt_of_le hq h4)).trans (h3 q hq)) (Nat.le_trans h4 hnn) hB1 (gL.moved hnn hal) (fun v hm => by
    rcases List.mem_append.mp hm with hm | hm
    · exact hvo v (Option.mem_toList.mp hm)
    · exact x_vo_mono hnn (hv9 v hm))
  rw [List.map_append, x_st_moved hv9 hal] at kk9
  exact kk9
theorem sx_callI {M2 : xM} {as stk : List xV} {b : Nat} {d2 mc2 ms2 idx n : Nat} (hm : x_mk M2 n) (hst : stk = as.reverse ++ xR b :: st) (hl : Cond.methodLink M.1.cls idx M2.1 ∈ xTB) (hin : Cond.instanceMethod M2.1 ∈ xTB) (hy : M2.1.name = "<init>" ∧ M2.2.2.2 = none) {cb : Nat} (hb : hK h b = cb) (h99 : cb < 99) (hn : as.length = n) (hz : (x_ar (xR b :: as)).length ≤ M2.2.2.1) (hct : (st.map x_ct).sum ≤ 8) (hd : decode M.2.1 pc = .ok (.invokespecial idx, 3)) (hd2 : d2 + 1 ≤ d) (hmc : mc2 ≤ mc) (hms : ms2 ≤ ms) (kk : Sx l z d2 mc2 ms2 M2 0 (x_en (xR b :: as) M2.2.2.1) [] h (fun r h2 => Sx l z d (mc - mc2) (ms - ms2) M (pc + 3) lc (r.toList ++ st) h2 Ph)) : Sx l z d mc ms M pc lc stk h Ph := by
  intro pp e R s m args below meth c D cA ka A Q n0 a0 mcT msT hC gR hE H locs cells slots al ls h1 h2 h3 h4 hB gL hv
  obtain ⟨k1, k2, k3, k4, k5⟩ := hm
  have hts := hC.2.2.2.2.2.1
  have hvA : ∀ v ∈ (xR b :: as), x_vo (hN h) v := fun v hm => hv v (by rw [hst]; exact (List.mem_cons.mp hm).elim (fun e => by rw [e]; exact List.mem_append_right _ List.mem_cons_self) (fun hm => List.mem_append_left _ (List.mem_reverse.mpr hm)))
  have hmet := Sx.met k1 hz kk hvA hB.2.2.2 D cA ka al H.size
  have hpre := x_pre (as := xR b :: as) hC hB
  have hR : (x_rm d2 mc2 ms2).frames + 1 ≤ R.frames ∧ 8 + (M2.2.2.1 + 11) + (x_rm d2 mc2 ms2).locals ≤ R.locals := by
    show d2 + 1 ≤ R.frames ∧ 8 + (M2.2.2.1 + 11) + 40 * d2 ≤ R.locals
    omega
  have hW : 2 * (F0 m pc ls (stk.map (x_t al ka))).monitorRoom + ((st.map (x_t al ka)).map fun v => v.category).sum ≤ 8 := lv_room (by rw [x_ct_t]; exact hct)
  have hn2 : (as.map (x_t al ka)).length = n := by rw [List.length_map]; exact hn
  have hb0 : 0 < b := (hB.2.2.2.pos hb h99).1
  have hstk : (F0 m pc ls (stk.map (x_t al ka))).stack = (as.map (x_t al ka)).reverse ++ .ref (al b) :: st.map (x_t al ka) := by show stk.map (x_t al ka) = _; rw [hst, List.map_append, List.map_reverse, List.map_cons, x_t_R hb0]
  rw [List.map_cons, x_t_R hb0] at hpre
  have hcw := callB_of (R := R) (own := M.1.cls) (index := idx) (bytes := M2.2.1) (ret := none) n hts (x_goodIn k5) (ws' := xTB) (by unfold x_ws; rw [hy.2]) (rm := x_rm d2 mc2 ms2) rfl rfl (hts _ k4) (hts _ hl) k2 hR
  have hrun := va_runI (own := M.1.cls) (e := e) (below := below) (meth := meth) (locs := locs) (cells := cells) (slots := slots) ⟨hC.1, hC.2.1, hC.2.2.1, hC.2.2.2.2.1, hts⟩ hmet ⟨hcw, hy.1, hts _ hin⟩ hpre (g := F0 m pc ls (stk.map (x_t al ka))) rfl hn2 gL.1 hstk hW hd (by omega)
  refine x_after hrun hB hC.2.2.2.2.2.2.2.2.2.1 (fun r h2 al2 H1 locs1 hps hvo hnn hal hB1 => ?_)
  have hv9 : ∀ v ∈ st, x_vo (hN h) v := fun v hm => hv v (by rw [hst]; exact List.mem_append_right _ (List.mem_cons_of_mem _ hm))
  have kk9 := hps pp e R s m args below meth c D cA ka A Q n0 a0 mcT msT hC gR hE H1 locs1 (cells + mc2) (slots + ms2) al2 ls (by omega) (by omega) (fun q hq => (hal q (Nat.lt_of_lt_of_le hq h4)).trans (h3 q hq)) (Nat.le_trans h4 hnn) hB1 (gL.moved hnn hal) (fun v hm => by
    rcases List.mem_append.mp hm with hm | hm
    · exact hvo v (Option.mem_toList.mp hm)
    · exact x_vo_mono hnn (hv9 v hm))
  rw [List.map_append, x_st_moved hv9 hal] at kk9
  exact kk9
theorem sx_callN {M2 : xM} {as stk : List xV} {b : Nat} {d2 mc2 ms2 idx n : Nat} (hm : x_mk M2 n) (hst : stk = as.reverse ++ xR b :: st) {host : String} (hl : Cond.methodLinkNest M.1.cls idx M2.1 host ∈ xTB) (hin : Cond.instanceMethod M2.1 ∈ xTB) (hy : M2.1.name = "<init>" ∧ M2.2.2.2 = none) {cb : Nat} (hb : hK h b = cb) (h99 : cb < 99) (hn : as.length = n) (hz : (x_ar (xR b :: as)).length ≤ M2.2.2.1) (hct : (st.map x_ct).sum ≤ 8) (hd : decode M.2.1 pc = .ok (.invokespecial idx, 3)) (hd2 : d2 + 1 ≤ d) (hmc : mc2 ≤ mc) (hms : ms2 ≤ ms) (kk : Sx l z d2 mc2 ms2 M2 0 (x_en (xR b :: as) M2.2.2.1) [] h (fun r h2 => Sx l z d (mc - mc2) (ms - ms2) M (pc + 3) lc (r.toList ++ st) h2 Ph)) : Sx l z d mc ms M pc lc stk h Ph := by
  intro pp e R s m args below meth c D cA ka A Q n0 a0 mcT msT hC gR hE H locs cells slots al ls h1 h2 h3 h4 hB gL hv
  obtain ⟨k1, k2, k3, k4, k5⟩ := hm
  have hts := hC.2.2.2.2.2.1
  have hvA : ∀ v ∈ (xR b :: as), x_vo (hN h) v := fun v hm => hv v (by rw [hst]; exact (List.mem_cons.mp hm).elim (fun e => by rw [e]; exact List.mem_append_right _ List.mem_cons_self) (fun hm => List.mem_append_left _ (List.mem_reverse.mpr hm)))
  have hmet := Sx.met k1 hz kk hvA hB.2.2.2 D cA ka al H.size
  have hpre := x_pre (as := xR b :: as) hC hB
  have hR : (x_rm d2 mc2 ms2).frames + 1 ≤ R.frames ∧ 8 + (M2.2.2.1 + 11) + (x_rm d2 mc2 ms2).locals ≤ R.locals := by
    show d2 + 1 ≤ R.frames ∧ 8 + (M2.2.2.1 + 11) + 40 * d2 ≤ R.locals
    omega
  have hW : 2 * (F0 m pc ls (stk.map (x_t al ka))).monitorRoom + ((st.map (x_t al ka)).map fun v => v.category).sum ≤ 8 := lv_room (by rw [x_ct_t]; exact hct)
  have hn2 : (as.map (x_t al ka)).length = n := by rw [List.length_map]; exact hn
  have hb0 : 0 < b := (hB.2.2.2.pos hb h99).1
  have hstk : (F0 m pc ls (stk.map (x_t al ka))).stack = (as.map (x_t al ka)).reverse ++ .ref (al b) :: st.map (x_t al ka) := by show stk.map (x_t al ka) = _; rw [hst, List.map_append, List.map_reverse, List.map_cons, x_t_R hb0]
  rw [List.map_cons, x_t_R hb0] at hpre
  have hcw := va_cnB (R := R) (own := M.1.cls) (index := idx) (host := host) (bytes := M2.2.1) (ret := none) n hts (x_goodIn k5) (ws' := xTB) (by unfold x_ws; rw [hy.2]) (rm := x_rm d2 mc2 ms2) rfl rfl (va_tabs rfl rfl (hts _ hl)) (hts _ k4) k2 hR
  have hrun := va_runIN (own := M.1.cls) (e := e) (below := below) (meth := meth) (locs := locs) (cells := cells) (slots := slots) ⟨hC.1, hC.2.1, hC.2.2.1, hC.2.2.2.2.1, hts⟩ hmet ⟨hcw, hy.1, hts _ hin⟩ hpre (g := F0 m pc ls (stk.map (x_t al ka))) rfl hn2 gL.1 hstk hW hd (by omega)
  refine x_after hrun hB hC.2.2.2.2.2.2.2.2.2.1 (fun r h2 al2 H1 locs1 hps hvo hnn hal hB1 => ?_)
  have hv9 : ∀ v ∈ st, x_vo (hN h) v := fun v hm => hv v (by rw [hst]; exact List.mem_append_right _ (List.mem_cons_of_mem _ hm))
  have kk9 := hps pp e R s m args below meth c D cA ka A Q n0 a0 mcT msT hC gR hE H1 locs1 (cells + mc2) (slots + ms2) al2 ls (by omega) (by omega) (fun q hq => (hal q (Nat.lt_of_lt_of_le hq h4)).trans (h3 q hq)) (Nat.le_trans h4 hnn) hB1 (gL.moved hnn hal) (fun v hm => by
    rcases List.mem_append.mp hm with hm | hm
    · exact hvo v (Option.mem_toList.mp hm)
    · exact x_vo_mono hnn (hv9 v hm))
  rw [List.map_append, x_st_moved hv9 hal] at kk9
  exact kk9
theorem sx_objInit {b idx cb : Nat} (hb : hK h b = cb) (h99 : cb < 99) (hl : Cond.methodLink M.1.cls idx Lib.objectInit ∈ xTB) (hin : Cond.instanceMethod Lib.objectInit ∈ xTB) (hco : Cond.code Lib.objectInit ⟨#[0xb1]⟩ 1 none ∈ xTB) (hct : (st.map x_ct).sum ≤ 8) (hd1 : 1 ≤ d) (hd : decode M.2.1 pc = .ok (.invokespecial idx, 3)) (kk : Sx l z d mc ms M (pc + 3) lc st h Ph) : Sx l z d mc ms M pc lc (xR b :: st) h Ph := by
  intro pp e R s m args below meth c D cA ka A Q n0 a0 mcT msT hC gR hE H locs cells slots al ls h1 h2 h3 h4 hB gL hv
  rw [List.map_cons, x_t_R (hB.2.2.2.pos hb h99).1]
  have hts := hC.2.2.2.2.2.1
  refine W.objInit hC.1 hC.2.1 hC.2.2.2.2.1 (hts _ hl) (hts _ hin) (hts _ hco) rfl (gL.1.trans hC.2.2.1.symm) rfl hd (by omega) ?_ (W.eq (g2 := F0 m (pc + 3) ls (st.map (x_t al ka))) rfl (kk pp e R s m args below meth c D cA ka A Q n0 a0 mcT msT hC gR hE H locs cells slots al ls h1 h2 h3 h4 hB gL (fun v hm => hv v (List.mem_cons_of_mem _ hm))))
  rw [x_ct_t]
  show 2 * 0 + _ + 12 ≤ _
  omega
end XM
end
section
section XN
variable {l : Launch} {z : xZ} {d mc ms : Nat} {M : xM} {pc : Nat} {lc : List (Option xV)} {st : List xV} {h : xH} {Ph : Option xV → xH → Prop}
theorem x_okN {kd ln : Nat} (ho : x_ok h) : x_ok (hNw h kd ln) := by
  refine ⟨Nat.succ_le_succ (Nat.zero_le _), fun p k => ?_, fun p hp => ?_⟩
  · show (if p = hN h then 0 else hR h p k) < hN h + 1
    split
    · omega
    · have := ho.2.1 p k; omega
  · have hp2 : p = 0 ∨ hN h + 1 ≤ p := hp
    show (if p = hN h then kd else hK h p) = 99
    have := ho.1
    rw [if_neg (by omega)]
    exact ho.2.2 p (by omega)
theorem x_g_new {cA : Nat → ClassId} {al : Nat → Nat} {kd ln a q : Nat} (ho : x_ok h) (hq : q < hN h) : x_g cA (va_up al (hN h) a) (hNw h kd ln) q = x_g cA al h q := by
  have n0 : q ≠ hN h := by omega
  have e1 : hK (hNw h kd ln) q = hK h q := if_neg n0
  have e2 : hL (hNw h kd ln) q = hL h q := if_neg n0
  have e3 : hI (hNw h kd ln) q = hI h q := by funext j; exact if_neg n0
  have e4 : hR (hNw h kd ln) q = hR h q := by funext j; exact if_neg n0
  have e6 : ∀ j, x_r (va_up al (hN h) a) (hR h q j) = x_r al (hR h q j) := by
    intro j
    have := ho.2.1 q j
    unfold x_r va_up
    rw [if_neg (show ¬ hR h q j = hN h by omega)]
  have e5 : ∀ (n : Nat) (t : Nat → FieldType), x_fs (va_up al (hN h) a) (hNw h kd ln) q n t = x_fs al h q n t := by
    intro n t
    unfold x_fs
    congr 1
    funext k
    unfold x_fv
    rw [e3, e4, e6]
  unfold x_g
  rw [e1, e2, e3, e4]
  simp only [e5, e6]
theorem x_g_born {cA : Nat → ClassId} {al : Nat → Nat} {ci : Nat} {q : vw_C × (Nat → FieldType)} (hc : xcl[ci]? = some q) : x_g cA al (hNw h ci 0) (hN h) = .inr (ci, x_fs (fun _ => 0) (hNw h ci 0) (hN h) q.1.2.2 q.2) := by
  rw [x_g_obj (h := hNw h ci 0) (p := hN h) (ci := ci) (show hK (hNw h ci 0) (hN h) = ci from if_pos rfl) hc]
  congr 2
  unfold x_fs
  congr 1
  funext k
  unfold x_fv
  have e : hR (hNw h ci 0) (hN h) k = 0 := if_pos rfl
  rw [e]
  rfl
theorem x_dfl {ty : FieldType} {k p : Nat} {h : xH} (h1 : hI h p k = 0) (h2 : hR h p k = 0) (ht : x_isI ty = true ∨ x_isR ty = true) : defaultValue ty = x_fv (fun _ => 0) h p ty k := by
  unfold x_fv
  rw [h1, h2]
  cases ty <;> first | rfl | (rcases ht with ht | ht <;> cases ht; done) | decide
def x_tyok (q : vw_C × (Nat → FieldType)) : Prop := ∀ k, k < q.1.2.2 → x_isI (q.2 k) = true ∨ x_isR (q.2 k) = true
theorem x_tyall : ∀ q ∈ xcl, x_tyok q := by
  unfold xcl x_tyok
  refine List.forall_mem_cons.mpr ⟨by decide, List.forall_mem_cons.mpr ⟨by decide, List.forall_mem_cons.mpr ⟨by decide, List.forall_mem_cons.mpr ⟨by decide, List.forall_mem_cons.mpr ⟨by decide, List.forall_mem_cons.mpr ⟨by decide, List.forall_mem_cons.mpr ⟨by decide, List.forall_mem_cons.mpr ⟨by decide, List.forall_mem_cons.mpr ⟨by decide, List.forall_mem_cons.mpr ⟨by decide, List.forall_mem_cons.mpr ⟨by decide +kernel, List.forall_mem_cons.mpr ⟨by decide +kernel, fun _ h => absurd h List.not_mem_nil⟩⟩⟩⟩⟩⟩⟩⟩⟩⟩⟩⟩
theorem sx_new {ci idx : Nat} {q : vw_C × (Nat → FieldType)} (hc : xcl[ci]? = some q) (hcl : Cond.classLink M.1.cls idx q.1.1 ∈ xTB) (hins : Cond.instantiable q.1.1 q.1.2.2 ∈ xTB) (hini : Cond.initialized q.1.1 ∈ xTB) (hd : decode M.2.1 pc = .ok (.new idx, 3)) (hmc : 1 ≤ mc) (hms : q.1.2.2 ≤ ms) (kk : Sx l z d (mc - 1) (ms - q.1.2.2) M (pc + 3) lc (xR (hN h) :: st) (hNw h ci 0) Ph) : Sx l z d mc ms M pc lc st h Ph := by
  intro pp e R s m args below meth c D cA ka A Q n0 a0 mcT msT hC gR hE H locs cells slots al ls h1 h2 h3 h4 hB gL hv
  have hts := hC.2.2.2.2.2.1
  have ho := hB.2.2.2
  refine va_new (ci := ci) (fs := x_fs (fun _ => 0) (hNw h ci 0) (hN h) q.1.2.2 q.2) hC.1 hC.2.1 hts (x_cok hc).1 q.2 (fun k hk => ((x_cok hc).2.1 k hk).1) hC.2.2.2.2.1 (hts _ hcl) (hts _ hins) (hts _ hini) hC.2.2.2.2.2.2.1 hB.1 hB.2.1 hB.2.2.1 hC.2.2.2.2.2.2.2.2.2.1 (x_C_at hc) (fun j hj => ?_) (by omega) (by omega) hd (fun a H1 hP hD hS => ?_)
  · unfold vp_V
    rw [List.getD_eq_getElem?_getD, x_fs_at hj]
    exact x_dfl (if_pos rfl) (if_pos rfl) (x_tyall q (List.mem_of_getElem? hc) j hj)
  · rw [← x_g_born (cA := cA) (al := va_up al (hN h) a) hc, x_w_push ho.1 rfl (fun q hq => x_g_new ho hq)] at hP hD
    have hal : ∀ q, q < hN h → va_up al (hN h) a q = al q := fun q hq => if_neg (by omega)
    have kk9 := kk pp e R s m args below meth c D cA ka A Q n0 a0 mcT msT hC gR hE H1 locs (cells + 1) (slots + q.1.2.2) (va_up al (hN h) a) ls (by omega) (by omega) (fun q hq => (hal q (by omega)).trans (h3 q hq)) (Nat.le_trans h4 (Nat.le_succ _)) ⟨hP, hD, hS, x_okN ho⟩ (gL.moved (Nat.le_succ _) hal) (List.forall_mem_cons.mpr ⟨Nat.lt_succ_self _, fun v hm => x_vo_mono (Nat.le_succ _) (hv v hm)⟩)
    rw [List.map_cons, x_t_R (by have := ho.1; omega), x_st_moved hv hal, show va_up al (hN h) a (hN h) = a from if_pos rfl] at kk9
    exact kk9
theorem x_g_bornI {cA : Nat → ClassId} {al : Nat → Nat} {kd N : Nat} (hk : kd = 12 ∨ kd = 13) : x_g cA al (hNw h kd N) (hN h) = .inl (cA kd, (N, .inl (fun _ => 0))) := by
  rw [x_g_int (h := hNw h kd N) (p := hN h) (ci := kd) (show hK (hNw h kd N) (hN h) = kd from if_pos rfl) hk]
  have e1 : hL (hNw h kd N) (hN h) = N := if_pos rfl
  have e2 : hI (hNw h kd N) (hN h) = fun _ => 0 := by funext j; exact if_pos rfl
  rw [e1, e2]
theorem x_g_bornR {cA : Nat → ClassId} {al : Nat → Nat} {kd N : Nat} (hk : 14 ≤ kd ∧ kd ≤ 16) : x_g cA al (hNw h kd N) (hN h) = .inl (cA kd, (N, .inr (.inr (.inr (.inr (fun _ => none)))))) := by
  rw [x_g_ref (h := hNw h kd N) (p := hN h) (ci := kd) (show hK (hNw h kd N) (hN h) = kd from if_pos rfl) hk]
  have e1 : hL (hNw h kd N) (hN h) = N := if_pos rfl
  have e2 : ∀ j, hR (hNw h kd N) (hN h) j = 0 := fun j => if_pos rfl
  rw [e1]
  simp only [e2]
  rfl
theorem sx_newI {n : Int32} {N : Nat} (h0 : ¬ n < 0) (hN9 : n.toNatClampNeg = N) (hb : N * componentBytes .int ≤ 536870912) (hw : Cond.arrayClass .int ∈ xTB) (hd : decode M.2.1 pc = .ok (.newarray .int, 2)) (hmc : 1 ≤ mc) (hms : N ≤ ms) (kk : Sx l z d (mc - 1) (ms - N) M (pc + 2) lc (xR (hN h) :: st) (hNw h 12 N) Ph) : Sx l z d mc ms M pc lc (xI n :: st) h Ph := by
  intro pp e R s m args below meth c D cA ka A Q n0 a0 mcT msT hC gR hE H locs cells slots al ls h1 h2 h3 h4 hB gL hv
  have hts := hC.2.2.2.2.2.1
  have ho := hB.2.2.2
  refine va_newa (atype := .int) (ty := .int) (a0 := (N, .inl (fun _ => 0))) hC.1 hC.2.1 (hts _ hw) rfl hC.2.2.2.2.2.2.1 hB.1 hB.2.1 hB.2.2.1 hC.2.2.2.2.2.2.2.2.2.1 (fun _ => rfl) h0 hN9 hb (by omega) (by omega) hd (fun a cB H1 hK1 hP hD hS => ?_)
  have ec : cB = cA 12 := by
    have r1 : va_RA s cB .int := (hK1.2 5 (cB, .int) rfl).2
    have r2 : va_RA s (cA 12) .int := (hC.2.2.2.2.2.2.1.2 0 (cA 12, .int) rfl).2
    have r3 : s.vm.findClass ("[" ++ (.int : FieldType).toString) = some cB := r1
    have r4 : s.vm.findClass ("[" ++ (.int : FieldType).toString) = some (cA 12) := r2
    exact Option.some.inj (r3.symm.trans r4)
  subst ec
  rw [← x_g_bornI (cA := cA) (al := va_up al (hN h) a) (h := h) (kd := 12) (N := N) (by omega), x_w_push ho.1 rfl (fun q hq => x_g_new ho hq)] at hP hD
  have hal : ∀ q, q < hN h → va_up al (hN h) a q = al q := fun q hq => if_neg (by omega)
  have hv1 : ∀ v ∈ st, x_vo (hN h) v := fun v hm => hv v (List.mem_cons_of_mem _ hm)
  have kk9 := kk pp e R s m args below meth c D cA ka A Q n0 a0 mcT msT hC gR hE H1 locs (cells + 1) (slots + N) (va_up al (hN h) a) ls (by omega) (by omega) (fun q hq => (hal q (by omega)).trans (h3 q hq)) (Nat.le_trans h4 (Nat.le_succ _)) ⟨hP, hD, hS, x_okN ho⟩ (gL.moved (Nat.le_succ _) hal) (List.forall_mem_cons.mpr ⟨Nat.lt_succ_self _, fun v hm => x_vo_mono (Nat.le_succ _) (hv1 v hm)⟩)
  rw [List.map_cons, x_t_R (by have := ho.1; omega), x_st_moved hv1 hal, show va_up al (hN h) a (hN h) = a from if_pos rfl] at kk9
  exact kk9
theorem sx_newZ {n : Int32} {N : Nat} (h0 : ¬ n < 0) (hN9 : n.toNatClampNeg = N) (hb : N * componentBytes .boolean ≤ 536870912) (hw : Cond.arrayClass .boolean ∈ xTB) (hd : decode M.2.1 pc = .ok (.newarray .boolean, 2)) (hmc : 1 ≤ mc) (hms : N ≤ ms) (kk : Sx l z d (mc - 1) (ms - N) M (pc + 2) lc (xR (hN h) :: st) (hNw h 13 N) Ph) : Sx l z d mc ms M pc lc (xI n :: st) h Ph := by
  intro pp e R s m args below meth c D cA ka A Q n0 a0 mcT msT hC gR hE H locs cells slots al ls h1 h2 h3 h4 hB gL hv
  have hts := hC.2.2.2.2.2.1
  have ho := hB.2.2.2
  refine va_newa (atype := .boolean) (ty := .boolean) (a0 := (N, .inl (fun _ => 0))) hC.1 hC.2.1 (hts _ hw) rfl hC.2.2.2.2.2.2.1 hB.1 hB.2.1 hB.2.2.1 hC.2.2.2.2.2.2.2.2.2.1 (fun _ => rfl) h0 hN9 hb (by omega) (by omega) hd (fun a cB H1 hK1 hP hD hS => ?_)
  have ec : cB = cA 13 := by
    have r1 : va_RA s cB .boolean := (hK1.2 5 (cB, .boolean) rfl).2
    have r2 : va_RA s (cA 13) .boolean := (hC.2.2.2.2.2.2.1.2 1 (cA 13, .boolean) rfl).2
    have r3 : s.vm.findClass ("[" ++ (.boolean : FieldType).toString) = some cB := r1
    have r4 : s.vm.findClass ("[" ++ (.boolean : FieldType).toString) = some (cA 13) := r2
    exact Option.some.inj (r3.symm.trans r4)
  subst ec
  rw [← x_g_bornI (cA := cA) (al := va_up al (hN h) a) (h := h) (kd := 13) (N := N) (by omega), x_w_push ho.1 rfl (fun q hq => x_g_new ho hq)] at hP hD
  have hal : ∀ q, q < hN h → va_up al (hN h) a q = al q := fun q hq => if_neg (by omega)
  have hv1 : ∀ v ∈ st, x_vo (hN h) v := fun v hm => hv v (List.mem_cons_of_mem _ hm)
  have kk9 := kk pp e R s m args below meth c D cA ka A Q n0 a0 mcT msT hC gR hE H1 locs (cells + 1) (slots + N) (va_up al (hN h) a) ls (by omega) (by omega) (fun q hq => (hal q (by omega)).trans (h3 q hq)) (Nat.le_trans h4 (Nat.le_succ _)) ⟨hP, hD, hS, x_okN ho⟩ (gL.moved (Nat.le_succ _) hal) (List.forall_mem_cons.mpr ⟨Nat.lt_succ_self _, fun v hm => x_vo_mono (Nat.le_succ _) (hv1 v hm)⟩)
  rw [List.map_cons, x_t_R (by have := ho.1; omega), x_st_moved hv1 hal, show va_up al (hN h) a (hN h) = a from if_pos rfl] at kk9
  exact kk9
theorem sx_newR14 {n : Int32} {N idx : Nat} (h0 : ¬ n < 0) (hN9 : n.toNatClampNeg = N) (hb : N * 4 ≤ 536870912) (hw : Cond.classLink M.1.cls idx "ThreesAtTable$Text" ∈ xTB) (hd : decode M.2.1 pc = .ok (.anewarray idx, 3)) (hmc : 1 ≤ mc) (hms : N ≤ ms) (kk : Sx l z d (mc - 1) (ms - N) M (pc + 3) lc (xR (hN h) :: st) (hNw h 14 N) Ph) : Sx l z d mc ms M pc lc (xI n :: st) h Ph := by
  intro pp e R s m args below meth c D cA ka A Q n0 a0 mcT msT hC gR hE H locs cells slots al ls h1 h2 h3 h4 hB gL hv
  have hts := hC.2.2.2.2.2.1
  have ho := hB.2.2.2
  obtain ⟨a1, a2, a3, a4, a5, a6, a7, a8, a9, a10, a11⟩ := hC.2.2.2.2.2.2.2.2.2.2
  refine va_newq (C := "ThreesAtTable$Text") hC.1 hC.2.1 hC.2.2.2.2.1 (hts _ hw) (a10 _ (by decide)) hC.2.2.2.2.2.2.1 hB.1 hB.2.1 hB.2.2.1 hC.2.2.2.2.2.2.2.2.2.1 h0 hN9 hb (by omega) (by omega) hd (fun a cB H1 hK1 hP hD hS => ?_)
  have ec : cB = cA 14 := by
    have r1 : va_RA s cB (.object "ThreesAtTable$Text") := (hK1.2 5 (cB, (.object "ThreesAtTable$Text")) rfl).2
    have r2 : va_RA s (cA 14) (.object "ThreesAtTable$Text") := (hC.2.2.2.2.2.2.1.2 2 (cA 14, (.object "ThreesAtTable$Text")) rfl).2
    obtain ⟨_, _, _, _, _, r3⟩ := r1
    obtain ⟨_, _, _, _, _, r4⟩ := r2
    exact Option.some.inj (r3.symm.trans r4)
  subst ec
  rw [← x_g_bornR (cA := cA) (al := va_up al (hN h) a) (h := h) (kd := 14) (N := N) (by omega), x_w_push ho.1 rfl (fun q hq => x_g_new ho hq)] at hP hD
  have hal : ∀ q, q < hN h → va_up al (hN h) a q = al q := fun q hq => if_neg (by omega)
  have hv1 : ∀ v ∈ st, x_vo (hN h) v := fun v hm => hv v (List.mem_cons_of_mem _ hm)
  have kk9 := kk pp e R s m args below meth c D cA ka A Q n0 a0 mcT msT hC gR hE H1 locs (cells + 1) (slots + N) (va_up al (hN h) a) ls (by omega) (by omega) (fun q hq => (hal q (by omega)).trans (h3 q hq)) (Nat.le_trans h4 (Nat.le_succ _)) ⟨hP, hD, hS, x_okN ho⟩ (gL.moved (Nat.le_succ _) hal) (List.forall_mem_cons.mpr ⟨Nat.lt_succ_self _, fun v hm => x_vo_mono (Nat.le_succ _) (hv1 v hm)⟩)
  rw [List.map_cons, x_t_R (by have := ho.1; omega), x_st_moved hv1 hal, show va_up al (hN h) a (hN h) = a from if_pos rfl] at kk9
  exact kk9
theorem sx_newR15 {n : Int32} {N idx : Nat} (h0 : ¬ n < 0) (hN9 : n.toNatClampNeg = N) (hb : N * 4 ≤ 536870912) (hw : Cond.classLink M.1.cls idx "ThreesAtTable$Town" ∈ xTB) (hd : decode M.2.1 pc = .ok (.anewarray idx, 3)) (hmc : 1 ≤ mc) (hms : N ≤ ms) (kk : Sx l z d (mc - 1) (ms - N) M (pc + 3) lc (xR (hN h) :: st) (hNw h 15 N) Ph) : Sx l z d mc ms M pc lc (xI n :: st) h Ph := by
  intro pp e R s m args below meth c D cA ka A Q n0 a0 mcT msT hC gR hE H locs cells slots al ls h1 h2 h3 h4 hB gL hv
  have hts := hC.2.2.2.2.2.1
  have ho := hB.2.2.2
  obtain ⟨a1, a2, a3, a4, a5, a6, a7, a8, a9, a10, a11⟩ := hC.2.2.2.2.2.2.2.2.2.2
  refine va_newq (C := "ThreesAtTable$Town") hC.1 hC.2.1 hC.2.2.2.2.1 (hts _ hw) (a10 _ (by decide)) hC.2.2.2.2.2.2.1 hB.1 hB.2.1 hB.2.2.1 hC.2.2.2.2.2.2.2.2.2.1 h0 hN9 hb (by omega) (by omega) hd (fun a cB H1 hK1 hP hD hS => ?_)
  have ec : cB = cA 15 := by
    have r1 : va_RA s cB (.object "ThreesAtTable$Town") := (hK1.2 5 (cB, (.object "ThreesAtTable$Town")) rfl).2
    have r2 : va_RA s (cA 15) (.object "ThreesAtTable$Town") := (hC.2.2.2.2.2.2.1.2 3 (cA 15, (.object "ThreesAtTable$Town")) rfl).2
    obtain ⟨_, _, _, _, _, r3⟩ := r1
    obtain ⟨_, _, _, _, _, r4⟩ := r2
    exact Option.some.inj (r3.symm.trans r4)
  subst ec
  rw [← x_g_bornR (cA := cA) (al := va_up al (hN h) a) (h := h) (kd := 15) (N := N) (by omega), x_w_push ho.1 rfl (fun q hq => x_g_new ho hq)] at hP hD
  have hal : ∀ q, q < hN h → va_up al (hN h) a q = al q := fun q hq => if_neg (by omega)
  have hv1 : ∀ v ∈ st, x_vo (hN h) v := fun v hm => hv v (List.mem_cons_of_mem _ hm)
  have kk9 := kk pp e R s m args below meth c D cA ka A Q n0 a0 mcT msT hC gR hE H1 locs (cells + 1) (slots + N) (va_up al (hN h) a) ls (by omega) (by omega) (fun q hq => (hal q (by omega)).trans (h3 q hq)) (Nat.le_trans h4 (Nat.le_succ _)) ⟨hP, hD, hS, x_okN ho⟩ (gL.moved (Nat.le_succ _) hal) (List.forall_mem_cons.mpr ⟨Nat.lt_succ_self _, fun v hm => x_vo_mono (Nat.le_succ _) (hv1 v hm)⟩)
  rw [List.map_cons, x_t_R (by have := ho.1; omega), x_st_moved hv1 hal, show va_up al (hN h) a (hN h) = a from if_pos rfl] at kk9
  exact kk9
theorem sx_newR16 {n : Int32} {N idx : Nat} (h0 : ¬ n < 0) (hN9 : n.toNatClampNeg = N) (hb : N * 4 ≤ 536870912) (hw : Cond.classLink M.1.cls idx "ThreesAtTable$Sheet" ∈ xTB) (hd : decode M.2.1 pc = .ok (.anewarray idx, 3)) (hmc : 1 ≤ mc) (hms : N ≤ ms) (kk : Sx l z d (mc - 1) (ms - N) M (pc + 3) lc (xR (hN h) :: st) (hNw h 16 N) Ph) : Sx l z d mc ms M pc lc (xI n :: st) h Ph := by
  intro pp e R s m args below meth c D cA ka A Q n0 a0 mcT msT hC gR hE H locs cells slots al ls h1 h2 h3 h4 hB gL hv
  have hts := hC.2.2.2.2.2.1
  have ho := hB.2.2.2
  obtain ⟨a1, a2, a3, a4, a5, a6, a7, a8, a9, a10, a11⟩ := hC.2.2.2.2.2.2.2.2.2.2
  refine va_newq (C := "ThreesAtTable$Sheet") hC.1 hC.2.1 hC.2.2.2.2.1 (hts _ hw) (a10 _ (by decide)) hC.2.2.2.2.2.2.1 hB.1 hB.2.1 hB.2.2.1 hC.2.2.2.2.2.2.2.2.2.1 h0 hN9 hb (by omega) (by omega) hd (fun a cB H1 hK1 hP hD hS => ?_)
  have ec : cB = cA 16 := by
    have r1 : va_RA s cB (.object "ThreesAtTable$Sheet") := (hK1.2 5 (cB, (.object "ThreesAtTable$Sheet")) rfl).2
    have r2 : va_RA s (cA 16) (.object "ThreesAtTable$Sheet") := (hC.2.2.2.2.2.2.1.2 4 (cA 16, (.object "ThreesAtTable$Sheet")) rfl).2
    obtain ⟨_, _, _, _, _, r3⟩ := r1
    obtain ⟨_, _, _, _, _, r4⟩ := r2
    exact Option.some.inj (r3.symm.trans r4)
  subst ec
  rw [← x_g_bornR (cA := cA) (al := va_up al (hN h) a) (h := h) (kd := 16) (N := N) (by omega), x_w_push ho.1 rfl (fun q hq => x_g_new ho hq)] at hP hD
  have hal : ∀ q, q < hN h → va_up al (hN h) a q = al q := fun q hq => if_neg (by omega)
  have hv1 : ∀ v ∈ st, x_vo (hN h) v := fun v hm => hv v (List.mem_cons_of_mem _ hm)
  have kk9 := kk pp e R s m args below meth c D cA ka A Q n0 a0 mcT msT hC gR hE H1 locs (cells + 1) (slots + N) (va_up al (hN h) a) ls (by omega) (by omega) (fun q hq => (hal q (by omega)).trans (h3 q hq)) (Nat.le_trans h4 (Nat.le_succ _)) ⟨hP, hD, hS, x_okN ho⟩ (gL.moved (Nat.le_succ _) hal) (List.forall_mem_cons.mpr ⟨Nat.lt_succ_self _, fun v hm => x_vo_mono (Nat.le_succ _) (hv1 v hm)⟩)
  rw [List.map_cons, x_t_R (by have := ho.1; omega), x_st_moved hv1 hal, show va_up al (hN h) a (hN h) = a from if_pos rfl] at kk9
  exact kk9
/-! rows as a whole: copies -/
theorem hIr_at {p j : Nat} {f : Nat → Int32} : hI (hIr h p f) p j = f j := if_pos rfl
theorem hIr_ne {p q : Nat} {f : Nat → Int32} (hq : q ≠ p) : hI (hIr h p f) q = hI h q := by funext j; exact if_neg hq
theorem x_okr {p : Nat} {f : Nat → Int32} (ho : x_ok h) : x_ok (hIr h p f) := ho
theorem sx_copy {p q : Nat} {sp dp n : Int32} {idx : Nat} (hp : hK h p = 12) (hq : hK h q = 12) (g1 : ¬ sp < 0) (g2 : ¬ dp < 0) (g3 : ¬ n < 0) (g4 : sp.toNatClampNeg + n.toNatClampNeg ≤ hL h p) (g5 : dp.toNatClampNeg + n.toNatClampNeg ≤ hL h q)
    (hl : Cond.methodLink M.1.cls idx arraycopyName ∈ xTB) (hna : Cond.native arraycopyName ∈ xTB) (hsa : Cond.static arraycopyName ∈ xTB) (hia : Cond.initialized "java/lang/System" ∈ xTB) (hct : (st.map x_ct).sum ≤ 8) (hd1 : 1 ≤ d) (hd : decode M.2.1 pc = .ok (.invokestatic idx, 3))
    (kk : Sx l z d mc ms M (pc + 3) lc st (hIr h q (va_cpy (hI h p) (hI h q) sp.toNatClampNeg dp.toNatClampNeg n.toNatClampNeg)) Ph) : Sx l z d mc ms M pc lc (xI n :: xI dp :: xR q :: xI sp :: xR p :: st) h Ph := by
  intro pp e R s m args below meth c D cA ka A Q n0 a0 mcT msT hC gR hE H locs cells slots al ls h1 h2 h3 h4 hB gL hv
  have hts := hC.2.2.2.2.2.1
  have ho := hB.2.2.2
  have hpos := ho.pos hp (by omega)
  have hqos := ho.pos hq (by omega)
  rw [List.map_cons, List.map_cons, List.map_cons, List.map_cons, List.map_cons, x_t_R hpos.1, x_t_R hqos.1]
  have hlo : ((st.map (x_t al ka)).map fun v => v.category).sum + (nativeFrameWords "java/lang/System" "arraycopy" 5 + 11) ≤ R.locals := by
    rw [x_ct_t]
    have e : nativeFrameWords "java/lang/System" "arraycopy" 5 ≤ 20 := by decide
    omega
  refine va_copyi (ty := .int) hC.1 hC.2.1 (hC.2.2.1.trans gL.1.symm) hC.2.2.2.2.1 (hts _ hl) (hts _ hna) (hts _ hsa) (hts _ hia) hC.2.2.2.2.2.2.1 hB.1 hB.2.1 hB.2.2.1 (p - 1) (q - 1) 0 0 ((x_w_at hpos.1 hpos.2).trans (by rw [x_g_int hp (by omega)])) ((x_w_at hqos.1 hqos.2).trans (by rw [x_g_int hq (by omega)])) rfl rfl rfl g1 g2 g3 g4 g5 (fun _ _ => rfl) (by omega) hlo hd (fun H1 locs1 hP1 hD1 hS1 => ?_)
  have ew : (x_w cA al h).set (q - 1) (al q, .inl (cA 12, (hL h q, .inl (va_cpy (hI h p) (hI h q) sp.toNatClampNeg dp.toNatClampNeg n.toNatClampNeg)))) = x_w cA al (hIr h q (va_cpy (hI h p) (hI h q) sp.toNatClampNeg dp.toNatClampNeg n.toNatClampNeg)) := by
    have e2 : va_cpy (hI h p) (hI h q) sp.toNatClampNeg dp.toNatClampNeg n.toNatClampNeg = hI (hIr h q (va_cpy (hI h p) (hI h q) sp.toNatClampNeg dp.toNatClampNeg n.toNatClampNeg)) q := by funext j; exact hIr_at.symm
    have e3 := x_g_int (h := hIr h q (va_cpy (hI h p) (hI h q) sp.toNatClampNeg dp.toNatClampNeg n.toNatClampNeg)) (cA := cA) (al := al) (p := q) (ci := 12) hq (Or.inl rfl)
    rw [← e2] at e3
    rw [show (hL h q) = hL (hIr h q (va_cpy (hI h p) (hI h q) sp.toNatClampNeg dp.toNatClampNeg n.toNatClampNeg)) q from rfl, ← e3]
    exact x_w_set rfl hqos.1 (fun k hk => x_g_ne rfl rfl (hIr_ne hk) rfl)
  exact kk pp e R s m args below meth c D cA ka A Q n0 a0 mcT msT hC gR hE H1 locs1 cells slots al ls h1 h2 h3 h4 (x_B_of hB ew hP1 hD1 hS1 (x_okr ho)) gL (fun v hm => hv v (List.mem_cons_of_mem _ (List.mem_cons_of_mem _ (List.mem_cons_of_mem _ (List.mem_cons_of_mem _ (List.mem_cons_of_mem _ hm))))))
def hCl (h : xH) (p : Nat) : xH := hIr (hNw h 12 (hL h p)) (hN h) (hI h p)
theorem x_g_cl {cA : Nat → ClassId} {al : Nat → Nat} {p : Nat} : x_g cA al (hCl h p) (hN h) = .inl (cA 12, (hL h p, .inl (hI h p))) := by
  rw [x_g_int (h := hCl h p) (p := hN h) (ci := 12) (show hK (hCl h p) (hN h) = 12 from if_pos rfl) (Or.inl rfl)]
  have e1 : hL (hCl h p) (hN h) = hL h p := if_pos rfl
  have e2 : hI (hCl h p) (hN h) = hI h p := by funext j; exact hIr_at
  rw [e1, e2]
theorem sx_clone {p idx : Nat} (hp : hK h p = 12) (hl : Cond.methodLink M.1.cls idx ⟨"[I", "clone", "()Ljava/lang/Object;"⟩ ∈ xTB) (w1 : Cond.sameMethod "[I" "java/lang/Object" "clone" "()Ljava/lang/Object;" ∈ xTB) (w2 : Cond.native ⟨"java/lang/Object", "clone", "()Ljava/lang/Object;"⟩ ∈ xTB) (w3 : Cond.instanceMethod ⟨"java/lang/Object", "clone", "()Ljava/lang/Object;"⟩ ∈ xTB) (w4 : Cond.selects "[I" ⟨"[I", "clone", "()Ljava/lang/Object;"⟩ ⟨"java/lang/Object", "clone", "()Ljava/lang/Object;"⟩ ∈ xTB)
    (hct : (st.map x_ct).sum ≤ 8) (hd1 : 1 ≤ d) (hmc : 1 ≤ mc) (hms : hL h p ≤ ms) (hd : decode M.2.1 pc = .ok (.invokevirtual idx, 3)) (kk : Sx l z d (mc - 1) (ms - hL h p) M (pc + 3) lc (xR (hN h) :: st) (hCl h p) Ph) : Sx l z d mc ms M pc lc (xR p :: st) h Ph := by
  intro pp e R s m args below meth c D cA ka A Q n0 a0 mcT msT hC gR hE H locs cells slots al ls h1 h2 h3 h4 hB gL hv
  have hts := hC.2.2.2.2.2.1
  have ho := hB.2.2.2
  have hpos := ho.pos hp (by omega)
  obtain ⟨a1, a2, a3, a4, a5, a6, a7, a8, a9, a10, a11⟩ := hC.2.2.2.2.2.2.2.2.2.2
  rw [List.map_cons, x_t_R hpos.1]
  have r2 : s.vm.findClass ("[" ++ (FieldType.int).toString) = some (cA 12) := (hC.2.2.2.2.2.2.1.2 0 (cA 12, .int) rfl).2
  refine va_clone (ad := "[I") (x := (hL h p, .inl (hI h p))) (ty := .int) hC.1 hC.2.1 (hC.2.2.1.trans gL.1.symm) hC.2.2.2.2.1 (hts _ hl) (hts _ w1) (hts _ w2) (hts _ w3) (hts _ w4) a11 hC.2.2.2.2.2.2.1 hB.1 hB.2.1 hB.2.2.1 hC.2.2.2.2.2.2.2.2.2.1 (p - 1) 0 ((x_w_at hpos.1 hpos.2).trans (by rw [x_g_int hp (by omega)])) rfl r2 (fun i v hv => ?_) (by omega) (by rw [x_ct_t]; omega) (by omega) (by show slots + hL h p ≤ R.slots; omega) hd (fun a H1 hK1 hP hD hS => ?_)
  · have e0 : (vp_cell (cA 12) (hL h p, .inl (hI h p))).slots[i]? = some v := hv
    rw [vp_cell_i] at e0
    by_cases hi : i < hL h p
    · rw [arrV_read _ _ hi] at e0
      cases e0
      rfl
    · rw [Array.getElem?_eq_none (by rw [arrV_size]; omega)] at e0
      cases e0
  · rw [← x_g_cl (cA := cA) (al := va_up al (hN h) a) (h := h) (p := p), x_w_push (h2 := hCl h p) ho.1 rfl (fun q hq => (x_g_ne (h := hNw h 12 (hL h p)) (h2 := hCl h p) (cA := cA) (al := va_up al (hN h) a) (q := q) rfl rfl (hIr_ne (h := hNw h 12 (hL h p)) (p := hN h) (by omega)) rfl).trans (x_g_new ho hq))] at hP hD
    have hal : ∀ q, q < hN h → va_up al (hN h) a q = al q := fun q hq => if_neg (by omega)
    have hv1 : ∀ v ∈ st, x_vo (hN h) v := fun v hm => hv v (List.mem_cons_of_mem _ hm)
    have kk9 := kk pp e R s m args below meth c D cA ka A Q n0 a0 mcT msT hC gR hE H1 locs (cells + 1) (slots + hL h p) (va_up al (hN h) a) ls (by omega) (by omega) (fun q hq => (hal q (by omega)).trans (h3 q hq)) (Nat.le_trans h4 (Nat.le_succ _)) ⟨hP, hD, hS, x_okr (x_okN ho)⟩ (gL.moved (Nat.le_succ _) hal) (List.forall_mem_cons.mpr ⟨Nat.lt_succ_self _, fun v hm => x_vo_mono (Nat.le_succ _) (hv1 v hm)⟩)
    rw [List.map_cons, x_t_R (by have := ho.1; omega), x_st_moved hv1 hal, show va_up al (hN h) a (hN h) = a from if_pos rfl] at kk9
    exact kk9
theorem sx_castI {p idx : Nat} (hp : hK h p = 12) (hl : Cond.classLink M.1.cls idx "[I" ∈ xTB) (hd : decode M.2.1 pc = .ok (.checkcast idx, 3)) (kk : Sx l z d mc ms M (pc + 3) lc (xR p :: st) h Ph) : Sx l z d mc ms M pc lc (xR p :: st) h Ph := by
  intro pp e R s m args below meth c D cA ka A Q n0 a0 mcT msT hC gR hE H locs cells slots al ls h1 h2 h3 h4 hB gL hv
  have hts := hC.2.2.2.2.2.1
  have hpos := hB.2.2.2.pos hp (by omega)
  have kk9 := kk pp e R s m args below meth c D cA ka A Q n0 a0 mcT msT hC gR hE H locs cells slots al ls h1 h2 h3 h4 hB gL hv
  rw [List.map_cons, x_t_R hpos.1] at kk9 ⊢
  have r2 : s.vm.findClass ("[" ++ (FieldType.int).toString) = some (cA 12) := (hC.2.2.2.2.2.2.1.2 0 (cA 12, .int) rfl).2
  exact va_castA (nm := "[I") hC.1 hC.2.1 hC.2.2.2.2.1 (hts _ hl) hB.1 (p - 1) ((x_w_at hpos.1 hpos.2).trans (by rw [x_g_int hp (by omega)])) r2 hd kk9
end XN
end
section
/-! partial functions, and what holds of their answers -/
def OK {α : Type} (o : Option α) (P : α → Prop) : Prop := ∃ a, o = some a ∧ P a
def gd {α : Type} (c : Prop) [Decidable c] (k : Option α) : Option α := if c then k else none
def jn {α γ : Type} (K : γ → Option α) (B : (γ → Option α) → Option α) : Option α := B K
def nb (v : Int32) : Int32 := vp_nar .boolean v
def fu : Nat := 2000
theorem OK.bind {α β : Type} {o : Option α} {f : α → Option β} {P : β → Prop} (h : OK (o.bind f) P) : ∃ a, o = some a ∧ OK (f a) P := by
  obtain ⟨b, hb, hp⟩ := h
  cases o with
  | none => cases hb
  | some a => exact ⟨a, rfl, b, hb, hp⟩
theorem OK.val {α : Type} {a : α} {P : α → Prop} (h : OK (some a) P) : P a := by
  obtain ⟨b, hb, hp⟩ := h
  cases hb
  exact hp
theorem OK.no {α : Type} {P : α → Prop} {G : Prop} (h : OK (none : Option α) P) : G := by
  obtain ⟨b, hb, -⟩ := h
  cases hb
theorem OK.t {α : Type} {c : Prop} [Decidable c] {a b : Option α} {P : α → Prop} (h : OK (if c then a else b) P) (hc : c) : OK a P := by rwa [if_pos hc] at h
theorem OK.f {α : Type} {c : Prop} [Decidable c] {a b : Option α} {P : α → Prop} (h : OK (if c then a else b) P) (hc : ¬ c) : OK b P := by rwa [if_neg hc] at h
theorem OK.g {α : Type} {c : Prop} [Decidable c] {k : Option α} {P : α → Prop} (h : OK (gd c k) P) : c ∧ OK k P := by
  unfold gd at h
  by_cases hc : c
  · exact ⟨hc, h.t hc⟩
  · exact OK.no (h.f hc)
theorem OK.j {α γ : Type} {K : γ → Option α} {B : (γ → Option α) → Option α} {P : α → Prop} {G : Prop} {X : γ → Prop} (h : OK (jn K B) P) (h1 : ∀ x, OK (K x) P → X x) (h2 : ∀ K' : γ → Option α, (∀ x, OK (K' x) P → X x) → OK (B K') P → G) : G := h2 K h1 h
theorem sx_eq {l : Launch} {z : xZ} {d mc ms : Nat} {M : xM} {pc : Nat} {lc lc2 : List (Option xV)} {st st2 : List xV} {h : xH} {Ph : Option xV → xH → Prop} (h1 : lc = lc2) (h2 : st = st2) (kk : Sx l z d mc ms M pc lc2 st2 h Ph) : Sx l z d mc ms M pc lc st h Ph := by
  subst h1
  subst h2
  exact kk
theorem sw_out {x : Int32} {lo hi : Int} (h : ∀ k : Int, lo ≤ k → k ≤ hi → ¬ x = Int32.ofInt k) : x.toInt < lo ∨ hi < x.toInt := by
  by_cases h1 : x.toInt < lo
  · exact Or.inl h1
  · by_cases h2 : hi < x.toInt
    · exact Or.inr h2
    · exact absurd (Int32.ofInt_toInt x).symm (h x.toInt (by omega) (by omega))
/-! more -/
def hp {α : Type} (a : xH) (f : xH → Option α) : Option α := f a
theorem OK.h {α : Type} {a : xH} {f : xH → Option α} {P : α → Prop} (h : OK (hp a f) P) : ∃ b, b = a ∧ OK (f b) P := ⟨a, rfl, h⟩
def x_le : List (Option xV) → List (Option xV) → Prop
  | [], _ => True
  | none :: a, _ :: b => x_le a b
  | some v :: a, w :: b => w = some v ∧ x_le a b
  | _ :: _, [] => False
theorem x_le_at : ∀ (a b : List (Option xV)), x_le a b → ∀ (i : Nat) (v : xV), a[i]? = some (some v) → b[i]? = some (some v)
  | [], _, _, i, v, h => by cases h
  | none :: a, w :: b, h, i, v, hi => by
    cases i with
    | zero => cases hi
    | succ i => exact x_le_at a b h i v hi
  | some u :: a, w :: b, h, i, v, hi => by
    cases i with
    | zero => cases hi; exact congrArg some h.1
    | succ i => exact x_le_at a b h.2 i v hi
  | none :: _, [], h, _, _, _ => h.elim
  | some _ :: _, [], h, _, _, _ => h.elim
section XO
variable {l : Launch} {z : xZ} {d mc ms : Nat} {M : xM} {pc : Nat} {lc : List (Option xV)} {st : List xV} {h : xH} {Ph : Option xV → xH → Prop}
theorem sx_hp {h1 h2 : xH} (e : h1 = h2) (kk : Sx l z d mc ms M pc lc st h1 Ph) : Sx l z d mc ms M pc lc st h2 Ph := e ▸ kk
theorem sx_eq0 {lc2 : List (Option xV)} {st2 : List xV} (h1 : lc = lc2) (h2 : st = st2) (kk : Sx l z d mc ms M pc lc2 st2 h Ph) : Sx l z d (mc - 0) (ms - 0) M pc lc st h Ph := by
  subst h1
  subst h2
  exact kk
theorem sx_less {lc2 : List (Option xV)} (hl : x_le lc2 lc) (kk : Sx l z d mc ms M pc lc2 st h Ph) : Sx l z d mc ms M pc lc st h Ph := by
  intro pp e R s m args below meth c D cA ka A Q n0 a0 mcT msT hC gR hE H locs cells slots al ls h1 h2 h3 h4 hB gL hv
  exact kk pp e R s m args below meth c D cA ka A Q n0 a0 mcT msT hC gR hE H locs cells slots al ls h1 h2 h3 h4 hB ⟨gL.1, gL.2.1, fun i v hi => gL.2.2 i v (x_le_at _ _ hl i v hi)⟩ hv
theorem sx_retV (hd : decode M.2.1 pc = .ok (.return_, 1)) (hr : M.2.2.2 = none) (hp : Ph none h) : Sx l z d mc ms M pc lc [] h Ph := sx_ret hd (by unfold x_rr; rw [hr]; exact ⟨rfl, rfl, rfl⟩) hp
theorem sx_retI {v : Int32} (hd : decode M.2.1 pc = .ok (.ireturn, 1)) (hr : M.2.2.2 = some .int) (hp : Ph (some (xI v)) h) : Sx l z d mc ms M pc lc [xI v] h Ph := sx_ret hd (by unfold x_rr; rw [hr]; exact ⟨rfl, v, v, rfl, rfl, rfl⟩) hp
theorem sx_retT {v v0 : Int32} {t : FieldType} (hd : decode M.2.1 pc = .ok (.ireturn, 1)) (hr : (M.2.2.2 = some .boolean ∧ t = .boolean) ∨ (M.2.2.2 = some .byte ∧ t = .byte) ∨ (M.2.2.2 = some .char ∧ t = .char)) (hn : narrow t (.int v0) = .int v) (hp : Ph (some (xI v)) h) : Sx l z d mc ms M pc lc [xI v0] h Ph := by
  refine sx_ret hd ?_ hp
  unfold x_rr
  rcases hr with ⟨hr, rfl⟩ | ⟨hr, rfl⟩ | ⟨hr, rfl⟩ <;> rw [hr] <;> exact ⟨rfl, v, v0, rfl, rfl, hn⟩
theorem sx_retJ {v : Int64} (hd : decode M.2.1 pc = .ok (.lreturn, 1)) (hr : M.2.2.2 = some .long) (hp : Ph (some (xJ v)) h) : Sx l z d mc ms M pc lc [xJ v] h Ph := sx_ret hd (by unfold x_rr; rw [hr]; exact ⟨rfl, v, rfl, rfl⟩) hp
theorem sx_retR {v : Nat ⊕ Nat} (hd : decode M.2.1 pc = .ok (.areturn, 1)) (hr : (∃ n, M.2.2.2 = some (.object n)) ∨ ∃ t, M.2.2.2 = some (.array t)) (hp : Ph (some (Sum.inr (Sum.inr v))) h) : Sx l z d mc ms M pc lc [Sum.inr (Sum.inr v)] h Ph := by
  refine sx_ret hd ?_ hp
  unfold x_rr
  rcases hr with ⟨n, hr⟩ | ⟨n, hr⟩ <;> rw [hr] <;> exact ⟨rfl, v, rfl, rfl⟩
/-! texts: their fields and bytes; two statics of the JDK -/
def x_bl (p : Nat) : Nat := if 16 ≤ p ∧ p < 30 then x_len.getD (p - 16) 0 else 0
def x_bb (p j : Nat) : Int32 := (x_byt.getD (p - 16) []).getD j 0
theorem sx_sval {i idx : Nat} (hi : i < 14) (hw : Cond.fieldLink M.1.cls idx "java/lang/String" "value" "[B" ∈ xTB) (hd : decode M.2.1 pc = .ok (.getfield idx, 3)) (kk : Sx l z d mc ms M (pc + 3) lc (xS (16 + i) :: st) h Ph) : Sx l z d mc ms M pc lc (xS i :: st) h Ph := by
  intro pp e R s m args below meth c D cA ka A Q n0 a0 mcT msT hC gR hE H locs cells slots al ls h1 h2 h3 h4 hB gL hv
  have kk9 := (kk pp e R s m args below meth c D cA ka A Q n0 a0 mcT msT hC gR hE H locs cells slots al ls h1 h2 h3 h4 hB gL (List.forall_mem_cons.mpr ⟨trivial, (fun v hm => hv v (List.mem_cons_of_mem _ hm))⟩))
  rw [List.map_cons, x_t_S (by omega)] at kk9 ⊢
  exact vk_getf hC.1 hC.2.1 ((hC.2.2.2.2.2.2.2.2.2.2.1).1 i hi).2.2.1 hB.2.2.1 hC.2.2.2.2.1 (hC.2.2.2.2.2.1 _ hw) (fun _ h9 => h9) hd kk9
theorem sx_scod {i idx : Nat} (hi : i < 14) (hw : Cond.fieldLink M.1.cls idx "java/lang/String" "coder" "B" ∈ xTB) (hd : decode M.2.1 pc = .ok (.getfield idx, 3)) (kk : Sx l z d mc ms M (pc + 3) lc (xI 0 :: st) h Ph) : Sx l z d mc ms M pc lc (xS i :: st) h Ph := by
  intro pp e R s m args below meth c D cA ka A Q n0 a0 mcT msT hC gR hE H locs cells slots al ls h1 h2 h3 h4 hB gL hv
  have kk9 := (kk pp e R s m args below meth c D cA ka A Q n0 a0 mcT msT hC gR hE H locs cells slots al ls h1 h2 h3 h4 hB gL (List.forall_mem_cons.mpr ⟨trivial, (fun v hm => hv v (List.mem_cons_of_mem _ hm))⟩))
  rw [List.map_cons, x_t_S (by omega)]
  exact vk_getf hC.1 hC.2.1 ((hC.2.2.2.2.2.2.2.2.2.2.1).1 i hi).2.1 hB.2.2.1 hC.2.2.2.2.1 (hC.2.2.2.2.2.1 _ hw) (fun _ h9 => h9) hd kk9
theorem sx_compact {idx : Nat} (hw : Cond.fieldLink M.1.cls idx "java/lang/String" "COMPACT_STRINGS" "Z" ∈ xTB) (hd : decode M.2.1 pc = .ok (.getstatic idx, 3)) (kk : Sx l z d mc ms M (pc + 3) lc (xI 1 :: st) h Ph) : Sx l z d mc ms M pc lc st h Ph := by
  intro pp e R s m args below meth c D cA ka A Q n0 a0 mcT msT hC gR hE H locs cells slots al ls h1 h2 h3 h4 hB gL hv
  obtain ⟨a1, a2, a3, a4, a5, a6, a7, a8, a9, a10⟩ := hC.2.2.2.2.2.2.2.2.2.2
  exact va_gets hC.1 hC.2.1 a3 hB.2.2.1 hC.2.2.2.2.1 (hC.2.2.2.2.2.1 _ hw) (fun _ h9 => h9) hd (kk pp e R s m args below meth c D cA ka A Q n0 a0 mcT msT hC gR hE H locs cells slots al ls h1 h2 h3 h4 hB gL (List.forall_mem_cons.mpr ⟨trivial, hv⟩))
theorem sx_sioobe {idx : Nat} (hw : Cond.fieldLink M.1.cls idx "jdk/internal/util/Preconditions" "SIOOBE_FORMATTER" "Ljava/util/function/BiFunction;" ∈ xTB) (hd : decode M.2.1 pc = .ok (.getstatic idx, 3)) (kk : Sx l z d mc ms M (pc + 3) lc (xS 31 :: st) h Ph) : Sx l z d mc ms M pc lc st h Ph := by
  intro pp e R s m args below meth c D cA ka A Q n0 a0 mcT msT hC gR hE H locs cells slots al ls h1 h2 h3 h4 hB gL hv
  obtain ⟨a1, a2, a3, a4, a5, a6, a7, a8, a9, a10⟩ := hC.2.2.2.2.2.2.2.2.2.2
  have kk9 := (kk pp e R s m args below meth c D cA ka A Q n0 a0 mcT msT hC gR hE H locs cells slots al ls h1 h2 h3 h4 hB gL (List.forall_mem_cons.mpr ⟨trivial, hv⟩))
  rw [List.map_cons, show x_t al ka (xS 31) = va_rf ka.2 by show (if (31 : Nat) = 31 then va_rf ka.2 else .ref (ka.1 31)) = _; rw [if_pos rfl]] at kk9
  exact va_gets hC.1 hC.2.1 a4 hB.2.2.1 hC.2.2.2.2.1 (hC.2.2.2.2.2.1 _ hw) (fun _ h9 => h9) hd kk9
theorem x_bT {ka : xK} {A : Nat → Prop} {s : State} {p : Nat} (hp : 16 ≤ p ∧ p < 30) (hS : x_Str ka z A s) : va_T .byte (ka.1 p) (x_bl p) (fun j => .int (x_bb p j)) A s s.heap := by
  have h1 : va_T .byte (ka.1 (16 + (p - 16))) (x_len.getD (p - 16) 0) (fun j => .int (x_bb p j)) A s s.heap := (hS.1.1 (p - 16) (by omega)).2.2.2
  have e : x_bl p = x_len.getD (p - 16) 0 := if_pos hp
  rw [e]
  rw [show 16 + (p - 16) = p by omega] at h1
  exact h1
theorem sx_bblen {p : Nat} (hp : 16 ≤ p ∧ p < 30) (hd : decode M.2.1 pc = .ok (.arraylength, 1)) (kk : Sx l z d mc ms M (pc + 1) lc (xI (Int32.ofNat (x_bl p)) :: st) h Ph) : Sx l z d mc ms M pc lc (xS p :: st) h Ph := by
  intro pp e R s m args below meth c D cA ka A Q n0 a0 mcT msT hC gR hE H locs cells slots al ls h1 h2 h3 h4 hB gL hv
  obtain ⟨cell, b1, b2, b3, b4, b5, b6, b7⟩ := (x_bT hp hC.2.2.2.2.2.2.2.2.2.2).kept hB.2.2.1.2.1
  rw [List.map_cons, x_t_S (by omega)]
  exact W.alen hC.1 hC.2.1 b1 b2 b5 rfl rfl hd (kk pp e R s m args below meth c D cA ka A Q n0 a0 mcT msT hC gR hE H locs cells slots al ls h1 h2 h3 h4 hB gL (List.forall_mem_cons.mpr ⟨trivial, (fun v hm => hv v (List.mem_cons_of_mem _ hm))⟩))
theorem sx_bbld {p : Nat} {i : Int32} (hi : ¬ (i < 0 ∨ x_bl p ≤ i.toNatClampNeg)) (hd : decode M.2.1 pc = .ok (.baload, 1)) (kk : Sx l z d mc ms M (pc + 1) lc (xI (x_bb p i.toNatClampNeg) :: st) h Ph) : Sx l z d mc ms M pc lc (xI i :: xS p :: st) h Ph := by
  intro pp e R s m args below meth c D cA ka A Q n0 a0 mcT msT hC gR hE H locs cells slots al ls h1 h2 h3 h4 hB gL hv
  have hp : 16 ≤ p ∧ p < 30 := by
    by_cases q : 16 ≤ p ∧ p < 30
    · exact q
    · exact absurd (Or.inr (by unfold x_bl; rw [if_neg q]; exact Nat.zero_le _)) hi
  obtain ⟨cell, b1, b2, b3, b4, b5, b6, b7⟩ := (x_bT hp hC.2.2.2.2.2.2.2.2.2.2).kept hB.2.2.1.2.1
  have hlt : i.toNatClampNeg < x_bl p := Nat.not_le.mp fun q => hi (Or.inr q)
  rw [List.map_cons, List.map_cons, x_t_S (by omega)]
  exact W.bald (v := .int (x_bb p i.toNatClampNeg)) hC.1 hC.2.1 b1 b2 b3 (fun q => q.elim (fun q => hi (Or.inl q)) (fun q => by omega)) (b6 _ hlt) rfl rfl hd (kk pp e R s m args below meth c D cA ka A Q n0 a0 mcT msT hC gR hE H locs cells slots al ls h1 h2 h3 h4 hB gL (List.forall_mem_cons.mpr ⟨trivial, (fun v hm => hv v (List.mem_cons_of_mem _ (List.mem_cons_of_mem _ hm)))⟩))
end XO
end
