section
-- ===== PART A: goes FIRST, ahead of the names: the tables' words, and 'selects' of the private methods out of them =====
/-- a private method of a class that the tables say can be made, by its rows of tables_1 -/
def lw_okq (q : MethodName × Nat) : Prop := (q.1.cls ≠ "java/lang/invoke/MethodHandle" ∧ q.1.cls ≠ "java/lang/invoke/VarHandle") ∧ Cond.instantiable q.1.cls q.2 ∈ tables_1 ∧ Cond.privateMethod q.1 ∈ tables_1 ∧ Cond.instanceMethod q.1 ∈ tables_1
theorem lw_p0 : lw_okq (⟨"PowerClasses$Classes", "findGenerators", "()V"⟩, 14) := ⟨⟨by decide +kernel, by decide +kernel⟩, List.mem_of_getElem? (i := 18) (by decide +kernel), List.mem_of_getElem? (i := 28) (by decide +kernel), List.mem_of_getElem? (i := 29) (by decide +kernel)⟩
theorem lw_p1 : lw_okq (⟨"PowerClasses$Classes", "findRaised", "()V"⟩, 14) := ⟨⟨by decide +kernel, by decide +kernel⟩, List.mem_of_getElem? (i := 18) (by decide +kernel), List.mem_of_getElem? (i := 36) (by decide +kernel), List.mem_of_getElem? (i := 37) (by decide +kernel)⟩
theorem lw_p2 : lw_okq (⟨"PowerClasses$Classes", "findPowers", "()V"⟩, 14) := ⟨⟨by decide +kernel, by decide +kernel⟩, List.mem_of_getElem? (i := 18) (by decide +kernel), List.mem_of_getElem? (i := 44) (by decide +kernel), List.mem_of_getElem? (i := 45) (by decide +kernel)⟩
theorem lw_p3 : lw_okq (⟨"PowerClasses$Classes", "findNeighbours", "()V"⟩, 14) := ⟨⟨by decide +kernel, by decide +kernel⟩, List.mem_of_getElem? (i := 18) (by decide +kernel), List.mem_of_getElem? (i := 48) (by decide +kernel), List.mem_of_getElem? (i := 49) (by decide +kernel)⟩
theorem lw_p4 : lw_okq (⟨"PowerClasses$Classes", "classNumber", "(I)I"⟩, 14) := ⟨⟨by decide +kernel, by decide +kernel⟩, List.mem_of_getElem? (i := 18) (by decide +kernel), List.mem_of_getElem? (i := 52) (by decide +kernel), List.mem_of_getElem? (i := 53) (by decide +kernel)⟩
theorem lw_p5 : lw_okq (⟨"PowerClasses$Classes", "findFactors", "()V"⟩, 14) := ⟨⟨by decide +kernel, by decide +kernel⟩, List.mem_of_getElem? (i := 18) (by decide +kernel), List.mem_of_getElem? (i := 56) (by decide +kernel), List.mem_of_getElem? (i := 57) (by decide +kernel)⟩
theorem lw_p6 : lw_okq (⟨"PowerClasses$Classes", "countMeetings", "(II)V"⟩, 14) := ⟨⟨by decide +kernel, by decide +kernel⟩, List.mem_of_getElem? (i := 18) (by decide +kernel), List.mem_of_getElem? (i := 67) (by decide +kernel), List.mem_of_getElem? (i := 68) (by decide +kernel)⟩
theorem lw_p7 : lw_okq (⟨"PowerClasses$Classes", "findPolynomial", "()V"⟩, 14) := ⟨⟨by decide +kernel, by decide +kernel⟩, List.mem_of_getElem? (i := 18) (by decide +kernel), List.mem_of_getElem? (i := 71) (by decide +kernel), List.mem_of_getElem? (i := 72) (by decide +kernel)⟩
theorem lw_p8 : lw_okq (⟨"PowerClasses$Classes", "findPowerSums", "()V"⟩, 14) := ⟨⟨by decide +kernel, by decide +kernel⟩, List.mem_of_getElem? (i := 18) (by decide +kernel), List.mem_of_getElem? (i := 75) (by decide +kernel), List.mem_of_getElem? (i := 76) (by decide +kernel)⟩
theorem lw_p9 : lw_okq (⟨"PowerClasses$Classes", "multiplyByFirstPeriod", "()V"⟩, 14) := ⟨⟨by decide +kernel, by decide +kernel⟩, List.mem_of_getElem? (i := 18) (by decide +kernel), List.mem_of_getElem? (i := 85) (by decide +kernel), List.mem_of_getElem? (i := 86) (by decide +kernel)⟩
theorem lw_p10 : lw_okq (⟨"PowerClasses", "isNumberOfPrime", "(I)Z"⟩, 12) := ⟨⟨by decide +kernel, by decide +kernel⟩, List.mem_of_getElem? (i := 10) (by decide +kernel), List.mem_of_getElem? (i := 306) (by decide +kernel), List.mem_of_getElem? (i := 307) (by decide +kernel)⟩
theorem lw_p11 : lw_okq (⟨"PowerClasses", "isClass", "(I)Z"⟩, 12) := ⟨⟨by decide +kernel, by decide +kernel⟩, List.mem_of_getElem? (i := 10) (by decide +kernel), List.mem_of_getElem? (i := 318) (by decide +kernel), List.mem_of_getElem? (i := 319) (by decide +kernel)⟩
theorem lw_p12 : lw_okq (⟨"PowerClasses", "isRest", "(I)Z"⟩, 12) := ⟨⟨by decide +kernel, by decide +kernel⟩, List.mem_of_getElem? (i := 10) (by decide +kernel), List.mem_of_getElem? (i := 348) (by decide +kernel), List.mem_of_getElem? (i := 349) (by decide +kernel)⟩
theorem lw_p13 : lw_okq (⟨"PowerClasses$Reckoner", "multiplyAt", "(I[J[J)Z"⟩, 5) := ⟨⟨by decide +kernel, by decide +kernel⟩, List.mem_of_getElem? (i := 179) (by decide +kernel), List.mem_of_getElem? (i := 416) (by decide +kernel), List.mem_of_getElem? (i := 417) (by decide +kernel)⟩
theorem lw_p14 : lw_okq (⟨"PowerClasses$Reckoner", "grow", "([JI)Z"⟩, 5) := ⟨⟨by decide +kernel, by decide +kernel⟩, List.mem_of_getElem? (i := 179) (by decide +kernel), List.mem_of_getElem? (i := 435) (by decide +kernel), List.mem_of_getElem? (i := 436) (by decide +kernel)⟩
theorem lw_p15 : lw_okq (⟨"PowerClasses$Reckoner", "negated", "(J)J"⟩, 5) := ⟨⟨by decide +kernel, by decide +kernel⟩, List.mem_of_getElem? (i := 179) (by decide +kernel), List.mem_of_getElem? (i := 468) (by decide +kernel), List.mem_of_getElem? (i := 469) (by decide +kernel)⟩
def lw_privs_1 : List (MethodName × Nat) := [(⟨"PowerClasses$Classes", "findGenerators", "()V"⟩, 14), (⟨"PowerClasses$Classes", "findRaised", "()V"⟩, 14), (⟨"PowerClasses$Classes", "findPowers", "()V"⟩, 14), (⟨"PowerClasses$Classes", "findNeighbours", "()V"⟩, 14), (⟨"PowerClasses$Classes", "classNumber", "(I)I"⟩, 14), (⟨"PowerClasses$Classes", "findFactors", "()V"⟩, 14), (⟨"PowerClasses$Classes", "countMeetings", "(II)V"⟩, 14), (⟨"PowerClasses$Classes", "findPolynomial", "()V"⟩, 14), (⟨"PowerClasses$Classes", "findPowerSums", "()V"⟩, 14), (⟨"PowerClasses$Classes", "multiplyByFirstPeriod", "()V"⟩, 14), (⟨"PowerClasses", "isNumberOfPrime", "(I)Z"⟩, 12), (⟨"PowerClasses", "isClass", "(I)Z"⟩, 12), (⟨"PowerClasses", "isRest", "(I)Z"⟩, 12), (⟨"PowerClasses$Reckoner", "multiplyAt", "(I[J[J)Z"⟩, 5), (⟨"PowerClasses$Reckoner", "grow", "([JI)Z"⟩, 5), (⟨"PowerClasses$Reckoner", "negated", "(J)J"⟩, 5)]
theorem lw_r1 : ∀ q ∈ lw_privs_1, lw_okq q := List.forall_mem_cons.mpr ⟨lw_p0, List.forall_mem_cons.mpr ⟨lw_p1, List.forall_mem_cons.mpr ⟨lw_p2, List.forall_mem_cons.mpr ⟨lw_p3, List.forall_mem_cons.mpr ⟨lw_p4, List.forall_mem_cons.mpr ⟨lw_p5, List.forall_mem_cons.mpr ⟨lw_p6, List.forall_mem_cons.mpr ⟨lw_p7, List.forall_mem_cons.mpr ⟨lw_p8, List.forall_mem_cons.mpr ⟨lw_p9, List.forall_mem_cons.mpr ⟨lw_p10, List.forall_mem_cons.mpr ⟨lw_p11, List.forall_mem_cons.mpr ⟨lw_p12, List.forall_mem_cons.mpr ⟨lw_p13, List.forall_mem_cons.mpr ⟨lw_p14, List.forall_mem_cons.mpr ⟨lw_p15, fun _ h => absurd h List.not_mem_nil⟩⟩⟩⟩⟩⟩⟩⟩⟩⟩⟩⟩⟩⟩⟩⟩
theorem lw_p16 : lw_okq (⟨"PowerClasses", "isTurnedBy", "([JI[J)Z"⟩, 12) := ⟨⟨by decide +kernel, by decide +kernel⟩, List.mem_of_getElem? (i := 10) (by decide +kernel), List.mem_of_getElem? (i := 488) (by decide +kernel), List.mem_of_getElem? (i := 489) (by decide +kernel)⟩
theorem lw_p17 : lw_okq (⟨"PowerClasses$Reader", "readSum", "(I)Z"⟩, 10) := ⟨⟨by decide +kernel, by decide +kernel⟩, List.mem_of_getElem? (i := 201) (by decide +kernel), List.mem_of_getElem? (i := 516) (by decide +kernel), List.mem_of_getElem? (i := 517) (by decide +kernel)⟩
theorem lw_p18 : lw_okq (⟨"PowerClasses$Reader", "readProduct", "(I)Z"⟩, 10) := ⟨⟨by decide +kernel, by decide +kernel⟩, List.mem_of_getElem? (i := 201) (by decide +kernel), List.mem_of_getElem? (i := 520) (by decide +kernel), List.mem_of_getElem? (i := 521) (by decide +kernel)⟩
theorem lw_p19 : lw_okq (⟨"PowerClasses$Reader", "readPart", "(I)Z"⟩, 10) := ⟨⟨by decide +kernel, by decide +kernel⟩, List.mem_of_getElem? (i := 201) (by decide +kernel), List.mem_of_getElem? (i := 524) (by decide +kernel), List.mem_of_getElem? (i := 525) (by decide +kernel)⟩
theorem lw_p20 : lw_okq (⟨"PowerClasses$Reader", "letter", "()I"⟩, 10) := ⟨⟨by decide +kernel, by decide +kernel⟩, List.mem_of_getElem? (i := 201) (by decide +kernel), List.mem_of_getElem? (i := 528) (by decide +kernel), List.mem_of_getElem? (i := 529) (by decide +kernel)⟩
theorem lw_p21 : lw_okq (⟨"PowerClasses$Reader", "readFigures", "(I)I"⟩, 10) := ⟨⟨by decide +kernel, by decide +kernel⟩, List.mem_of_getElem? (i := 201) (by decide +kernel), List.mem_of_getElem? (i := 535) (by decide +kernel), List.mem_of_getElem? (i := 536) (by decide +kernel)⟩
theorem lw_p22 : lw_okq (⟨"PowerClasses$Reader", "readPeriod", "([J)Z"⟩, 10) := ⟨⟨by decide +kernel, by decide +kernel⟩, List.mem_of_getElem? (i := 201) (by decide +kernel), List.mem_of_getElem? (i := 540) (by decide +kernel), List.mem_of_getElem? (i := 541) (by decide +kernel)⟩
theorem lw_p23 : lw_okq (⟨"PowerClasses$Reader", "faultAt", "(I)Z"⟩, 10) := ⟨⟨by decide +kernel, by decide +kernel⟩, List.mem_of_getElem? (i := 201) (by decide +kernel), List.mem_of_getElem? (i := 544) (by decide +kernel), List.mem_of_getElem? (i := 545) (by decide +kernel)⟩
theorem lw_p24 : lw_okq (⟨"PowerClasses$Reader", "readBracket", "(I)Z"⟩, 10) := ⟨⟨by decide +kernel, by decide +kernel⟩, List.mem_of_getElem? (i := 201) (by decide +kernel), List.mem_of_getElem? (i := 550) (by decide +kernel), List.mem_of_getElem? (i := 551) (by decide +kernel)⟩
theorem lw_p25 : lw_okq (⟨"PowerClasses$Reader", "joinProduct", "(ZI)Z"⟩, 10) := ⟨⟨by decide +kernel, by decide +kernel⟩, List.mem_of_getElem? (i := 201) (by decide +kernel), List.mem_of_getElem? (i := 561) (by decide +kernel), List.mem_of_getElem? (i := 562) (by decide +kernel)⟩
theorem lw_p26 : lw_okq (⟨"PowerClasses", "listsThere", "()I"⟩, 12) := ⟨⟨by decide +kernel, by decide +kernel⟩, List.mem_of_getElem? (i := 10) (by decide +kernel), List.mem_of_getElem? (i := 603) (by decide +kernel), List.mem_of_getElem? (i := 604) (by decide +kernel)⟩
theorem lw_p27 : lw_okq (⟨"PowerClasses", "shelvesInUse", "()I"⟩, 12) := ⟨⟨by decide +kernel, by decide +kernel⟩, List.mem_of_getElem? (i := 10) (by decide +kernel), List.mem_of_getElem? (i := 607) (by decide +kernel), List.mem_of_getElem? (i := 608) (by decide +kernel)⟩
theorem lw_p28 : lw_okq (⟨"PowerClasses", "isZero", "([J)Z"⟩, 12) := ⟨⟨by decide +kernel, by decide +kernel⟩, List.mem_of_getElem? (i := 10) (by decide +kernel), List.mem_of_getElem? (i := 611) (by decide +kernel), List.mem_of_getElem? (i := 612) (by decide +kernel)⟩
theorem lw_p29 : lw_okq (⟨"PowerClassesModel", "begins", "(II)V"⟩, 28) := ⟨⟨by decide +kernel, by decide +kernel⟩, List.mem_of_getElem? (i := 615) (by decide +kernel), List.mem_of_getElem? (i := 621) (by decide +kernel), List.mem_of_getElem? (i := 622) (by decide +kernel)⟩
theorem lw_p30 : lw_okq (⟨"PowerClassesModel", "isGenerator", "(I)Z"⟩, 28) := ⟨⟨by decide +kernel, by decide +kernel⟩, List.mem_of_getElem? (i := 615) (by decide +kernel), List.mem_of_getElem? (i := 625) (by decide +kernel), List.mem_of_getElem? (i := 626) (by decide +kernel)⟩
theorem lw_p31 : lw_okq (⟨"PowerClassesModel", "findsClasses", "()V"⟩, 28) := ⟨⟨by decide +kernel, by decide +kernel⟩, List.mem_of_getElem? (i := 615) (by decide +kernel), List.mem_of_getElem? (i := 629) (by decide +kernel), List.mem_of_getElem? (i := 630) (by decide +kernel)⟩
def lw_privs_2 : List (MethodName × Nat) := [(⟨"PowerClasses", "isTurnedBy", "([JI[J)Z"⟩, 12), (⟨"PowerClasses$Reader", "readSum", "(I)Z"⟩, 10), (⟨"PowerClasses$Reader", "readProduct", "(I)Z"⟩, 10), (⟨"PowerClasses$Reader", "readPart", "(I)Z"⟩, 10), (⟨"PowerClasses$Reader", "letter", "()I"⟩, 10), (⟨"PowerClasses$Reader", "readFigures", "(I)I"⟩, 10), (⟨"PowerClasses$Reader", "readPeriod", "([J)Z"⟩, 10), (⟨"PowerClasses$Reader", "faultAt", "(I)Z"⟩, 10), (⟨"PowerClasses$Reader", "readBracket", "(I)Z"⟩, 10), (⟨"PowerClasses$Reader", "joinProduct", "(ZI)Z"⟩, 10), (⟨"PowerClasses", "listsThere", "()I"⟩, 12), (⟨"PowerClasses", "shelvesInUse", "()I"⟩, 12), (⟨"PowerClasses", "isZero", "([J)Z"⟩, 12), (⟨"PowerClassesModel", "begins", "(II)V"⟩, 28), (⟨"PowerClassesModel", "isGenerator", "(I)Z"⟩, 28), (⟨"PowerClassesModel", "findsClasses", "()V"⟩, 28)]
theorem lw_r2 : ∀ q ∈ lw_privs_2, lw_okq q := List.forall_mem_cons.mpr ⟨lw_p16, List.forall_mem_cons.mpr ⟨lw_p17, List.forall_mem_cons.mpr ⟨lw_p18, List.forall_mem_cons.mpr ⟨lw_p19, List.forall_mem_cons.mpr ⟨lw_p20, List.forall_mem_cons.mpr ⟨lw_p21, List.forall_mem_cons.mpr ⟨lw_p22, List.forall_mem_cons.mpr ⟨lw_p23, List.forall_mem_cons.mpr ⟨lw_p24, List.forall_mem_cons.mpr ⟨lw_p25, List.forall_mem_cons.mpr ⟨lw_p26, List.forall_mem_cons.mpr ⟨lw_p27, List.forall_mem_cons.mpr ⟨lw_p28, List.forall_mem_cons.mpr ⟨lw_p29, List.forall_mem_cons.mpr ⟨lw_p30, List.forall_mem_cons.mpr ⟨lw_p31, fun _ h => absurd h List.not_mem_nil⟩⟩⟩⟩⟩⟩⟩⟩⟩⟩⟩⟩⟩⟩⟩⟩
theorem lw_p32 : lw_okq (⟨"PowerClassesModel", "firstOf", "(I)I"⟩, 28) := ⟨⟨by decide +kernel, by decide +kernel⟩, List.mem_of_getElem? (i := 615) (by decide +kernel), List.mem_of_getElem? (i := 633) (by decide +kernel), List.mem_of_getElem? (i := 634) (by decide +kernel)⟩
theorem lw_p33 : lw_okq (⟨"PowerClassesModel", "classAt", "(I)I"⟩, 28) := ⟨⟨by decide +kernel, by decide +kernel⟩, List.mem_of_getElem? (i := 615) (by decide +kernel), List.mem_of_getElem? (i := 637) (by decide +kernel), List.mem_of_getElem? (i := 638) (by decide +kernel)⟩
theorem lw_p34 : lw_okq (⟨"PowerClassesModel", "generators", "()I"⟩, 28) := ⟨⟨by decide +kernel, by decide +kernel⟩, List.mem_of_getElem? (i := 615) (by decide +kernel), List.mem_of_getElem? (i := 746) (by decide +kernel), List.mem_of_getElem? (i := 747) (by decide +kernel)⟩
theorem lw_p35 : lw_okq (⟨"PowerClassesModel", "isNumber", "(I)Z"⟩, 28) := ⟨⟨by decide +kernel, by decide +kernel⟩, List.mem_of_getElem? (i := 615) (by decide +kernel), List.mem_of_getElem? (i := 761) (by decide +kernel), List.mem_of_getElem? (i := 762) (by decide +kernel)⟩
theorem lw_p36 : lw_okq (⟨"PowerClassesModel", "isClass", "(I)Z"⟩, 28) := ⟨⟨by decide +kernel, by decide +kernel⟩, List.mem_of_getElem? (i := 615) (by decide +kernel), List.mem_of_getElem? (i := 777) (by decide +kernel), List.mem_of_getElem? (i := 778) (by decide +kernel)⟩
theorem lw_p37 : lw_okq (⟨"PowerClassesModel", "besideOf", "(II)I"⟩, 28) := ⟨⟨by decide +kernel, by decide +kernel⟩, List.mem_of_getElem? (i := 615) (by decide +kernel), List.mem_of_getElem? (i := 785) (by decide +kernel), List.mem_of_getElem? (i := 786) (by decide +kernel)⟩
theorem lw_p38 : lw_okq (⟨"PowerClassesModel", "timesOf", "(III)I"⟩, 28) := ⟨⟨by decide +kernel, by decide +kernel⟩, List.mem_of_getElem? (i := 615) (by decide +kernel), List.mem_of_getElem? (i := 797) (by decide +kernel), List.mem_of_getElem? (i := 798) (by decide +kernel)⟩
theorem lw_p39 : lw_okq (⟨"PowerClassesModel", "oppositeOf", "(I)I"⟩, 28) := ⟨⟨by decide +kernel, by decide +kernel⟩, List.mem_of_getElem? (i := 615) (by decide +kernel), List.mem_of_getElem? (i := 801) (by decide +kernel), List.mem_of_getElem? (i := 802) (by decide +kernel)⟩
theorem lw_p40 : lw_okq (⟨"PowerClassesModel", "raisedModulo", "(I)I"⟩, 28) := ⟨⟨by decide +kernel, by decide +kernel⟩, List.mem_of_getElem? (i := 615) (by decide +kernel), List.mem_of_getElem? (i := 817) (by decide +kernel), List.mem_of_getElem? (i := 818) (by decide +kernel)⟩
theorem lw_p41 : lw_okq (⟨"PowerClassesModel", "findsPolynomial", "()V"⟩, 28) := ⟨⟨by decide +kernel, by decide +kernel⟩, List.mem_of_getElem? (i := 615) (by decide +kernel), List.mem_of_getElem? (i := 826) (by decide +kernel), List.mem_of_getElem? (i := 827) (by decide +kernel)⟩
theorem lw_p42 : lw_okq (⟨"PowerClassesModel", "begins", "()V"⟩, 28) := ⟨⟨by decide +kernel, by decide +kernel⟩, List.mem_of_getElem? (i := 615) (by decide +kernel), List.mem_of_getElem? (i := 855) (by decide +kernel), List.mem_of_getElem? (i := 856) (by decide +kernel)⟩
theorem lw_p43 : lw_okq (⟨"PowerClassesModel", "becomesWhole", "(IJ)V"⟩, 28) := ⟨⟨by decide +kernel, by decide +kernel⟩, List.mem_of_getElem? (i := 615) (by decide +kernel), List.mem_of_getElem? (i := 859) (by decide +kernel), List.mem_of_getElem? (i := 860) (by decide +kernel)⟩
theorem lw_p44 : lw_okq (⟨"PowerClassesModel", "lays", "(I)I"⟩, 28) := ⟨⟨by decide +kernel, by decide +kernel⟩, List.mem_of_getElem? (i := 615) (by decide +kernel), List.mem_of_getElem? (i := 863) (by decide +kernel), List.mem_of_getElem? (i := 864) (by decide +kernel)⟩
theorem lw_p45 : lw_okq (⟨"PowerClassesModel", "areShelves", "(III)Z"⟩, 28) := ⟨⟨by decide +kernel, by decide +kernel⟩, List.mem_of_getElem? (i := 615) (by decide +kernel), List.mem_of_getElem? (i := 875) (by decide +kernel), List.mem_of_getElem? (i := 876) (by decide +kernel)⟩
theorem lw_p46 : lw_okq (⟨"PowerClassesModel", "takesBoth", "(II)V"⟩, 28) := ⟨⟨by decide +kernel, by decide +kernel⟩, List.mem_of_getElem? (i := 615) (by decide +kernel), List.mem_of_getElem? (i := 879) (by decide +kernel), List.mem_of_getElem? (i := 880) (by decide +kernel)⟩
theorem lw_p47 : lw_okq (⟨"PowerClassesModel", "takes", "(II)V"⟩, 28) := ⟨⟨by decide +kernel, by decide +kernel⟩, List.mem_of_getElem? (i := 615) (by decide +kernel), List.mem_of_getElem? (i := 883) (by decide +kernel), List.mem_of_getElem? (i := 884) (by decide +kernel)⟩
def lw_privs_3 : List (MethodName × Nat) := [(⟨"PowerClassesModel", "firstOf", "(I)I"⟩, 28), (⟨"PowerClassesModel", "classAt", "(I)I"⟩, 28), (⟨"PowerClassesModel", "generators", "()I"⟩, 28), (⟨"PowerClassesModel", "isNumber", "(I)Z"⟩, 28), (⟨"PowerClassesModel", "isClass", "(I)Z"⟩, 28), (⟨"PowerClassesModel", "besideOf", "(II)I"⟩, 28), (⟨"PowerClassesModel", "timesOf", "(III)I"⟩, 28), (⟨"PowerClassesModel", "oppositeOf", "(I)I"⟩, 28), (⟨"PowerClassesModel", "raisedModulo", "(I)I"⟩, 28), (⟨"PowerClassesModel", "findsPolynomial", "()V"⟩, 28), (⟨"PowerClassesModel", "begins", "()V"⟩, 28), (⟨"PowerClassesModel", "becomesWhole", "(IJ)V"⟩, 28), (⟨"PowerClassesModel", "lays", "(I)I"⟩, 28), (⟨"PowerClassesModel", "areShelves", "(III)Z"⟩, 28), (⟨"PowerClassesModel", "takesBoth", "(II)V"⟩, 28), (⟨"PowerClassesModel", "takes", "(II)V"⟩, 28)]
theorem lw_r3 : ∀ q ∈ lw_privs_3, lw_okq q := List.forall_mem_cons.mpr ⟨lw_p32, List.forall_mem_cons.mpr ⟨lw_p33, List.forall_mem_cons.mpr ⟨lw_p34, List.forall_mem_cons.mpr ⟨lw_p35, List.forall_mem_cons.mpr ⟨lw_p36, List.forall_mem_cons.mpr ⟨lw_p37, List.forall_mem_cons.mpr ⟨lw_p38, List.forall_mem_cons.mpr ⟨lw_p39, List.forall_mem_cons.mpr ⟨lw_p40, List.forall_mem_cons.mpr ⟨lw_p41, List.forall_mem_cons.mpr ⟨lw_p42, List.forall_mem_cons.mpr ⟨lw_p43, List.forall_mem_cons.mpr ⟨lw_p44, List.forall_mem_cons.mpr ⟨lw_p45, List.forall_mem_cons.mpr ⟨lw_p46, List.forall_mem_cons.mpr ⟨lw_p47, fun _ h => absurd h List.not_mem_nil⟩⟩⟩⟩⟩⟩⟩⟩⟩⟩⟩⟩⟩⟩⟩⟩
theorem lw_p48 : lw_okq (⟨"PowerClassesModel", "adds", "(IIZ)V"⟩, 28) := ⟨⟨by decide +kernel, by decide +kernel⟩, List.mem_of_getElem? (i := 615) (by decide +kernel), List.mem_of_getElem? (i := 887) (by decide +kernel), List.mem_of_getElem? (i := 888) (by decide +kernel)⟩
theorem lw_p49 : lw_okq (⟨"PowerClassesModel", "wrong", "(II)V"⟩, 28) := ⟨⟨by decide +kernel, by decide +kernel⟩, List.mem_of_getElem? (i := 615) (by decide +kernel), List.mem_of_getElem? (i := 897) (by decide +kernel), List.mem_of_getElem? (i := 898) (by decide +kernel)⟩
theorem lw_p50 : lw_okq (⟨"PowerClassesModel", "multiplies", "(II)V"⟩, 28) := ⟨⟨by decide +kernel, by decide +kernel⟩, List.mem_of_getElem? (i := 615) (by decide +kernel), List.mem_of_getElem? (i := 909) (by decide +kernel), List.mem_of_getElem? (i := 910) (by decide +kernel)⟩
theorem lw_p51 : lw_okq (⟨"PowerClassesModel", "productAt", "(III)J"⟩, 28) := ⟨⟨by decide +kernel, by decide +kernel⟩, List.mem_of_getElem? (i := 615) (by decide +kernel), List.mem_of_getElem? (i := 913) (by decide +kernel), List.mem_of_getElem? (i := 914) (by decide +kernel)⟩
theorem lw_p52 : lw_okq (⟨"PowerClassesModel", "opens", "(II)V"⟩, 28) := ⟨⟨by decide +kernel, by decide +kernel⟩, List.mem_of_getElem? (i := 615) (by decide +kernel), List.mem_of_getElem? (i := 925) (by decide +kernel), List.mem_of_getElem? (i := 926) (by decide +kernel)⟩
theorem lw_p53 : lw_okq (⟨"PowerClassesModel", "turns", "(III)V"⟩, 28) := ⟨⟨by decide +kernel, by decide +kernel⟩, List.mem_of_getElem? (i := 615) (by decide +kernel), List.mem_of_getElem? (i := 933) (by decide +kernel), List.mem_of_getElem? (i := 934) (by decide +kernel)⟩
theorem lw_p54 : lw_okq (⟨"PowerClassesModel", "sum", "(I)V"⟩, 28) := ⟨⟨by decide +kernel, by decide +kernel⟩, List.mem_of_getElem? (i := 615) (by decide +kernel), List.mem_of_getElem? (i := 971) (by decide +kernel), List.mem_of_getElem? (i := 972) (by decide +kernel)⟩
theorem lw_p55 : lw_okq (⟨"PowerClassesModel", "productTold", "(I)V"⟩, 28) := ⟨⟨by decide +kernel, by decide +kernel⟩, List.mem_of_getElem? (i := 615) (by decide +kernel), List.mem_of_getElem? (i := 975) (by decide +kernel), List.mem_of_getElem? (i := 976) (by decide +kernel)⟩
theorem lw_p56 : lw_okq (⟨"PowerClassesModel", "part", "(I)V"⟩, 28) := ⟨⟨by decide +kernel, by decide +kernel⟩, List.mem_of_getElem? (i := 615) (by decide +kernel), List.mem_of_getElem? (i := 979) (by decide +kernel), List.mem_of_getElem? (i := 980) (by decide +kernel)⟩
theorem lw_p57 : lw_okq (⟨"PowerClassesModel", "isFigure", "()Z"⟩, 28) := ⟨⟨by decide +kernel, by decide +kernel⟩, List.mem_of_getElem? (i := 615) (by decide +kernel), List.mem_of_getElem? (i := 983) (by decide +kernel), List.mem_of_getElem? (i := 984) (by decide +kernel)⟩
theorem lw_p58 : lw_okq (⟨"PowerClassesModel", "figures", "(I)I"⟩, 28) := ⟨⟨by decide +kernel, by decide +kernel⟩, List.mem_of_getElem? (i := 615) (by decide +kernel), List.mem_of_getElem? (i := 989) (by decide +kernel), List.mem_of_getElem? (i := 990) (by decide +kernel)⟩
theorem lw_p59 : lw_okq (⟨"PowerClassesModel", "faulty", "(I)V"⟩, 28) := ⟨⟨by decide +kernel, by decide +kernel⟩, List.mem_of_getElem? (i := 615) (by decide +kernel), List.mem_of_getElem? (i := 993) (by decide +kernel), List.mem_of_getElem? (i := 994) (by decide +kernel)⟩
theorem lw_p60 : lw_okq (⟨"PowerClassesModel", "isNext", "(I)Z"⟩, 28) := ⟨⟨by decide +kernel, by decide +kernel⟩, List.mem_of_getElem? (i := 615) (by decide +kernel), List.mem_of_getElem? (i := 997) (by decide +kernel), List.mem_of_getElem? (i := 998) (by decide +kernel)⟩
theorem lw_p61 : lw_okq (⟨"PowerClassesModel", "becomes", "(II)V"⟩, 28) := ⟨⟨by decide +kernel, by decide +kernel⟩, List.mem_of_getElem? (i := 615) (by decide +kernel), List.mem_of_getElem? (i := 1008) (by decide +kernel), List.mem_of_getElem? (i := 1009) (by decide +kernel)⟩
def lw_privs_4 : List (MethodName × Nat) := [(⟨"PowerClassesModel", "adds", "(IIZ)V"⟩, 28), (⟨"PowerClassesModel", "wrong", "(II)V"⟩, 28), (⟨"PowerClassesModel", "multiplies", "(II)V"⟩, 28), (⟨"PowerClassesModel", "productAt", "(III)J"⟩, 28), (⟨"PowerClassesModel", "opens", "(II)V"⟩, 28), (⟨"PowerClassesModel", "turns", "(III)V"⟩, 28), (⟨"PowerClassesModel", "sum", "(I)V"⟩, 28), (⟨"PowerClassesModel", "productTold", "(I)V"⟩, 28), (⟨"PowerClassesModel", "part", "(I)V"⟩, 28), (⟨"PowerClassesModel", "isFigure", "()Z"⟩, 28), (⟨"PowerClassesModel", "figures", "(I)I"⟩, 28), (⟨"PowerClassesModel", "faulty", "(I)V"⟩, 28), (⟨"PowerClassesModel", "isNext", "(I)Z"⟩, 28), (⟨"PowerClassesModel", "becomes", "(II)V"⟩, 28)]
theorem lw_r4 : ∀ q ∈ lw_privs_4, lw_okq q := List.forall_mem_cons.mpr ⟨lw_p48, List.forall_mem_cons.mpr ⟨lw_p49, List.forall_mem_cons.mpr ⟨lw_p50, List.forall_mem_cons.mpr ⟨lw_p51, List.forall_mem_cons.mpr ⟨lw_p52, List.forall_mem_cons.mpr ⟨lw_p53, List.forall_mem_cons.mpr ⟨lw_p54, List.forall_mem_cons.mpr ⟨lw_p55, List.forall_mem_cons.mpr ⟨lw_p56, List.forall_mem_cons.mpr ⟨lw_p57, List.forall_mem_cons.mpr ⟨lw_p58, List.forall_mem_cons.mpr ⟨lw_p59, List.forall_mem_cons.mpr ⟨lw_p60, List.forall_mem_cons.mpr ⟨lw_p61, fun _ h => absurd h List.not_mem_nil⟩⟩⟩⟩⟩⟩⟩⟩⟩⟩⟩⟩⟩⟩
def lw_privs : List (MethodName × Nat) := lw_privs_1 ++ (lw_privs_2 ++ (lw_privs_3 ++ (lw_privs_4)))
def lw_tbl : List Cond := k2_sels lw_privs ++ tables_1
theorem lw_privs_ok : ∀ q ∈ lw_privs, lw_okq q := by
  show ∀ q ∈ lw_privs_1 ++ (lw_privs_2 ++ (lw_privs_3 ++ (lw_privs_4))), lw_okq q
  exact List.forall_mem_append.mpr ⟨lw_r1, List.forall_mem_append.mpr ⟨lw_r2, List.forall_mem_append.mpr ⟨lw_r3, lw_r4⟩⟩⟩def RX0 : String := "PowerClasses$Classes"
def TX0 : u_T := fun k => match k with
  | 0 => ("PowerClasses$Classes", "p", "I", false)
  | 1 => ("PowerClasses$Classes", "e", "I", false)
  | 2 => ("PowerClasses$Classes", "f", "I", false)
  | 3 => ("PowerClasses$Classes", "g", "I", false)
  | 4 => ("PowerClasses$Classes", "generatorCount", "I", false)
  | 5 => ("PowerClasses$Classes", "generators", "[I", true)
  | 6 => ("PowerClasses$Classes", "powers", "[I", true)
  | 7 => ("PowerClasses$Classes", "raised", "[I", true)
  | 8 => ("PowerClasses$Classes", "neighbours", "[I", true)
  | 9 => ("PowerClasses$Classes", "factors", "[I", true)
  | 10 => ("PowerClasses$Classes", "coefficients", "[J", true)
  | 11 => ("PowerClasses$Classes", "powerSums", "[J", true)
  | 12 => ("PowerClasses$Classes", "periodPower", "[J", true)
  | _ => ("PowerClasses$Classes", "nextPower", "[J", true)
def tyX0 : Nat → FieldType := fun k => match k with
  | 0 => .int
  | 1 => .int
  | 2 => .int
  | 3 => .int
  | 4 => .int
  | 5 => .array .int
  | 6 => .array .int
  | 7 => .array .int
  | 8 => .array .int
  | 9 => .array .int
  | 10 => .array .long
  | 11 => .array .long
  | 12 => .array .long
  | _ => .array .long
abbrev wsX00 : List Cond := u_ws RX0 TX0 14
theorem nmX0 : ∀ a, a < 14 → ∀ b, b < 14 → a ≠ b → (TX0 a).2.1 ≠ (TX0 b).2.1 := by decide +kernel
theorem tyX0_ok : ∀ k, k < 14 → parseFieldDescriptor (TX0 k).2.2.1 = some (tyX0 k) := by decide +kernel
abbrev cX0_init : ByteArray := prog_2_method_1_code
def yX0_init : MethodName := ⟨RX0, "<init>", "(II)V"⟩
abbrev cX0_settle : ByteArray := prog_2_method_2_code
def yX0_settle : MethodName := ⟨RX0, "settle", "(II)V"⟩
abbrev cX0_takeGenerator : ByteArray := prog_2_method_3_code
def yX0_takeGenerator : MethodName := ⟨RX0, "takeGenerator", "(I)V"⟩
abbrev cX0_isGenerator : ByteArray := prog_2_method_4_code
def yX0_isGenerator : MethodName := ⟨RX0, "isGenerator", "(I)Z"⟩
abbrev cX0_oppositeOf : ByteArray := prog_2_method_5_code
def yX0_oppositeOf : MethodName := ⟨RX0, "oppositeOf", "(I)I"⟩
abbrev cX0_classNumber : ByteArray := prog_2_method_6_code
def yX0_classNumber : MethodName := ⟨RX0, "classNumber", "(I)I"⟩
abbrev cX0_findGenerators : ByteArray := prog_2_method_7_code
def yX0_findGenerators : MethodName := ⟨RX0, "findGenerators", "()V"⟩
abbrev cX0_findRaised : ByteArray := prog_2_method_8_code
def yX0_findRaised : MethodName := ⟨RX0, "findRaised", "()V"⟩
abbrev cX0_findPowers : ByteArray := prog_2_method_9_code
def yX0_findPowers : MethodName := ⟨RX0, "findPowers", "()V"⟩
abbrev cX0_findNeighbours : ByteArray := prog_2_method_10_code
def yX0_findNeighbours : MethodName := ⟨RX0, "findNeighbours", "()V"⟩
abbrev cX0_findFactors : ByteArray := prog_2_method_11_code
def yX0_findFactors : MethodName := ⟨RX0, "findFactors", "()V"⟩
abbrev cX0_countMeetings : ByteArray := prog_2_method_12_code
def yX0_countMeetings : MethodName := ⟨RX0, "countMeetings", "(II)V"⟩
abbrev cX0_findPolynomial : ByteArray := prog_2_method_13_code
def yX0_findPolynomial : MethodName := ⟨RX0, "findPolynomial", "()V"⟩
abbrev cX0_findPowerSums : ByteArray := prog_2_method_14_code
def yX0_findPowerSums : MethodName := ⟨RX0, "findPowerSums", "()V"⟩
abbrev cX0_multiplyByFirstPeriod : ByteArray := prog_2_method_15_code
def yX0_multiplyByFirstPeriod : MethodName := ⟨RX0, "multiplyByFirstPeriod", "()V"⟩
def RX1 : String := "PowerClasses$Reader"
def TX1 : u_T := fun k => match k with
  | 0 => ("PowerClasses$Reader", "classes", "LPowerClasses$Classes;", true)
  | 1 => ("PowerClasses$Reader", "reckoner", "LPowerClasses$Reckoner;", true)
  | 2 => ("PowerClasses$Reader", "troubles", "LPowerClasses$Troubles;", true)
  | 3 => ("PowerClasses$Reader", "tape", "[B", true)
  | 4 => ("PowerClasses$Reader", "sums", "[[J", true)
  | 5 => ("PowerClasses$Reader", "products", "[[J", true)
  | 6 => ("PowerClasses$Reader", "parts", "[[J", true)
  | 7 => ("PowerClasses$Reader", "length", "I", false)
  | 8 => ("PowerClasses$Reader", "place", "I", false)
  | _ => ("PowerClasses$Reader", "fault", "I", false)
def tyX1 : Nat → FieldType := fun k => match k with
  | 0 => .object "PowerClasses$Classes"
  | 1 => .object "PowerClasses$Reckoner"
  | 2 => .object "PowerClasses$Troubles"
  | 3 => .array .byte
  | 4 => .array (.array .long)
  | 5 => .array (.array .long)
  | 6 => .array (.array .long)
  | 7 => .int
  | 8 => .int
  | _ => .int
abbrev wsX10 : List Cond := u_ws RX1 TX1 10
theorem nmX1 : ∀ a, a < 10 → ∀ b, b < 10 → a ≠ b → (TX1 a).2.1 ≠ (TX1 b).2.1 := by decide +kernel
theorem tyX1_ok : ∀ k, k < 10 → parseFieldDescriptor (TX1 k).2.2.1 = some (tyX1 k) := by decide +kernel
abbrev cX1_init : ByteArray := prog_3_method_1_code
def yX1_init : MethodName := ⟨RX1, "<init>", "(LPowerClasses$Classes;LPowerClasses$Reckoner;LPowerClasses$Troubles;)V"⟩
abbrev cX1_append : ByteArray := prog_3_method_2_code
def yX1_append : MethodName := ⟨RX1, "append", "(I)V"⟩
abbrev cX1_readTo : ByteArray := prog_3_method_3_code
def yX1_readTo : MethodName := ⟨RX1, "readTo", "([J)I"⟩
abbrev cX1_readSum : ByteArray := prog_3_method_4_code
def yX1_readSum : MethodName := ⟨RX1, "readSum", "(I)Z"⟩
abbrev cX1_joinProduct : ByteArray := prog_3_method_5_code
def yX1_joinProduct : MethodName := ⟨RX1, "joinProduct", "(ZI)Z"⟩
abbrev cX1_readProduct : ByteArray := prog_3_method_6_code
def yX1_readProduct : MethodName := ⟨RX1, "readProduct", "(I)Z"⟩
abbrev cX1_readPart : ByteArray := prog_3_method_7_code
def yX1_readPart : MethodName := ⟨RX1, "readPart", "(I)Z"⟩
abbrev cX1_readPeriod : ByteArray := prog_3_method_8_code
def yX1_readPeriod : MethodName := ⟨RX1, "readPeriod", "([J)Z"⟩
abbrev cX1_readBracket : ByteArray := prog_3_method_9_code
def yX1_readBracket : MethodName := ⟨RX1, "readBracket", "(I)Z"⟩
abbrev cX1_readFigures : ByteArray := prog_3_method_10_code
def yX1_readFigures : MethodName := ⟨RX1, "readFigures", "(I)I"⟩
abbrev cX1_faultAt : ByteArray := prog_3_method_11_code
def yX1_faultAt : MethodName := ⟨RX1, "faultAt", "(I)Z"⟩
abbrev cX1_letter : ByteArray := prog_3_method_12_code
def yX1_letter : MethodName := ⟨RX1, "letter", "()I"⟩
abbrev cX1_isSign : ByteArray := prog_3_method_13_code
def yX1_isSign : MethodName := ⟨RX1, "isSign", "(I)Z"⟩
abbrev cX1_isFigure : ByteArray := prog_3_method_14_code
def yX1_isFigure : MethodName := ⟨RX1, "isFigure", "(I)Z"⟩
def RX2 : String := "PowerClasses$Reckoner"
def TX2 : u_T := fun k => match k with
  | 0 => ("PowerClasses$Reckoner", "classes", "LPowerClasses$Classes;", true)
  | 1 => ("PowerClasses$Reckoner", "troubles", "LPowerClasses$Troubles;", true)
  | 2 => ("PowerClasses$Reckoner", "result", "[J", true)
  | 3 => ("PowerClasses$Reckoner", "grown", "[J", true)
  | _ => ("PowerClasses$Reckoner", "turned", "[J", true)
def tyX2 : Nat → FieldType := fun k => match k with
  | 0 => .object "PowerClasses$Classes"
  | 1 => .object "PowerClasses$Troubles"
  | 2 => .array .long
  | 3 => .array .long
  | _ => .array .long
abbrev wsX20 : List Cond := u_ws RX2 TX2 5
theorem nmX2 : ∀ a, a < 5 → ∀ b, b < 5 → a ≠ b → (TX2 a).2.1 ≠ (TX2 b).2.1 := by decide +kernel
theorem tyX2_ok : ∀ k, k < 5 → parseFieldDescriptor (TX2 k).2.2.1 = some (tyX2 k) := by decide +kernel
abbrev cX2_init : ByteArray := prog_4_method_1_code
def yX2_init : MethodName := ⟨RX2, "<init>", "(LPowerClasses$Classes;LPowerClasses$Troubles;)V"⟩
abbrev cX2_sum : ByteArray := prog_4_method_2_code
def yX2_sum : MethodName := ⟨RX2, "sum", "([J[J[J)Z"⟩
abbrev cX2_difference : ByteArray := prog_4_method_3_code
def yX2_difference : MethodName := ⟨RX2, "difference", "([J[J[J)Z"⟩
abbrev cX2_multiply : ByteArray := prog_4_method_4_code
def yX2_multiply : MethodName := ⟨RX2, "multiply", "([J[J[J)Z"⟩
abbrev cX2_multiplyAt : ByteArray := prog_4_method_5_code
def yX2_multiplyAt : MethodName := ⟨RX2, "multiplyAt", "(I[J[J)Z"⟩
abbrev cX2_multiplyOften : ByteArray := prog_4_method_6_code
def yX2_multiplyOften : MethodName := ⟨RX2, "multiplyOften", "([JI[J)Z"⟩
abbrev cX2_grow : ByteArray := prog_4_method_7_code
def yX2_grow : MethodName := ⟨RX2, "grow", "([JI)Z"⟩
abbrev cX2_turnRow : ByteArray := prog_4_method_8_code
def yX2_turnRow : MethodName := ⟨RX2, "turnRow", "([JI[J)V"⟩
abbrev cX2_normOf : ByteArray := prog_4_method_9_code
def yX2_normOf : MethodName := ⟨RX2, "normOf", "([J)J"⟩
abbrev cX2_traceOf : ByteArray := prog_4_method_10_code
def yX2_traceOf : MethodName := ⟨RX2, "traceOf", "([J)J"⟩
abbrev cX2_negated : ByteArray := prog_4_method_11_code
def yX2_negated : MethodName := ⟨RX2, "negated", "(J)J"⟩
abbrev cX2_sumFits : ByteArray := prog_4_method_12_code
def yX2_sumFits : MethodName := ⟨RX2, "sumFits", "(JJ)Z"⟩
abbrev cX2_differenceFits : ByteArray := prog_4_method_13_code
def yX2_differenceFits : MethodName := ⟨RX2, "differenceFits", "(JJ)Z"⟩
abbrev cX2_productFits : ByteArray := prog_4_method_14_code
def yX2_productFits : MethodName := ⟨RX2, "productFits", "(JJ)Z"⟩
def RX3 : String := "PowerClasses$Troubles"
def TX3 : u_T := fun k => match k with
  | 0 => ("PowerClasses$Troubles", "toldCount", "I", false)
  | 1 => ("PowerClasses$Troubles", "toldSorts", "[I", true)
  | 2 => ("PowerClasses$Troubles", "toldNumbers", "[I", true)
  | 3 => ("PowerClasses$Troubles", "openCount", "I", false)
  | 4 => ("PowerClasses$Troubles", "openSorts", "[I", true)
  | _ => ("PowerClasses$Troubles", "openNumbers", "[I", true)
def tyX3 : Nat → FieldType := fun k => match k with
  | 0 => .int
  | 1 => .array .int
  | 2 => .array .int
  | 3 => .int
  | 4 => .array .int
  | _ => .array .int
abbrev wsX30 : List Cond := u_ws RX3 TX3 6
theorem nmX3 : ∀ a, a < 6 → ∀ b, b < 6 → a ≠ b → (TX3 a).2.1 ≠ (TX3 b).2.1 := by decide +kernel
theorem tyX3_ok : ∀ k, k < 6 → parseFieldDescriptor (TX3 k).2.2.1 = some (tyX3 k) := by decide +kernel
abbrev cX3_init : ByteArray := prog_5_method_1_code
def yX3_init : MethodName := ⟨RX3, "<init>", "()V"⟩
abbrev cX3_enter : ByteArray := prog_5_method_2_code
def yX3_enter : MethodName := ⟨RX3, "enter", "(II)V"⟩
abbrev cX3_leave : ByteArray := prog_5_method_3_code
def yX3_leave : MethodName := ⟨RX3, "leave", "()V"⟩
abbrev cX3_report : ByteArray := prog_5_method_4_code
def yX3_report : MethodName := ⟨RX3, "report", "(II)Z"⟩
def RX4 : String := "PowerClasses"
def TX4 : u_T := fun k => match k with
  | 0 => ("PowerClasses", "classes", "LPowerClasses$Classes;", true)
  | 1 => ("PowerClasses", "troubles", "LPowerClasses$Troubles;", true)
  | 2 => ("PowerClasses", "reckoner", "LPowerClasses$Reckoner;", true)
  | 3 => ("PowerClasses", "reader", "LPowerClasses$Reader;", true)
  | 4 => ("PowerClasses", "shelves", "[[J", true)
  | 5 => ("PowerClasses", "lists", "[[J", true)
  | 6 => ("PowerClasses", "sizes", "[I", true)
  | 7 => ("PowerClasses", "imageShelves", "[[J", true)
  | 8 => ("PowerClasses", "imageTaken", "Z", false)
  | 9 => ("PowerClasses", "imagePrime", "I", false)
  | 10 => ("PowerClasses", "imageClasses", "I", false)
  | _ => ("PowerClasses", "imageGenerator", "I", false)
def tyX4 : Nat → FieldType := fun k => match k with
  | 0 => .object "PowerClasses$Classes"
  | 1 => .object "PowerClasses$Troubles"
  | 2 => .object "PowerClasses$Reckoner"
  | 3 => .object "PowerClasses$Reader"
  | 4 => .array (.array .long)
  | 5 => .array (.array .long)
  | 6 => .array .int
  | 7 => .array (.array .long)
  | 8 => .boolean
  | 9 => .int
  | 10 => .int
  | _ => .int
abbrev wsX40 : List Cond := u_ws RX4 TX4 12
theorem nmX4 : ∀ a, a < 12 → ∀ b, b < 12 → a ≠ b → (TX4 a).2.1 ≠ (TX4 b).2.1 := by decide +kernel
theorem tyX4_ok : ∀ k, k < 12 → parseFieldDescriptor (TX4 k).2.2.1 = some (tyX4 k) := by decide +kernel
abbrev cX4_init : ByteArray := prog_1_method_1_code
def yX4_init : MethodName := ⟨RX4, "<init>", "()V"⟩
abbrev cX4_field : ByteArray := prog_1_method_2_code
def yX4_field : MethodName := ⟨RX4, "field", "(II)I"⟩
abbrev cX4_told : ByteArray := prog_1_method_3_code
def yX4_told : MethodName := ⟨RX4, "told", "(I)I"⟩
abbrev cX4_generator : ByteArray := prog_1_method_4_code
def yX4_generator : MethodName := ⟨RX4, "generator", "(I)I"⟩
abbrev cX4_use : ByteArray := prog_1_method_5_code
def yX4_use : MethodName := ⟨RX4, "use", "(I)I"⟩
abbrev cX4_power : ByteArray := prog_1_method_6_code
def yX4_power : MethodName := ⟨RX4, "power", "(I)I"⟩
abbrev cX4_classOf : ByteArray := prog_1_method_7_code
def yX4_classOf : MethodName := ⟨RX4, "classOf", "(I)I"⟩
abbrev cX4_member : ByteArray := prog_1_method_8_code
def yX4_member : MethodName := ⟨RX4, "member", "(II)I"⟩
abbrev cX4_beside : ByteArray := prog_1_method_9_code
def yX4_beside : MethodName := ⟨RX4, "beside", "(II)I"⟩
abbrev cX4_meets : ByteArray := prog_1_method_10_code
def yX4_meets : MethodName := ⟨RX4, "meets", "(III)I"⟩
abbrev cX4_times : ByteArray := prog_1_method_11_code
def yX4_times : MethodName := ⟨RX4, "times", "(III)I"⟩
abbrev cX4_opposite : ByteArray := prog_1_method_12_code
def yX4_opposite : MethodName := ⟨RX4, "opposite", "(I)I"⟩
abbrev cX4_around : ByteArray := prog_1_method_13_code
def yX4_around : MethodName := ⟨RX4, "around", "(II)I"⟩
abbrev cX4_solved : ByteArray := prog_1_method_14_code
def yX4_solved : MethodName := ⟨RX4, "solved", "(III)I"⟩
abbrev cX4_polynomial : ByteArray := prog_1_method_15_code
def yX4_polynomial : MethodName := ⟨RX4, "polynomial", "(I)J"⟩
abbrev cX4_roots : ByteArray := prog_1_method_16_code
def yX4_roots : MethodName := ⟨RX4, "roots", "(I)I"⟩
abbrev cX4_put : ByteArray := prog_1_method_17_code
def yX4_put : MethodName := ⟨RX4, "put", "(IIJ)I"⟩
abbrev cX4_of : ByteArray := prog_1_method_18_code
def yX4_of : MethodName := ⟨RX4, "of", "(II)J"⟩
abbrev cX4_whole : ByteArray := prog_1_method_19_code
def yX4_whole : MethodName := ⟨RX4, "whole", "(II)I"⟩
abbrev cX4_period : ByteArray := prog_1_method_20_code
def yX4_period : MethodName := ⟨RX4, "period", "(II)I"⟩
abbrev cX4_add : ByteArray := prog_1_method_21_code
def yX4_add : MethodName := ⟨RX4, "add", "(III)I"⟩
abbrev cX4_less : ByteArray := prog_1_method_22_code
def yX4_less : MethodName := ⟨RX4, "less", "(III)I"⟩
abbrev cX4_product : ByteArray := prog_1_method_23_code
def yX4_product : MethodName := ⟨RX4, "product", "(III)I"⟩
abbrev cX4_raise : ByteArray := prog_1_method_24_code
def yX4_raise : MethodName := ⟨RX4, "raise", "(III)I"⟩
abbrev cX4_turn : ByteArray := prog_1_method_25_code
def yX4_turn : MethodName := ⟨RX4, "turn", "(III)I"⟩
abbrev cX4_norm : ByteArray := prog_1_method_26_code
def yX4_norm : MethodName := ⟨RX4, "norm", "(I)J"⟩
abbrev cX4_trace : ByteArray := prog_1_method_27_code
def yX4_trace : MethodName := ⟨RX4, "trace", "(I)J"⟩
abbrev cX4_isWhole : ByteArray := prog_1_method_28_code
def yX4_isWhole : MethodName := ⟨RX4, "isWhole", "(I)I"⟩
abbrev cX4_alike : ByteArray := prog_1_method_29_code
def yX4_alike : MethodName := ⟨RX4, "alike", "(II)I"⟩
abbrev cX4_why : ByteArray := prog_1_method_30_code
def yX4_why : MethodName := ⟨RX4, "why", "(II)I"⟩
abbrev cX4_feed : ByteArray := prog_1_method_31_code
def yX4_feed : MethodName := ⟨RX4, "feed", "(I)I"⟩
abbrev cX4_wipe : ByteArray := prog_1_method_32_code
def yX4_wipe : MethodName := ⟨RX4, "wipe", "()I"⟩
abbrev cX4_read : ByteArray := prog_1_method_33_code
def yX4_read : MethodName := ⟨RX4, "read", "(I)I"⟩
abbrev cX4_list : ByteArray := prog_1_method_34_code
def yX4_list : MethodName := ⟨RX4, "list", "(II)I"⟩
abbrev cX4_lay : ByteArray := prog_1_method_35_code
def yX4_lay : MethodName := ⟨RX4, "lay", "(IIJ)I"⟩
abbrev cX4_get : ByteArray := prog_1_method_36_code
def yX4_get : MethodName := ⟨RX4, "get", "(II)J"⟩
abbrev cX4_film : ByteArray := prog_1_method_37_code
def yX4_film : MethodName := ⟨RX4, "film", "(II)I"⟩
abbrev cX4_judge : ByteArray := prog_1_method_38_code
def yX4_judge : MethodName := ⟨RX4, "judge", "(II)I"⟩
abbrev cX4_image : ByteArray := prog_1_method_39_code
def yX4_image : MethodName := ⟨RX4, "image", "()I"⟩
abbrev cX4_undo : ByteArray := prog_1_method_40_code
def yX4_undo : MethodName := ⟨RX4, "undo", "()I"⟩
abbrev cX4_count : ByteArray := prog_1_method_41_code
def yX4_count : MethodName := ⟨RX4, "count", "(I)I"⟩
abbrev cX4_listsThere : ByteArray := prog_1_method_42_code
def yX4_listsThere : MethodName := ⟨RX4, "listsThere", "()I"⟩
abbrev cX4_shelvesInUse : ByteArray := prog_1_method_43_code
def yX4_shelvesInUse : MethodName := ⟨RX4, "shelvesInUse", "()I"⟩
abbrev cX4_isZero : ByteArray := prog_1_method_44_code
def yX4_isZero : MethodName := ⟨RX4, "isZero", "([J)Z"⟩
abbrev cX4_isTurnedBy : ByteArray := prog_1_method_45_code
def yX4_isTurnedBy : MethodName := ⟨RX4, "isTurnedBy", "([JI[J)Z"⟩
abbrev cX4_isClass : ByteArray := prog_1_method_46_code
def yX4_isClass : MethodName := ⟨RX4, "isClass", "(I)Z"⟩
abbrev cX4_isNumberOfPrime : ByteArray := prog_1_method_47_code
def yX4_isNumberOfPrime : MethodName := ⟨RX4, "isNumberOfPrime", "(I)Z"⟩
abbrev cX4_isRest : ByteArray := prog_1_method_48_code
def yX4_isRest : MethodName := ⟨RX4, "isRest", "(I)Z"⟩
abbrev cX4_isShelf : ByteArray := prog_1_method_49_code
def yX4_isShelf : MethodName := ⟨RX4, "isShelf", "(I)Z"⟩
abbrev cX4_isList : ByteArray := prog_1_method_50_code
def yX4_isList : MethodName := ⟨RX4, "isList", "(I)Z"⟩
abbrev cX4_isOddPrime : ByteArray := prog_1_method_51_code
def yX4_isOddPrime : MethodName := ⟨RX4, "isOddPrime", "(I)Z"⟩
abbrev cX4_factorIndex : ByteArray := prog_1_method_52_code
def yX4_factorIndex : MethodName := ⟨RX4, "factorIndex", "(III)I"⟩
abbrev cX4_setWhole : ByteArray := prog_1_method_53_code
def yX4_setWhole : MethodName := ⟨RX4, "setWhole", "([JI)V"⟩
abbrev cX4_setPeriod : ByteArray := prog_1_method_54_code
def yX4_setPeriod : MethodName := ⟨RX4, "setPeriod", "([JI)V"⟩
abbrev cX4_copyRow : ByteArray := prog_1_method_55_code
def yX4_copyRow : MethodName := ⟨RX4, "copyRow", "([J[J)V"⟩
def RX5 : String := "PowerClassesModel"
def TX5 : u_T := fun k => match k with
  | 0 => ("PowerClassesModel", "p", "I", false)
  | 1 => ("PowerClassesModel", "e", "I", false)
  | 2 => ("PowerClassesModel", "g", "I", false)
  | 3 => ("PowerClassesModel", "powerOf", "[I", true)
  | 4 => ("PowerClassesModel", "table", "[I", true)
  | 5 => ("PowerClassesModel", "shelves", "[J", true)
  | 6 => ("PowerClassesModel", "terms", "[J", true)
  | 7 => ("PowerClassesModel", "next", "[J", true)
  | 8 => ("PowerClassesModel", "openSort", "[I", true)
  | 9 => ("PowerClassesModel", "openNumber", "[I", true)
  | 10 => ("PowerClassesModel", "open", "I", false)
  | 11 => ("PowerClassesModel", "sorts", "[I", true)
  | 12 => ("PowerClassesModel", "numbers", "[I", true)
  | 13 => ("PowerClassesModel", "troubles", "I", false)
  | 14 => ("PowerClassesModel", "isWrong", "Z", false)
  | 15 => ("PowerClassesModel", "made", "[J", true)
  | 16 => ("PowerClassesModel", "product", "[J", true)
  | 17 => ("PowerClassesModel", "tape", "[I", true)
  | 18 => ("PowerClassesModel", "length", "I", false)
  | 19 => ("PowerClassesModel", "place", "I", false)
  | 20 => ("PowerClassesModel", "fault", "I", false)
  | 21 => ("PowerClassesModel", "lists", "[J", true)
  | 22 => ("PowerClassesModel", "sizes", "[I", true)
  | 23 => ("PowerClassesModel", "hadP", "I", false)
  | 24 => ("PowerClassesModel", "hadE", "I", false)
  | 25 => ("PowerClassesModel", "hadG", "I", false)
  | 26 => ("PowerClassesModel", "hadShelves", "[J", true)
  | _ => ("PowerClassesModel", "hasImage", "Z", false)
def tyX5 : Nat → FieldType := fun k => match k with
  | 0 => .int
  | 1 => .int
  | 2 => .int
  | 3 => .array .int
  | 4 => .array .int
  | 5 => .array .long
  | 6 => .array .long
  | 7 => .array .long
  | 8 => .array .int
  | 9 => .array .int
  | 10 => .int
  | 11 => .array .int
  | 12 => .array .int
  | 13 => .int
  | 14 => .boolean
  | 15 => .array .long
  | 16 => .array .long
  | 17 => .array .int
  | 18 => .int
  | 19 => .int
  | 20 => .int
  | 21 => .array .long
  | 22 => .array .int
  | 23 => .int
  | 24 => .int
  | 25 => .int
  | 26 => .array .long
  | _ => .boolean
abbrev wsX50 : List Cond := u_ws RX5 TX5 28
theorem nmX5 : ∀ a, a < 28 → ∀ b, b < 28 → a ≠ b → (TX5 a).2.1 ≠ (TX5 b).2.1 := by decide +kernel
theorem tyX5_ok : ∀ k, k < 28 → parseFieldDescriptor (TX5 k).2.2.1 = some (tyX5 k) := by decide +kernel
abbrev cX5_init : ByteArray := prog_7_method_1_code
def yX5_init : MethodName := ⟨RX5, "<init>", "()V"⟩
abbrev cX5_in : ByteArray := prog_7_method_2_code
def yX5_in : MethodName := ⟨RX5, "in", "(JJJ)Z"⟩
abbrev cX5_bit : ByteArray := prog_7_method_3_code
def yX5_bit : MethodName := ⟨RX5, "bit", "(Z)I"⟩
abbrev cX5_isPrime : ByteArray := prog_7_method_4_code
def yX5_isPrime : MethodName := ⟨RX5, "isPrime", "(I)Z"⟩
abbrev cX5_isGenerator : ByteArray := prog_7_method_5_code
def yX5_isGenerator : MethodName := ⟨RX5, "isGenerator", "(I)Z"⟩
abbrev cX5_begins : ByteArray := prog_7_method_6_code
def yX5_begins : MethodName := ⟨RX5, "begins", "(II)V"⟩
abbrev cX5_findsClasses : ByteArray := prog_7_method_7_code
def yX5_findsClasses : MethodName := ⟨RX5, "findsClasses", "()V"⟩
abbrev cX5_at : ByteArray := prog_7_method_8_code
def yX5_at : MethodName := ⟨RX5, "at", "(III)I"⟩
abbrev cX5_classAt : ByteArray := prog_7_method_9_code
def yX5_classAt : MethodName := ⟨RX5, "classAt", "(I)I"⟩
abbrev cX5_firstOf : ByteArray := prog_7_method_10_code
def yX5_firstOf : MethodName := ⟨RX5, "firstOf", "(I)I"⟩
abbrev cX5_isClass : ByteArray := prog_7_method_11_code
def yX5_isClass : MethodName := ⟨RX5, "isClass", "(I)Z"⟩
abbrev cX5_isNumber : ByteArray := prog_7_method_12_code
def yX5_isNumber : MethodName := ⟨RX5, "isNumber", "(I)Z"⟩
abbrev cX5_field : ByteArray := prog_7_method_13_code
def yX5_field : MethodName := ⟨RX5, "field", "(II)I"⟩
abbrev cX5_generators : ByteArray := prog_7_method_14_code
def yX5_generators : MethodName := ⟨RX5, "generators", "()I"⟩
abbrev cX5_told : ByteArray := prog_7_method_15_code
def yX5_told : MethodName := ⟨RX5, "told", "(I)I"⟩
abbrev cX5_generator : ByteArray := prog_7_method_16_code
def yX5_generator : MethodName := ⟨RX5, "generator", "(I)I"⟩
abbrev cX5_use : ByteArray := prog_7_method_17_code
def yX5_use : MethodName := ⟨RX5, "use", "(I)I"⟩
abbrev cX5_power : ByteArray := prog_7_method_18_code
def yX5_power : MethodName := ⟨RX5, "power", "(I)I"⟩
abbrev cX5_classOf : ByteArray := prog_7_method_19_code
def yX5_classOf : MethodName := ⟨RX5, "classOf", "(I)I"⟩
abbrev cX5_member : ByteArray := prog_7_method_20_code
def yX5_member : MethodName := ⟨RX5, "member", "(II)I"⟩
abbrev cX5_besideOf : ByteArray := prog_7_method_21_code
def yX5_besideOf : MethodName := ⟨RX5, "besideOf", "(II)I"⟩
abbrev cX5_beside : ByteArray := prog_7_method_22_code
def yX5_beside : MethodName := ⟨RX5, "beside", "(II)I"⟩
abbrev cX5_meets : ByteArray := prog_7_method_23_code
def yX5_meets : MethodName := ⟨RX5, "meets", "(III)I"⟩
abbrev cX5_oppositeOf : ByteArray := prog_7_method_24_code
def yX5_oppositeOf : MethodName := ⟨RX5, "oppositeOf", "(I)I"⟩
abbrev cX5_timesOf : ByteArray := prog_7_method_25_code
def yX5_timesOf : MethodName := ⟨RX5, "timesOf", "(III)I"⟩
abbrev cX5_times : ByteArray := prog_7_method_26_code
def yX5_times : MethodName := ⟨RX5, "times", "(III)I"⟩
abbrev cX5_opposite : ByteArray := prog_7_method_27_code
def yX5_opposite : MethodName := ⟨RX5, "opposite", "(I)I"⟩
abbrev cX5_around : ByteArray := prog_7_method_28_code
def yX5_around : MethodName := ⟨RX5, "around", "(II)I"⟩
abbrev cX5_raisedModulo : ByteArray := prog_7_method_29_code
def yX5_raisedModulo : MethodName := ⟨RX5, "raisedModulo", "(I)I"⟩
abbrev cX5_solved : ByteArray := prog_7_method_30_code
def yX5_solved : MethodName := ⟨RX5, "solved", "(III)I"⟩
abbrev cX5_findsPolynomial : ByteArray := prog_7_method_31_code
def yX5_findsPolynomial : MethodName := ⟨RX5, "findsPolynomial", "()V"⟩
abbrev cX5_polynomial : ByteArray := prog_7_method_32_code
def yX5_polynomial : MethodName := ⟨RX5, "polynomial", "(I)J"⟩
abbrev cX5_roots : ByteArray := prog_7_method_33_code
def yX5_roots : MethodName := ⟨RX5, "roots", "(I)I"⟩
abbrev cX5_begins_ : ByteArray := prog_7_method_34_code
def yX5_begins_ : MethodName := ⟨RX5, "begins", "()V"⟩
abbrev cX5_opens : ByteArray := prog_7_method_35_code
def yX5_opens : MethodName := ⟨RX5, "opens", "(II)V"⟩
abbrev cX5_wrong : ByteArray := prog_7_method_36_code
def yX5_wrong : MethodName := ⟨RX5, "wrong", "(II)V"⟩
abbrev cX5_isSumOver : ByteArray := prog_7_method_37_code
def yX5_isSumOver : MethodName := ⟨RX5, "isSumOver", "(JJ)Z"⟩
abbrev cX5_isLessOver : ByteArray := prog_7_method_38_code
def yX5_isLessOver : MethodName := ⟨RX5, "isLessOver", "(JJ)Z"⟩
abbrev cX5_isProductOver : ByteArray := prog_7_method_39_code
def yX5_isProductOver : MethodName := ⟨RX5, "isProductOver", "(JJ)Z"⟩
abbrev cX5_productAt : ByteArray := prog_7_method_40_code
def yX5_productAt : MethodName := ⟨RX5, "productAt", "(III)J"⟩
abbrev cX5_multiplies : ByteArray := prog_7_method_41_code
def yX5_multiplies : MethodName := ⟨RX5, "multiplies", "(II)V"⟩
abbrev cX5_adds : ByteArray := prog_7_method_42_code
def yX5_adds : MethodName := ⟨RX5, "adds", "(IIZ)V"⟩
abbrev cX5_takes : ByteArray := prog_7_method_43_code
def yX5_takes : MethodName := ⟨RX5, "takes", "(II)V"⟩
abbrev cX5_becomesWhole : ByteArray := prog_7_method_44_code
def yX5_becomesWhole : MethodName := ⟨RX5, "becomesWhole", "(IJ)V"⟩
abbrev cX5_lays : ByteArray := prog_7_method_45_code
def yX5_lays : MethodName := ⟨RX5, "lays", "(I)I"⟩
abbrev cX5_isShelf : ByteArray := prog_7_method_46_code
def yX5_isShelf : MethodName := ⟨RX5, "isShelf", "(I)Z"⟩
abbrev cX5_put : ByteArray := prog_7_method_47_code
def yX5_put : MethodName := ⟨RX5, "put", "(IIJ)I"⟩
abbrev cX5_of : ByteArray := prog_7_method_48_code
def yX5_of : MethodName := ⟨RX5, "of", "(II)J"⟩
abbrev cX5_whole : ByteArray := prog_7_method_49_code
def yX5_whole : MethodName := ⟨RX5, "whole", "(II)I"⟩
abbrev cX5_period : ByteArray := prog_7_method_50_code
def yX5_period : MethodName := ⟨RX5, "period", "(II)I"⟩
abbrev cX5_areShelves : ByteArray := prog_7_method_51_code
def yX5_areShelves : MethodName := ⟨RX5, "areShelves", "(III)Z"⟩
abbrev cX5_takesBoth : ByteArray := prog_7_method_52_code
def yX5_takesBoth : MethodName := ⟨RX5, "takesBoth", "(II)V"⟩
abbrev cX5_add : ByteArray := prog_7_method_53_code
def yX5_add : MethodName := ⟨RX5, "add", "(III)I"⟩
abbrev cX5_less : ByteArray := prog_7_method_54_code
def yX5_less : MethodName := ⟨RX5, "less", "(III)I"⟩
abbrev cX5_product : ByteArray := prog_7_method_55_code
def yX5_product : MethodName := ⟨RX5, "product", "(III)I"⟩
abbrev cX5_raise : ByteArray := prog_7_method_56_code
def yX5_raise : MethodName := ⟨RX5, "raise", "(III)I"⟩
abbrev cX5_turns : ByteArray := prog_7_method_57_code
def yX5_turns : MethodName := ⟨RX5, "turns", "(III)V"⟩
abbrev cX5_turn : ByteArray := prog_7_method_58_code
def yX5_turn : MethodName := ⟨RX5, "turn", "(III)I"⟩
abbrev cX5_norm : ByteArray := prog_7_method_59_code
def yX5_norm : MethodName := ⟨RX5, "norm", "(I)J"⟩
abbrev cX5_trace : ByteArray := prog_7_method_60_code
def yX5_trace : MethodName := ⟨RX5, "trace", "(I)J"⟩
abbrev cX5_isWhole : ByteArray := prog_7_method_61_code
def yX5_isWhole : MethodName := ⟨RX5, "isWhole", "(I)I"⟩
abbrev cX5_alike : ByteArray := prog_7_method_62_code
def yX5_alike : MethodName := ⟨RX5, "alike", "(II)I"⟩
abbrev cX5_why : ByteArray := prog_7_method_63_code
def yX5_why : MethodName := ⟨RX5, "why", "(II)I"⟩
abbrev cX5_feed : ByteArray := prog_7_method_64_code
def yX5_feed : MethodName := ⟨RX5, "feed", "(I)I"⟩
abbrev cX5_wipe : ByteArray := prog_7_method_65_code
def yX5_wipe : MethodName := ⟨RX5, "wipe", "()I"⟩
abbrev cX5_isNext : ByteArray := prog_7_method_66_code
def yX5_isNext : MethodName := ⟨RX5, "isNext", "(I)Z"⟩
abbrev cX5_isFigure : ByteArray := prog_7_method_67_code
def yX5_isFigure : MethodName := ⟨RX5, "isFigure", "()Z"⟩
abbrev cX5_faulty : ByteArray := prog_7_method_68_code
def yX5_faulty : MethodName := ⟨RX5, "faulty", "(I)V"⟩
abbrev cX5_figures : ByteArray := prog_7_method_69_code
def yX5_figures : MethodName := ⟨RX5, "figures", "(I)I"⟩
abbrev cX5_part : ByteArray := prog_7_method_70_code
def yX5_part : MethodName := ⟨RX5, "part", "(I)V"⟩
abbrev cX5_productTold : ByteArray := prog_7_method_71_code
def yX5_productTold : MethodName := ⟨RX5, "productTold", "(I)V"⟩
abbrev cX5_sum : ByteArray := prog_7_method_72_code
def yX5_sum : MethodName := ⟨RX5, "sum", "(I)V"⟩
abbrev cX5_read : ByteArray := prog_7_method_73_code
def yX5_read : MethodName := ⟨RX5, "read", "(I)I"⟩
abbrev cX5_isList : ByteArray := prog_7_method_74_code
def yX5_isList : MethodName := ⟨RX5, "isList", "(I)Z"⟩
abbrev cX5_becomes : ByteArray := prog_7_method_75_code
def yX5_becomes : MethodName := ⟨RX5, "becomes", "(II)V"⟩
abbrev cX5_list : ByteArray := prog_7_method_76_code
def yX5_list : MethodName := ⟨RX5, "list", "(II)I"⟩
abbrev cX5_lay : ByteArray := prog_7_method_77_code
def yX5_lay : MethodName := ⟨RX5, "lay", "(IIJ)I"⟩
abbrev cX5_get : ByteArray := prog_7_method_78_code
def yX5_get : MethodName := ⟨RX5, "get", "(II)J"⟩
abbrev cX5_film : ByteArray := prog_7_method_79_code
def yX5_film : MethodName := ⟨RX5, "film", "(II)I"⟩
abbrev cX5_judge : ByteArray := prog_7_method_80_code
def yX5_judge : MethodName := ⟨RX5, "judge", "(II)I"⟩
abbrev cX5_image : ByteArray := prog_7_method_81_code
def yX5_image : MethodName := ⟨RX5, "image", "()I"⟩
abbrev cX5_undo : ByteArray := prog_7_method_82_code
def yX5_undo : MethodName := ⟨RX5, "undo", "()I"⟩
abbrev cX5_count : ByteArray := prog_7_method_83_code
def yX5_count : MethodName := ⟨RX5, "count", "(I)I"⟩
def RL : String := "PowerClassesLaw"
abbrev cL_law : ByteArray := code
def yL_law : MethodName := ⟨RL, "law", "([I)Z"⟩
-- the words that every method here is given: all of the tables' that stay true
def BG : List Cond := lw_tbl.filter goodWord
theorem BG_in {w : Cond} (i : Nat) (h : lw_tbl[i]? = some w) (g : goodWord w = true) : w ∈ BG := List.mem_filter.mpr ⟨List.mem_of_getElem? h, g⟩
theorem BG_good {w : Cond} (h : w ∈ BG) : goodWord w = true := (List.mem_filter.mp h).2
theorem BG_tbl {w : Cond} (h : w ∈ BG) : w ∈ lw_tbl := (List.mem_filter.mp h).1
theorem GoodIn_BG {ws : List Cond} (h : ∀ w ∈ ws, w ∈ BG) : GoodIn BG ws := fun w hw => ⟨h w hw, good_of_word (BG_good (h w hw))⟩
abbrev classes : List vw_C := [(RX0, TX0, 14), (RX1, TX1, 10), (RX2, TX2, 5), (RX3, TX3, 6), (RX4, TX4, 12), (RX5, TX5, 28)]
end
section
/-! FRAME: one word list for every method, a world of cells, a contract that is exact (the answer and the cells behind it are given), made for functions that mirror the bytecode -/
def NWs : List Cond := [.methodLinkNest RX0 93 yX4_factorIndex RX4, .methodLinkNest RX0 103 yX4_setPeriod RX4, .methodLinkNest RX0 110 yX4_copyRow RX4, .methodLinkNest RX4 22 yX3_init RX4, .methodLinkNest RX2 45 yX4_copyRow RX4, .methodLinkNest RX2 63 yX4_factorIndex RX4, .methodLinkNest RX2 67 yX4_setWhole RX4, .methodLinkNest RX1 95 yX4_setWhole RX4, .methodLinkNest RX1 111 yX4_setPeriod RX4, .methodLinkNest RX1 59 yX4_copyRow RX4]
/-- the links among nest mates, which are no words of a list -/
def Nk (U : State) : Prop := ∀ w ∈ NWs, va_Nw w U
theorem NWs_shape : ∀ w ∈ NWs, ∃ a i x h, w = .methodLinkNest a i x h := by
  intro w hw
  simp only [NWs, List.mem_cons, List.not_mem_nil, or_false] at hw
  rcases hw with rfl | rfl | rfl | rfl | rfl | rfl | rfl | rfl | rfl | rfl <;> exact ⟨_, _, _, _, rfl⟩
theorem Nk.warm {s U : State} (hW : s.WarmedH U.vm) (h : Nk s) : Nk U := by
  intro w hw
  obtain ⟨a, i, x, g, rfl⟩ := NWs_shape w hw
  exact va_Nw.warmM hW (h _ hw)
theorem Nk.same {u U : State} (e : u.vm = U.vm) (h : Nk u) : Nk U := by
  intro w hw
  obtain ⟨a, i, x, g, rfl⟩ := NWs_shape w hw
  exact va_Nw.same rfl e (h _ hw)
abbrev GG : Type := va_G × (ClassId × (ClassId × (ClassId × ClassId)))
/-- the four classes of arrays: int, byte, long, rows of longs -/
def ty4 (G : GG) : List (ClassId × FieldType) := [(G.2.1, .int), (G.2.2.1, .byte), (G.2.2.2.1, .long), (G.2.2.2.2, .array .long)]
/-- what stays in one activation of a method -/
def Fx (p : Program) (s : State) (m : MethodId) (args : Array Value) (meth : Method) (c : Code) (cc : ByteArray) (nL : Nat) (own : String) (ret : Option FieldType) : Prop :=
  p.tables.exec = Jvm.exec ∧ c.code = cc ∧ c.maxLocals = nL ∧ s.vm.findClass own = some m.cls ∧ (∀ w ∈ BG, w.before args s = true) ∧ meth.sig.returnType = ret ∧ meth.locks = false ∧ Nk s
/-- the world at one point of an activation -/
def Wd (G : GG) (s : State) (A : Nat → Prop) (X : va_W) (H : Heap) (locs : List Loc) : Prop :=
  va_K G.1 classes (ty4 G) s ∧ va_P G.1 classes X H ∧ va_D A X ∧ va_S A s.heap H locs
def Hd (G : GG) (X : va_W) (sz : Nat) (U : State) : Prop :=
  U.heap.size = sz ∧ va_P G.1 classes X U.heap ∧ va_K G.1 classes (ty4 G) U ∧ va_D (fun _ => True) X ∧ Nk U
def Td (G : GG) (X X' : va_W) (sz : Nat) (st t : State) : Prop :=
  va_P G.1 classes X' t.heap ∧ va_K G.1 classes (ty4 G) t ∧ va_D (va_A X sz) X' ∧ va_F (va_A X sz) st t
abbrev rmOf (fr lo : Nat) : Room := { frames := fr, cells := 0, slots := 0, locals := lo }
/-- the contract: from a heap that holds X the method y returns r, and the heap holds X' -/
def Ct (l : Launch) (G : GG) (y : MethodName) (b : ByteArray) (n : Nat) (ret : Option FieldType) (fr lo : Nat) (av : List Value) (X : va_W) (r : Option Value) (X' : va_W) : Prop :=
  ∀ sz : Nat, Met l y (.code y b n ret :: BG) (rmOf fr lo) (va_Pc av (Hd G X sz)) (fun _ st oc t => oc = .returned r ∧ Td G X X' sz st t) 0 0 (va_A X sz)
/-- the end of a method's walk: with r on the stack, the world X' -/
def Ends (p : Program) (l : Launch) (e : Env) (R : Room) (s : State) (m : MethodId) (args : Array Value) (below : List Frame) (meth : Method) (c : Code) (Q : State → Prop) (cc : ByteArray) (G : GG) (A : Nat → Prop) (r : Option Value) (X' : va_W) : Prop :=
  ∀ (H : Heap) (locs : List Loc) (pc : Nat) (ls : Array Slot), Wd G s A X' H locs → match r with
    | some (.int v) => decode cc pc = .ok (.ireturn, 1) → W p l e R s m args below meth c H locs 0 0 Q (F0 m pc ls [.int v])
    | some (.long v) => decode cc pc = .ok (.lreturn, 1) → W p l e R s m args below meth c H locs 0 0 Q (F0 m pc ls [.long v])
    | none => decode cc pc = .ok (.return_, 1) → W p l e R s m args below meth c H locs 0 0 Q (F0 m pc ls [])
    | _ => False
def retOk (ret : Option FieldType) (r : Option Value) : Prop := match ret, r with
  | some .int, some (.int _) => True
  | some .boolean, some (.int v) => v = 0 ∨ v = 1
  | some .long, some (.long _) => True
  | none, none => True
  | _, _ => False
theorem nz_bool {v : Int32} (h : v = 0 ∨ v = 1) : narrow .boolean (.int v) = .int v := by
  rcases h with rfl | rfl <;> rfl
section FR
variable {p : Program} {l : Launch} {e : Env} {R : Room} {s : State} {m : MethodId} {args : Array Value} {below : List Frame} {meth : Method} {c : Code} {H : Heap} {locs : List Loc} {Q : State → Prop}
variable {cc : ByteArray} {nL : Nat} {own : String} {ret : Option FieldType} {pc : Nat} {ls : Array Slot} {rest : List Value} {G : GG} {A : Nat → Prop} {X X' : va_W}
theorem Fx.x (F : Fx p s m args meth c cc nL own ret) : p.tables.exec = Jvm.exec := F.1
theorem Fx.b (F : Fx p s m args meth c cc nL own ret) : c.code = cc := F.2.1
theorem Fx.ml (F : Fx p s m args meth c cc nL own ret) : c.maxLocals = nL := F.2.2.1
theorem Fx.ow (F : Fx p s m args meth c cc nL own ret) : s.vm.findClass own = some m.cls := F.2.2.2.1
theorem Fx.ts (F : Fx p s m args meth c cc nL own ret) : ∀ w ∈ BG, w.before args s = true := F.2.2.2.2.1
theorem Fx.rt (F : Fx p s m args meth c cc nL own ret) : meth.sig.returnType = ret := F.2.2.2.2.2.1
theorem Fx.lk (F : Fx p s m args meth c cc nL own ret) : meth.locks = false := F.2.2.2.2.2.2.1
theorem Fx.nk (F : Fx p s m args meth c cc nL own ret) : Nk s := F.2.2.2.2.2.2.2
theorem Ends.of {sz : Nat} {r : Option Value} {X0 : va_W} (F : Fx p s m args meth c cc nL own ret) (hr : retOk ret r) : Ends p l e R s m args below meth c (MQ below (fun _ st oc t => oc = .returned r ∧ Td G X0 X' sz st t) args s 0 0 (va_A X0 sz)) cc G (va_A X0 sz) r X' := by
  intro H locs pc ls hw
  obtain ⟨hK, hP, hD, hS⟩ := hw
  have hq : ∀ t : State, t.heap = H → s.WarmedH t.vm → Td G X0 X' sz s t := fun t ht hW => ⟨by rw [ht]; exact hP, va_K.moved hW.alike hK, hD, hS.F ht⟩
  unfold retOk at hr
  split at hr
  · intro hdg
    exact W.iret F.x F.b F.rt (fun t ht hW => ⟨rfl, hq t ht hW⟩) hS.2.2 hdg F.lk
  · intro hdg
    exact W.zret F.x F.b F.rt (nz_bool hr) (fun t ht hW => ⟨rfl, hq t ht hW⟩) hS.2.2 hdg F.lk
  · intro hdg
    exact W.lret F.x F.b F.rt (fun t ht hW => ⟨rfl, hq t ht hW⟩) hS.2.2 hdg F.lk
  · intro hdg
    exact W.vret F.x F.b F.rt (fun t ht hW => ⟨rfl, hq t ht hW⟩) hS.2.2 hdg F.lk
  · exact hr.elim
end FR
theorem Ct.of {l : Launch} {G : GG} {y : MethodName} {b : ByteArray} {n : Nat} {ret : Option FieldType} {fr lo : Nat} {av : List Value} {X X' : va_W} {r : Option Value} (hy : plainName y.cls = true) (hlen : (lg_sl av).length ≤ n) (hr : retOk ret r)
    (body : ∀ (p : Program) (e : Env) (s : State) (m : MethodId) (args : Array Value) (below : List Frame) (meth : Method) (c : Code) (Q : State → Prop) (A : Nat → Prop) (ls : Array Slot), Fx p s m args meth c b n y.cls ret → Wd G s A X s.heap [] → Ends p l e (rmOf fr lo) s m args below meth c Q b G A r X' → lv_has ls n (lv_args 0 av) →
      W p l e (rmOf fr lo) s m args below meth c s.heap [] 0 0 Q (F0 m 0 ls [])) : Ct l G y b n ret fr lo av X r X' := by
  intro sz
  refine Met.ofW (cc := b) (maxL := n) (ret := ret) hy rfl ?_
  intro p e s m args below meth c s₁ B hml hv
  obtain ⟨rfl, hsz, hP, hK, hD0, hN⟩ := hv
  have hts := atoms_spec (ws := .code y b n ret :: BG) B.pre
  have F : Fx p s m av.toArray meth c b n y.cls ret := ⟨B.exec, B.bytes, hml, findClass_of_methodNamed B.named, fun w hw => hts w (List.mem_cons_of_mem _ hw), B.returns, B.notSynchronized, hN⟩
  subst hsz
  have hl := lv_entry av hlen
  rw [lg_entry_eq]
  exact body p e s m av.toArray below meth c _ _ _ F ⟨hK, hP, hD0.self, va_S.rf⟩ (Ends.of F hr) hl
section FC
variable {p : Program} {l : Launch} {e : Env} {R : Room} {s : State} {m : MethodId} {args : Array Value} {below : List Frame} {meth : Method} {c : Code} {H : Heap} {locs : List Loc} {Q : State → Prop}
variable {cc : ByteArray} {nL : Nat} {own : String} {ret : Option FieldType} {pc : Nat} {ls : Array Slot} {rest : List Value} {G : GG} {A : Nat → Prop} {X X' : va_W} {r : Option Value}
theorem Hd.blind {sz : Nat} (av : List Value) : FrameBlind (va_Pc av (Hd G X sz)) := by
  intro a U g mk q
  obtain ⟨q0, q1, qP, qK, qD, qN⟩ := q
  exact ⟨q0, q1, qP, va_K.moved (u := U) (U := U.calling g mk a) (Vm.Alike.refl U.vm) qK, qD, Nk.same (u := U) rfl qN⟩
theorem Wd.free (hw : Wd G s A X H locs) (hA : ∀ q, s.heap.size ≤ q → A q) : ∀ q, va_A X H.size q → A q := by
  obtain ⟨hK, hP, hD, hS⟩ := hw
  intro q hq
  rcases hq with ⟨k, x, hk⟩ | h
  · exact hD.2 k (q, x) hk
  · exact hA q (Nat.le_trans hS.1 h)
/-- behind a call -/
theorem Wd.back {st0 : List Value} (hw : Wd G s A X H locs) (hA : ∀ q, s.heap.size ≤ q → A q)
    (hr : va_Run p l e R s m args below meth c H locs 0 0 0 0 (F0 m pc ls rest) st0 (fun st oc t => oc = .returned r ∧ Td G X X' H.size st t) (va_A X H.size))
    (kk : ∀ (H1 : Heap) (locs1 : List Loc), Wd G s A X' H1 locs1 → W p l e R s m args below meth c H1 locs1 0 0 Q (F0 m (pc + 3) ls (r.toList ++ st0))) : W p l e R s m args below meth c H locs 0 0 Q (F0 m pc ls rest) := by
  have hF := hw.free hA
  obtain ⟨hK, hP, hD, hS⟩ := hw
  intro T hT Xs
  obtain ⟨v, st₀, t, T', L, h0, X1, hL, e1, e2, ⟨hv, hP1, hK1, hD1, hz, hk⟩, st⟩ := hr T hT Xs
  cases hv
  rw [h0] at hz hk
  have hal : s.vm.Alike t.vm := by rw [← e2]; exact X1.warmed.alike
  obtain ⟨t2, a1, b1⟩ := kk T'.heap (locs ++ L) ⟨hK, by rw [e1]; exact hP1, ⟨hD1.1, fun k q hq => hF _ (hD1.2 k q hq)⟩,
    ⟨Nat.le_trans hS.1 (by rw [e1]; exact hz), fun q h1 h2 => by rw [e1, hk q (Nat.lt_of_lt_of_le h1 hS.1) (fun z => h2 (hF q z))]; exact hS.2.1 q h1 h2, fun q hq => by
      rcases List.mem_append.mp hq with h | h
      · exact hS.2.2 q h
      · exact hF _ (hL q h)⟩⟩ T' rfl X1
  exact ⟨t2, st t2 a1, b1⟩
theorem hd_of (hw : Wd G s A X H locs) (F : Nk s) : ∀ U : State, U.heap = H → s.WarmedH U.vm → Hd G X H.size U := by
  obtain ⟨hK, hP, hD, hS⟩ := hw
  intro U hU hW
  exact ⟨by rw [hU], by rw [hU]; exact hP, va_K.moved hW.alike hK, hD.weaken (fun _ _ _ _ => trivial), F.warm hW⟩
/-- invokevirtual of a method of class C on the object at b (place q0 of the world) -/
theorem ctV {y : MethodName} {b : ByteArray} {n fr lo fr0 lo0 idx : Nat} {ret' : Option FieldType} {av st0 : List Value} {a : Nat} {C : String} {T : u_T} {N ci : Nat} {fs : List Value}
    (F : Fx p s m args meth c cc nL own ret) (hw : Wd G s A X H locs) (hA : ∀ q, s.heap.size ≤ q → A q) (hC : Ct l G y b n ret' fr lo (.ref a :: av) X r X')
    (hin : ∀ w ∈ wsV own idx C y (.code y b n ret' :: BG), w ∈ BG) (hd : y.cls = C ∧ y.cls ≠ "java/lang/invoke/MethodHandle" ∧ y.cls ≠ "java/lang/invoke/VarHandle" ∧ (parseMethodDescriptor y.desc).map (fun d => d.parameters.length) = some av.length)
    (hR : fr + 1 ≤ fr0 ∧ 8 + (n + 11) + lo ≤ lo0) (q0 : Nat) (hq : X[q0]? = some (a, .inr (ci, fs))) (hc : classes[ci]? = some (C, T, N)) (hl : ls.size = nL) (hst : rest = av.reverse ++ .ref a :: st0) (hroom : (st0.map fun v => v.category).sum ≤ 8) (hdg : decode cc pc = .ok (.invokevirtual idx, 3))
    (kk : ∀ (H1 : Heap) (locs1 : List Loc), Wd G s A X' H1 locs1 → W p l e (rmOf fr0 lo0) s m args below meth c H1 locs1 0 0 Q (F0 m (pc + 3) ls (r.toList ++ st0))) : W p l e (rmOf fr0 lo0) s m args below meth c H locs 0 0 Q (F0 m pc ls rest) := by
  refine hw.back hA (va_runV (As := av) ⟨F.x, F.b, F.ml, F.ow, F.ts⟩ (hC H.size) (cwV av.length F.ts (GoodIn_BG hin) rfl rfl rfl hd hR) ⟨Hd.blind _, va_recv hw.1 hw.2.1 hc hq, fun U hU hW => ⟨rfl, hd_of hw F.nk U hU hW⟩⟩ rfl rfl hl hst (lv_room hroom) hdg ⟨Nat.zero_le _, Nat.zero_le _⟩) kk
/-- invokestatic of a method of the own class -/
theorem ctS {y : MethodName} {b : ByteArray} {n fr lo fr0 lo0 idx : Nat} {ret' : Option FieldType} {av st0 : List Value}
    (F : Fx p s m args meth c cc nL own ret) (hw : Wd G s A X H locs) (hA : ∀ q, s.heap.size ≤ q → A q) (hC : Ct l G y b n ret' fr lo av X r X')
    (hin : ∀ w ∈ va_wsS own idx y (.code y b n ret' :: BG), w ∈ BG) (hd : y.cls ≠ "java/lang/invoke/MethodHandle" ∧ y.cls ≠ "java/lang/invoke/VarHandle" ∧ (parseMethodDescriptor y.desc).map (fun d => d.parameters.length) = some av.length)
    (hR : fr + 1 ≤ fr0 ∧ 8 + (n + 11) + lo ≤ lo0) (hl : ls.size = nL) (hst : rest = av.reverse ++ st0) (hroom : (st0.map fun v => v.category).sum ≤ 8) (hdg : decode cc pc = .ok (.invokestatic idx, 3))
    (kk : ∀ (H1 : Heap) (locs1 : List Loc), Wd G s A X' H1 locs1 → W p l e (rmOf fr0 lo0) s m args below meth c H1 locs1 0 0 Q (F0 m (pc + 3) ls (r.toList ++ st0))) : W p l e (rmOf fr0 lo0) s m args below meth c H locs 0 0 Q (F0 m pc ls rest) := by
  refine hw.back hA (va_runS (As := av) ⟨F.x, F.b, F.ml, F.ow, F.ts⟩ (hC H.size) (va_cwS av.length F.ts (GoodIn_BG hin) rfl rfl rfl hd hR) ⟨Hd.blind _, fun U hU hW => ⟨rfl, hd_of hw F.nk U hU hW⟩⟩ rfl rfl hl hst (lv_room hroom) hdg ⟨Nat.zero_le _, Nat.zero_le _⟩) kk
/-- invokestatic of a nest mate's private method -/
theorem ctSN {y : MethodName} {b : ByteArray} {n fr lo fr0 lo0 idx : Nat} {ret' : Option FieldType} {av st0 : List Value} {host : String}
    (F : Fx p s m args meth c cc nL own ret) (hw : Wd G s A X H locs) (hA : ∀ q, s.heap.size ≤ q → A q) (hC : Ct l G y b n ret' fr lo av X r X')
    (hn : Cond.methodLinkNest own idx y host ∈ NWs) (hin : ∀ w ∈ .code y b n ret' :: BG, w ∈ BG) (hini : Cond.initialized y.cls ∈ BG) (hstc : Cond.static y ∈ BG) (hd : y.cls ≠ "java/lang/invoke/MethodHandle" ∧ y.cls ≠ "java/lang/invoke/VarHandle" ∧ (parseMethodDescriptor y.desc).map (fun d => d.parameters.length) = some av.length)
    (hR : fr + 1 ≤ fr0 ∧ 8 + (n + 11) + lo ≤ lo0) (hl : ls.size = nL) (hst : rest = av.reverse ++ st0) (hroom : (st0.map fun v => v.category).sum ≤ 8) (hdg : decode cc pc = .ok (.invokestatic idx, 3))
    (kk : ∀ (H1 : Heap) (locs1 : List Loc), Wd G s A X' H1 locs1 → W p l e (rmOf fr0 lo0) s m args below meth c H1 locs1 0 0 Q (F0 m (pc + 3) ls (r.toList ++ st0))) : W p l e (rmOf fr0 lo0) s m args below meth c H locs 0 0 Q (F0 m pc ls rest) := by
  refine hw.back hA (va_runSN (As := av) ⟨F.x, F.b, F.ml, F.ow, F.ts⟩ (hC H.size) ⟨va_cnB av.length F.ts (GoodIn_BG hin) rfl rfl rfl (F.nk _ hn) (F.ts _ hini) hd hR, F.ts _ hstc, trivial⟩ ⟨Hd.blind _, fun U hU hW => ⟨rfl, hd_of hw F.nk U hU hW⟩⟩ rfl rfl hl hst (lv_room hroom) hdg ⟨Nat.zero_le _, Nat.zero_le _⟩) kk
end FC
end
