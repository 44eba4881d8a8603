section
-- ===== PART A: goes FIRST, ahead of the names: the tables' words, and 'selects' of the private methods out of them =====
/-- a private method of a class that the tables say can be made, by its rows of tables_1 -/
def lw_okq (q : MethodName × Nat) : Prop := (q.1.cls ≠ "java/lang/invoke/MethodHandle" ∧ q.1.cls ≠ "java/lang/invoke/VarHandle") ∧ Cond.instantiable q.1.cls q.2 ∈ tables_1 ∧ Cond.privateMethod q.1 ∈ tables_1 ∧ Cond.instanceMethod q.1 ∈ tables_1
theorem lw_p0 : lw_okq (⟨"PowerClasses$Classes", "findGenerators", "()V"⟩, 14) := ⟨⟨by decide +kernel, by decide +kernel⟩, List.mem_of_getElem? (i := 18) (by decide +kernel), List.mem_of_getElem? (i := 28) (by decide +kernel), List.mem_of_getElem? (i := 29) (by decide +kernel)⟩
theorem lw_p1 : lw_okq (⟨"PowerClasses$Classes", "findRaised", "()V"⟩, 14) := ⟨⟨by decide +kernel, by decide +kernel⟩, List.mem_of_getElem? (i := 18) (by decide +kernel), List.mem_of_getElem? (i := 36) (by decide +kernel), List.mem_of_getElem? (i := 37) (by decide +kernel)⟩
theorem lw_p2 : lw_okq (⟨"PowerClasses$Classes", "findPowers", "()V"⟩, 14) := ⟨⟨by decide +kernel, by decide +kernel⟩, List.mem_of_getElem? (i := 18) (by decide +kernel), List.mem_of_getElem? (i := 44) (by decide +kernel), List.mem_of_getElem? (i := 45) (by decide +kernel)⟩
theorem lw_p3 : lw_okq (⟨"PowerClasses$Classes", "findNeighbours", "()V"⟩, 14) := ⟨⟨by decide +kernel, by decide +kernel⟩, List.mem_of_getElem? (i := 18) (by decide +kernel), List.mem_of_getElem? (i := 48) (by decide +kernel), List.mem_of_getElem? (i := 49) (by decide +kernel)⟩
theorem lw_p4 : lw_okq (⟨"PowerClasses$Classes", "classNumber", "(I)I"⟩, 14) := ⟨⟨by decide +kernel, by decide +kernel⟩, List.mem_of_getElem? (i := 18) (by decide +kernel), List.mem_of_getElem? (i := 52) (by decide +kernel), List.mem_of_getElem? (i := 53) (by decide +kernel)⟩
theorem lw_p5 : lw_okq (⟨"PowerClasses$Classes", "findFactors", "()V"⟩, 14) := ⟨⟨by decide +kernel, by decide +kernel⟩, List.mem_of_getElem? (i := 18) (by decide +kernel), List.mem_of_getElem? (i := 56) (by decide +kernel), List.mem_of_getElem? (i := 57) (by decide +kernel)⟩
theorem lw_p6 : lw_okq (⟨"PowerClasses$Classes", "countMeetings", "(II)V"⟩, 14) := ⟨⟨by decide +kernel, by decide +kernel⟩, List.mem_of_getElem? (i := 18) (by decide +kernel), List.mem_of_getElem? (i := 67) (by decide +kernel), List.mem_of_getElem? (i := 68) (by decide +kernel)⟩
theorem lw_p7 : lw_okq (⟨"PowerClasses$Classes", "findPolynomial", "()V"⟩, 14) := ⟨⟨by decide +kernel, by decide +kernel⟩, List.mem_of_getElem? (i := 18) (by decide +kernel), List.mem_of_getElem? (i := 71) (by decide +kernel), List.mem_of_getElem? (i := 72) (by decide +kernel)⟩
theorem lw_p8 : lw_okq (⟨"PowerClasses$Classes", "findPowerSums", "()V"⟩, 14) := ⟨⟨by decide +kernel, by decide +kernel⟩, List.mem_of_getElem? (i := 18) (by decide +kernel), List.mem_of_getElem? (i := 75) (by decide +kernel), List.mem_of_getElem? (i := 76) (by decide +kernel)⟩
theorem lw_p9 : lw_okq (⟨"PowerClasses$Classes", "multiplyByFirstPeriod", "()V"⟩, 14) := ⟨⟨by decide +kernel, by decide +kernel⟩, List.mem_of_getElem? (i := 18) (by decide +kernel), List.mem_of_getElem? (i := 85) (by decide +kernel), List.mem_of_getElem? (i := 86) (by decide +kernel)⟩
theorem lw_p10 : lw_okq (⟨"PowerClasses", "isNumberOfPrime", "(I)Z"⟩, 12) := ⟨⟨by decide +kernel, by decide +kernel⟩, List.mem_of_getElem? (i := 10) (by decide +kernel), List.mem_of_getElem? (i := 306) (by decide +kernel), List.mem_of_getElem? (i := 307) (by decide +kernel)⟩
theorem lw_p11 : lw_okq (⟨"PowerClasses", "isClass", "(I)Z"⟩, 12) := ⟨⟨by decide +kernel, by decide +kernel⟩, List.mem_of_getElem? (i := 10) (by decide +kernel), List.mem_of_getElem? (i := 318) (by decide +kernel), List.mem_of_getElem? (i := 319) (by decide +kernel)⟩
theorem lw_p12 : lw_okq (⟨"PowerClasses", "isRest", "(I)Z"⟩, 12) := ⟨⟨by decide +kernel, by decide +kernel⟩, List.mem_of_getElem? (i := 10) (by decide +kernel), List.mem_of_getElem? (i := 348) (by decide +kernel), List.mem_of_getElem? (i := 349) (by decide +kernel)⟩
theorem lw_p13 : lw_okq (⟨"PowerClasses$Reckoner", "multiplyAt", "(I[J[J)Z"⟩, 5) := ⟨⟨by decide +kernel, by decide +kernel⟩, List.mem_of_getElem? (i := 179) (by decide +kernel), List.mem_of_getElem? (i := 416) (by decide +kernel), List.mem_of_getElem? (i := 417) (by decide +kernel)⟩
theorem lw_p14 : lw_okq (⟨"PowerClasses$Reckoner", "grow", "([JI)Z"⟩, 5) := ⟨⟨by decide +kernel, by decide +kernel⟩, List.mem_of_getElem? (i := 179) (by decide +kernel), List.mem_of_getElem? (i := 435) (by decide +kernel), List.mem_of_getElem? (i := 436) (by decide +kernel)⟩
theorem lw_p15 : lw_okq (⟨"PowerClasses$Reckoner", "negated", "(J)J"⟩, 5) := ⟨⟨by decide +kernel, by decide +kernel⟩, List.mem_of_getElem? (i := 179) (by decide +kernel), List.mem_of_getElem? (i := 468) (by decide +kernel), List.mem_of_getElem? (i := 469) (by decide +kernel)⟩
def lw_privs_1 : List (MethodName × Nat) := [(⟨"PowerClasses$Classes", "findGenerators", "()V"⟩, 14), (⟨"PowerClasses$Classes", "findRaised", "()V"⟩, 14), (⟨"PowerClasses$Classes", "findPowers", "()V"⟩, 14), (⟨"PowerClasses$Classes", "findNeighbours", "()V"⟩, 14), (⟨"PowerClasses$Classes", "classNumber", "(I)I"⟩, 14), (⟨"PowerClasses$Classes", "findFactors", "()V"⟩, 14), (⟨"PowerClasses$Classes", "countMeetings", "(II)V"⟩, 14), (⟨"PowerClasses$Classes", "findPolynomial", "()V"⟩, 14), (⟨"PowerClasses$Classes", "findPowerSums", "()V"⟩, 14), (⟨"PowerClasses$Classes", "multiplyByFirstPeriod", "()V"⟩, 14), (⟨"PowerClasses", "isNumberOfPrime", "(I)Z"⟩, 12), (⟨"PowerClasses", "isClass", "(I)Z"⟩, 12), (⟨"PowerClasses", "isRest", "(I)Z"⟩, 12), (⟨"PowerClasses$Reckoner", "multiplyAt", "(I[J[J)Z"⟩, 5), (⟨"PowerClasses$Reckoner", "grow", "([JI)Z"⟩, 5), (⟨"PowerClasses$Reckoner", "negated", "(J)J"⟩, 5)]
theorem lw_r1 : ∀ q ∈ lw_privs_1, lw_okq q := List.forall_mem_cons.mpr ⟨lw_p0, List.forall_mem_cons.mpr ⟨lw_p1, List.forall_mem_cons.mpr ⟨lw_p2, List.forall_mem_cons.mpr ⟨lw_p3, List.forall_mem_cons.mpr ⟨lw_p4, List.forall_mem_cons.mpr ⟨lw_p5, List.forall_mem_cons.mpr ⟨lw_p6, List.forall_mem_cons.mpr ⟨lw_p7, List.forall_mem_cons.mpr ⟨lw_p8, List.forall_mem_cons.mpr ⟨lw_p9, List.forall_mem_cons.mpr ⟨lw_p10, List.forall_mem_cons.mpr ⟨lw_p11, List.forall_mem_cons.mpr ⟨lw_p12, List.forall_mem_cons.mpr ⟨lw_p13, List.forall_mem_cons.mpr ⟨lw_p14, List.forall_mem_cons.mpr ⟨lw_p15, fun _ h => absurd h List.not_mem_nil⟩⟩⟩⟩⟩⟩⟩⟩⟩⟩⟩⟩⟩⟩⟩⟩
theorem lw_p16 : lw_okq (⟨"PowerClasses", "isTurnedBy", "([JI[J)Z"⟩, 12) := ⟨⟨by decide +kernel, by decide +kernel⟩, List.mem_of_getElem? (i := 10) (by decide +kernel), List.mem_of_getElem? (i := 488) (by decide +kernel), List.mem_of_getElem? (i := 489) (by decide +kernel)⟩
theorem lw_p17 : lw_okq (⟨"PowerClasses$Reader", "readSum", "(I)Z"⟩, 10) := ⟨⟨by decide +kernel, by decide +kernel⟩, List.mem_of_getElem? (i := 201) (by decide +kernel), List.mem_of_getElem? (i := 516) (by decide +kernel), List.mem_of_getElem? (i := 517) (by decide +kernel)⟩
theorem lw_p18 : lw_okq (⟨"PowerClasses$Reader", "readProduct", "(I)Z"⟩, 10) := ⟨⟨by decide +kernel, by decide +kernel⟩, List.mem_of_getElem? (i := 201) (by decide +kernel), List.mem_of_getElem? (i := 520) (by decide +kernel), List.mem_of_getElem? (i := 521) (by decide +kernel)⟩
theorem lw_p19 : lw_okq (⟨"PowerClasses$Reader", "readPart", "(I)Z"⟩, 10) := ⟨⟨by decide +kernel, by decide +kernel⟩, List.mem_of_getElem? (i := 201) (by decide +kernel), List.mem_of_getElem? (i := 524) (by decide +kernel), List.mem_of_getElem? (i := 525) (by decide +kernel)⟩
theorem lw_p20 : lw_okq (⟨"PowerClasses$Reader", "letter", "()I"⟩, 10) := ⟨⟨by decide +kernel, by decide +kernel⟩, List.mem_of_getElem? (i := 201) (by decide +kernel), List.mem_of_getElem? (i := 528) (by decide +kernel), List.mem_of_getElem? (i := 529) (by decide +kernel)⟩
theorem lw_p21 : lw_okq (⟨"PowerClasses$Reader", "readFigures", "(I)I"⟩, 10) := ⟨⟨by decide +kernel, by decide +kernel⟩, List.mem_of_getElem? (i := 201) (by decide +kernel), List.mem_of_getElem? (i := 535) (by decide +kernel), List.mem_of_getElem? (i := 536) (by decide +kernel)⟩
theorem lw_p22 : lw_okq (⟨"PowerClasses$Reader", "readPeriod", "([J)Z"⟩, 10) := ⟨⟨by decide +kernel, by decide +kernel⟩, List.mem_of_getElem? (i := 201) (by decide +kernel), List.mem_of_getElem? (i := 540) (by decide +kernel), List.mem_of_getElem? (i := 541) (by decide +kernel)⟩
theorem lw_p23 : lw_okq (⟨"PowerClasses$Reader", "faultAt", "(I)Z"⟩, 10) := ⟨⟨by decide +kernel, by decide +kernel⟩, List.mem_of_getElem? (i := 201) (by decide +kernel), List.mem_of_getElem? (i := 544) (by decide +kernel), List.mem_of_getElem? (i := 545) (by decide +kernel)⟩
theorem lw_p24 : lw_okq (⟨"PowerClasses$Reader", "readBracket", "(I)Z"⟩, 10) := ⟨⟨by decide +kernel, by decide +kernel⟩, List.mem_of_getElem? (i := 201) (by decide +kernel), List.mem_of_getElem? (i := 550) (by decide +kernel), List.mem_of_getElem? (i := 551) (by decide +kernel)⟩
theorem lw_p25 : lw_okq (⟨"PowerClasses$Reader", "joinProduct", "(ZI)Z"⟩, 10) := ⟨⟨by decide +kernel, by decide +kernel⟩, List.mem_of_getElem? (i := 201) (by decide +kernel), List.mem_of_getElem? (i := 561) (by decide +kernel), List.mem_of_getElem? (i := 562) (by decide +kernel)⟩
theorem lw_p26 : lw_okq (⟨"PowerClasses", "listsThere", "()I"⟩, 12) := ⟨⟨by decide +kernel, by decide +kernel⟩, List.mem_of_getElem? (i := 10) (by decide +kernel), List.mem_of_getElem? (i := 603) (by decide +kernel), List.mem_of_getElem? (i := 604) (by decide +kernel)⟩
theorem lw_p27 : lw_okq (⟨"PowerClasses", "shelvesInUse", "()I"⟩, 12) := ⟨⟨by decide +kernel, by decide +kernel⟩, List.mem_of_getElem? (i := 10) (by decide +kernel), List.mem_of_getElem? (i := 607) (by decide +kernel), List.mem_of_getElem? (i := 608) (by decide +kernel)⟩
theorem lw_p28 : lw_okq (⟨"PowerClasses", "isZero", "([J)Z"⟩, 12) := ⟨⟨by decide +kernel, by decide +kernel⟩, List.mem_of_getElem? (i := 10) (by decide +kernel), List.mem_of_getElem? (i := 611) (by decide +kernel), List.mem_of_getElem? (i := 612) (by decide +kernel)⟩
theorem lw_p29 : lw_okq (⟨"PowerClassesModel", "begins", "(II)V"⟩, 28) := ⟨⟨by decide +kernel, by decide +kernel⟩, List.mem_of_getElem? (i := 615) (by decide +kernel), List.mem_of_getElem? (i := 621) (by decide +kernel), List.mem_of_getElem? (i := 622) (by decide +kernel)⟩
theorem lw_p30 : lw_okq (⟨"PowerClassesModel", "isGenerator", "(I)Z"⟩, 28) := ⟨⟨by decide +kernel, by decide +kernel⟩, List.mem_of_getElem? (i := 615) (by decide +kernel), List.mem_of_getElem? (i := 625) (by decide +kernel), List.mem_of_getElem? (i := 626) (by decide +kernel)⟩
theorem lw_p31 : lw_okq (⟨"PowerClassesModel", "findsClasses", "()V"⟩, 28) := ⟨⟨by decide +kernel, by decide +kernel⟩, List.mem_of_getElem? (i := 615) (by decide +kernel), List.mem_of_getElem? (i := 629) (by decide +kernel), List.mem_of_getElem? (i := 630) (by decide +kernel)⟩
def lw_privs_2 : List (MethodName × Nat) := [(⟨"PowerClasses", "isTurnedBy", "([JI[J)Z"⟩, 12), (⟨"PowerClasses$Reader", "readSum", "(I)Z"⟩, 10), (⟨"PowerClasses$Reader", "readProduct", "(I)Z"⟩, 10), (⟨"PowerClasses$Reader", "readPart", "(I)Z"⟩, 10), (⟨"PowerClasses$Reader", "letter", "()I"⟩, 10), (⟨"PowerClasses$Reader", "readFigures", "(I)I"⟩, 10), (⟨"PowerClasses$Reader", "readPeriod", "([J)Z"⟩, 10), (⟨"PowerClasses$Reader", "faultAt", "(I)Z"⟩, 10), (⟨"PowerClasses$Reader", "readBracket", "(I)Z"⟩, 10), (⟨"PowerClasses$Reader", "joinProduct", "(ZI)Z"⟩, 10), (⟨"PowerClasses", "listsThere", "()I"⟩, 12), (⟨"PowerClasses", "shelvesInUse", "()I"⟩, 12), (⟨"PowerClasses", "isZero", "([J)Z"⟩, 12), (⟨"PowerClassesModel", "begins", "(II)V"⟩, 28), (⟨"PowerClassesModel", "isGenerator", "(I)Z"⟩, 28), (⟨"PowerClassesModel", "findsClasses", "()V"⟩, 28)]
theorem lw_r2 : ∀ q ∈ lw_privs_2, lw_okq q := List.forall_mem_cons.mpr ⟨lw_p16, List.forall_mem_cons.mpr ⟨lw_p17, List.forall_mem_cons.mpr ⟨lw_p18, List.forall_mem_cons.mpr ⟨lw_p19, List.forall_mem_cons.mpr ⟨lw_p20, List.forall_mem_cons.mpr ⟨lw_p21, List.forall_mem_cons.mpr ⟨lw_p22, List.forall_mem_cons.mpr ⟨lw_p23, List.forall_mem_cons.mpr ⟨lw_p24, List.forall_mem_cons.mpr ⟨lw_p25, List.forall_mem_cons.mpr ⟨lw_p26, List.forall_mem_cons.mpr ⟨lw_p27, List.forall_mem_cons.mpr ⟨lw_p28, List.forall_mem_cons.mpr ⟨lw_p29, List.forall_mem_cons.mpr ⟨lw_p30, List.forall_mem_cons.mpr ⟨lw_p31, fun _ h => absurd h List.not_mem_nil⟩⟩⟩⟩⟩⟩⟩⟩⟩⟩⟩⟩⟩⟩⟩⟩
theorem lw_p32 : lw_okq (⟨"PowerClassesModel", "firstOf", "(I)I"⟩, 28) := ⟨⟨by decide +kernel, by decide +kernel⟩, List.mem_of_getElem? (i := 615) (by decide +kernel), List.mem_of_getElem? (i := 633) (by decide +kernel), List.mem_of_getElem? (i := 634) (by decide +kernel)⟩
theorem lw_p33 : lw_okq (⟨"PowerClassesModel", "classAt", "(I)I"⟩, 28) := ⟨⟨by decide +kernel, by decide +kernel⟩, List.mem_of_getElem? (i := 615) (by decide +kernel), List.mem_of_getElem? (i := 637) (by decide +kernel), List.mem_of_getElem? (i := 638) (by decide +kernel)⟩
theorem lw_p34 : lw_okq (⟨"PowerClassesModel", "generators", "()I"⟩, 28) := ⟨⟨by decide +kernel, by decide +kernel⟩, List.mem_of_getElem? (i := 615) (by decide +kernel), List.mem_of_getElem? (i := 746) (by decide +kernel), List.mem_of_getElem? (i := 747) (by decide +kernel)⟩
theorem lw_p35 : lw_okq (⟨"PowerClassesModel", "isNumber", "(I)Z"⟩, 28) := ⟨⟨by decide +kernel, by decide +kernel⟩, List.mem_of_getElem? (i := 615) (by decide +kernel), List.mem_of_getElem? (i := 761) (by decide +kernel), List.mem_of_getElem? (i := 762) (by decide +kernel)⟩
theorem lw_p36 : lw_okq (⟨"PowerClassesModel", "isClass", "(I)Z"⟩, 28) := ⟨⟨by decide +kernel, by decide +kernel⟩, List.mem_of_getElem? (i := 615) (by decide +kernel), List.mem_of_getElem? (i := 777) (by decide +kernel), List.mem_of_getElem? (i := 778) (by decide +kernel)⟩
theorem lw_p37 : lw_okq (⟨"PowerClassesModel", "besideOf", "(II)I"⟩, 28) := ⟨⟨by decide +kernel, by decide +kernel⟩, List.mem_of_getElem? (i := 615) (by decide +kernel), List.mem_of_getElem? (i := 785) (by decide +kernel), List.mem_of_getElem? (i := 786) (by decide +kernel)⟩
theorem lw_p38 : lw_okq (⟨"PowerClassesModel", "timesOf", "(III)I"⟩, 28) := ⟨⟨by decide +kernel, by decide +kernel⟩, List.mem_of_getElem? (i := 615) (by decide +kernel), List.mem_of_getElem? (i := 797) (by decide +kernel), List.mem_of_getElem? (i := 798) (by decide +kernel)⟩
theorem lw_p39 : lw_okq (⟨"PowerClassesModel", "oppositeOf", "(I)I"⟩, 28) := ⟨⟨by decide +kernel, by decide +kernel⟩, List.mem_of_getElem? (i := 615) (by decide +kernel), List.mem_of_getElem? (i := 801) (by decide +kernel), List.mem_of_getElem? (i := 802) (by decide +kernel)⟩
theorem lw_p40 : lw_okq (⟨"PowerClassesModel", "raisedModulo", "(I)I"⟩, 28) := ⟨⟨by decide +kernel, by decide +kernel⟩, List.mem_of_getElem? (i := 615) (by decide +kernel), List.mem_of_getElem? (i := 817) (by decide +kernel), List.mem_of_getElem? (i := 818) (by decide +kernel)⟩
theorem lw_p41 : lw_okq (⟨"PowerClassesModel", "findsPolynomial", "()V"⟩, 28) := ⟨⟨by decide +kernel, by decide +kernel⟩, List.mem_of_getElem? (i := 615) (by decide +kernel), List.mem_of_getElem? (i := 826) (by decide +kernel), List.mem_of_getElem? (i := 827) (by decide +kernel)⟩
theorem lw_p42 : lw_okq (⟨"PowerClassesModel", "begins", "()V"⟩, 28) := ⟨⟨by decide +kernel, by decide +kernel⟩, List.mem_of_getElem? (i := 615) (by decide +kernel), List.mem_of_getElem? (i := 855) (by decide +kernel), List.mem_of_getElem? (i := 856) (by decide +kernel)⟩
theorem lw_p43 : lw_okq (⟨"PowerClassesModel", "becomesWhole", "(IJ)V"⟩, 28) := ⟨⟨by decide +kernel, by decide +kernel⟩, List.mem_of_getElem? (i := 615) (by decide +kernel), List.mem_of_getElem? (i := 859) (by decide +kernel), List.mem_of_getElem? (i := 860) (by decide +kernel)⟩
theorem lw_p44 : lw_okq (⟨"PowerClassesModel", "lays", "(I)I"⟩, 28) := ⟨⟨by decide +kernel, by decide +kernel⟩, List.mem_of_getElem? (i := 615) (by decide +kernel), List.mem_of_getElem? (i := 863) (by decide +kernel), List.mem_of_getElem? (i := 864) (by decide +kernel)⟩
theorem lw_p45 : lw_okq (⟨"PowerClassesModel", "areShelves", "(III)Z"⟩, 28) := ⟨⟨by decide +kernel, by decide +kernel⟩, List.mem_of_getElem? (i := 615) (by decide +kernel), List.mem_of_getElem? (i := 875) (by decide +kernel), List.mem_of_getElem? (i := 876) (by decide +kernel)⟩
theorem lw_p46 : lw_okq (⟨"PowerClassesModel", "takesBoth", "(II)V"⟩, 28) := ⟨⟨by decide +kernel, by decide +kernel⟩, List.mem_of_getElem? (i := 615) (by decide +kernel), List.mem_of_getElem? (i := 879) (by decide +kernel), List.mem_of_getElem? (i := 880) (by decide +kernel)⟩
theorem lw_p47 : lw_okq (⟨"PowerClassesModel", "takes", "(II)V"⟩, 28) := ⟨⟨by decide +kernel, by decide +kernel⟩, List.mem_of_getElem? (i := 615) (by decide +kernel), List.mem_of_getElem? (i := 883) (by decide +kernel), List.mem_of_getElem? (i := 884) (by decide +kernel)⟩
def lw_privs_3 : List (MethodName × Nat) := [(⟨"PowerClassesModel", "firstOf", "(I)I"⟩, 28), (⟨"PowerClassesModel", "classAt", "(I)I"⟩, 28), (⟨"PowerClassesModel", "generators", "()I"⟩, 28), (⟨"PowerClassesModel", "isNumber", "(I)Z"⟩, 28), (⟨"PowerClassesModel", "isClass", "(I)Z"⟩, 28), (⟨"PowerClassesModel", "besideOf", "(II)I"⟩, 28), (⟨"PowerClassesModel", "timesOf", "(III)I"⟩, 28), (⟨"PowerClassesModel", "oppositeOf", "(I)I"⟩, 28), (⟨"PowerClassesModel", "raisedModulo", "(I)I"⟩, 28), (⟨"PowerClassesModel", "findsPolynomial", "()V"⟩, 28), (⟨"PowerClassesModel", "begins", "()V"⟩, 28), (⟨"PowerClassesModel", "becomesWhole", "(IJ)V"⟩, 28), (⟨"PowerClassesModel", "lays", "(I)I"⟩, 28), (⟨"PowerClassesModel", "areShelves", "(III)Z"⟩, 28), (⟨"PowerClassesModel", "takesBoth", "(II)V"⟩, 28), (⟨"PowerClassesModel", "takes", "(II)V"⟩, 28)]
theorem lw_r3 : ∀ q ∈ lw_privs_3, lw_okq q := List.forall_mem_cons.mpr ⟨lw_p32, List.forall_mem_cons.mpr ⟨lw_p33, List.forall_mem_cons.mpr ⟨lw_p34, List.forall_mem_cons.mpr ⟨lw_p35, List.forall_mem_cons.mpr ⟨lw_p36, List.forall_mem_cons.mpr ⟨lw_p37, List.forall_mem_cons.mpr ⟨lw_p38, List.forall_mem_cons.mpr ⟨lw_p39, List.forall_mem_cons.mpr ⟨lw_p40, List.forall_mem_cons.mpr ⟨lw_p41, List.forall_mem_cons.mpr ⟨lw_p42, List.forall_mem_cons.mpr ⟨lw_p43, List.forall_mem_cons.mpr ⟨lw_p44, List.forall_mem_cons.mpr ⟨lw_p45, List.forall_mem_cons.mpr ⟨lw_p46, List.forall_mem_cons.mpr ⟨lw_p47, fun _ h => absurd h List.not_mem_nil⟩⟩⟩⟩⟩⟩⟩⟩⟩⟩⟩⟩⟩⟩⟩⟩
theorem lw_p48 : lw_okq (⟨"PowerClassesModel", "adds", "(IIZ)V"⟩, 28) := ⟨⟨by decide +kernel, by decide +kernel⟩, List.mem_of_getElem? (i := 615) (by decide +kernel), List.mem_of_getElem? (i := 887) (by decide +kernel), List.mem_of_getElem? (i := 888) (by decide +kernel)⟩
theorem lw_p49 : lw_okq (⟨"PowerClassesModel", "wrong", "(II)V"⟩, 28) := ⟨⟨by decide +kernel, by decide +kernel⟩, List.mem_of_getElem? (i := 615) (by decide +kernel), List.mem_of_getElem? (i := 897) (by decide +kernel), List.mem_of_getElem? (i := 898) (by decide +kernel)⟩
theorem lw_p50 : lw_okq (⟨"PowerClassesModel", "multiplies", "(II)V"⟩, 28) := ⟨⟨by decide +kernel, by decide +kernel⟩, List.mem_of_getElem? (i := 615) (by decide +kernel), List.mem_of_getElem? (i := 909) (by decide +kernel), List.mem_of_getElem? (i := 910) (by decide +kernel)⟩
theorem lw_p51 : lw_okq (⟨"PowerClassesModel", "productAt", "(III)J"⟩, 28) := ⟨⟨by decide +kernel, by decide +kernel⟩, List.mem_of_getElem? (i := 615) (by decide +kernel), List.mem_of_getElem? (i := 913) (by decide +kernel), List.mem_of_getElem? (i := 914) (by decide +kernel)⟩
theorem lw_p52 : lw_okq (⟨"PowerClassesModel", "opens", "(II)V"⟩, 28) := ⟨⟨by decide +kernel, by decide +kernel⟩, List.mem_of_getElem? (i := 615) (by decide +kernel), List.mem_of_getElem? (i := 925) (by decide +kernel), List.mem_of_getElem? (i := 926) (by decide +kernel)⟩
theorem lw_p53 : lw_okq (⟨"PowerClassesModel", "turns", "(III)V"⟩, 28) := ⟨⟨by decide +kernel, by decide +kernel⟩, List.mem_of_getElem? (i := 615) (by decide +kernel), List.mem_of_getElem? (i := 933) (by decide +kernel), List.mem_of_getElem? (i := 934) (by decide +kernel)⟩
theorem lw_p54 : lw_okq (⟨"PowerClassesModel", "sum", "(I)V"⟩, 28) := ⟨⟨by decide +kernel, by decide +kernel⟩, List.mem_of_getElem? (i := 615) (by decide +kernel), List.mem_of_getElem? (i := 971) (by decide +kernel), List.mem_of_getElem? (i := 972) (by decide +kernel)⟩
theorem lw_p55 : lw_okq (⟨"PowerClassesModel", "productTold", "(I)V"⟩, 28) := ⟨⟨by decide +kernel, by decide +kernel⟩, List.mem_of_getElem? (i := 615) (by decide +kernel), List.mem_of_getElem? (i := 975) (by decide +kernel), List.mem_of_getElem? (i := 976) (by decide +kernel)⟩
theorem lw_p56 : lw_okq (⟨"PowerClassesModel", "part", "(I)V"⟩, 28) := ⟨⟨by decide +kernel, by decide +kernel⟩, List.mem_of_getElem? (i := 615) (by decide +kernel), List.mem_of_getElem? (i := 979) (by decide +kernel), List.mem_of_getElem? (i := 980) (by decide +kernel)⟩
theorem lw_p57 : lw_okq (⟨"PowerClassesModel", "isFigure", "()Z"⟩, 28) := ⟨⟨by decide +kernel, by decide +kernel⟩, List.mem_of_getElem? (i := 615) (by decide +kernel), List.mem_of_getElem? (i := 983) (by decide +kernel), List.mem_of_getElem? (i := 984) (by decide +kernel)⟩
theorem lw_p58 : lw_okq (⟨"PowerClassesModel", "figures", "(I)I"⟩, 28) := ⟨⟨by decide +kernel, by decide +kernel⟩, List.mem_of_getElem? (i := 615) (by decide +kernel), List.mem_of_getElem? (i := 989) (by decide +kernel), List.mem_of_getElem? (i := 990) (by decide +kernel)⟩
theorem lw_p59 : lw_okq (⟨"PowerClassesModel", "faulty", "(I)V"⟩, 28) := ⟨⟨by decide +kernel, by decide +kernel⟩, List.mem_of_getElem? (i := 615) (by decide +kernel), List.mem_of_getElem? (i := 993) (by decide +kernel), List.mem_of_getElem? (i := 994) (by decide +kernel)⟩
theorem lw_p60 : lw_okq (⟨"PowerClassesModel", "isNext", "(I)Z"⟩, 28) := ⟨⟨by decide +kernel, by decide +kernel⟩, List.mem_of_getElem? (i := 615) (by decide +kernel), List.mem_of_getElem? (i := 997) (by decide +kernel), List.mem_of_getElem? (i := 998) (by decide +kernel)⟩
theorem lw_p61 : lw_okq (⟨"PowerClassesModel", "becomes", "(II)V"⟩, 28) := ⟨⟨by decide +kernel, by decide +kernel⟩, List.mem_of_getElem? (i := 615) (by decide +kernel), List.mem_of_getElem? (i := 1008) (by decide +kernel), List.mem_of_getElem? (i := 1009) (by decide +kernel)⟩
def lw_privs_4 : List (MethodName × Nat) := [(⟨"PowerClassesModel", "adds", "(IIZ)V"⟩, 28), (⟨"PowerClassesModel", "wrong", "(II)V"⟩, 28), (⟨"PowerClassesModel", "multiplies", "(II)V"⟩, 28), (⟨"PowerClassesModel", "productAt", "(III)J"⟩, 28), (⟨"PowerClassesModel", "opens", "(II)V"⟩, 28), (⟨"PowerClassesModel", "turns", "(III)V"⟩, 28), (⟨"PowerClassesModel", "sum", "(I)V"⟩, 28), (⟨"PowerClassesModel", "productTold", "(I)V"⟩, 28), (⟨"PowerClassesModel", "part", "(I)V"⟩, 28), (⟨"PowerClassesModel", "isFigure", "()Z"⟩, 28), (⟨"PowerClassesModel", "figures", "(I)I"⟩, 28), (⟨"PowerClassesModel", "faulty", "(I)V"⟩, 28), (⟨"PowerClassesModel", "isNext", "(I)Z"⟩, 28), (⟨"PowerClassesModel", "becomes", "(II)V"⟩, 28)]
theorem lw_r4 : ∀ q ∈ lw_privs_4, lw_okq q := List.forall_mem_cons.mpr ⟨lw_p48, List.forall_mem_cons.mpr ⟨lw_p49, List.forall_mem_cons.mpr ⟨lw_p50, List.forall_mem_cons.mpr ⟨lw_p51, List.forall_mem_cons.mpr ⟨lw_p52, List.forall_mem_cons.mpr ⟨lw_p53, List.forall_mem_cons.mpr ⟨lw_p54, List.forall_mem_cons.mpr ⟨lw_p55, List.forall_mem_cons.mpr ⟨lw_p56, List.forall_mem_cons.mpr ⟨lw_p57, List.forall_mem_cons.mpr ⟨lw_p58, List.forall_mem_cons.mpr ⟨lw_p59, List.forall_mem_cons.mpr ⟨lw_p60, List.forall_mem_cons.mpr ⟨lw_p61, fun _ h => absurd h List.not_mem_nil⟩⟩⟩⟩⟩⟩⟩⟩⟩⟩⟩⟩⟩⟩
def lw_privs : List (MethodName × Nat) := lw_privs_1 ++ (lw_privs_2 ++ (lw_privs_3 ++ (lw_privs_4)))
def lw_tbl : List Cond := k2_sels lw_privs ++ tables_1
theorem lw_privs_ok : ∀ q ∈ lw_privs, lw_okq q := by
  show ∀ q ∈ lw_privs_1 ++ (lw_privs_2 ++ (lw_privs_3 ++ (lw_privs_4))), lw_okq q
  exact List.forall_mem_append.mpr ⟨lw_r1, List.forall_mem_append.mpr ⟨lw_r2, List.forall_mem_append.mpr ⟨lw_r3, lw_r4⟩⟩⟩def RX0 : String := "PowerClasses$Classes"
def TX0 : u_T := fun k => match k with
  | 0 => ("PowerClasses$Classes", "p", "I", false)
  | 1 => ("PowerClasses$Classes", "e", "I", false)
  | 2 => ("PowerClasses$Classes", "f", "I", false)
  | 3 => ("PowerClasses$Classes", "g", "I", false)
  | 4 => ("PowerClasses$Classes", "generatorCount", "I", false)
  | 5 => ("PowerClasses$Classes", "generators", "[I", true)
  | 6 => ("PowerClasses$Classes", "powers", "[I", true)
  | 7 => ("PowerClasses$Classes", "raised", "[I", true)
  | 8 => ("PowerClasses$Classes", "neighbours", "[I", true)
  | 9 => ("PowerClasses$Classes", "factors", "[I", true)
  | 10 => ("PowerClasses$Classes", "coefficients", "[J", true)
  | 11 => ("PowerClasses$Classes", "powerSums", "[J", true)
  | 12 => ("PowerClasses$Classes", "periodPower", "[J", true)
  | _ => ("PowerClasses$Classes", "nextPower", "[J", true)
def tyX0 : Nat → FieldType := fun k => match k with
  | 0 => .int
  | 1 => .int
  | 2 => .int
  | 3 => .int
  | 4 => .int
  | 5 => .array .int
  | 6 => .array .int
  | 7 => .array .int
  | 8 => .array .int
  | 9 => .array .int
  | 10 => .array .long
  | 11 => .array .long
  | 12 => .array .long
  | _ => .array .long
abbrev wsX00 : List Cond := u_ws RX0 TX0 14
theorem nmX0 : ∀ a, a < 14 → ∀ b, b < 14 → a ≠ b → (TX0 a).2.1 ≠ (TX0 b).2.1 := by decide +kernel
theorem tyX0_ok : ∀ k, k < 14 → parseFieldDescriptor (TX0 k).2.2.1 = some (tyX0 k) := by decide +kernel
abbrev cX0_init : ByteArray := prog_2_method_1_code
def yX0_init : MethodName := ⟨RX0, "<init>", "(II)V"⟩
abbrev cX0_settle : ByteArray := prog_2_method_2_code
def yX0_settle : MethodName := ⟨RX0, "settle", "(II)V"⟩
abbrev cX0_takeGenerator : ByteArray := prog_2_method_3_code
def yX0_takeGenerator : MethodName := ⟨RX0, "takeGenerator", "(I)V"⟩
abbrev cX0_isGenerator : ByteArray := prog_2_method_4_code
def yX0_isGenerator : MethodName := ⟨RX0, "isGenerator", "(I)Z"⟩
abbrev cX0_oppositeOf : ByteArray := prog_2_method_5_code
def yX0_oppositeOf : MethodName := ⟨RX0, "oppositeOf", "(I)I"⟩
abbrev cX0_classNumber : ByteArray := prog_2_method_6_code
def yX0_classNumber : MethodName := ⟨RX0, "classNumber", "(I)I"⟩
abbrev cX0_findGenerators : ByteArray := prog_2_method_7_code
def yX0_findGenerators : MethodName := ⟨RX0, "findGenerators", "()V"⟩
abbrev cX0_findRaised : ByteArray := prog_2_method_8_code
def yX0_findRaised : MethodName := ⟨RX0, "findRaised", "()V"⟩
abbrev cX0_findPowers : ByteArray := prog_2_method_9_code
def yX0_findPowers : MethodName := ⟨RX0, "findPowers", "()V"⟩
abbrev cX0_findNeighbours : ByteArray := prog_2_method_10_code
def yX0_findNeighbours : MethodName := ⟨RX0, "findNeighbours", "()V"⟩
abbrev cX0_findFactors : ByteArray := prog_2_method_11_code
def yX0_findFactors : MethodName := ⟨RX0, "findFactors", "()V"⟩
abbrev cX0_countMeetings : ByteArray := prog_2_method_12_code
def yX0_countMeetings : MethodName := ⟨RX0, "countMeetings", "(II)V"⟩
abbrev cX0_findPolynomial : ByteArray := prog_2_method_13_code
def yX0_findPolynomial : MethodName := ⟨RX0, "findPolynomial", "()V"⟩
abbrev cX0_findPowerSums : ByteArray := prog_2_method_14_code
def yX0_findPowerSums : MethodName := ⟨RX0, "findPowerSums", "()V"⟩
abbrev cX0_multiplyByFirstPeriod : ByteArray := prog_2_method_15_code
def yX0_multiplyByFirstPeriod : MethodName := ⟨RX0, "multiplyByFirstPeriod", "()V"⟩
def RX1 : String := "PowerClasses$Reader"
def TX1 : u_T := fun k => match k with
  | 0 => ("PowerClasses$Reader", "classes", "LPowerClasses$Classes;", true)
  | 1 => ("PowerClasses$Reader", "reckoner", "LPowerClasses$Reckoner;", true)
  | 2 => ("PowerClasses$Reader", "troubles", "LPowerClasses$Troubles;", true)
  | 3 => ("PowerClasses$Reader", "tape", "[B", true)
  | 4 => ("PowerClasses$Reader", "sums", "[[J", true)
  | 5 => ("PowerClasses$Reader", "products", "[[J", true)
  | 6 => ("PowerClasses$Reader", "parts", "[[J", true)
  | 7 => ("PowerClasses$Reader", "length", "I", false)
  | 8 => ("PowerClasses$Reader", "place", "I", false)
  | _ => ("PowerClasses$Reader", "fault", "I", false)
def tyX1 : Nat → FieldType := fun k => match k with
  | 0 => .object "PowerClasses$Classes"
  | 1 => .object "PowerClasses$Reckoner"
  | 2 => .object "PowerClasses$Troubles"
  | 3 => .array .byte
  | 4 => .array (.array .long)
  | 5 => .array (.array .long)
  | 6 => .array (.array .long)
  | 7 => .int
  | 8 => .int
  | _ => .int
abbrev wsX10 : List Cond := u_ws RX1 TX1 10
theorem nmX1 : ∀ a, a < 10 → ∀ b, b < 10 → a ≠ b → (TX1 a).2.1 ≠ (TX1 b).2.1 := by decide +kernel
theorem tyX1_ok : ∀ k, k < 10 → parseFieldDescriptor (TX1 k).2.2.1 = some (tyX1 k) := by decide +kernel
abbrev cX1_init : ByteArray := prog_3_method_1_code
def yX1_init : MethodName := ⟨RX1, "<init>", "(LPowerClasses$Classes;LPowerClasses$Reckoner;LPowerClasses$Troubles;)V"⟩
abbrev cX1_append : ByteArray := prog_3_method_2_code
def yX1_append : MethodName := ⟨RX1, "append", "(I)V"⟩
abbrev cX1_readTo : ByteArray := prog_3_method_3_code
def yX1_readTo : MethodName := ⟨RX1, "readTo", "([J)I"⟩
abbrev cX1_readSum : ByteArray := prog_3_method_4_code
def yX1_readSum : MethodName := ⟨RX1, "readSum", "(I)Z"⟩
abbrev cX1_joinProduct : ByteArray := prog_3_method_5_code
def yX1_joinProduct : MethodName := ⟨RX1, "joinProduct", "(ZI)Z"⟩
abbrev cX1_readProduct : ByteArray := prog_3_method_6_code
def yX1_readProduct : MethodName := ⟨RX1, "readProduct", "(I)Z"⟩
abbrev cX1_readPart : ByteArray := prog_3_method_7_code
def yX1_readPart : MethodName := ⟨RX1, "readPart", "(I)Z"⟩
abbrev cX1_readPeriod : ByteArray := prog_3_method_8_code
def yX1_readPeriod : MethodName := ⟨RX1, "readPeriod", "([J)Z"⟩
abbrev cX1_readBracket : ByteArray := prog_3_method_9_code
def yX1_readBracket : MethodName := ⟨RX1, "readBracket", "(I)Z"⟩
abbrev cX1_readFigures : ByteArray := prog_3_method_10_code
def yX1_readFigures : MethodName := ⟨RX1, "readFigures", "(I)I"⟩
abbrev cX1_faultAt : ByteArray := prog_3_method_11_code
def yX1_faultAt : MethodName := ⟨RX1, "faultAt", "(I)Z"⟩
abbrev cX1_letter : ByteArray := prog_3_method_12_code
def yX1_letter : MethodName := ⟨RX1, "letter", "()I"⟩
abbrev cX1_isSign : ByteArray := prog_3_method_13_code
def yX1_isSign : MethodName := ⟨RX1, "isSign", "(I)Z"⟩
abbrev cX1_isFigure : ByteArray := prog_3_method_14_code
def yX1_isFigure : MethodName := ⟨RX1, "isFigure", "(I)Z"⟩
def RX2 : String := "PowerClasses$Reckoner"
def TX2 : u_T := fun k => match k with
  | 0 => ("PowerClasses$Reckoner", "classes", "LPowerClasses$Classes;", true)
  | 1 => ("PowerClasses$Reckoner", "troubles", "LPowerClasses$Troubles;", true)
  | 2 => ("PowerClasses$Reckoner", "result", "[J", true)
  | 3 => ("PowerClasses$Reckoner", "grown", "[J", true)
  | _ => ("PowerClasses$Reckoner", "turned", "[J", true)
def tyX2 : Nat → FieldType := fun k => match k with
  | 0 => .object "PowerClasses$Classes"
  | 1 => .object "PowerClasses$Troubles"
  | 2 => .array .long
  | 3 => .array .long
  | _ => .array .long
abbrev wsX20 : List Cond := u_ws RX2 TX2 5
theorem nmX2 : ∀ a, a < 5 → ∀ b, b < 5 → a ≠ b → (TX2 a).2.1 ≠ (TX2 b).2.1 := by decide +kernel
theorem tyX2_ok : ∀ k, k < 5 → parseFieldDescriptor (TX2 k).2.2.1 = some (tyX2 k) := by decide +kernel
abbrev cX2_init : ByteArray := prog_4_method_1_code
def yX2_init : MethodName := ⟨RX2, "<init>", "(LPowerClasses$Classes;LPowerClasses$Troubles;)V"⟩
abbrev cX2_sum : ByteArray := prog_4_method_2_code
def yX2_sum : MethodName := ⟨RX2, "sum", "([J[J[J)Z"⟩
abbrev cX2_difference : ByteArray := prog_4_method_3_code
def yX2_difference : MethodName := ⟨RX2, "difference", "([J[J[J)Z"⟩
abbrev cX2_multiply : ByteArray := prog_4_method_4_code
def yX2_multiply : MethodName := ⟨RX2, "multiply", "([J[J[J)Z"⟩
abbrev cX2_multiplyAt : ByteArray := prog_4_method_5_code
def yX2_multiplyAt : MethodName := ⟨RX2, "multiplyAt", "(I[J[J)Z"⟩
abbrev cX2_multiplyOften : ByteArray := prog_4_method_6_code
def yX2_multiplyOften : MethodName := ⟨RX2, "multiplyOften", "([JI[J)Z"⟩
abbrev cX2_grow : ByteArray := prog_4_method_7_code
def yX2_grow : MethodName := ⟨RX2, "grow", "([JI)Z"⟩
abbrev cX2_turnRow : ByteArray := prog_4_method_8_code
def yX2_turnRow : MethodName := ⟨RX2, "turnRow", "([JI[J)V"⟩
abbrev cX2_normOf : ByteArray := prog_4_method_9_code
def yX2_normOf : MethodName := ⟨RX2, "normOf", "([J)J"⟩
abbrev cX2_traceOf : ByteArray := prog_4_method_10_code
def yX2_traceOf : MethodName := ⟨RX2, "traceOf", "([J)J"⟩
abbrev cX2_negated : ByteArray := prog_4_method_11_code
def yX2_negated : MethodName := ⟨RX2, "negated", "(J)J"⟩
abbrev cX2_sumFits : ByteArray := prog_4_method_12_code
def yX2_sumFits : MethodName := ⟨RX2, "sumFits", "(JJ)Z"⟩
abbrev cX2_differenceFits : ByteArray := prog_4_method_13_code
def yX2_differenceFits : MethodName := ⟨RX2, "differenceFits", "(JJ)Z"⟩
abbrev cX2_productFits : ByteArray := prog_4_method_14_code
def yX2_productFits : MethodName := ⟨RX2, "productFits", "(JJ)Z"⟩
def RX3 : String := "PowerClasses$Troubles"
def TX3 : u_T := fun k => match k with
  | 0 => ("PowerClasses$Troubles", "toldCount", "I", false)
  | 1 => ("PowerClasses$Troubles", "toldSorts", "[I", true)
  | 2 => ("PowerClasses$Troubles", "toldNumbers", "[I", true)
  | 3 => ("PowerClasses$Troubles", "openCount", "I", false)
  | 4 => ("PowerClasses$Troubles", "openSorts", "[I", true)
  | _ => ("PowerClasses$Troubles", "openNumbers", "[I", true)
def tyX3 : Nat → FieldType := fun k => match k with
  | 0 => .int
  | 1 => .array .int
  | 2 => .array .int
  | 3 => .int
  | 4 => .array .int
  | _ => .array .int
abbrev wsX30 : List Cond := u_ws RX3 TX3 6
theorem nmX3 : ∀ a, a < 6 → ∀ b, b < 6 → a ≠ b → (TX3 a).2.1 ≠ (TX3 b).2.1 := by decide +kernel
theorem tyX3_ok : ∀ k, k < 6 → parseFieldDescriptor (TX3 k).2.2.1 = some (tyX3 k) := by decide +kernel
abbrev cX3_init : ByteArray := prog_5_method_1_code
def yX3_init : MethodName := ⟨RX3, "<init>", "()V"⟩
abbrev cX3_enter : ByteArray := prog_5_method_2_code
def yX3_enter : MethodName := ⟨RX3, "enter", "(II)V"⟩
abbrev cX3_leave : ByteArray := prog_5_method_3_code
def yX3_leave : MethodName := ⟨RX3, "leave", "()V"⟩
abbrev cX3_report : ByteArray := prog_5_method_4_code
def yX3_report : MethodName := ⟨RX3, "report", "(II)Z"⟩
def RX4 : String := "PowerClasses"
def TX4 : u_T := fun k => match k with
  | 0 => ("PowerClasses", "classes", "LPowerClasses$Classes;", true)
  | 1 => ("PowerClasses", "troubles", "LPowerClasses$Troubles;", true)
  | 2 => ("PowerClasses", "reckoner", "LPowerClasses$Reckoner;", true)
  | 3 => ("PowerClasses", "reader", "LPowerClasses$Reader;", true)
  | 4 => ("PowerClasses", "shelves", "[[J", true)
  | 5 => ("PowerClasses", "lists", "[[J", true)
  | 6 => ("PowerClasses", "sizes", "[I", true)
  | 7 => ("PowerClasses", "imageShelves", "[[J", true)
  | 8 => ("PowerClasses", "imageTaken", "Z", false)
  | 9 => ("PowerClasses", "imagePrime", "I", false)
  | 10 => ("PowerClasses", "imageClasses", "I", false)
  | _ => ("PowerClasses", "imageGenerator", "I", false)
def tyX4 : Nat → FieldType := fun k => match k with
  | 0 => .object "PowerClasses$Classes"
  | 1 => .object "PowerClasses$Troubles"
  | 2 => .object "PowerClasses$Reckoner"
  | 3 => .object "PowerClasses$Reader"
  | 4 => .array (.array .long)
  | 5 => .array (.array .long)
  | 6 => .array .int
  | 7 => .array (.array .long)
  | 8 => .boolean
  | 9 => .int
  | 10 => .int
  | _ => .int
abbrev wsX40 : List Cond := u_ws RX4 TX4 12
theorem nmX4 : ∀ a, a < 12 → ∀ b, b < 12 → a ≠ b → (TX4 a).2.1 ≠ (TX4 b).2.1 := by decide +kernel
theorem tyX4_ok : ∀ k, k < 12 → parseFieldDescriptor (TX4 k).2.2.1 = some (tyX4 k) := by decide +kernel
abbrev cX4_init : ByteArray := prog_1_method_1_code
def yX4_init : MethodName := ⟨RX4, "<init>", "()V"⟩
abbrev cX4_field : ByteArray := prog_1_method_2_code
def yX4_field : MethodName := ⟨RX4, "field", "(II)I"⟩
abbrev cX4_told : ByteArray := prog_1_method_3_code
def yX4_told : MethodName := ⟨RX4, "told", "(I)I"⟩
abbrev cX4_generator : ByteArray := prog_1_method_4_code
def yX4_generator : MethodName := ⟨RX4, "generator", "(I)I"⟩
abbrev cX4_use : ByteArray := prog_1_method_5_code
def yX4_use : MethodName := ⟨RX4, "use", "(I)I"⟩
abbrev cX4_power : ByteArray := prog_1_method_6_code
def yX4_power : MethodName := ⟨RX4, "power", "(I)I"⟩
abbrev cX4_classOf : ByteArray := prog_1_method_7_code
def yX4_classOf : MethodName := ⟨RX4, "classOf", "(I)I"⟩
abbrev cX4_member : ByteArray := prog_1_method_8_code
def yX4_member : MethodName := ⟨RX4, "member", "(II)I"⟩
abbrev cX4_beside : ByteArray := prog_1_method_9_code
def yX4_beside : MethodName := ⟨RX4, "beside", "(II)I"⟩
abbrev cX4_meets : ByteArray := prog_1_method_10_code
def yX4_meets : MethodName := ⟨RX4, "meets", "(III)I"⟩
abbrev cX4_times : ByteArray := prog_1_method_11_code
def yX4_times : MethodName := ⟨RX4, "times", "(III)I"⟩
abbrev cX4_opposite : ByteArray := prog_1_method_12_code
def yX4_opposite : MethodName := ⟨RX4, "opposite", "(I)I"⟩
abbrev cX4_around : ByteArray := prog_1_method_13_code
def yX4_around : MethodName := ⟨RX4, "around", "(II)I"⟩
abbrev cX4_solved : ByteArray := prog_1_method_14_code
def yX4_solved : MethodName := ⟨RX4, "solved", "(III)I"⟩
abbrev cX4_polynomial : ByteArray := prog_1_method_15_code
def yX4_polynomial : MethodName := ⟨RX4, "polynomial", "(I)J"⟩
abbrev cX4_roots : ByteArray := prog_1_method_16_code
def yX4_roots : MethodName := ⟨RX4, "roots", "(I)I"⟩
abbrev cX4_put : ByteArray := prog_1_method_17_code
def yX4_put : MethodName := ⟨RX4, "put", "(IIJ)I"⟩
abbrev cX4_of : ByteArray := prog_1_method_18_code
def yX4_of : MethodName := ⟨RX4, "of", "(II)J"⟩
abbrev cX4_whole : ByteArray := prog_1_method_19_code
def yX4_whole : MethodName := ⟨RX4, "whole", "(II)I"⟩
abbrev cX4_period : ByteArray := prog_1_method_20_code
def yX4_period : MethodName := ⟨RX4, "period", "(II)I"⟩
abbrev cX4_add : ByteArray := prog_1_method_21_code
def yX4_add : MethodName := ⟨RX4, "add", "(III)I"⟩
abbrev cX4_less : ByteArray := prog_1_method_22_code
def yX4_less : MethodName := ⟨RX4, "less", "(III)I"⟩
abbrev cX4_product : ByteArray := prog_1_method_23_code
def yX4_product : MethodName := ⟨RX4, "product", "(III)I"⟩
abbrev cX4_raise : ByteArray := prog_1_method_24_code
def yX4_raise : MethodName := ⟨RX4, "raise", "(III)I"⟩
abbrev cX4_turn : ByteArray := prog_1_method_25_code
def yX4_turn : MethodName := ⟨RX4, "turn", "(III)I"⟩
abbrev cX4_norm : ByteArray := prog_1_method_26_code
def yX4_norm : MethodName := ⟨RX4, "norm", "(I)J"⟩
abbrev cX4_trace : ByteArray := prog_1_method_27_code
def yX4_trace : MethodName := ⟨RX4, "trace", "(I)J"⟩
abbrev cX4_isWhole : ByteArray := prog_1_method_28_code
def yX4_isWhole : MethodName := ⟨RX4, "isWhole", "(I)I"⟩
abbrev cX4_alike : ByteArray := prog_1_method_29_code
def yX4_alike : MethodName := ⟨RX4, "alike", "(II)I"⟩
abbrev cX4_why : ByteArray := prog_1_method_30_code
def yX4_why : MethodName := ⟨RX4, "why", "(II)I"⟩
abbrev cX4_feed : ByteArray := prog_1_method_31_code
def yX4_feed : MethodName := ⟨RX4, "feed", "(I)I"⟩
abbrev cX4_wipe : ByteArray := prog_1_method_32_code
def yX4_wipe : MethodName := ⟨RX4, "wipe", "()I"⟩
abbrev cX4_read : ByteArray := prog_1_method_33_code
def yX4_read : MethodName := ⟨RX4, "read", "(I)I"⟩
abbrev cX4_list : ByteArray := prog_1_method_34_code
def yX4_list : MethodName := ⟨RX4, "list", "(II)I"⟩
abbrev cX4_lay : ByteArray := prog_1_method_35_code
def yX4_lay : MethodName := ⟨RX4, "lay", "(IIJ)I"⟩
abbrev cX4_get : ByteArray := prog_1_method_36_code
def yX4_get : MethodName := ⟨RX4, "get", "(II)J"⟩
abbrev cX4_film : ByteArray := prog_1_method_37_code
def yX4_film : MethodName := ⟨RX4, "film", "(II)I"⟩
abbrev cX4_judge : ByteArray := prog_1_method_38_code
def yX4_judge : MethodName := ⟨RX4, "judge", "(II)I"⟩
abbrev cX4_image : ByteArray := prog_1_method_39_code
def yX4_image : MethodName := ⟨RX4, "image", "()I"⟩
abbrev cX4_undo : ByteArray := prog_1_method_40_code
def yX4_undo : MethodName := ⟨RX4, "undo", "()I"⟩
abbrev cX4_count : ByteArray := prog_1_method_41_code
def yX4_count : MethodName := ⟨RX4, "count", "(I)I"⟩
abbrev cX4_listsThere : ByteArray := prog_1_method_42_code
def yX4_listsThere : MethodName := ⟨RX4, "listsThere", "()I"⟩
abbrev cX4_shelvesInUse : ByteArray := prog_1_method_43_code
def yX4_shelvesInUse : MethodName := ⟨RX4, "shelvesInUse", "()I"⟩
abbrev cX4_isZero : ByteArray := prog_1_method_44_code
def yX4_isZero : MethodName := ⟨RX4, "isZero", "([J)Z"⟩
abbrev cX4_isTurnedBy : ByteArray := prog_1_method_45_code
def yX4_isTurnedBy : MethodName := ⟨RX4, "isTurnedBy", "([JI[J)Z"⟩
abbrev cX4_isClass : ByteArray := prog_1_method_46_code
def yX4_isClass : MethodName := ⟨RX4, "isClass", "(I)Z"⟩
abbrev cX4_isNumberOfPrime : ByteArray := prog_1_method_47_code
def yX4_isNumberOfPrime : MethodName := ⟨RX4, "isNumberOfPrime", "(I)Z"⟩
abbrev cX4_isRest : ByteArray := prog_1_method_48_code
def yX4_isRest : MethodName := ⟨RX4, "isRest", "(I)Z"⟩
abbrev cX4_isShelf : ByteArray := prog_1_method_49_code
def yX4_isShelf : MethodName := ⟨RX4, "isShelf", "(I)Z"⟩
abbrev cX4_isList : ByteArray := prog_1_method_50_code
def yX4_isList : MethodName := ⟨RX4, "isList", "(I)Z"⟩
abbrev cX4_isOddPrime : ByteArray := prog_1_method_51_code
def yX4_isOddPrime : MethodName := ⟨RX4, "isOddPrime", "(I)Z"⟩
abbrev cX4_factorIndex : ByteArray := prog_1_method_52_code
def yX4_factorIndex : MethodName := ⟨RX4, "factorIndex", "(III)I"⟩
abbrev cX4_setWhole : ByteArray := prog_1_method_53_code
def yX4_setWhole : MethodName := ⟨RX4, "setWhole", "([JI)V"⟩
abbrev cX4_setPeriod : ByteArray := prog_1_method_54_code
def yX4_setPeriod : MethodName := ⟨RX4, "setPeriod", "([JI)V"⟩
abbrev cX4_copyRow : ByteArray := prog_1_method_55_code
def yX4_copyRow : MethodName := ⟨RX4, "copyRow", "([J[J)V"⟩
def RX5 : String := "PowerClassesModel"
def TX5 : u_T := fun k => match k with
  | 0 => ("PowerClassesModel", "p", "I", false)
  | 1 => ("PowerClassesModel", "e", "I", false)
  | 2 => ("PowerClassesModel", "g", "I", false)
  | 3 => ("PowerClassesModel", "powerOf", "[I", true)
  | 4 => ("PowerClassesModel", "table", "[I", true)
  | 5 => ("PowerClassesModel", "shelves", "[J", true)
  | 6 => ("PowerClassesModel", "terms", "[J", true)
  | 7 => ("PowerClassesModel", "next", "[J", true)
  | 8 => ("PowerClassesModel", "openSort", "[I", true)
  | 9 => ("PowerClassesModel", "openNumber", "[I", true)
  | 10 => ("PowerClassesModel", "open", "I", false)
  | 11 => ("PowerClassesModel", "sorts", "[I", true)
  | 12 => ("PowerClassesModel", "numbers", "[I", true)
  | 13 => ("PowerClassesModel", "troubles", "I", false)
  | 14 => ("PowerClassesModel", "isWrong", "Z", false)
  | 15 => ("PowerClassesModel", "made", "[J", true)
  | 16 => ("PowerClassesModel", "product", "[J", true)
  | 17 => ("PowerClassesModel", "tape", "[I", true)
  | 18 => ("PowerClassesModel", "length", "I", false)
  | 19 => ("PowerClassesModel", "place", "I", false)
  | 20 => ("PowerClassesModel", "fault", "I", false)
  | 21 => ("PowerClassesModel", "lists", "[J", true)
  | 22 => ("PowerClassesModel", "sizes", "[I", true)
  | 23 => ("PowerClassesModel", "hadP", "I", false)
  | 24 => ("PowerClassesModel", "hadE", "I", false)
  | 25 => ("PowerClassesModel", "hadG", "I", false)
  | 26 => ("PowerClassesModel", "hadShelves", "[J", true)
  | _ => ("PowerClassesModel", "hasImage", "Z", false)
def tyX5 : Nat → FieldType := fun k => match k with
  | 0 => .int
  | 1 => .int
  | 2 => .int
  | 3 => .array .int
  | 4 => .array .int
  | 5 => .array .long
  | 6 => .array .long
  | 7 => .array .long
  | 8 => .array .int
  | 9 => .array .int
  | 10 => .int
  | 11 => .array .int
  | 12 => .array .int
  | 13 => .int
  | 14 => .boolean
  | 15 => .array .long
  | 16 => .array .long
  | 17 => .array .int
  | 18 => .int
  | 19 => .int
  | 20 => .int
  | 21 => .array .long
  | 22 => .array .int
  | 23 => .int
  | 24 => .int
  | 25 => .int
  | 26 => .array .long
  | _ => .boolean
abbrev wsX50 : List Cond := u_ws RX5 TX5 28
theorem nmX5 : ∀ a, a < 28 → ∀ b, b < 28 → a ≠ b → (TX5 a).2.1 ≠ (TX5 b).2.1 := by decide +kernel
theorem tyX5_ok : ∀ k, k < 28 → parseFieldDescriptor (TX5 k).2.2.1 = some (tyX5 k) := by decide +kernel
abbrev cX5_init : ByteArray := prog_7_method_1_code
def yX5_init : MethodName := ⟨RX5, "<init>", "()V"⟩
abbrev cX5_in : ByteArray := prog_7_method_2_code
def yX5_in : MethodName := ⟨RX5, "in", "(JJJ)Z"⟩
abbrev cX5_bit : ByteArray := prog_7_method_3_code
def yX5_bit : MethodName := ⟨RX5, "bit", "(Z)I"⟩
abbrev cX5_isPrime : ByteArray := prog_7_method_4_code
def yX5_isPrime : MethodName := ⟨RX5, "isPrime", "(I)Z"⟩
abbrev cX5_isGenerator : ByteArray := prog_7_method_5_code
def yX5_isGenerator : MethodName := ⟨RX5, "isGenerator", "(I)Z"⟩
abbrev cX5_begins : ByteArray := prog_7_method_6_code
def yX5_begins : MethodName := ⟨RX5, "begins", "(II)V"⟩
abbrev cX5_findsClasses : ByteArray := prog_7_method_7_code
def yX5_findsClasses : MethodName := ⟨RX5, "findsClasses", "()V"⟩
abbrev cX5_at : ByteArray := prog_7_method_8_code
def yX5_at : MethodName := ⟨RX5, "at", "(III)I"⟩
abbrev cX5_classAt : ByteArray := prog_7_method_9_code
def yX5_classAt : MethodName := ⟨RX5, "classAt", "(I)I"⟩
abbrev cX5_firstOf : ByteArray := prog_7_method_10_code
def yX5_firstOf : MethodName := ⟨RX5, "firstOf", "(I)I"⟩
abbrev cX5_isClass : ByteArray := prog_7_method_11_code
def yX5_isClass : MethodName := ⟨RX5, "isClass", "(I)Z"⟩
abbrev cX5_isNumber : ByteArray := prog_7_method_12_code
def yX5_isNumber : MethodName := ⟨RX5, "isNumber", "(I)Z"⟩
abbrev cX5_field : ByteArray := prog_7_method_13_code
def yX5_field : MethodName := ⟨RX5, "field", "(II)I"⟩
abbrev cX5_generators : ByteArray := prog_7_method_14_code
def yX5_generators : MethodName := ⟨RX5, "generators", "()I"⟩
abbrev cX5_told : ByteArray := prog_7_method_15_code
def yX5_told : MethodName := ⟨RX5, "told", "(I)I"⟩
abbrev cX5_generator : ByteArray := prog_7_method_16_code
def yX5_generator : MethodName := ⟨RX5, "generator", "(I)I"⟩
abbrev cX5_use : ByteArray := prog_7_method_17_code
def yX5_use : MethodName := ⟨RX5, "use", "(I)I"⟩
abbrev cX5_power : ByteArray := prog_7_method_18_code
def yX5_power : MethodName := ⟨RX5, "power", "(I)I"⟩
abbrev cX5_classOf : ByteArray := prog_7_method_19_code
def yX5_classOf : MethodName := ⟨RX5, "classOf", "(I)I"⟩
abbrev cX5_member : ByteArray := prog_7_method_20_code
def yX5_member : MethodName := ⟨RX5, "member", "(II)I"⟩
abbrev cX5_besideOf : ByteArray := prog_7_method_21_code
def yX5_besideOf : MethodName := ⟨RX5, "besideOf", "(II)I"⟩
abbrev cX5_beside : ByteArray := prog_7_method_22_code
def yX5_beside : MethodName := ⟨RX5, "beside", "(II)I"⟩
abbrev cX5_meets : ByteArray := prog_7_method_23_code
def yX5_meets : MethodName := ⟨RX5, "meets", "(III)I"⟩
abbrev cX5_oppositeOf : ByteArray := prog_7_method_24_code
def yX5_oppositeOf : MethodName := ⟨RX5, "oppositeOf", "(I)I"⟩
abbrev cX5_timesOf : ByteArray := prog_7_method_25_code
def yX5_timesOf : MethodName := ⟨RX5, "timesOf", "(III)I"⟩
abbrev cX5_times : ByteArray := prog_7_method_26_code
def yX5_times : MethodName := ⟨RX5, "times", "(III)I"⟩
abbrev cX5_opposite : ByteArray := prog_7_method_27_code
def yX5_opposite : MethodName := ⟨RX5, "opposite", "(I)I"⟩
abbrev cX5_around : ByteArray := prog_7_method_28_code
def yX5_around : MethodName := ⟨RX5, "around", "(II)I"⟩
abbrev cX5_raisedModulo : ByteArray := prog_7_method_29_code
def yX5_raisedModulo : MethodName := ⟨RX5, "raisedModulo", "(I)I"⟩
abbrev cX5_solved : ByteArray := prog_7_method_30_code
def yX5_solved : MethodName := ⟨RX5, "solved", "(III)I"⟩
abbrev cX5_findsPolynomial : ByteArray := prog_7_method_31_code
def yX5_findsPolynomial : MethodName := ⟨RX5, "findsPolynomial", "()V"⟩
abbrev cX5_polynomial : ByteArray := prog_7_method_32_code
def yX5_polynomial : MethodName := ⟨RX5, "polynomial", "(I)J"⟩
abbrev cX5_roots : ByteArray := prog_7_method_33_code
def yX5_roots : MethodName := ⟨RX5, "roots", "(I)I"⟩
abbrev cX5_begins_ : ByteArray := prog_7_method_34_code
def yX5_begins_ : MethodName := ⟨RX5, "begins", "()V"⟩
abbrev cX5_opens : ByteArray := prog_7_method_35_code
def yX5_opens : MethodName := ⟨RX5, "opens", "(II)V"⟩
abbrev cX5_wrong : ByteArray := prog_7_method_36_code
def yX5_wrong : MethodName := ⟨RX5, "wrong", "(II)V"⟩
abbrev cX5_isSumOver : ByteArray := prog_7_method_37_code
def yX5_isSumOver : MethodName := ⟨RX5, "isSumOver", "(JJ)Z"⟩
abbrev cX5_isLessOver : ByteArray := prog_7_method_38_code
def yX5_isLessOver : MethodName := ⟨RX5, "isLessOver", "(JJ)Z"⟩
abbrev cX5_isProductOver : ByteArray := prog_7_method_39_code
def yX5_isProductOver : MethodName := ⟨RX5, "isProductOver", "(JJ)Z"⟩
abbrev cX5_productAt : ByteArray := prog_7_method_40_code
def yX5_productAt : MethodName := ⟨RX5, "productAt", "(III)J"⟩
abbrev cX5_multiplies : ByteArray := prog_7_method_41_code
def yX5_multiplies : MethodName := ⟨RX5, "multiplies", "(II)V"⟩
abbrev cX5_adds : ByteArray := prog_7_method_42_code
def yX5_adds : MethodName := ⟨RX5, "adds", "(IIZ)V"⟩
abbrev cX5_takes : ByteArray := prog_7_method_43_code
def yX5_takes : MethodName := ⟨RX5, "takes", "(II)V"⟩
abbrev cX5_becomesWhole : ByteArray := prog_7_method_44_code
def yX5_becomesWhole : MethodName := ⟨RX5, "becomesWhole", "(IJ)V"⟩
abbrev cX5_lays : ByteArray := prog_7_method_45_code
def yX5_lays : MethodName := ⟨RX5, "lays", "(I)I"⟩
abbrev cX5_isShelf : ByteArray := prog_7_method_46_code
def yX5_isShelf : MethodName := ⟨RX5, "isShelf", "(I)Z"⟩
abbrev cX5_put : ByteArray := prog_7_method_47_code
def yX5_put : MethodName := ⟨RX5, "put", "(IIJ)I"⟩
abbrev cX5_of : ByteArray := prog_7_method_48_code
def yX5_of : MethodName := ⟨RX5, "of", "(II)J"⟩
abbrev cX5_whole : ByteArray := prog_7_method_49_code
def yX5_whole : MethodName := ⟨RX5, "whole", "(II)I"⟩
abbrev cX5_period : ByteArray := prog_7_method_50_code
def yX5_period : MethodName := ⟨RX5, "period", "(II)I"⟩
abbrev cX5_areShelves : ByteArray := prog_7_method_51_code
def yX5_areShelves : MethodName := ⟨RX5, "areShelves", "(III)Z"⟩
abbrev cX5_takesBoth : ByteArray := prog_7_method_52_code
def yX5_takesBoth : MethodName := ⟨RX5, "takesBoth", "(II)V"⟩
abbrev cX5_add : ByteArray := prog_7_method_53_code
def yX5_add : MethodName := ⟨RX5, "add", "(III)I"⟩
abbrev cX5_less : ByteArray := prog_7_method_54_code
def yX5_less : MethodName := ⟨RX5, "less", "(III)I"⟩
abbrev cX5_product : ByteArray := prog_7_method_55_code
def yX5_product : MethodName := ⟨RX5, "product", "(III)I"⟩
abbrev cX5_raise : ByteArray := prog_7_method_56_code
def yX5_raise : MethodName := ⟨RX5, "raise", "(III)I"⟩
abbrev cX5_turns : ByteArray := prog_7_method_57_code
def yX5_turns : MethodName := ⟨RX5, "turns", "(III)V"⟩
abbrev cX5_turn : ByteArray := prog_7_method_58_code
def yX5_turn : MethodName := ⟨RX5, "turn", "(III)I"⟩
abbrev cX5_norm : ByteArray := prog_7_method_59_code
def yX5_norm : MethodName := ⟨RX5, "norm", "(I)J"⟩
abbrev cX5_trace : ByteArray := prog_7_method_60_code
def yX5_trace : MethodName := ⟨RX5, "trace", "(I)J"⟩
abbrev cX5_isWhole : ByteArray := prog_7_method_61_code
def yX5_isWhole : MethodName := ⟨RX5, "isWhole", "(I)I"⟩
abbrev cX5_alike : ByteArray := prog_7_method_62_code
def yX5_alike : MethodName := ⟨RX5, "alike", "(II)I"⟩
abbrev cX5_why : ByteArray := prog_7_method_63_code
def yX5_why : MethodName := ⟨RX5, "why", "(II)I"⟩
abbrev cX5_feed : ByteArray := prog_7_method_64_code
def yX5_feed : MethodName := ⟨RX5, "feed", "(I)I"⟩
abbrev cX5_wipe : ByteArray := prog_7_method_65_code
def yX5_wipe : MethodName := ⟨RX5, "wipe", "()I"⟩
abbrev cX5_isNext : ByteArray := prog_7_method_66_code
def yX5_isNext : MethodName := ⟨RX5, "isNext", "(I)Z"⟩
abbrev cX5_isFigure : ByteArray := prog_7_method_67_code
def yX5_isFigure : MethodName := ⟨RX5, "isFigure", "()Z"⟩
abbrev cX5_faulty : ByteArray := prog_7_method_68_code
def yX5_faulty : MethodName := ⟨RX5, "faulty", "(I)V"⟩
abbrev cX5_figures : ByteArray := prog_7_method_69_code
def yX5_figures : MethodName := ⟨RX5, "figures", "(I)I"⟩
abbrev cX5_part : ByteArray := prog_7_method_70_code
def yX5_part : MethodName := ⟨RX5, "part", "(I)V"⟩
abbrev cX5_productTold : ByteArray := prog_7_method_71_code
def yX5_productTold : MethodName := ⟨RX5, "productTold", "(I)V"⟩
abbrev cX5_sum : ByteArray := prog_7_method_72_code
def yX5_sum : MethodName := ⟨RX5, "sum", "(I)V"⟩
abbrev cX5_read : ByteArray := prog_7_method_73_code
def yX5_read : MethodName := ⟨RX5, "read", "(I)I"⟩
abbrev cX5_isList : ByteArray := prog_7_method_74_code
def yX5_isList : MethodName := ⟨RX5, "isList", "(I)Z"⟩
abbrev cX5_becomes : ByteArray := prog_7_method_75_code
def yX5_becomes : MethodName := ⟨RX5, "becomes", "(II)V"⟩
abbrev cX5_list : ByteArray := prog_7_method_76_code
def yX5_list : MethodName := ⟨RX5, "list", "(II)I"⟩
abbrev cX5_lay : ByteArray := prog_7_method_77_code
def yX5_lay : MethodName := ⟨RX5, "lay", "(IIJ)I"⟩
abbrev cX5_get : ByteArray := prog_7_method_78_code
def yX5_get : MethodName := ⟨RX5, "get", "(II)J"⟩
abbrev cX5_film : ByteArray := prog_7_method_79_code
def yX5_film : MethodName := ⟨RX5, "film", "(II)I"⟩
abbrev cX5_judge : ByteArray := prog_7_method_80_code
def yX5_judge : MethodName := ⟨RX5, "judge", "(II)I"⟩
abbrev cX5_image : ByteArray := prog_7_method_81_code
def yX5_image : MethodName := ⟨RX5, "image", "()I"⟩
abbrev cX5_undo : ByteArray := prog_7_method_82_code
def yX5_undo : MethodName := ⟨RX5, "undo", "()I"⟩
abbrev cX5_count : ByteArray := prog_7_method_83_code
def yX5_count : MethodName := ⟨RX5, "count", "(I)I"⟩
def RL : String := "PowerClassesLaw"
abbrev cL_law : ByteArray := code
def yL_law : MethodName := ⟨RL, "law", "([I)Z"⟩
-- the words that every method here is given: all of the tables' that stay true
def BG : List Cond := lw_tbl.filter goodWord
theorem BG_in {w : Cond} (i : Nat) (h : lw_tbl[i]? = some w) (g : goodWord w = true) : w ∈ BG := List.mem_filter.mpr ⟨List.mem_of_getElem? h, g⟩
theorem BG_good {w : Cond} (h : w ∈ BG) : goodWord w = true := (List.mem_filter.mp h).2
theorem BG_tbl {w : Cond} (h : w ∈ BG) : w ∈ lw_tbl := (List.mem_filter.mp h).1
theorem GoodIn_BG {ws : List Cond} (h : ∀ w ∈ ws, w ∈ BG) : GoodIn BG ws := fun w hw => ⟨h w hw, good_of_word (BG_good (h w hw))⟩
abbrev classes : List vw_C := [(RX0, TX0, 14), (RX1, TX1, 10), (RX2, TX2, 5), (RX3, TX3, 6), (RX4, TX4, 12), (RX5, TX5, 28)]
end
section
/-! FRAME: one word list for every method, a world of cells, a contract that is exact (the answer and the cells behind it are given), made for functions that mirror the bytecode -/
def NWs : List Cond := [.methodLinkNest RX0 93 yX4_factorIndex RX4, .methodLinkNest RX0 103 yX4_setPeriod RX4, .methodLinkNest RX0 110 yX4_copyRow RX4, .methodLinkNest RX4 22 yX3_init RX4, .methodLinkNest RX2 45 yX4_copyRow RX4, .methodLinkNest RX2 63 yX4_factorIndex RX4, .methodLinkNest RX2 67 yX4_setWhole RX4, .methodLinkNest RX1 95 yX4_setWhole RX4, .methodLinkNest RX1 111 yX4_setPeriod RX4, .methodLinkNest RX1 59 yX4_copyRow RX4]
/-- the links among nest mates, which are no words of a list -/
def Nk (U : State) : Prop := ∀ w ∈ NWs, va_Nw w U
theorem NWs_shape : ∀ w ∈ NWs, ∃ a i x h, w = .methodLinkNest a i x h := by
  intro w hw
  simp only [NWs, List.mem_cons, List.not_mem_nil, or_false] at hw
  rcases hw with rfl | rfl | rfl | rfl | rfl | rfl | rfl | rfl | rfl | rfl <;> exact ⟨_, _, _, _, rfl⟩
theorem Nk.warm {s U : State} (hW : s.WarmedH U.vm) (h : Nk s) : Nk U := by
  intro w hw
  obtain ⟨a, i, x, g, rfl⟩ := NWs_shape w hw
  exact va_Nw.warmM hW (h _ hw)
theorem Nk.same {u U : State} (e : u.vm = U.vm) (h : Nk u) : Nk U := by
  intro w hw
  obtain ⟨a, i, x, g, rfl⟩ := NWs_shape w hw
  exact va_Nw.same rfl e (h _ hw)
abbrev GG : Type := va_G × (ClassId × (ClassId × (ClassId × ClassId)))
/-- the four classes of arrays: int, byte, long, rows of longs -/
def ty4 (G : GG) : List (ClassId × FieldType) := [(G.2.1, .int), (G.2.2.1, .byte), (G.2.2.2.1, .long), (G.2.2.2.2, .array .long)]
/-- what stays in one activation of a method -/
def Fx (p : Program) (s : State) (m : MethodId) (args : Array Value) (meth : Method) (c : Code) (cc : ByteArray) (nL : Nat) (own : String) (ret : Option FieldType) : Prop :=
  p.tables.exec = Jvm.exec ∧ c.code = cc ∧ c.maxLocals = nL ∧ s.vm.findClass own = some m.cls ∧ (∀ w ∈ BG, w.before args s = true) ∧ meth.sig.returnType = ret ∧ meth.locks = false ∧ Nk s
/-- the world at one point of an activation -/
def Wd (G : GG) (s : State) (A : Nat → Prop) (X : va_W) (H : Heap) (locs : List Loc) : Prop :=
  va_K G.1 classes (ty4 G) s ∧ va_P G.1 classes X H ∧ va_D A X ∧ va_S A s.heap H locs
def Hd (G : GG) (X : va_W) (sz : Nat) (U : State) : Prop :=
  U.heap.size = sz ∧ va_P G.1 classes X U.heap ∧ va_K G.1 classes (ty4 G) U ∧ va_D (fun _ => True) X ∧ Nk U
def Td (G : GG) (X X' : va_W) (sz : Nat) (st t : State) : Prop :=
  va_P G.1 classes X' t.heap ∧ va_K G.1 classes (ty4 G) t ∧ va_D (va_A X sz) X' ∧ va_F (va_A X sz) st t
abbrev rmOf (fr lo : Nat) : Room := { frames := fr, cells := 0, slots := 0, locals := lo }
/-- the contract: from a heap that holds X the method y returns r, and the heap holds X' -/
def Ct (l : Launch) (G : GG) (y : MethodName) (b : ByteArray) (n : Nat) (ret : Option FieldType) (fr lo : Nat) (av : List Value) (X : va_W) (r : Option Value) (X' : va_W) : Prop :=
  ∀ sz : Nat, Met l y (.code y b n ret :: BG) (rmOf fr lo) (va_Pc av (Hd G X sz)) (fun _ st oc t => oc = .returned r ∧ Td G X X' sz st t) 0 0 (va_A X sz)
/-- the end of a method's walk: with r on the stack, the world X' -/
def Ends (p : Program) (l : Launch) (e : Env) (R : Room) (s : State) (m : MethodId) (args : Array Value) (below : List Frame) (meth : Method) (c : Code) (Q : State → Prop) (cc : ByteArray) (G : GG) (A : Nat → Prop) (ret : Option FieldType) (r : Option Value) (X' : va_W) : Prop :=
  ∀ (H : Heap) (locs : List Loc) (pc : Nat) (ls : Array Slot), Wd G s A X' H locs → match ret, r with
    | some .int, some (.int v) => decode cc pc = .ok (.ireturn, 1) → W p l e R s m args below meth c H locs 0 0 Q (F0 m pc ls [.int v])
    | some .boolean, some (.int v) => (v = 0 ∨ v = 1) → decode cc pc = .ok (.ireturn, 1) → W p l e R s m args below meth c H locs 0 0 Q (F0 m pc ls [.int v])
    | some .long, some (.long v) => decode cc pc = .ok (.lreturn, 1) → W p l e R s m args below meth c H locs 0 0 Q (F0 m pc ls [.long v])
    | none, none => decode cc pc = .ok (.return_, 1) → W p l e R s m args below meth c H locs 0 0 Q (F0 m pc ls [])
    | _, _ => False
def retOk (ret : Option FieldType) (r : Option Value) : Prop := match ret, r with
  | some .int, some (.int _) => True
  | some .boolean, some (.int _) => True
  | some .long, some (.long _) => True
  | none, none => True
  | _, _ => False
theorem nz_bool {v : Int32} (h : v = 0 ∨ v = 1) : narrow .boolean (.int v) = .int v := by
  rcases h with rfl | rfl <;> rfl
section FR
variable {p : Program} {l : Launch} {e : Env} {R : Room} {s : State} {m : MethodId} {args : Array Value} {below : List Frame} {meth : Method} {c : Code} {H : Heap} {locs : List Loc} {Q : State → Prop}
variable {cc : ByteArray} {nL : Nat} {own : String} {ret : Option FieldType} {pc : Nat} {ls : Array Slot} {rest : List Value} {G : GG} {A : Nat → Prop} {X X' : va_W}
theorem Fx.x (F : Fx p s m args meth c cc nL own ret) : p.tables.exec = Jvm.exec := F.1
theorem Fx.b (F : Fx p s m args meth c cc nL own ret) : c.code = cc := F.2.1
theorem Fx.ml (F : Fx p s m args meth c cc nL own ret) : c.maxLocals = nL := F.2.2.1
theorem Fx.ow (F : Fx p s m args meth c cc nL own ret) : s.vm.findClass own = some m.cls := F.2.2.2.1
theorem Fx.ts (F : Fx p s m args meth c cc nL own ret) : ∀ w ∈ BG, w.before args s = true := F.2.2.2.2.1
theorem Fx.rt (F : Fx p s m args meth c cc nL own ret) : meth.sig.returnType = ret := F.2.2.2.2.2.1
theorem Fx.lk (F : Fx p s m args meth c cc nL own ret) : meth.locks = false := F.2.2.2.2.2.2.1
theorem Fx.nk (F : Fx p s m args meth c cc nL own ret) : Nk s := F.2.2.2.2.2.2.2
theorem Ends.of {sz : Nat} {r : Option Value} {X0 : va_W} (F : Fx p s m args meth c cc nL own ret) (hr : retOk ret r) : Ends p l e R s m args below meth c (MQ below (fun _ st oc t => oc = .returned r ∧ Td G X0 X' sz st t) args s 0 0 (va_A X0 sz)) cc G (va_A X0 sz) ret r X' := by
  intro H locs pc ls hw
  obtain ⟨hK, hP, hD, hS⟩ := hw
  have hq : ∀ t : State, t.heap = H → s.WarmedH t.vm → Td G X0 X' sz s t := fun t ht hW => ⟨by rw [ht]; exact hP, va_K.moved hW.alike hK, hD, hS.F ht⟩
  unfold retOk at hr
  split at hr
  · intro hdg
    exact W.iret F.x F.b F.rt (fun t ht hW => ⟨rfl, hq t ht hW⟩) hS.2.2 hdg F.lk
  · intro hz hdg
    exact W.zret F.x F.b F.rt (nz_bool hz) (fun t ht hW => ⟨rfl, hq t ht hW⟩) hS.2.2 hdg F.lk
  · intro hdg
    exact W.lret F.x F.b F.rt (fun t ht hW => ⟨rfl, hq t ht hW⟩) hS.2.2 hdg F.lk
  · intro hdg
    exact W.vret F.x F.b F.rt (fun t ht hW => ⟨rfl, hq t ht hW⟩) hS.2.2 hdg F.lk
  · exact hr.elim
end FR
theorem Ct.of {l : Launch} {G : GG} {y : MethodName} {b : ByteArray} {n : Nat} {ret : Option FieldType} {fr lo : Nat} {av : List Value} {X X' : va_W} {r : Option Value} (hy : plainName y.cls = true) (hlen : (lg_sl av).length ≤ n) (hr : retOk ret r)
    (body : ∀ (p : Program) (e : Env) (s : State) (m : MethodId) (args : Array Value) (below : List Frame) (meth : Method) (c : Code) (Q : State → Prop) (A : Nat → Prop) (ls : Array Slot), Fx p s m args meth c b n y.cls ret → Wd G s A X s.heap [] → (∀ q, s.heap.size ≤ q → A q) → Ends p l e (rmOf fr lo) s m args below meth c Q b G A ret r X' → lv_has ls n (lv_args 0 av) →
      W p l e (rmOf fr lo) s m args below meth c s.heap [] 0 0 Q (F0 m 0 ls [])) : Ct l G y b n ret fr lo av X r X' := by
  intro sz
  refine Met.ofW (cc := b) (maxL := n) (ret := ret) hy rfl ?_
  intro p e s m args below meth c s₁ B hml hv
  obtain ⟨rfl, hsz, hP, hK, hD0, hN⟩ := hv
  have hts := atoms_spec (ws := .code y b n ret :: BG) B.pre
  have F : Fx p s m av.toArray meth c b n y.cls ret := ⟨B.exec, B.bytes, hml, findClass_of_methodNamed B.named, fun w hw => hts w (List.mem_cons_of_mem _ hw), B.returns, B.notSynchronized, hN⟩
  subst hsz
  have hl := lv_entry av hlen
  rw [lg_entry_eq]
  exact body p e s m av.toArray below meth c _ _ _ F ⟨hK, hP, hD0.self, va_S.rf⟩ (fun q h => Or.inr h) (Ends.of F hr) hl
section FC
variable {p : Program} {l : Launch} {e : Env} {R : Room} {s : State} {m : MethodId} {args : Array Value} {below : List Frame} {meth : Method} {c : Code} {H : Heap} {locs : List Loc} {Q : State → Prop}
variable {cc : ByteArray} {nL : Nat} {own : String} {ret : Option FieldType} {pc : Nat} {ls : Array Slot} {rest : List Value} {G : GG} {A : Nat → Prop} {X X' : va_W} {r : Option Value}
theorem Hd.blind {sz : Nat} (av : List Value) : FrameBlind (va_Pc av (Hd G X sz)) := by
  intro a U g mk q
  obtain ⟨q0, q1, qP, qK, qD, qN⟩ := q
  exact ⟨q0, q1, qP, va_K.moved (u := U) (U := U.calling g mk a) (Vm.Alike.refl U.vm) qK, qD, Nk.same (u := U) rfl qN⟩
theorem Wd.free (hw : Wd G s A X H locs) (hA : ∀ q, s.heap.size ≤ q → A q) : ∀ q, va_A X H.size q → A q := by
  obtain ⟨hK, hP, hD, hS⟩ := hw
  intro q hq
  rcases hq with ⟨k, x, hk⟩ | h
  · exact hD.2 k (q, x) hk
  · exact hA q (Nat.le_trans hS.1 h)
/-- behind a call -/
theorem Wd.back {st0 : List Value} (hw : Wd G s A X H locs) (hA : ∀ q, s.heap.size ≤ q → A q)
    (hr : va_Run p l e R s m args below meth c H locs 0 0 0 0 (F0 m pc ls rest) st0 (fun st oc t => oc = .returned r ∧ Td G X X' H.size st t) (va_A X H.size))
    (kk : ∀ (H1 : Heap) (locs1 : List Loc), Wd G s A X' H1 locs1 → W p l e R s m args below meth c H1 locs1 0 0 Q (F0 m (pc + 3) ls (r.toList ++ st0))) : W p l e R s m args below meth c H locs 0 0 Q (F0 m pc ls rest) := by
  have hF := hw.free hA
  obtain ⟨hK, hP, hD, hS⟩ := hw
  intro T hT Xs
  obtain ⟨v, st₀, t, T', L, h0, X1, hL, e1, e2, ⟨hv, hP1, hK1, hD1, hz, hk⟩, st⟩ := hr T hT Xs
  cases hv
  rw [h0] at hz hk
  have hal : s.vm.Alike t.vm := by rw [← e2]; exact X1.warmed.alike
  obtain ⟨t2, a1, b1⟩ := kk T'.heap (locs ++ L) ⟨hK, by rw [e1]; exact hP1, ⟨hD1.1, fun k q hq => hF _ (hD1.2 k q hq)⟩,
    ⟨Nat.le_trans hS.1 (by rw [e1]; exact hz), fun q h1 h2 => by rw [e1, hk q (Nat.lt_of_lt_of_le h1 hS.1) (fun z => h2 (hF q z))]; exact hS.2.1 q h1 h2, fun q hq => by
      rcases List.mem_append.mp hq with h | h
      · exact hS.2.2 q h
      · exact hF _ (hL q h)⟩⟩ T' rfl X1
  exact ⟨t2, st t2 a1, b1⟩
theorem hd_of (hw : Wd G s A X H locs) (F : Nk s) : ∀ U : State, U.heap = H → s.WarmedH U.vm → Hd G X H.size U := by
  obtain ⟨hK, hP, hD, hS⟩ := hw
  intro U hU hW
  exact ⟨by rw [hU], by rw [hU]; exact hP, va_K.moved hW.alike hK, hD.weaken (fun _ _ _ _ => trivial), F.warm hW⟩
/-- invokevirtual of a method of class C on the object at b (place q0 of the world) -/
theorem ctV {y : MethodName} {b : ByteArray} {n fr lo fr0 lo0 idx na : Nat} {ret' : Option FieldType} {av st0 : List Value} {a : Nat} {C : String} {T : u_T} {N ci : Nat} {fs : List Value}
    (F : Fx p s m args meth c cc nL own ret) (hw : Wd G s A X H locs) (hA : ∀ q, s.heap.size ≤ q → A q) (hC : Ct l G y b n ret' fr lo (.ref a :: av) X r X')
    (hin : ∀ w ∈ wsV own idx C y (.code y b n ret' :: BG), w ∈ BG) (hd : y.cls = C ∧ y.cls ≠ "java/lang/invoke/MethodHandle" ∧ y.cls ≠ "java/lang/invoke/VarHandle" ∧ (parseMethodDescriptor y.desc).map (fun d => d.parameters.length) = some na) (hna : av.length = na)
    (hR : fr + 1 ≤ fr0 ∧ 8 + (n + 11) + lo ≤ lo0) (q0 : Nat) (hq : X[q0]? = some (a, .inr (ci, fs))) (hc : classes[ci]? = some (C, T, N)) (hl : ls.size = nL) (hst : rest = av.reverse ++ .ref a :: st0) (hroom : (st0.map fun v => v.category).sum ≤ 8) (hdg : decode cc pc = .ok (.invokevirtual idx, 3))
    {st1 : List Value} (hs : r.toList ++ st0 = st1) (kk : ∀ (H1 : Heap) (locs1 : List Loc), Wd G s A X' H1 locs1 → W p l e (rmOf fr0 lo0) s m args below meth c H1 locs1 0 0 Q (F0 m (pc + 3) ls st1)) : W p l e (rmOf fr0 lo0) s m args below meth c H locs 0 0 Q (F0 m pc ls rest) := by
  refine hw.back hA (va_runV (As := av) ⟨F.x, F.b, F.ml, F.ow, F.ts⟩ (hC H.size) (cwV na F.ts (GoodIn_BG hin) rfl rfl rfl hd hR) ⟨Hd.blind _, va_recv hw.1 hw.2.1 hc hq, fun U hU hW => ⟨rfl, hd_of hw F.nk U hU hW⟩⟩ rfl hna hl hst (lv_room hroom) hdg ⟨Nat.zero_le _, Nat.zero_le _⟩) (by rw [hs]; exact kk)
/-- invokestatic of a method of the own class -/
theorem ctS {y : MethodName} {b : ByteArray} {n fr lo fr0 lo0 idx na : Nat} {ret' : Option FieldType} {av st0 : List Value}
    (F : Fx p s m args meth c cc nL own ret) (hw : Wd G s A X H locs) (hA : ∀ q, s.heap.size ≤ q → A q) (hC : Ct l G y b n ret' fr lo av X r X')
    (hin : ∀ w ∈ va_wsS own idx y (.code y b n ret' :: BG), w ∈ BG) (hd : y.cls ≠ "java/lang/invoke/MethodHandle" ∧ y.cls ≠ "java/lang/invoke/VarHandle" ∧ (parseMethodDescriptor y.desc).map (fun d => d.parameters.length) = some na) (hna : av.length = na)
    (hR : fr + 1 ≤ fr0 ∧ 8 + (n + 11) + lo ≤ lo0) (hl : ls.size = nL) (hst : rest = av.reverse ++ st0) (hroom : (st0.map fun v => v.category).sum ≤ 8) (hdg : decode cc pc = .ok (.invokestatic idx, 3))
    {st1 : List Value} (hs : r.toList ++ st0 = st1) (kk : ∀ (H1 : Heap) (locs1 : List Loc), Wd G s A X' H1 locs1 → W p l e (rmOf fr0 lo0) s m args below meth c H1 locs1 0 0 Q (F0 m (pc + 3) ls st1)) : W p l e (rmOf fr0 lo0) s m args below meth c H locs 0 0 Q (F0 m pc ls rest) := by
  refine hw.back hA (va_runS (As := av) ⟨F.x, F.b, F.ml, F.ow, F.ts⟩ (hC H.size) (va_cwS na F.ts (GoodIn_BG hin) rfl rfl rfl hd hR) ⟨Hd.blind _, fun U hU hW => ⟨rfl, hd_of hw F.nk U hU hW⟩⟩ rfl hna hl hst (lv_room hroom) hdg ⟨Nat.zero_le _, Nat.zero_le _⟩) (by rw [hs]; exact kk)
/-- invokestatic of a nest mate's private method -/
theorem ctSN {y : MethodName} {b : ByteArray} {n fr lo fr0 lo0 idx na : Nat} {ret' : Option FieldType} {av st0 : List Value} {host : String}
    (F : Fx p s m args meth c cc nL own ret) (hw : Wd G s A X H locs) (hA : ∀ q, s.heap.size ≤ q → A q) (hC : Ct l G y b n ret' fr lo av X r X')
    (hn : Cond.methodLinkNest own idx y host ∈ NWs) (hin : ∀ w ∈ .code y b n ret' :: BG, w ∈ BG) (hini : Cond.initialized y.cls ∈ BG) (hstc : Cond.static y ∈ BG) (hd : y.cls ≠ "java/lang/invoke/MethodHandle" ∧ y.cls ≠ "java/lang/invoke/VarHandle" ∧ (parseMethodDescriptor y.desc).map (fun d => d.parameters.length) = some na) (hna : av.length = na)
    (hR : fr + 1 ≤ fr0 ∧ 8 + (n + 11) + lo ≤ lo0) (hl : ls.size = nL) (hst : rest = av.reverse ++ st0) (hroom : (st0.map fun v => v.category).sum ≤ 8) (hdg : decode cc pc = .ok (.invokestatic idx, 3))
    {st1 : List Value} (hs : r.toList ++ st0 = st1) (kk : ∀ (H1 : Heap) (locs1 : List Loc), Wd G s A X' H1 locs1 → W p l e (rmOf fr0 lo0) s m args below meth c H1 locs1 0 0 Q (F0 m (pc + 3) ls st1)) : W p l e (rmOf fr0 lo0) s m args below meth c H locs 0 0 Q (F0 m pc ls rest) := by
  refine hw.back hA (va_runSN (As := av) ⟨F.x, F.b, F.ml, F.ow, F.ts⟩ (hC H.size) ⟨va_cnB na F.ts (GoodIn_BG hin) rfl rfl rfl (F.nk _ hn) (F.ts _ hini) hd hR, F.ts _ hstc, trivial⟩ ⟨Hd.blind _, fun U hU hW => ⟨rfl, hd_of hw F.nk U hU hW⟩⟩ rfl hna hl hst (lv_room hroom) hdg ⟨Nat.zero_le _, Nat.zero_le _⟩) (by rw [hs]; exact kk)
end FC

-- ===== steps through a function that mirrors the bytecode =====
theorem stT {α : Type} {P : Prop} [Decidable P] {x y : Option α} {z : α} (hc : P) (h : (if P then x else y) = some z) : x = some z := by rw [if_pos hc] at h; exact h
theorem stF {α : Type} {P : Prop} [Decidable P] {x y : Option α} {z : α} (hc : ¬ P) (h : (if P then x else y) = some z) : y = some z := by rw [if_neg hc] at h; exact h
theorem stG {α : Type} {P : Prop} [Decidable P] {x : Option α} {z : α} (h : (if P then x else none) = some z) : P ∧ x = some z := by
  by_cases hc : P
  · rw [if_pos hc] at h; exact ⟨hc, h⟩
  · rw [if_neg hc] at h; cases h
theorem stD {α : Type} {P : Prop} [Decidable P] {x : Option α} {z : α} (h : (if P then none else x) = some z) : ¬ P ∧ x = some z := by
  by_cases hc : P
  · rw [if_pos hc] at h; cases h
  · rw [if_neg hc] at h; exact ⟨hc, h⟩
theorem stB {α β : Type} {x : Option α} {k : α → Option β} {z : β} (h : x.bind k = some z) : ∃ y, x = some y ∧ k y = some z := Option.bind_eq_some_iff.mp h
def FU : Nat := 2000
theorem kV {own C : String} {idx n : Nat} {y : MethodName} {b : ByteArray} {ret : Option FieldType} (h1 : Cond.methodLink own idx y ∈ BG) (h2 : Cond.instanceMethod y ∈ BG) (h3 : Cond.selects C y y ∈ BG) (h4 : Cond.initialized C ∈ BG) (h5 : Cond.code y b n ret ∈ BG) : ∀ w ∈ wsV own idx C y (.code y b n ret :: BG), w ∈ BG := by
  intro w hw
  simp only [wsV, List.cons_append, List.nil_append, List.mem_cons] at hw
  rcases hw with rfl | rfl | rfl | rfl | rfl | hw
  · exact h1
  · exact h2
  · exact h3
  · exact h4
  · exact h5
  · exact hw
theorem kS {own : String} {idx n : Nat} {y : MethodName} {b : ByteArray} {ret : Option FieldType} (h1 : Cond.methodLink own idx y ∈ BG) (h2 : Cond.static y ∈ BG) (h4 : Cond.initialized y.cls ∈ BG) (h5 : Cond.code y b n ret ∈ BG) : ∀ w ∈ va_wsS own idx y (.code y b n ret :: BG), w ∈ BG := by
  intro w hw
  simp only [va_wsS, List.cons_append, List.nil_append, List.mem_cons] at hw
  rcases hw with rfl | rfl | rfl | rfl | hw
  · exact h1
  · exact h2
  · exact h4
  · exact h5
  · exact hw
theorem kN {n : Nat} {y : MethodName} {b : ByteArray} {ret : Option FieldType} (h5 : Cond.code y b n ret ∈ BG) : ∀ w ∈ .code y b n ret :: BG, w ∈ BG := by
  intro w hw
  rcases List.mem_cons.mp hw with rfl | hw
  · exact h5
  · exact hw
end
section
/-! THE WORLDS, printed by wip/whole/gen03.py: kW the Classes object and its arrays, oW the rest of the class (behind kW), mW the reference; and a row for each field and array -/
def kW (G : GG) (q : Nat → Nat) (zp : Int32) (ze : Int32) (zf : Int32) (zg : Int32) (zn : Int32) (aG : Nat → Int32) (aW : Nat → Int32) (aR : Nat → Int32) (aN : Nat → Int32) (aF : Nat → Int32) (lC : Nat → Int64) (lS : Nat → Int64) (lP : Nat → Int64) (lX : Nat → Int64) : va_W := [(q 0, .inr (0, [.int zp, .int ze, .int zf, .int zg, .int zn, .ref (q 1), .ref (q 2), .ref (q 3), .ref (q 4), .ref (q 5), .ref (q 6), .ref (q 7), .ref (q 8), .ref (q 9)])), (q 1, .inl (G.2.1, 61, .inl aG)), (q 2, .inl (G.2.1, 61, .inl aW)), (q 3, .inl (G.2.1, 61, .inl aR)), (q 4, .inl (G.2.1, 144, .inl aN)), (q 5, .inl (G.2.1, 1728, .inl aF)), (q 6, .inl (G.2.2.2.1, 13, .inr (.inl lC))), (q 7, .inl (G.2.2.2.1, 13, .inr (.inl lS))), (q 8, .inl (G.2.2.2.1, 12, .inr (.inl lP))), (q 9, .inl (G.2.2.2.1, 12, .inr (.inl lX)))]
def rl (k : Nat) : Nat := if 4 ≤ k ∧ k < 7 then 15 else 12
def rW (G : GG) (q : Nat → Nat) (M : Nat → Nat → Int64) : va_W := (List.range 32).map (fun k => (q (26 + k), .inl (G.2.2.2.1, rl k, .inr (.inl (M k)))))
def oF (G : GG) (q : Nat → Nat) (ztc : Int32) (aTs : Nat → Int32) (aTn : Nat → Int32) (zoc : Int32) (aOs : Nat → Int32) (aOn : Nat → Int32) (aTp : Nat → Int32) (zln : Int32) (zpl : Int32) (zfa : Int32) (aSz : Nat → Int32) (zit : Int32) (zip : Int32) (zic : Int32) (zig : Int32) : va_W := [(q 10, .inr (3, [.int ztc, .ref (q 11), .ref (q 12), .int zoc, .ref (q 13), .ref (q 14)])), (q 11, .inl (G.2.1, 6, .inl aTs)), (q 12, .inl (G.2.1, 6, .inl aTn)), (q 13, .inl (G.2.1, 6, .inl aOs)), (q 14, .inl (G.2.1, 6, .inl aOn)), (q 15, .inr (2, [.ref (q 0), .ref (q 10), .ref (q 55), .ref (q 56), .ref (q 57)])), (q 16, .inr (1, [.ref (q 0), .ref (q 15), .ref (q 10), .ref (q 17), .ref (q 18), .ref (q 19), .ref (q 20), .int zln, .int zpl, .int zfa])), (q 17, .inl (G.2.2.1, 80, .inl aTp)), (q 18, .inl (G.2.2.2.2, 6, .inr (.inr (.inr (.inr (fun i => some (q (37 + i)))))))), (q 19, .inl (G.2.2.2.2, 6, .inr (.inr (.inr (.inr (fun i => some (q (43 + i)))))))), (q 20, .inl (G.2.2.2.2, 6, .inr (.inr (.inr (.inr (fun i => some (q (49 + i)))))))), (q 21, .inr (4, [.ref (q 0), .ref (q 10), .ref (q 15), .ref (q 16), .ref (q 22), .ref (q 23), .ref (q 24), .ref (q 25), .int zit, .int zip, .int zic, .int zig])), (q 22, .inl (G.2.2.2.2, 4, .inr (.inr (.inr (.inr (fun i => some (q (26 + i)))))))), (q 23, .inl (G.2.2.2.2, 3, .inr (.inr (.inr (.inr (fun i => some (q (30 + i)))))))), (q 24, .inl (G.2.1, 3, .inl aSz)), (q 25, .inl (G.2.2.2.2, 4, .inr (.inr (.inr (.inr (fun i => some (q (33 + i))))))))]
def oW (G : GG) (q : Nat → Nat) (ztc : Int32) (aTs : Nat → Int32) (aTn : Nat → Int32) (zoc : Int32) (aOs : Nat → Int32) (aOn : Nat → Int32) (aTp : Nat → Int32) (zln : Int32) (zpl : Int32) (zfa : Int32) (aSz : Nat → Int32) (zit : Int32) (zip : Int32) (zic : Int32) (zig : Int32) (M : Nat → Nat → Int64) : va_W := oF G q ztc aTs aTn zoc aOs aOn aTp zln zpl zfa aSz zit zip zic zig ++ rW G q M
def mW (G : GG) (q : Nat → Nat) (yp : Int32) (ye : Int32) (yg : Int32) (bPo : Nat → Int32) (bTb : Nat → Int32) (wSh : Nat → Int64) (wTe : Nat → Int64) (wNx : Nat → Int64) (bOs : Nat → Int32) (bOn : Nat → Int32) (yop : Int32) (bSo : Nat → Int32) (bNu : Nat → Int32) (ytr : Int32) (yiw : Int32) (wMa : Nat → Int64) (wPr : Nat → Int64) (bTp : Nat → Int32) (yln : Int32) (ypl : Int32) (yfa : Int32) (wLi : Nat → Int64) (bSi : Nat → Int32) (yhp : Int32) (yhe : Int32) (yhg : Int32) (wHs : Nat → Int64) (yhi : Int32) : va_W := [(q 0, .inr (5, [.int yp, .int ye, .int yg, .ref (q 1), .ref (q 2), .ref (q 3), .ref (q 4), .ref (q 5), .ref (q 6), .ref (q 7), .int yop, .ref (q 8), .ref (q 9), .int ytr, .int yiw, .ref (q 10), .ref (q 11), .ref (q 12), .int yln, .int ypl, .int yfa, .ref (q 13), .ref (q 14), .int yhp, .int yhe, .int yhg, .ref (q 15), .int yhi])), (q 1, .inl (G.2.1, 62, .inl bPo)), (q 2, .inl (G.2.1, 1728, .inl bTb)), (q 3, .inl (G.2.2.2.1, 48, .inr (.inl wSh))), (q 4, .inl (G.2.2.2.1, 168, .inr (.inl wTe))), (q 5, .inl (G.2.2.2.1, 12, .inr (.inl wNx))), (q 6, .inl (G.2.1, 7, .inl bOs)), (q 7, .inl (G.2.1, 7, .inl bOn)), (q 8, .inl (G.2.1, 8, .inl bSo)), (q 9, .inl (G.2.1, 8, .inl bNu)), (q 10, .inl (G.2.2.2.1, 480, .inr (.inl wMa))), (q 11, .inl (G.2.2.2.1, 12, .inr (.inl wPr))), (q 12, .inl (G.2.1, 80, .inl bTp)), (q 13, .inl (G.2.2.2.1, 45, .inr (.inl wLi))), (q 14, .inl (G.2.1, 3, .inl bSi)), (q 15, .inl (G.2.2.2.1, 48, .inr (.inl wHs)))]
def inb (i : Int32) (n : Nat) : Bool := !(decide (i < 0)) && decide (i.toNatClampNeg < n)
theorem inb_vp {i : Int32} {n : Nat} (h : inb i n = true) : vp_in i n := by
  simp only [inb, Bool.and_eq_true, Bool.not_eq_true', decide_eq_false_iff_not, decide_eq_true_eq] at h
  exact fun q => q.elim h.1 (fun z => absurd h.2 (Nat.not_lt.mpr z))
theorem inb_lt {i : Int32} {n : Nat} (h : inb i n = true) : i.toNatClampNeg < n := by
  simp only [inb, Bool.and_eq_true, Bool.not_eq_true', decide_eq_false_iff_not, decide_eq_true_eq] at h
  exact h.2
theorem rW_at {G : GG} {q : Nat → Nat} {M : Nat → Nat → Int64} {a : Nat} (ha : a < 32) : (rW G q M)[a]? = some (q (26 + a), .inl (G.2.2.2.1, rl a, .inr (.inl (M a)))) := by
  unfold rW
  rw [List.getElem?_map, List.getElem?_range ha]
  rfl
theorem rW_set {G : GG} {q : Nat → Nat} {M : Nat → Nat → Int64} {a : Nat} (f : Nat → Int64) : (rW G q M).set a (q (26 + a), .inl (G.2.2.2.1, rl a, .inr (.inl f))) = rW G q (va_up M a f) := by
  unfold rW
  refine List.ext_getElem? (fun i => ?_)
  rw [List.getElem?_set, List.getElem?_map, List.getElem?_map]
  by_cases h : a = i
  · subst h
    by_cases h2 : a < 32
    · rw [List.getElem?_range h2]
      simp [h2, va_up]
    · simp [h2]
  · have h3 : ¬ i = a := fun z => h z.symm
    by_cases h2 : i < 32
    · rw [List.getElem?_range h2]
      simp [h, va_up, h3]
    · simp [h, h2]
theorem row_at {G : GG} {q : Nat → Nat} {zp : Int32} {ze : Int32} {zf : Int32} {zg : Int32} {zn : Int32} {aG : Nat → Int32} {aW : Nat → Int32} {aR : Nat → Int32} {aN : Nat → Int32} {aF : Nat → Int32} {lC : Nat → Int64} {lS : Nat → Int64} {lP : Nat → Int64} {lX : Nat → Int64} {ztc : Int32} {aTs : Nat → Int32} {aTn : Nat → Int32} {zoc : Int32} {aOs : Nat → Int32} {aOn : Nat → Int32} {aTp : Nat → Int32} {zln : Int32} {zpl : Int32} {zfa : Int32} {aSz : Nat → Int32} {zit : Int32} {zip : Int32} {zic : Int32} {zig : Int32} {M : Nat → Nat → Int64} {fr : va_W} {a : Nat} (ha : a < 32) : (kW G q zp ze zf zg zn aG aW aR aN aF lC lS lP lX ++ (oW G q ztc aTs aTn zoc aOs aOn aTp zln zpl zfa aSz zit zip zic zig M ++ fr))[26 + a]? = some (q (26 + a), .inl (G.2.2.2.1, rl a, .inr (.inl (M a)))) := by
  have e : (kW G q zp ze zf zg zn aG aW aR aN aF lC lS lP lX ++ (oW G q ztc aTs aTn zoc aOs aOn aTp zln zpl zfa aSz zit zip zic zig M ++ fr)) = (kW G q zp ze zf zg zn aG aW aR aN aF lC lS lP lX ++ oF G q ztc aTs aTn zoc aOs aOn aTp zln zpl zfa aSz zit zip zic zig) ++ (rW G q M ++ fr) := by simp only [oW, List.append_assoc]
  rw [e, List.getElem?_append_right (by show 26 ≤ 26 + a; omega), show 26 + a - (kW G q zp ze zf zg zn aG aW aR aN aF lC lS lP lX ++ oF G q ztc aTs aTn zoc aOs aOn aTp zln zpl zfa aSz zit zip zic zig).length = a from by show 26 + a - 26 = a; omega, List.getElem?_append_left (by show a < (rW G q M).length; simp [rW, ha]), rW_at ha]
theorem row_set {G : GG} {q : Nat → Nat} {zp : Int32} {ze : Int32} {zf : Int32} {zg : Int32} {zn : Int32} {aG : Nat → Int32} {aW : Nat → Int32} {aR : Nat → Int32} {aN : Nat → Int32} {aF : Nat → Int32} {lC : Nat → Int64} {lS : Nat → Int64} {lP : Nat → Int64} {lX : Nat → Int64} {ztc : Int32} {aTs : Nat → Int32} {aTn : Nat → Int32} {zoc : Int32} {aOs : Nat → Int32} {aOn : Nat → Int32} {aTp : Nat → Int32} {zln : Int32} {zpl : Int32} {zfa : Int32} {aSz : Nat → Int32} {zit : Int32} {zip : Int32} {zic : Int32} {zig : Int32} {M : Nat → Nat → Int64} {fr : va_W} {a : Nat} (ha : a < 32) (f : Nat → Int64) : (kW G q zp ze zf zg zn aG aW aR aN aF lC lS lP lX ++ (oW G q ztc aTs aTn zoc aOs aOn aTp zln zpl zfa aSz zit zip zic zig M ++ fr)).set (26 + a) (q (26 + a), .inl (G.2.2.2.1, rl a, .inr (.inl f))) = kW G q zp ze zf zg zn aG aW aR aN aF lC lS lP lX ++ (oW G q ztc aTs aTn zoc aOs aOn aTp zln zpl zfa aSz zit zip zic zig (va_up M a f) ++ fr) := by
  have e : (kW G q zp ze zf zg zn aG aW aR aN aF lC lS lP lX ++ (oW G q ztc aTs aTn zoc aOs aOn aTp zln zpl zfa aSz zit zip zic zig M ++ fr)) = (kW G q zp ze zf zg zn aG aW aR aN aF lC lS lP lX ++ oF G q ztc aTs aTn zoc aOs aOn aTp zln zpl zfa aSz zit zip zic zig) ++ (rW G q M ++ fr) := by simp only [oW, List.append_assoc]
  rw [e, List.set_append_right _ _ (by show 26 ≤ 26 + a; omega), show 26 + a - (kW G q zp ze zf zg zn aG aW aR aN aF lC lS lP lX ++ oF G q ztc aTs aTn zoc aOs aOn aTp zln zpl zfa aSz zit zip zic zig).length = a from by show 26 + a - 26 = a; omega, List.set_append_left _ _ (by show a < (rW G q M).length; simp [rW, ha]), rW_set]
  simp only [oW, List.append_assoc]
section WR
variable {p : Program} {l : Launch} {e : Env} {R : Room} {s : State} {m : MethodId} {args : Array Value} {below : List Frame} {meth : Method} {c : Code} {H : Heap} {locs : List Loc} {Q : State → Prop}
variable {cc : ByteArray} {nL : Nat} {ret : Option FieldType} {pc : Nat} {ls : Array Slot} {rest : List Value} {G : GG} {A : Nat → Prop} {q : Nat → Nat} {fr : va_W}
theorem in_ws0 : ∀ w ∈ u_ws RX0 TX0 14, w ∈ BG := fun w h => List.mem_filter.mpr ⟨(by decide +kernel : ∀ w ∈ u_ws RX0 TX0 14, w ∈ lw_tbl) w h, (by decide +kernel : ∀ w ∈ u_ws RX0 TX0 14, goodWord w = true) w h⟩
theorem in_ws1 : ∀ w ∈ u_ws RX1 TX1 10, w ∈ BG := fun w h => List.mem_filter.mpr ⟨(by decide +kernel : ∀ w ∈ u_ws RX1 TX1 10, w ∈ lw_tbl) w h, (by decide +kernel : ∀ w ∈ u_ws RX1 TX1 10, goodWord w = true) w h⟩
theorem in_ws2 : ∀ w ∈ u_ws RX2 TX2 5, w ∈ BG := fun w h => List.mem_filter.mpr ⟨(by decide +kernel : ∀ w ∈ u_ws RX2 TX2 5, w ∈ lw_tbl) w h, (by decide +kernel : ∀ w ∈ u_ws RX2 TX2 5, goodWord w = true) w h⟩
theorem in_ws3 : ∀ w ∈ u_ws RX3 TX3 6, w ∈ BG := fun w h => List.mem_filter.mpr ⟨(by decide +kernel : ∀ w ∈ u_ws RX3 TX3 6, w ∈ lw_tbl) w h, (by decide +kernel : ∀ w ∈ u_ws RX3 TX3 6, goodWord w = true) w h⟩
theorem in_ws4 : ∀ w ∈ u_ws RX4 TX4 12, w ∈ BG := fun w h => List.mem_filter.mpr ⟨(by decide +kernel : ∀ w ∈ u_ws RX4 TX4 12, w ∈ lw_tbl) w h, (by decide +kernel : ∀ w ∈ u_ws RX4 TX4 12, goodWord w = true) w h⟩
theorem in_ws5 : ∀ w ∈ u_ws RX5 TX5 28, w ∈ BG := fun w h => List.mem_filter.mpr ⟨(by decide +kernel : ∀ w ∈ u_ws RX5 TX5 28, w ∈ lw_tbl) w h, (by decide +kernel : ∀ w ∈ u_ws RX5 TX5 28, goodWord w = true) w h⟩
theorem gf_0_9 {zp : Int32} {ze : Int32} {zf : Int32} {zg : Int32} {zn : Int32} {aG : Nat → Int32} {aW : Nat → Int32} {aR : Nat → Int32} {aN : Nat → Int32} {aF : Nat → Int32} {lC : Nat → Int64} {lS : Nat → Int64} {lP : Nat → Int64} {lX : Nat → Int64} (F : Fx p s m args meth c cc nL RX0 ret) (hw : Wd G s A (kW G q zp ze zf zg zn aG aW aR aN aF lC lS lP lX ++ fr) H locs) (hdg : decode cc pc = .ok (.getfield 9, 3)) (kk : W p l e R s m args below meth c H locs 0 0 Q (F0 m (pc + 3) ls (.ref (q 1) :: rest))) : W p l e R s m args below meth c H locs 0 0 Q (F0 m pc ls (.ref (q 0) :: rest)) :=
  va_get (D := G.1) (ci := 0) (v := .ref (q 1)) (C := RX0) (T := TX0) (N := 14) (ref := RX0) F.x F.b F.ts in_ws0 F.ow hw.1 hw.2.1 0 rfl rfl 5 (by decide) (F.ts _ (BG_in 165 (by decide +kernel) (by decide +kernel) : Cond.fieldLink RX0 9 RX0 "generators" "[I" ∈ BG)) (fun _ h9 => h9) rfl hdg kk
theorem gf_0_15 {zp : Int32} {ze : Int32} {zf : Int32} {zg : Int32} {zn : Int32} {aG : Nat → Int32} {aW : Nat → Int32} {aR : Nat → Int32} {aN : Nat → Int32} {aF : Nat → Int32} {lC : Nat → Int64} {lS : Nat → Int64} {lP : Nat → Int64} {lX : Nat → Int64} (F : Fx p s m args meth c cc nL RX0 ret) (hw : Wd G s A (kW G q zp ze zf zg zn aG aW aR aN aF lC lS lP lX ++ fr) H locs) (hdg : decode cc pc = .ok (.getfield 15, 3)) (kk : W p l e R s m args below meth c H locs 0 0 Q (F0 m (pc + 3) ls (.ref (q 2) :: rest))) : W p l e R s m args below meth c H locs 0 0 Q (F0 m pc ls (.ref (q 0) :: rest)) :=
  va_get (D := G.1) (ci := 0) (v := .ref (q 2)) (C := RX0) (T := TX0) (N := 14) (ref := RX0) F.x F.b F.ts in_ws0 F.ow hw.1 hw.2.1 0 rfl rfl 6 (by decide) (F.ts _ (BG_in 167 (by decide +kernel) (by decide +kernel) : Cond.fieldLink RX0 15 RX0 "powers" "[I" ∈ BG)) (fun _ h9 => h9) rfl hdg kk
theorem gf_0_18 {zp : Int32} {ze : Int32} {zf : Int32} {zg : Int32} {zn : Int32} {aG : Nat → Int32} {aW : Nat → Int32} {aR : Nat → Int32} {aN : Nat → Int32} {aF : Nat → Int32} {lC : Nat → Int64} {lS : Nat → Int64} {lP : Nat → Int64} {lX : Nat → Int64} (F : Fx p s m args meth c cc nL RX0 ret) (hw : Wd G s A (kW G q zp ze zf zg zn aG aW aR aN aF lC lS lP lX ++ fr) H locs) (hdg : decode cc pc = .ok (.getfield 18, 3)) (kk : W p l e R s m args below meth c H locs 0 0 Q (F0 m (pc + 3) ls (.ref (q 3) :: rest))) : W p l e R s m args below meth c H locs 0 0 Q (F0 m pc ls (.ref (q 0) :: rest)) :=
  va_get (D := G.1) (ci := 0) (v := .ref (q 3)) (C := RX0) (T := TX0) (N := 14) (ref := RX0) F.x F.b F.ts in_ws0 F.ow hw.1 hw.2.1 0 rfl rfl 7 (by decide) (F.ts _ (BG_in 169 (by decide +kernel) (by decide +kernel) : Cond.fieldLink RX0 18 RX0 "raised" "[I" ∈ BG)) (fun _ h9 => h9) rfl hdg kk
theorem gf_0_21 {zp : Int32} {ze : Int32} {zf : Int32} {zg : Int32} {zn : Int32} {aG : Nat → Int32} {aW : Nat → Int32} {aR : Nat → Int32} {aN : Nat → Int32} {aF : Nat → Int32} {lC : Nat → Int64} {lS : Nat → Int64} {lP : Nat → Int64} {lX : Nat → Int64} (F : Fx p s m args meth c cc nL RX0 ret) (hw : Wd G s A (kW G q zp ze zf zg zn aG aW aR aN aF lC lS lP lX ++ fr) H locs) (hdg : decode cc pc = .ok (.getfield 21, 3)) (kk : W p l e R s m args below meth c H locs 0 0 Q (F0 m (pc + 3) ls (.ref (q 4) :: rest))) : W p l e R s m args below meth c H locs 0 0 Q (F0 m pc ls (.ref (q 0) :: rest)) :=
  va_get (D := G.1) (ci := 0) (v := .ref (q 4)) (C := RX0) (T := TX0) (N := 14) (ref := RX0) F.x F.b F.ts in_ws0 F.ow hw.1 hw.2.1 0 rfl rfl 8 (by decide) (F.ts _ (BG_in 171 (by decide +kernel) (by decide +kernel) : Cond.fieldLink RX0 21 RX0 "neighbours" "[I" ∈ BG)) (fun _ h9 => h9) rfl hdg kk
theorem gf_0_24 {zp : Int32} {ze : Int32} {zf : Int32} {zg : Int32} {zn : Int32} {aG : Nat → Int32} {aW : Nat → Int32} {aR : Nat → Int32} {aN : Nat → Int32} {aF : Nat → Int32} {lC : Nat → Int64} {lS : Nat → Int64} {lP : Nat → Int64} {lX : Nat → Int64} (F : Fx p s m args meth c cc nL RX0 ret) (hw : Wd G s A (kW G q zp ze zf zg zn aG aW aR aN aF lC lS lP lX ++ fr) H locs) (hdg : decode cc pc = .ok (.getfield 24, 3)) (kk : W p l e R s m args below meth c H locs 0 0 Q (F0 m (pc + 3) ls (.ref (q 5) :: rest))) : W p l e R s m args below meth c H locs 0 0 Q (F0 m pc ls (.ref (q 0) :: rest)) :=
  va_get (D := G.1) (ci := 0) (v := .ref (q 5)) (C := RX0) (T := TX0) (N := 14) (ref := RX0) F.x F.b F.ts in_ws0 F.ow hw.1 hw.2.1 0 rfl rfl 9 (by decide) (F.ts _ (BG_in 173 (by decide +kernel) (by decide +kernel) : Cond.fieldLink RX0 24 RX0 "factors" "[I" ∈ BG)) (fun _ h9 => h9) rfl hdg kk
theorem gf_0_27 {zp : Int32} {ze : Int32} {zf : Int32} {zg : Int32} {zn : Int32} {aG : Nat → Int32} {aW : Nat → Int32} {aR : Nat → Int32} {aN : Nat → Int32} {aF : Nat → Int32} {lC : Nat → Int64} {lS : Nat → Int64} {lP : Nat → Int64} {lX : Nat → Int64} (F : Fx p s m args meth c cc nL RX0 ret) (hw : Wd G s A (kW G q zp ze zf zg zn aG aW aR aN aF lC lS lP lX ++ fr) H locs) (hdg : decode cc pc = .ok (.getfield 27, 3)) (kk : W p l e R s m args below meth c H locs 0 0 Q (F0 m (pc + 3) ls (.ref (q 6) :: rest))) : W p l e R s m args below meth c H locs 0 0 Q (F0 m pc ls (.ref (q 0) :: rest)) :=
  va_get (D := G.1) (ci := 0) (v := .ref (q 6)) (C := RX0) (T := TX0) (N := 14) (ref := RX0) F.x F.b F.ts in_ws0 F.ow hw.1 hw.2.1 0 rfl rfl 10 (by decide) (F.ts _ (BG_in 176 (by decide +kernel) (by decide +kernel) : Cond.fieldLink RX0 27 RX0 "coefficients" "[J" ∈ BG)) (fun _ h9 => h9) rfl hdg kk
theorem gf_0_31 {zp : Int32} {ze : Int32} {zf : Int32} {zg : Int32} {zn : Int32} {aG : Nat → Int32} {aW : Nat → Int32} {aR : Nat → Int32} {aN : Nat → Int32} {aF : Nat → Int32} {lC : Nat → Int64} {lS : Nat → Int64} {lP : Nat → Int64} {lX : Nat → Int64} (F : Fx p s m args meth c cc nL RX0 ret) (hw : Wd G s A (kW G q zp ze zf zg zn aG aW aR aN aF lC lS lP lX ++ fr) H locs) (hdg : decode cc pc = .ok (.getfield 31, 3)) (kk : W p l e R s m args below meth c H locs 0 0 Q (F0 m (pc + 3) ls (.ref (q 7) :: rest))) : W p l e R s m args below meth c H locs 0 0 Q (F0 m pc ls (.ref (q 0) :: rest)) :=
  va_get (D := G.1) (ci := 0) (v := .ref (q 7)) (C := RX0) (T := TX0) (N := 14) (ref := RX0) F.x F.b F.ts in_ws0 F.ow hw.1 hw.2.1 0 rfl rfl 11 (by decide) (F.ts _ (BG_in 178 (by decide +kernel) (by decide +kernel) : Cond.fieldLink RX0 31 RX0 "powerSums" "[J" ∈ BG)) (fun _ h9 => h9) rfl hdg kk
theorem gf_0_34 {zp : Int32} {ze : Int32} {zf : Int32} {zg : Int32} {zn : Int32} {aG : Nat → Int32} {aW : Nat → Int32} {aR : Nat → Int32} {aN : Nat → Int32} {aF : Nat → Int32} {lC : Nat → Int64} {lS : Nat → Int64} {lP : Nat → Int64} {lX : Nat → Int64} (F : Fx p s m args meth c cc nL RX0 ret) (hw : Wd G s A (kW G q zp ze zf zg zn aG aW aR aN aF lC lS lP lX ++ fr) H locs) (hdg : decode cc pc = .ok (.getfield 34, 3)) (kk : W p l e R s m args below meth c H locs 0 0 Q (F0 m (pc + 3) ls (.ref (q 8) :: rest))) : W p l e R s m args below meth c H locs 0 0 Q (F0 m pc ls (.ref (q 0) :: rest)) :=
  va_get (D := G.1) (ci := 0) (v := .ref (q 8)) (C := RX0) (T := TX0) (N := 14) (ref := RX0) F.x F.b F.ts in_ws0 F.ow hw.1 hw.2.1 0 rfl rfl 12 (by decide) (F.ts _ (BG_in 179 (by decide +kernel) (by decide +kernel) : Cond.fieldLink RX0 34 RX0 "periodPower" "[J" ∈ BG)) (fun _ h9 => h9) rfl hdg kk
theorem gf_0_37 {zp : Int32} {ze : Int32} {zf : Int32} {zg : Int32} {zn : Int32} {aG : Nat → Int32} {aW : Nat → Int32} {aR : Nat → Int32} {aN : Nat → Int32} {aF : Nat → Int32} {lC : Nat → Int64} {lS : Nat → Int64} {lP : Nat → Int64} {lX : Nat → Int64} (F : Fx p s m args meth c cc nL RX0 ret) (hw : Wd G s A (kW G q zp ze zf zg zn aG aW aR aN aF lC lS lP lX ++ fr) H locs) (hdg : decode cc pc = .ok (.getfield 37, 3)) (kk : W p l e R s m args below meth c H locs 0 0 Q (F0 m (pc + 3) ls (.ref (q 9) :: rest))) : W p l e R s m args below meth c H locs 0 0 Q (F0 m pc ls (.ref (q 0) :: rest)) :=
  va_get (D := G.1) (ci := 0) (v := .ref (q 9)) (C := RX0) (T := TX0) (N := 14) (ref := RX0) F.x F.b F.ts in_ws0 F.ow hw.1 hw.2.1 0 rfl rfl 13 (by decide) (F.ts _ (BG_in 180 (by decide +kernel) (by decide +kernel) : Cond.fieldLink RX0 37 RX0 "nextPower" "[J" ∈ BG)) (fun _ h9 => h9) rfl hdg kk
theorem gf_0_44 {zp : Int32} {ze : Int32} {zf : Int32} {zg : Int32} {zn : Int32} {aG : Nat → Int32} {aW : Nat → Int32} {aR : Nat → Int32} {aN : Nat → Int32} {aF : Nat → Int32} {lC : Nat → Int64} {lS : Nat → Int64} {lP : Nat → Int64} {lX : Nat → Int64} (F : Fx p s m args meth c cc nL RX0 ret) (hw : Wd G s A (kW G q zp ze zf zg zn aG aW aR aN aF lC lS lP lX ++ fr) H locs) (hdg : decode cc pc = .ok (.getfield 44, 3)) (kk : W p l e R s m args below meth c H locs 0 0 Q (F0 m (pc + 3) ls (.int zp :: rest))) : W p l e R s m args below meth c H locs 0 0 Q (F0 m pc ls (.ref (q 0) :: rest)) :=
  va_get (D := G.1) (ci := 0) (v := .int zp) (C := RX0) (T := TX0) (N := 14) (ref := RX0) F.x F.b F.ts in_ws0 F.ow hw.1 hw.2.1 0 rfl rfl 0 (by decide) (F.ts _ (BG_in 153 (by decide +kernel) (by decide +kernel) : Cond.fieldLink RX0 44 RX0 "p" "I" ∈ BG)) (fun _ h9 => h9) rfl hdg kk
theorem pf_0_44 {zp : Int32} {ze : Int32} {zf : Int32} {zg : Int32} {zn : Int32} {aG : Nat → Int32} {aW : Nat → Int32} {aR : Nat → Int32} {aN : Nat → Int32} {aF : Nat → Int32} {lC : Nat → Int64} {lS : Nat → Int64} {lP : Nat → Int64} {lX : Nat → Int64} {v : Int32} (F : Fx p s m args meth c cc nL RX0 ret) (hw : Wd G s A (kW G q zp ze zf zg zn aG aW aR aN aF lC lS lP lX ++ fr) H locs) (hdg : decode cc pc = .ok (.putfield 44, 3)) (kk : ∀ (H : Heap) (locs : List Loc), Wd G s A (kW G q v ze zf zg zn aG aW aR aN aF lC lS lP lX ++ fr) H locs → W p l e R s m args below meth c H locs 0 0 Q (F0 m (pc + 3) ls rest)) : W p l e R s m args below meth c H locs 0 0 Q (F0 m pc ls (.int v :: .ref (q 0) :: rest)) :=
  va_put (D := G.1) (ci := 0) (v := .int v) (ty := .int) (C := RX0) (T := TX0) (N := 14) (ref := RX0) F.x F.b F.ts in_ws0 tyX0 tyX0_ok nmX0 F.ow hw.1 hw.2.1 hw.2.2.1 hw.2.2.2 0 rfl rfl 0 (by decide) (F.ts _ (BG_in 153 (by decide +kernel) (by decide +kernel) : Cond.fieldLink RX0 44 RX0 "p" "I" ∈ BG)) (fun _ h9 => h9) rfl (by decide +kernel) rfl rfl (Nat.le_of_ble_eq_true rfl) hdg (fun H locs hP hD hS => kk H locs ⟨hw.1, hP, hD, hS⟩)
theorem gf_0_48 {zp : Int32} {ze : Int32} {zf : Int32} {zg : Int32} {zn : Int32} {aG : Nat → Int32} {aW : Nat → Int32} {aR : Nat → Int32} {aN : Nat → Int32} {aF : Nat → Int32} {lC : Nat → Int64} {lS : Nat → Int64} {lP : Nat → Int64} {lX : Nat → Int64} (F : Fx p s m args meth c cc nL RX0 ret) (hw : Wd G s A (kW G q zp ze zf zg zn aG aW aR aN aF lC lS lP lX ++ fr) H locs) (hdg : decode cc pc = .ok (.getfield 48, 3)) (kk : W p l e R s m args below meth c H locs 0 0 Q (F0 m (pc + 3) ls (.int ze :: rest))) : W p l e R s m args below meth c H locs 0 0 Q (F0 m pc ls (.ref (q 0) :: rest)) :=
  va_get (D := G.1) (ci := 0) (v := .int ze) (C := RX0) (T := TX0) (N := 14) (ref := RX0) F.x F.b F.ts in_ws0 F.ow hw.1 hw.2.1 0 rfl rfl 1 (by decide) (F.ts _ (BG_in 155 (by decide +kernel) (by decide +kernel) : Cond.fieldLink RX0 48 RX0 "e" "I" ∈ BG)) (fun _ h9 => h9) rfl hdg kk
theorem pf_0_48 {zp : Int32} {ze : Int32} {zf : Int32} {zg : Int32} {zn : Int32} {aG : Nat → Int32} {aW : Nat → Int32} {aR : Nat → Int32} {aN : Nat → Int32} {aF : Nat → Int32} {lC : Nat → Int64} {lS : Nat → Int64} {lP : Nat → Int64} {lX : Nat → Int64} {v : Int32} (F : Fx p s m args meth c cc nL RX0 ret) (hw : Wd G s A (kW G q zp ze zf zg zn aG aW aR aN aF lC lS lP lX ++ fr) H locs) (hdg : decode cc pc = .ok (.putfield 48, 3)) (kk : ∀ (H : Heap) (locs : List Loc), Wd G s A (kW G q zp v zf zg zn aG aW aR aN aF lC lS lP lX ++ fr) H locs → W p l e R s m args below meth c H locs 0 0 Q (F0 m (pc + 3) ls rest)) : W p l e R s m args below meth c H locs 0 0 Q (F0 m pc ls (.int v :: .ref (q 0) :: rest)) :=
  va_put (D := G.1) (ci := 0) (v := .int v) (ty := .int) (C := RX0) (T := TX0) (N := 14) (ref := RX0) F.x F.b F.ts in_ws0 tyX0 tyX0_ok nmX0 F.ow hw.1 hw.2.1 hw.2.2.1 hw.2.2.2 0 rfl rfl 1 (by decide) (F.ts _ (BG_in 155 (by decide +kernel) (by decide +kernel) : Cond.fieldLink RX0 48 RX0 "e" "I" ∈ BG)) (fun _ h9 => h9) rfl (by decide +kernel) rfl rfl (Nat.le_of_ble_eq_true rfl) hdg (fun H locs hP hD hS => kk H locs ⟨hw.1, hP, hD, hS⟩)
theorem gf_0_51 {zp : Int32} {ze : Int32} {zf : Int32} {zg : Int32} {zn : Int32} {aG : Nat → Int32} {aW : Nat → Int32} {aR : Nat → Int32} {aN : Nat → Int32} {aF : Nat → Int32} {lC : Nat → Int64} {lS : Nat → Int64} {lP : Nat → Int64} {lX : Nat → Int64} (F : Fx p s m args meth c cc nL RX0 ret) (hw : Wd G s A (kW G q zp ze zf zg zn aG aW aR aN aF lC lS lP lX ++ fr) H locs) (hdg : decode cc pc = .ok (.getfield 51, 3)) (kk : W p l e R s m args below meth c H locs 0 0 Q (F0 m (pc + 3) ls (.int zf :: rest))) : W p l e R s m args below meth c H locs 0 0 Q (F0 m pc ls (.ref (q 0) :: rest)) :=
  va_get (D := G.1) (ci := 0) (v := .int zf) (C := RX0) (T := TX0) (N := 14) (ref := RX0) F.x F.b F.ts in_ws0 F.ow hw.1 hw.2.1 0 rfl rfl 2 (by decide) (F.ts _ (BG_in 159 (by decide +kernel) (by decide +kernel) : Cond.fieldLink RX0 51 RX0 "f" "I" ∈ BG)) (fun _ h9 => h9) rfl hdg kk
theorem pf_0_51 {zp : Int32} {ze : Int32} {zf : Int32} {zg : Int32} {zn : Int32} {aG : Nat → Int32} {aW : Nat → Int32} {aR : Nat → Int32} {aN : Nat → Int32} {aF : Nat → Int32} {lC : Nat → Int64} {lS : Nat → Int64} {lP : Nat → Int64} {lX : Nat → Int64} {v : Int32} (F : Fx p s m args meth c cc nL RX0 ret) (hw : Wd G s A (kW G q zp ze zf zg zn aG aW aR aN aF lC lS lP lX ++ fr) H locs) (hdg : decode cc pc = .ok (.putfield 51, 3)) (kk : ∀ (H : Heap) (locs : List Loc), Wd G s A (kW G q zp ze v zg zn aG aW aR aN aF lC lS lP lX ++ fr) H locs → W p l e R s m args below meth c H locs 0 0 Q (F0 m (pc + 3) ls rest)) : W p l e R s m args below meth c H locs 0 0 Q (F0 m pc ls (.int v :: .ref (q 0) :: rest)) :=
  va_put (D := G.1) (ci := 0) (v := .int v) (ty := .int) (C := RX0) (T := TX0) (N := 14) (ref := RX0) F.x F.b F.ts in_ws0 tyX0 tyX0_ok nmX0 F.ow hw.1 hw.2.1 hw.2.2.1 hw.2.2.2 0 rfl rfl 2 (by decide) (F.ts _ (BG_in 159 (by decide +kernel) (by decide +kernel) : Cond.fieldLink RX0 51 RX0 "f" "I" ∈ BG)) (fun _ h9 => h9) rfl (by decide +kernel) rfl rfl (Nat.le_of_ble_eq_true rfl) hdg (fun H locs hP hD hS => kk H locs ⟨hw.1, hP, hD, hS⟩)
theorem gf_0_67 {zp : Int32} {ze : Int32} {zf : Int32} {zg : Int32} {zn : Int32} {aG : Nat → Int32} {aW : Nat → Int32} {aR : Nat → Int32} {aN : Nat → Int32} {aF : Nat → Int32} {lC : Nat → Int64} {lS : Nat → Int64} {lP : Nat → Int64} {lX : Nat → Int64} (F : Fx p s m args meth c cc nL RX0 ret) (hw : Wd G s A (kW G q zp ze zf zg zn aG aW aR aN aF lC lS lP lX ++ fr) H locs) (hdg : decode cc pc = .ok (.getfield 67, 3)) (kk : W p l e R s m args below meth c H locs 0 0 Q (F0 m (pc + 3) ls (.int zg :: rest))) : W p l e R s m args below meth c H locs 0 0 Q (F0 m pc ls (.ref (q 0) :: rest)) :=
  va_get (D := G.1) (ci := 0) (v := .int zg) (C := RX0) (T := TX0) (N := 14) (ref := RX0) F.x F.b F.ts in_ws0 F.ow hw.1 hw.2.1 0 rfl rfl 3 (by decide) (F.ts _ (BG_in 161 (by decide +kernel) (by decide +kernel) : Cond.fieldLink RX0 67 RX0 "g" "I" ∈ BG)) (fun _ h9 => h9) rfl hdg kk
theorem pf_0_67 {zp : Int32} {ze : Int32} {zf : Int32} {zg : Int32} {zn : Int32} {aG : Nat → Int32} {aW : Nat → Int32} {aR : Nat → Int32} {aN : Nat → Int32} {aF : Nat → Int32} {lC : Nat → Int64} {lS : Nat → Int64} {lP : Nat → Int64} {lX : Nat → Int64} {v : Int32} (F : Fx p s m args meth c cc nL RX0 ret) (hw : Wd G s A (kW G q zp ze zf zg zn aG aW aR aN aF lC lS lP lX ++ fr) H locs) (hdg : decode cc pc = .ok (.putfield 67, 3)) (kk : ∀ (H : Heap) (locs : List Loc), Wd G s A (kW G q zp ze zf v zn aG aW aR aN aF lC lS lP lX ++ fr) H locs → W p l e R s m args below meth c H locs 0 0 Q (F0 m (pc + 3) ls rest)) : W p l e R s m args below meth c H locs 0 0 Q (F0 m pc ls (.int v :: .ref (q 0) :: rest)) :=
  va_put (D := G.1) (ci := 0) (v := .int v) (ty := .int) (C := RX0) (T := TX0) (N := 14) (ref := RX0) F.x F.b F.ts in_ws0 tyX0 tyX0_ok nmX0 F.ow hw.1 hw.2.1 hw.2.2.1 hw.2.2.2 0 rfl rfl 3 (by decide) (F.ts _ (BG_in 161 (by decide +kernel) (by decide +kernel) : Cond.fieldLink RX0 67 RX0 "g" "I" ∈ BG)) (fun _ h9 => h9) rfl (by decide +kernel) rfl rfl (Nat.le_of_ble_eq_true rfl) hdg (fun H locs hP hD hS => kk H locs ⟨hw.1, hP, hD, hS⟩)
theorem gf_0_79 {zp : Int32} {ze : Int32} {zf : Int32} {zg : Int32} {zn : Int32} {aG : Nat → Int32} {aW : Nat → Int32} {aR : Nat → Int32} {aN : Nat → Int32} {aF : Nat → Int32} {lC : Nat → Int64} {lS : Nat → Int64} {lP : Nat → Int64} {lX : Nat → Int64} (F : Fx p s m args meth c cc nL RX0 ret) (hw : Wd G s A (kW G q zp ze zf zg zn aG aW aR aN aF lC lS lP lX ++ fr) H locs) (hdg : decode cc pc = .ok (.getfield 79, 3)) (kk : W p l e R s m args below meth c H locs 0 0 Q (F0 m (pc + 3) ls (.int zn :: rest))) : W p l e R s m args below meth c H locs 0 0 Q (F0 m pc ls (.ref (q 0) :: rest)) :=
  va_get (D := G.1) (ci := 0) (v := .int zn) (C := RX0) (T := TX0) (N := 14) (ref := RX0) F.x F.b F.ts in_ws0 F.ow hw.1 hw.2.1 0 rfl rfl 4 (by decide) (F.ts _ (BG_in 164 (by decide +kernel) (by decide +kernel) : Cond.fieldLink RX0 79 RX0 "generatorCount" "I" ∈ BG)) (fun _ h9 => h9) rfl hdg kk
theorem pf_0_79 {zp : Int32} {ze : Int32} {zf : Int32} {zg : Int32} {zn : Int32} {aG : Nat → Int32} {aW : Nat → Int32} {aR : Nat → Int32} {aN : Nat → Int32} {aF : Nat → Int32} {lC : Nat → Int64} {lS : Nat → Int64} {lP : Nat → Int64} {lX : Nat → Int64} {v : Int32} (F : Fx p s m args meth c cc nL RX0 ret) (hw : Wd G s A (kW G q zp ze zf zg zn aG aW aR aN aF lC lS lP lX ++ fr) H locs) (hdg : decode cc pc = .ok (.putfield 79, 3)) (kk : ∀ (H : Heap) (locs : List Loc), Wd G s A (kW G q zp ze zf zg v aG aW aR aN aF lC lS lP lX ++ fr) H locs → W p l e R s m args below meth c H locs 0 0 Q (F0 m (pc + 3) ls rest)) : W p l e R s m args below meth c H locs 0 0 Q (F0 m pc ls (.int v :: .ref (q 0) :: rest)) :=
  va_put (D := G.1) (ci := 0) (v := .int v) (ty := .int) (C := RX0) (T := TX0) (N := 14) (ref := RX0) F.x F.b F.ts in_ws0 tyX0 tyX0_ok nmX0 F.ow hw.1 hw.2.1 hw.2.2.1 hw.2.2.2 0 rfl rfl 4 (by decide) (F.ts _ (BG_in 164 (by decide +kernel) (by decide +kernel) : Cond.fieldLink RX0 79 RX0 "generatorCount" "I" ∈ BG)) (fun _ h9 => h9) rfl (by decide +kernel) rfl rfl (Nat.le_of_ble_eq_true rfl) hdg (fun H locs hP hD hS => kk H locs ⟨hw.1, hP, hD, hS⟩)
theorem gf_1_9 {zp : Int32} {ze : Int32} {zf : Int32} {zg : Int32} {zn : Int32} {aG : Nat → Int32} {aW : Nat → Int32} {aR : Nat → Int32} {aN : Nat → Int32} {aF : Nat → Int32} {lC : Nat → Int64} {lS : Nat → Int64} {lP : Nat → Int64} {lX : Nat → Int64} {ztc : Int32} {aTs : Nat → Int32} {aTn : Nat → Int32} {zoc : Int32} {aOs : Nat → Int32} {aOn : Nat → Int32} {aTp : Nat → Int32} {zln : Int32} {zpl : Int32} {zfa : Int32} {aSz : Nat → Int32} {zit : Int32} {zip : Int32} {zic : Int32} {zig : Int32} {M : Nat → Nat → Int64} (F : Fx p s m args meth c cc nL RX1 ret) (hw : Wd G s A (kW G q zp ze zf zg zn aG aW aR aN aF lC lS lP lX ++ (oW G q ztc aTs aTn zoc aOs aOn aTp zln zpl zfa aSz zit zip zic zig M ++ fr)) H locs) (hdg : decode cc pc = .ok (.getfield 9, 3)) (kk : W p l e R s m args below meth c H locs 0 0 Q (F0 m (pc + 3) ls (.ref (q 17) :: rest))) : W p l e R s m args below meth c H locs 0 0 Q (F0 m pc ls (.ref (q 16) :: rest)) :=
  va_get (D := G.1) (ci := 1) (v := .ref (q 17)) (C := RX1) (T := TX1) (N := 10) (ref := RX1) F.x F.b F.ts in_ws1 F.ow hw.1 hw.2.1 16 rfl rfl 3 (by decide) (F.ts _ (BG_in 273 (by decide +kernel) (by decide +kernel) : Cond.fieldLink RX1 9 RX1 "tape" "[B" ∈ BG)) (fun _ h9 => h9) rfl hdg kk
theorem gf_1_17 {zp : Int32} {ze : Int32} {zf : Int32} {zg : Int32} {zn : Int32} {aG : Nat → Int32} {aW : Nat → Int32} {aR : Nat → Int32} {aN : Nat → Int32} {aF : Nat → Int32} {lC : Nat → Int64} {lS : Nat → Int64} {lP : Nat → Int64} {lX : Nat → Int64} {ztc : Int32} {aTs : Nat → Int32} {aTn : Nat → Int32} {zoc : Int32} {aOs : Nat → Int32} {aOn : Nat → Int32} {aTp : Nat → Int32} {zln : Int32} {zpl : Int32} {zfa : Int32} {aSz : Nat → Int32} {zit : Int32} {zip : Int32} {zic : Int32} {zig : Int32} {M : Nat → Nat → Int64} (F : Fx p s m args meth c cc nL RX1 ret) (hw : Wd G s A (kW G q zp ze zf zg zn aG aW aR aN aF lC lS lP lX ++ (oW G q ztc aTs aTn zoc aOs aOn aTp zln zpl zfa aSz zit zip zic zig M ++ fr)) H locs) (hdg : decode cc pc = .ok (.getfield 17, 3)) (kk : W p l e R s m args below meth c H locs 0 0 Q (F0 m (pc + 3) ls (.ref (q 18) :: rest))) : W p l e R s m args below meth c H locs 0 0 Q (F0 m pc ls (.ref (q 16) :: rest)) :=
  va_get (D := G.1) (ci := 1) (v := .ref (q 18)) (C := RX1) (T := TX1) (N := 10) (ref := RX1) F.x F.b F.ts in_ws1 F.ow hw.1 hw.2.1 16 rfl rfl 4 (by decide) (F.ts _ (BG_in 274 (by decide +kernel) (by decide +kernel) : Cond.fieldLink RX1 17 RX1 "sums" "[[J" ∈ BG)) (fun _ h9 => h9) rfl hdg kk
theorem gf_1_20 {zp : Int32} {ze : Int32} {zf : Int32} {zg : Int32} {zn : Int32} {aG : Nat → Int32} {aW : Nat → Int32} {aR : Nat → Int32} {aN : Nat → Int32} {aF : Nat → Int32} {lC : Nat → Int64} {lS : Nat → Int64} {lP : Nat → Int64} {lX : Nat → Int64} {ztc : Int32} {aTs : Nat → Int32} {aTn : Nat → Int32} {zoc : Int32} {aOs : Nat → Int32} {aOn : Nat → Int32} {aTp : Nat → Int32} {zln : Int32} {zpl : Int32} {zfa : Int32} {aSz : Nat → Int32} {zit : Int32} {zip : Int32} {zic : Int32} {zig : Int32} {M : Nat → Nat → Int64} (F : Fx p s m args meth c cc nL RX1 ret) (hw : Wd G s A (kW G q zp ze zf zg zn aG aW aR aN aF lC lS lP lX ++ (oW G q ztc aTs aTn zoc aOs aOn aTp zln zpl zfa aSz zit zip zic zig M ++ fr)) H locs) (hdg : decode cc pc = .ok (.getfield 20, 3)) (kk : W p l e R s m args below meth c H locs 0 0 Q (F0 m (pc + 3) ls (.ref (q 19) :: rest))) : W p l e R s m args below meth c H locs 0 0 Q (F0 m pc ls (.ref (q 16) :: rest)) :=
  va_get (D := G.1) (ci := 1) (v := .ref (q 19)) (C := RX1) (T := TX1) (N := 10) (ref := RX1) F.x F.b F.ts in_ws1 F.ow hw.1 hw.2.1 16 rfl rfl 5 (by decide) (F.ts _ (BG_in 275 (by decide +kernel) (by decide +kernel) : Cond.fieldLink RX1 20 RX1 "products" "[[J" ∈ BG)) (fun _ h9 => h9) rfl hdg kk
theorem gf_1_23 {zp : Int32} {ze : Int32} {zf : Int32} {zg : Int32} {zn : Int32} {aG : Nat → Int32} {aW : Nat → Int32} {aR : Nat → Int32} {aN : Nat → Int32} {aF : Nat → Int32} {lC : Nat → Int64} {lS : Nat → Int64} {lP : Nat → Int64} {lX : Nat → Int64} {ztc : Int32} {aTs : Nat → Int32} {aTn : Nat → Int32} {zoc : Int32} {aOs : Nat → Int32} {aOn : Nat → Int32} {aTp : Nat → Int32} {zln : Int32} {zpl : Int32} {zfa : Int32} {aSz : Nat → Int32} {zit : Int32} {zip : Int32} {zic : Int32} {zig : Int32} {M : Nat → Nat → Int64} (F : Fx p s m args meth c cc nL RX1 ret) (hw : Wd G s A (kW G q zp ze zf zg zn aG aW aR aN aF lC lS lP lX ++ (oW G q ztc aTs aTn zoc aOs aOn aTp zln zpl zfa aSz zit zip zic zig M ++ fr)) H locs) (hdg : decode cc pc = .ok (.getfield 23, 3)) (kk : W p l e R s m args below meth c H locs 0 0 Q (F0 m (pc + 3) ls (.ref (q 20) :: rest))) : W p l e R s m args below meth c H locs 0 0 Q (F0 m pc ls (.ref (q 16) :: rest)) :=
  va_get (D := G.1) (ci := 1) (v := .ref (q 20)) (C := RX1) (T := TX1) (N := 10) (ref := RX1) F.x F.b F.ts in_ws1 F.ow hw.1 hw.2.1 16 rfl rfl 6 (by decide) (F.ts _ (BG_in 276 (by decide +kernel) (by decide +kernel) : Cond.fieldLink RX1 23 RX1 "parts" "[[J" ∈ BG)) (fun _ h9 => h9) rfl hdg kk
theorem gf_1_26 {zp : Int32} {ze : Int32} {zf : Int32} {zg : Int32} {zn : Int32} {aG : Nat → Int32} {aW : Nat → Int32} {aR : Nat → Int32} {aN : Nat → Int32} {aF : Nat → Int32} {lC : Nat → Int64} {lS : Nat → Int64} {lP : Nat → Int64} {lX : Nat → Int64} {ztc : Int32} {aTs : Nat → Int32} {aTn : Nat → Int32} {zoc : Int32} {aOs : Nat → Int32} {aOn : Nat → Int32} {aTp : Nat → Int32} {zln : Int32} {zpl : Int32} {zfa : Int32} {aSz : Nat → Int32} {zit : Int32} {zip : Int32} {zic : Int32} {zig : Int32} {M : Nat → Nat → Int64} (F : Fx p s m args meth c cc nL RX1 ret) (hw : Wd G s A (kW G q zp ze zf zg zn aG aW aR aN aF lC lS lP lX ++ (oW G q ztc aTs aTn zoc aOs aOn aTp zln zpl zfa aSz zit zip zic zig M ++ fr)) H locs) (hdg : decode cc pc = .ok (.getfield 26, 3)) (kk : W p l e R s m args below meth c H locs 0 0 Q (F0 m (pc + 3) ls (.ref (q 0) :: rest))) : W p l e R s m args below meth c H locs 0 0 Q (F0 m pc ls (.ref (q 16) :: rest)) :=
  va_get (D := G.1) (ci := 1) (v := .ref (q 0)) (C := RX1) (T := TX1) (N := 10) (ref := RX1) F.x F.b F.ts in_ws1 F.ow hw.1 hw.2.1 16 rfl rfl 0 (by decide) (F.ts _ (BG_in 270 (by decide +kernel) (by decide +kernel) : Cond.fieldLink RX1 26 RX1 "classes" "LPowerClasses$Classes;" ∈ BG)) (fun _ h9 => h9) rfl hdg kk
theorem gf_1_30 {zp : Int32} {ze : Int32} {zf : Int32} {zg : Int32} {zn : Int32} {aG : Nat → Int32} {aW : Nat → Int32} {aR : Nat → Int32} {aN : Nat → Int32} {aF : Nat → Int32} {lC : Nat → Int64} {lS : Nat → Int64} {lP : Nat → Int64} {lX : Nat → Int64} {ztc : Int32} {aTs : Nat → Int32} {aTn : Nat → Int32} {zoc : Int32} {aOs : Nat → Int32} {aOn : Nat → Int32} {aTp : Nat → Int32} {zln : Int32} {zpl : Int32} {zfa : Int32} {aSz : Nat → Int32} {zit : Int32} {zip : Int32} {zic : Int32} {zig : Int32} {M : Nat → Nat → Int64} (F : Fx p s m args meth c cc nL RX1 ret) (hw : Wd G s A (kW G q zp ze zf zg zn aG aW aR aN aF lC lS lP lX ++ (oW G q ztc aTs aTn zoc aOs aOn aTp zln zpl zfa aSz zit zip zic zig M ++ fr)) H locs) (hdg : decode cc pc = .ok (.getfield 30, 3)) (kk : W p l e R s m args below meth c H locs 0 0 Q (F0 m (pc + 3) ls (.ref (q 15) :: rest))) : W p l e R s m args below meth c H locs 0 0 Q (F0 m pc ls (.ref (q 16) :: rest)) :=
  va_get (D := G.1) (ci := 1) (v := .ref (q 15)) (C := RX1) (T := TX1) (N := 10) (ref := RX1) F.x F.b F.ts in_ws1 F.ow hw.1 hw.2.1 16 rfl rfl 1 (by decide) (F.ts _ (BG_in 271 (by decide +kernel) (by decide +kernel) : Cond.fieldLink RX1 30 RX1 "reckoner" "LPowerClasses$Reckoner;" ∈ BG)) (fun _ h9 => h9) rfl hdg kk
theorem gf_1_34 {zp : Int32} {ze : Int32} {zf : Int32} {zg : Int32} {zn : Int32} {aG : Nat → Int32} {aW : Nat → Int32} {aR : Nat → Int32} {aN : Nat → Int32} {aF : Nat → Int32} {lC : Nat → Int64} {lS : Nat → Int64} {lP : Nat → Int64} {lX : Nat → Int64} {ztc : Int32} {aTs : Nat → Int32} {aTn : Nat → Int32} {zoc : Int32} {aOs : Nat → Int32} {aOn : Nat → Int32} {aTp : Nat → Int32} {zln : Int32} {zpl : Int32} {zfa : Int32} {aSz : Nat → Int32} {zit : Int32} {zip : Int32} {zic : Int32} {zig : Int32} {M : Nat → Nat → Int64} (F : Fx p s m args meth c cc nL RX1 ret) (hw : Wd G s A (kW G q zp ze zf zg zn aG aW aR aN aF lC lS lP lX ++ (oW G q ztc aTs aTn zoc aOs aOn aTp zln zpl zfa aSz zit zip zic zig M ++ fr)) H locs) (hdg : decode cc pc = .ok (.getfield 34, 3)) (kk : W p l e R s m args below meth c H locs 0 0 Q (F0 m (pc + 3) ls (.ref (q 10) :: rest))) : W p l e R s m args below meth c H locs 0 0 Q (F0 m pc ls (.ref (q 16) :: rest)) :=
  va_get (D := G.1) (ci := 1) (v := .ref (q 10)) (C := RX1) (T := TX1) (N := 10) (ref := RX1) F.x F.b F.ts in_ws1 F.ow hw.1 hw.2.1 16 rfl rfl 2 (by decide) (F.ts _ (BG_in 272 (by decide +kernel) (by decide +kernel) : Cond.fieldLink RX1 34 RX1 "troubles" "LPowerClasses$Troubles;" ∈ BG)) (fun _ h9 => h9) rfl hdg kk
theorem gf_1_38 {zp : Int32} {ze : Int32} {zf : Int32} {zg : Int32} {zn : Int32} {aG : Nat → Int32} {aW : Nat → Int32} {aR : Nat → Int32} {aN : Nat → Int32} {aF : Nat → Int32} {lC : Nat → Int64} {lS : Nat → Int64} {lP : Nat → Int64} {lX : Nat → Int64} {ztc : Int32} {aTs : Nat → Int32} {aTn : Nat → Int32} {zoc : Int32} {aOs : Nat → Int32} {aOn : Nat → Int32} {aTp : Nat → Int32} {zln : Int32} {zpl : Int32} {zfa : Int32} {aSz : Nat → Int32} {zit : Int32} {zip : Int32} {zic : Int32} {zig : Int32} {M : Nat → Nat → Int64} (F : Fx p s m args meth c cc nL RX1 ret) (hw : Wd G s A (kW G q zp ze zf zg zn aG aW aR aN aF lC lS lP lX ++ (oW G q ztc aTs aTn zoc aOs aOn aTp zln zpl zfa aSz zit zip zic zig M ++ fr)) H locs) (hdg : decode cc pc = .ok (.getfield 38, 3)) (kk : W p l e R s m args below meth c H locs 0 0 Q (F0 m (pc + 3) ls (.int zln :: rest))) : W p l e R s m args below meth c H locs 0 0 Q (F0 m pc ls (.ref (q 16) :: rest)) :=
  va_get (D := G.1) (ci := 1) (v := .int zln) (C := RX1) (T := TX1) (N := 10) (ref := RX1) F.x F.b F.ts in_ws1 F.ow hw.1 hw.2.1 16 rfl rfl 7 (by decide) (F.ts _ (BG_in 277 (by decide +kernel) (by decide +kernel) : Cond.fieldLink RX1 38 RX1 "length" "I" ∈ BG)) (fun _ h9 => h9) rfl hdg kk
theorem pf_1_38 {zp : Int32} {ze : Int32} {zf : Int32} {zg : Int32} {zn : Int32} {aG : Nat → Int32} {aW : Nat → Int32} {aR : Nat → Int32} {aN : Nat → Int32} {aF : Nat → Int32} {lC : Nat → Int64} {lS : Nat → Int64} {lP : Nat → Int64} {lX : Nat → Int64} {ztc : Int32} {aTs : Nat → Int32} {aTn : Nat → Int32} {zoc : Int32} {aOs : Nat → Int32} {aOn : Nat → Int32} {aTp : Nat → Int32} {zln : Int32} {zpl : Int32} {zfa : Int32} {aSz : Nat → Int32} {zit : Int32} {zip : Int32} {zic : Int32} {zig : Int32} {M : Nat → Nat → Int64} {v : Int32} (F : Fx p s m args meth c cc nL RX1 ret) (hw : Wd G s A (kW G q zp ze zf zg zn aG aW aR aN aF lC lS lP lX ++ (oW G q ztc aTs aTn zoc aOs aOn aTp zln zpl zfa aSz zit zip zic zig M ++ fr)) H locs) (hdg : decode cc pc = .ok (.putfield 38, 3)) (kk : ∀ (H : Heap) (locs : List Loc), Wd G s A (kW G q zp ze zf zg zn aG aW aR aN aF lC lS lP lX ++ (oW G q ztc aTs aTn zoc aOs aOn aTp v zpl zfa aSz zit zip zic zig M ++ fr)) H locs → W p l e R s m args below meth c H locs 0 0 Q (F0 m (pc + 3) ls rest)) : W p l e R s m args below meth c H locs 0 0 Q (F0 m pc ls (.int v :: .ref (q 16) :: rest)) :=
  va_put (D := G.1) (ci := 1) (v := .int v) (ty := .int) (C := RX1) (T := TX1) (N := 10) (ref := RX1) F.x F.b F.ts in_ws1 tyX1 tyX1_ok nmX1 F.ow hw.1 hw.2.1 hw.2.2.1 hw.2.2.2 16 rfl rfl 7 (by decide) (F.ts _ (BG_in 277 (by decide +kernel) (by decide +kernel) : Cond.fieldLink RX1 38 RX1 "length" "I" ∈ BG)) (fun _ h9 => h9) rfl (by decide +kernel) rfl rfl (Nat.le_of_ble_eq_true rfl) hdg (fun H locs hP hD hS => kk H locs ⟨hw.1, hP, hD, hS⟩)
theorem gf_1_42 {zp : Int32} {ze : Int32} {zf : Int32} {zg : Int32} {zn : Int32} {aG : Nat → Int32} {aW : Nat → Int32} {aR : Nat → Int32} {aN : Nat → Int32} {aF : Nat → Int32} {lC : Nat → Int64} {lS : Nat → Int64} {lP : Nat → Int64} {lX : Nat → Int64} {ztc : Int32} {aTs : Nat → Int32} {aTn : Nat → Int32} {zoc : Int32} {aOs : Nat → Int32} {aOn : Nat → Int32} {aTp : Nat → Int32} {zln : Int32} {zpl : Int32} {zfa : Int32} {aSz : Nat → Int32} {zit : Int32} {zip : Int32} {zic : Int32} {zig : Int32} {M : Nat → Nat → Int64} (F : Fx p s m args meth c cc nL RX1 ret) (hw : Wd G s A (kW G q zp ze zf zg zn aG aW aR aN aF lC lS lP lX ++ (oW G q ztc aTs aTn zoc aOs aOn aTp zln zpl zfa aSz zit zip zic zig M ++ fr)) H locs) (hdg : decode cc pc = .ok (.getfield 42, 3)) (kk : W p l e R s m args below meth c H locs 0 0 Q (F0 m (pc + 3) ls (.int zpl :: rest))) : W p l e R s m args below meth c H locs 0 0 Q (F0 m pc ls (.ref (q 16) :: rest)) :=
  va_get (D := G.1) (ci := 1) (v := .int zpl) (C := RX1) (T := TX1) (N := 10) (ref := RX1) F.x F.b F.ts in_ws1 F.ow hw.1 hw.2.1 16 rfl rfl 8 (by decide) (F.ts _ (BG_in 279 (by decide +kernel) (by decide +kernel) : Cond.fieldLink RX1 42 RX1 "place" "I" ∈ BG)) (fun _ h9 => h9) rfl hdg kk
theorem pf_1_42 {zp : Int32} {ze : Int32} {zf : Int32} {zg : Int32} {zn : Int32} {aG : Nat → Int32} {aW : Nat → Int32} {aR : Nat → Int32} {aN : Nat → Int32} {aF : Nat → Int32} {lC : Nat → Int64} {lS : Nat → Int64} {lP : Nat → Int64} {lX : Nat → Int64} {ztc : Int32} {aTs : Nat → Int32} {aTn : Nat → Int32} {zoc : Int32} {aOs : Nat → Int32} {aOn : Nat → Int32} {aTp : Nat → Int32} {zln : Int32} {zpl : Int32} {zfa : Int32} {aSz : Nat → Int32} {zit : Int32} {zip : Int32} {zic : Int32} {zig : Int32} {M : Nat → Nat → Int64} {v : Int32} (F : Fx p s m args meth c cc nL RX1 ret) (hw : Wd G s A (kW G q zp ze zf zg zn aG aW aR aN aF lC lS lP lX ++ (oW G q ztc aTs aTn zoc aOs aOn aTp zln zpl zfa aSz zit zip zic zig M ++ fr)) H locs) (hdg : decode cc pc = .ok (.putfield 42, 3)) (kk : ∀ (H : Heap) (locs : List Loc), Wd G s A (kW G q zp ze zf zg zn aG aW aR aN aF lC lS lP lX ++ (oW G q ztc aTs aTn zoc aOs aOn aTp zln v zfa aSz zit zip zic zig M ++ fr)) H locs → W p l e R s m args below meth c H locs 0 0 Q (F0 m (pc + 3) ls rest)) : W p l e R s m args below meth c H locs 0 0 Q (F0 m pc ls (.int v :: .ref (q 16) :: rest)) :=
  va_put (D := G.1) (ci := 1) (v := .int v) (ty := .int) (C := RX1) (T := TX1) (N := 10) (ref := RX1) F.x F.b F.ts in_ws1 tyX1 tyX1_ok nmX1 F.ow hw.1 hw.2.1 hw.2.2.1 hw.2.2.2 16 rfl rfl 8 (by decide) (F.ts _ (BG_in 279 (by decide +kernel) (by decide +kernel) : Cond.fieldLink RX1 42 RX1 "place" "I" ∈ BG)) (fun _ h9 => h9) rfl (by decide +kernel) rfl rfl (Nat.le_of_ble_eq_true rfl) hdg (fun H locs hP hD hS => kk H locs ⟨hw.1, hP, hD, hS⟩)
theorem gf_1_45 {zp : Int32} {ze : Int32} {zf : Int32} {zg : Int32} {zn : Int32} {aG : Nat → Int32} {aW : Nat → Int32} {aR : Nat → Int32} {aN : Nat → Int32} {aF : Nat → Int32} {lC : Nat → Int64} {lS : Nat → Int64} {lP : Nat → Int64} {lX : Nat → Int64} {ztc : Int32} {aTs : Nat → Int32} {aTn : Nat → Int32} {zoc : Int32} {aOs : Nat → Int32} {aOn : Nat → Int32} {aTp : Nat → Int32} {zln : Int32} {zpl : Int32} {zfa : Int32} {aSz : Nat → Int32} {zit : Int32} {zip : Int32} {zic : Int32} {zig : Int32} {M : Nat → Nat → Int64} (F : Fx p s m args meth c cc nL RX1 ret) (hw : Wd G s A (kW G q zp ze zf zg zn aG aW aR aN aF lC lS lP lX ++ (oW G q ztc aTs aTn zoc aOs aOn aTp zln zpl zfa aSz zit zip zic zig M ++ fr)) H locs) (hdg : decode cc pc = .ok (.getfield 45, 3)) (kk : W p l e R s m args below meth c H locs 0 0 Q (F0 m (pc + 3) ls (.int zfa :: rest))) : W p l e R s m args below meth c H locs 0 0 Q (F0 m pc ls (.ref (q 16) :: rest)) :=
  va_get (D := G.1) (ci := 1) (v := .int zfa) (C := RX1) (T := TX1) (N := 10) (ref := RX1) F.x F.b F.ts in_ws1 F.ow hw.1 hw.2.1 16 rfl rfl 9 (by decide) (F.ts _ (BG_in 280 (by decide +kernel) (by decide +kernel) : Cond.fieldLink RX1 45 RX1 "fault" "I" ∈ BG)) (fun _ h9 => h9) rfl hdg kk
theorem pf_1_45 {zp : Int32} {ze : Int32} {zf : Int32} {zg : Int32} {zn : Int32} {aG : Nat → Int32} {aW : Nat → Int32} {aR : Nat → Int32} {aN : Nat → Int32} {aF : Nat → Int32} {lC : Nat → Int64} {lS : Nat → Int64} {lP : Nat → Int64} {lX : Nat → Int64} {ztc : Int32} {aTs : Nat → Int32} {aTn : Nat → Int32} {zoc : Int32} {aOs : Nat → Int32} {aOn : Nat → Int32} {aTp : Nat → Int32} {zln : Int32} {zpl : Int32} {zfa : Int32} {aSz : Nat → Int32} {zit : Int32} {zip : Int32} {zic : Int32} {zig : Int32} {M : Nat → Nat → Int64} {v : Int32} (F : Fx p s m args meth c cc nL RX1 ret) (hw : Wd G s A (kW G q zp ze zf zg zn aG aW aR aN aF lC lS lP lX ++ (oW G q ztc aTs aTn zoc aOs aOn aTp zln zpl zfa aSz zit zip zic zig M ++ fr)) H locs) (hdg : decode cc pc = .ok (.putfield 45, 3)) (kk : ∀ (H : Heap) (locs : List Loc), Wd G s A (kW G q zp ze zf zg zn aG aW aR aN aF lC lS lP lX ++ (oW G q ztc aTs aTn zoc aOs aOn aTp zln zpl v aSz zit zip zic zig M ++ fr)) H locs → W p l e R s m args below meth c H locs 0 0 Q (F0 m (pc + 3) ls rest)) : W p l e R s m args below meth c H locs 0 0 Q (F0 m pc ls (.int v :: .ref (q 16) :: rest)) :=
  va_put (D := G.1) (ci := 1) (v := .int v) (ty := .int) (C := RX1) (T := TX1) (N := 10) (ref := RX1) F.x F.b F.ts in_ws1 tyX1 tyX1_ok nmX1 F.ow hw.1 hw.2.1 hw.2.2.1 hw.2.2.2 16 rfl rfl 9 (by decide) (F.ts _ (BG_in 280 (by decide +kernel) (by decide +kernel) : Cond.fieldLink RX1 45 RX1 "fault" "I" ∈ BG)) (fun _ h9 => h9) rfl (by decide +kernel) rfl rfl (Nat.le_of_ble_eq_true rfl) hdg (fun H locs hP hD hS => kk H locs ⟨hw.1, hP, hD, hS⟩)
theorem gf_1_106 {zp : Int32} {ze : Int32} {zf : Int32} {zg : Int32} {zn : Int32} {aG : Nat → Int32} {aW : Nat → Int32} {aR : Nat → Int32} {aN : Nat → Int32} {aF : Nat → Int32} {lC : Nat → Int64} {lS : Nat → Int64} {lP : Nat → Int64} {lX : Nat → Int64} (F : Fx p s m args meth c cc nL RX1 ret) (hw : Wd G s A (kW G q zp ze zf zg zn aG aW aR aN aF lC lS lP lX ++ fr) H locs) (hdg : decode cc pc = .ok (.getfield 106, 3)) (kk : W p l e R s m args below meth c H locs 0 0 Q (F0 m (pc + 3) ls (.int ze :: rest))) : W p l e R s m args below meth c H locs 0 0 Q (F0 m pc ls (.ref (q 0) :: rest)) :=
  va_get (D := G.1) (ci := 0) (v := .int ze) (C := RX0) (T := TX0) (N := 14) (ref := RX0) F.x F.b F.ts in_ws0 F.ow hw.1 hw.2.1 0 rfl rfl 1 (by decide) (F.ts _ (BG_in 158 (by decide +kernel) (by decide +kernel) : Cond.fieldLink RX1 106 RX0 "e" "I" ∈ BG)) (fun _ h9 => h9) rfl hdg kk
theorem gf_2_9 {zp : Int32} {ze : Int32} {zf : Int32} {zg : Int32} {zn : Int32} {aG : Nat → Int32} {aW : Nat → Int32} {aR : Nat → Int32} {aN : Nat → Int32} {aF : Nat → Int32} {lC : Nat → Int64} {lS : Nat → Int64} {lP : Nat → Int64} {lX : Nat → Int64} {ztc : Int32} {aTs : Nat → Int32} {aTn : Nat → Int32} {zoc : Int32} {aOs : Nat → Int32} {aOn : Nat → Int32} {aTp : Nat → Int32} {zln : Int32} {zpl : Int32} {zfa : Int32} {aSz : Nat → Int32} {zit : Int32} {zip : Int32} {zic : Int32} {zig : Int32} {M : Nat → Nat → Int64} (F : Fx p s m args meth c cc nL RX2 ret) (hw : Wd G s A (kW G q zp ze zf zg zn aG aW aR aN aF lC lS lP lX ++ (oW G q ztc aTs aTn zoc aOs aOn aTp zln zpl zfa aSz zit zip zic zig M ++ fr)) H locs) (hdg : decode cc pc = .ok (.getfield 9, 3)) (kk : W p l e R s m args below meth c H locs 0 0 Q (F0 m (pc + 3) ls (.ref (q 55) :: rest))) : W p l e R s m args below meth c H locs 0 0 Q (F0 m pc ls (.ref (q 15) :: rest)) :=
  va_get (D := G.1) (ci := 2) (v := .ref (q 55)) (C := RX2) (T := TX2) (N := 5) (ref := RX2) F.x F.b F.ts in_ws2 F.ow hw.1 hw.2.1 15 rfl rfl 2 (by decide) (F.ts _ (BG_in 248 (by decide +kernel) (by decide +kernel) : Cond.fieldLink RX2 9 RX2 "result" "[J" ∈ BG)) (fun _ h9 => h9) rfl hdg kk
theorem gf_2_15 {zp : Int32} {ze : Int32} {zf : Int32} {zg : Int32} {zn : Int32} {aG : Nat → Int32} {aW : Nat → Int32} {aR : Nat → Int32} {aN : Nat → Int32} {aF : Nat → Int32} {lC : Nat → Int64} {lS : Nat → Int64} {lP : Nat → Int64} {lX : Nat → Int64} {ztc : Int32} {aTs : Nat → Int32} {aTn : Nat → Int32} {zoc : Int32} {aOs : Nat → Int32} {aOn : Nat → Int32} {aTp : Nat → Int32} {zln : Int32} {zpl : Int32} {zfa : Int32} {aSz : Nat → Int32} {zit : Int32} {zip : Int32} {zic : Int32} {zig : Int32} {M : Nat → Nat → Int64} (F : Fx p s m args meth c cc nL RX2 ret) (hw : Wd G s A (kW G q zp ze zf zg zn aG aW aR aN aF lC lS lP lX ++ (oW G q ztc aTs aTn zoc aOs aOn aTp zln zpl zfa aSz zit zip zic zig M ++ fr)) H locs) (hdg : decode cc pc = .ok (.getfield 15, 3)) (kk : W p l e R s m args below meth c H locs 0 0 Q (F0 m (pc + 3) ls (.ref (q 56) :: rest))) : W p l e R s m args below meth c H locs 0 0 Q (F0 m pc ls (.ref (q 15) :: rest)) :=
  va_get (D := G.1) (ci := 2) (v := .ref (q 56)) (C := RX2) (T := TX2) (N := 5) (ref := RX2) F.x F.b F.ts in_ws2 F.ow hw.1 hw.2.1 15 rfl rfl 3 (by decide) (F.ts _ (BG_in 249 (by decide +kernel) (by decide +kernel) : Cond.fieldLink RX2 15 RX2 "grown" "[J" ∈ BG)) (fun _ h9 => h9) rfl hdg kk
theorem gf_2_18 {zp : Int32} {ze : Int32} {zf : Int32} {zg : Int32} {zn : Int32} {aG : Nat → Int32} {aW : Nat → Int32} {aR : Nat → Int32} {aN : Nat → Int32} {aF : Nat → Int32} {lC : Nat → Int64} {lS : Nat → Int64} {lP : Nat → Int64} {lX : Nat → Int64} {ztc : Int32} {aTs : Nat → Int32} {aTn : Nat → Int32} {zoc : Int32} {aOs : Nat → Int32} {aOn : Nat → Int32} {aTp : Nat → Int32} {zln : Int32} {zpl : Int32} {zfa : Int32} {aSz : Nat → Int32} {zit : Int32} {zip : Int32} {zic : Int32} {zig : Int32} {M : Nat → Nat → Int64} (F : Fx p s m args meth c cc nL RX2 ret) (hw : Wd G s A (kW G q zp ze zf zg zn aG aW aR aN aF lC lS lP lX ++ (oW G q ztc aTs aTn zoc aOs aOn aTp zln zpl zfa aSz zit zip zic zig M ++ fr)) H locs) (hdg : decode cc pc = .ok (.getfield 18, 3)) (kk : W p l e R s m args below meth c H locs 0 0 Q (F0 m (pc + 3) ls (.ref (q 57) :: rest))) : W p l e R s m args below meth c H locs 0 0 Q (F0 m pc ls (.ref (q 15) :: rest)) :=
  va_get (D := G.1) (ci := 2) (v := .ref (q 57)) (C := RX2) (T := TX2) (N := 5) (ref := RX2) F.x F.b F.ts in_ws2 F.ow hw.1 hw.2.1 15 rfl rfl 4 (by decide) (F.ts _ (BG_in 250 (by decide +kernel) (by decide +kernel) : Cond.fieldLink RX2 18 RX2 "turned" "[J" ∈ BG)) (fun _ h9 => h9) rfl hdg kk
theorem gf_2_21 {zp : Int32} {ze : Int32} {zf : Int32} {zg : Int32} {zn : Int32} {aG : Nat → Int32} {aW : Nat → Int32} {aR : Nat → Int32} {aN : Nat → Int32} {aF : Nat → Int32} {lC : Nat → Int64} {lS : Nat → Int64} {lP : Nat → Int64} {lX : Nat → Int64} {ztc : Int32} {aTs : Nat → Int32} {aTn : Nat → Int32} {zoc : Int32} {aOs : Nat → Int32} {aOn : Nat → Int32} {aTp : Nat → Int32} {zln : Int32} {zpl : Int32} {zfa : Int32} {aSz : Nat → Int32} {zit : Int32} {zip : Int32} {zic : Int32} {zig : Int32} {M : Nat → Nat → Int64} (F : Fx p s m args meth c cc nL RX2 ret) (hw : Wd G s A (kW G q zp ze zf zg zn aG aW aR aN aF lC lS lP lX ++ (oW G q ztc aTs aTn zoc aOs aOn aTp zln zpl zfa aSz zit zip zic zig M ++ fr)) H locs) (hdg : decode cc pc = .ok (.getfield 21, 3)) (kk : W p l e R s m args below meth c H locs 0 0 Q (F0 m (pc + 3) ls (.ref (q 0) :: rest))) : W p l e R s m args below meth c H locs 0 0 Q (F0 m pc ls (.ref (q 15) :: rest)) :=
  va_get (D := G.1) (ci := 2) (v := .ref (q 0)) (C := RX2) (T := TX2) (N := 5) (ref := RX2) F.x F.b F.ts in_ws2 F.ow hw.1 hw.2.1 15 rfl rfl 0 (by decide) (F.ts _ (BG_in 246 (by decide +kernel) (by decide +kernel) : Cond.fieldLink RX2 21 RX2 "classes" "LPowerClasses$Classes;" ∈ BG)) (fun _ h9 => h9) rfl hdg kk
theorem gf_2_25 {zp : Int32} {ze : Int32} {zf : Int32} {zg : Int32} {zn : Int32} {aG : Nat → Int32} {aW : Nat → Int32} {aR : Nat → Int32} {aN : Nat → Int32} {aF : Nat → Int32} {lC : Nat → Int64} {lS : Nat → Int64} {lP : Nat → Int64} {lX : Nat → Int64} {ztc : Int32} {aTs : Nat → Int32} {aTn : Nat → Int32} {zoc : Int32} {aOs : Nat → Int32} {aOn : Nat → Int32} {aTp : Nat → Int32} {zln : Int32} {zpl : Int32} {zfa : Int32} {aSz : Nat → Int32} {zit : Int32} {zip : Int32} {zic : Int32} {zig : Int32} {M : Nat → Nat → Int64} (F : Fx p s m args meth c cc nL RX2 ret) (hw : Wd G s A (kW G q zp ze zf zg zn aG aW aR aN aF lC lS lP lX ++ (oW G q ztc aTs aTn zoc aOs aOn aTp zln zpl zfa aSz zit zip zic zig M ++ fr)) H locs) (hdg : decode cc pc = .ok (.getfield 25, 3)) (kk : W p l e R s m args below meth c H locs 0 0 Q (F0 m (pc + 3) ls (.ref (q 10) :: rest))) : W p l e R s m args below meth c H locs 0 0 Q (F0 m pc ls (.ref (q 15) :: rest)) :=
  va_get (D := G.1) (ci := 2) (v := .ref (q 10)) (C := RX2) (T := TX2) (N := 5) (ref := RX2) F.x F.b F.ts in_ws2 F.ow hw.1 hw.2.1 15 rfl rfl 1 (by decide) (F.ts _ (BG_in 247 (by decide +kernel) (by decide +kernel) : Cond.fieldLink RX2 25 RX2 "troubles" "LPowerClasses$Troubles;" ∈ BG)) (fun _ h9 => h9) rfl hdg kk
theorem gf_2_29 {zp : Int32} {ze : Int32} {zf : Int32} {zg : Int32} {zn : Int32} {aG : Nat → Int32} {aW : Nat → Int32} {aR : Nat → Int32} {aN : Nat → Int32} {aF : Nat → Int32} {lC : Nat → Int64} {lS : Nat → Int64} {lP : Nat → Int64} {lX : Nat → Int64} (F : Fx p s m args meth c cc nL RX2 ret) (hw : Wd G s A (kW G q zp ze zf zg zn aG aW aR aN aF lC lS lP lX ++ fr) H locs) (hdg : decode cc pc = .ok (.getfield 29, 3)) (kk : W p l e R s m args below meth c H locs 0 0 Q (F0 m (pc + 3) ls (.int ze :: rest))) : W p l e R s m args below meth c H locs 0 0 Q (F0 m pc ls (.ref (q 0) :: rest)) :=
  va_get (D := G.1) (ci := 0) (v := .int ze) (C := RX0) (T := TX0) (N := 14) (ref := RX0) F.x F.b F.ts in_ws0 F.ow hw.1 hw.2.1 0 rfl rfl 1 (by decide) (F.ts _ (BG_in 156 (by decide +kernel) (by decide +kernel) : Cond.fieldLink RX2 29 RX0 "e" "I" ∈ BG)) (fun _ h9 => h9) rfl hdg kk
theorem gf_2_59 {zp : Int32} {ze : Int32} {zf : Int32} {zg : Int32} {zn : Int32} {aG : Nat → Int32} {aW : Nat → Int32} {aR : Nat → Int32} {aN : Nat → Int32} {aF : Nat → Int32} {lC : Nat → Int64} {lS : Nat → Int64} {lP : Nat → Int64} {lX : Nat → Int64} (F : Fx p s m args meth c cc nL RX2 ret) (hw : Wd G s A (kW G q zp ze zf zg zn aG aW aR aN aF lC lS lP lX ++ fr) H locs) (hdg : decode cc pc = .ok (.getfield 59, 3)) (kk : W p l e R s m args below meth c H locs 0 0 Q (F0 m (pc + 3) ls (.ref (q 5) :: rest))) : W p l e R s m args below meth c H locs 0 0 Q (F0 m pc ls (.ref (q 0) :: rest)) :=
  va_get (D := G.1) (ci := 0) (v := .ref (q 5)) (C := RX0) (T := TX0) (N := 14) (ref := RX0) F.x F.b F.ts in_ws0 F.ow hw.1 hw.2.1 0 rfl rfl 9 (by decide) (F.ts _ (BG_in 174 (by decide +kernel) (by decide +kernel) : Cond.fieldLink RX2 59 RX0 "factors" "[I" ∈ BG)) (fun _ h9 => h9) rfl hdg kk
theorem gf_3_11 {zp : Int32} {ze : Int32} {zf : Int32} {zg : Int32} {zn : Int32} {aG : Nat → Int32} {aW : Nat → Int32} {aR : Nat → Int32} {aN : Nat → Int32} {aF : Nat → Int32} {lC : Nat → Int64} {lS : Nat → Int64} {lP : Nat → Int64} {lX : Nat → Int64} {ztc : Int32} {aTs : Nat → Int32} {aTn : Nat → Int32} {zoc : Int32} {aOs : Nat → Int32} {aOn : Nat → Int32} {aTp : Nat → Int32} {zln : Int32} {zpl : Int32} {zfa : Int32} {aSz : Nat → Int32} {zit : Int32} {zip : Int32} {zic : Int32} {zig : Int32} {M : Nat → Nat → Int64} (F : Fx p s m args meth c cc nL RX3 ret) (hw : Wd G s A (kW G q zp ze zf zg zn aG aW aR aN aF lC lS lP lX ++ (oW G q ztc aTs aTn zoc aOs aOn aTp zln zpl zfa aSz zit zip zic zig M ++ fr)) H locs) (hdg : decode cc pc = .ok (.getfield 11, 3)) (kk : W p l e R s m args below meth c H locs 0 0 Q (F0 m (pc + 3) ls (.ref (q 11) :: rest))) : W p l e R s m args below meth c H locs 0 0 Q (F0 m pc ls (.ref (q 10) :: rest)) :=
  va_get (D := G.1) (ci := 3) (v := .ref (q 11)) (C := RX3) (T := TX3) (N := 6) (ref := RX3) F.x F.b F.ts in_ws3 F.ow hw.1 hw.2.1 10 rfl rfl 1 (by decide) (F.ts _ (BG_in 220 (by decide +kernel) (by decide +kernel) : Cond.fieldLink RX3 11 RX3 "toldSorts" "[I" ∈ BG)) (fun _ h9 => h9) rfl hdg kk
theorem gf_3_15 {zp : Int32} {ze : Int32} {zf : Int32} {zg : Int32} {zn : Int32} {aG : Nat → Int32} {aW : Nat → Int32} {aR : Nat → Int32} {aN : Nat → Int32} {aF : Nat → Int32} {lC : Nat → Int64} {lS : Nat → Int64} {lP : Nat → Int64} {lX : Nat → Int64} {ztc : Int32} {aTs : Nat → Int32} {aTn : Nat → Int32} {zoc : Int32} {aOs : Nat → Int32} {aOn : Nat → Int32} {aTp : Nat → Int32} {zln : Int32} {zpl : Int32} {zfa : Int32} {aSz : Nat → Int32} {zit : Int32} {zip : Int32} {zic : Int32} {zig : Int32} {M : Nat → Nat → Int64} (F : Fx p s m args meth c cc nL RX3 ret) (hw : Wd G s A (kW G q zp ze zf zg zn aG aW aR aN aF lC lS lP lX ++ (oW G q ztc aTs aTn zoc aOs aOn aTp zln zpl zfa aSz zit zip zic zig M ++ fr)) H locs) (hdg : decode cc pc = .ok (.getfield 15, 3)) (kk : W p l e R s m args below meth c H locs 0 0 Q (F0 m (pc + 3) ls (.ref (q 12) :: rest))) : W p l e R s m args below meth c H locs 0 0 Q (F0 m pc ls (.ref (q 10) :: rest)) :=
  va_get (D := G.1) (ci := 3) (v := .ref (q 12)) (C := RX3) (T := TX3) (N := 6) (ref := RX3) F.x F.b F.ts in_ws3 F.ow hw.1 hw.2.1 10 rfl rfl 2 (by decide) (F.ts _ (BG_in 222 (by decide +kernel) (by decide +kernel) : Cond.fieldLink RX3 15 RX3 "toldNumbers" "[I" ∈ BG)) (fun _ h9 => h9) rfl hdg kk
theorem gf_3_18 {zp : Int32} {ze : Int32} {zf : Int32} {zg : Int32} {zn : Int32} {aG : Nat → Int32} {aW : Nat → Int32} {aR : Nat → Int32} {aN : Nat → Int32} {aF : Nat → Int32} {lC : Nat → Int64} {lS : Nat → Int64} {lP : Nat → Int64} {lX : Nat → Int64} {ztc : Int32} {aTs : Nat → Int32} {aTn : Nat → Int32} {zoc : Int32} {aOs : Nat → Int32} {aOn : Nat → Int32} {aTp : Nat → Int32} {zln : Int32} {zpl : Int32} {zfa : Int32} {aSz : Nat → Int32} {zit : Int32} {zip : Int32} {zic : Int32} {zig : Int32} {M : Nat → Nat → Int64} (F : Fx p s m args meth c cc nL RX3 ret) (hw : Wd G s A (kW G q zp ze zf zg zn aG aW aR aN aF lC lS lP lX ++ (oW G q ztc aTs aTn zoc aOs aOn aTp zln zpl zfa aSz zit zip zic zig M ++ fr)) H locs) (hdg : decode cc pc = .ok (.getfield 18, 3)) (kk : W p l e R s m args below meth c H locs 0 0 Q (F0 m (pc + 3) ls (.ref (q 13) :: rest))) : W p l e R s m args below meth c H locs 0 0 Q (F0 m pc ls (.ref (q 10) :: rest)) :=
  va_get (D := G.1) (ci := 3) (v := .ref (q 13)) (C := RX3) (T := TX3) (N := 6) (ref := RX3) F.x F.b F.ts in_ws3 F.ow hw.1 hw.2.1 10 rfl rfl 4 (by decide) (F.ts _ (BG_in 225 (by decide +kernel) (by decide +kernel) : Cond.fieldLink RX3 18 RX3 "openSorts" "[I" ∈ BG)) (fun _ h9 => h9) rfl hdg kk
theorem gf_3_21 {zp : Int32} {ze : Int32} {zf : Int32} {zg : Int32} {zn : Int32} {aG : Nat → Int32} {aW : Nat → Int32} {aR : Nat → Int32} {aN : Nat → Int32} {aF : Nat → Int32} {lC : Nat → Int64} {lS : Nat → Int64} {lP : Nat → Int64} {lX : Nat → Int64} {ztc : Int32} {aTs : Nat → Int32} {aTn : Nat → Int32} {zoc : Int32} {aOs : Nat → Int32} {aOn : Nat → Int32} {aTp : Nat → Int32} {zln : Int32} {zpl : Int32} {zfa : Int32} {aSz : Nat → Int32} {zit : Int32} {zip : Int32} {zic : Int32} {zig : Int32} {M : Nat → Nat → Int64} (F : Fx p s m args meth c cc nL RX3 ret) (hw : Wd G s A (kW G q zp ze zf zg zn aG aW aR aN aF lC lS lP lX ++ (oW G q ztc aTs aTn zoc aOs aOn aTp zln zpl zfa aSz zit zip zic zig M ++ fr)) H locs) (hdg : decode cc pc = .ok (.getfield 21, 3)) (kk : W p l e R s m args below meth c H locs 0 0 Q (F0 m (pc + 3) ls (.ref (q 14) :: rest))) : W p l e R s m args below meth c H locs 0 0 Q (F0 m pc ls (.ref (q 10) :: rest)) :=
  va_get (D := G.1) (ci := 3) (v := .ref (q 14)) (C := RX3) (T := TX3) (N := 6) (ref := RX3) F.x F.b F.ts in_ws3 F.ow hw.1 hw.2.1 10 rfl rfl 5 (by decide) (F.ts _ (BG_in 226 (by decide +kernel) (by decide +kernel) : Cond.fieldLink RX3 21 RX3 "openNumbers" "[I" ∈ BG)) (fun _ h9 => h9) rfl hdg kk
theorem gf_3_24 {zp : Int32} {ze : Int32} {zf : Int32} {zg : Int32} {zn : Int32} {aG : Nat → Int32} {aW : Nat → Int32} {aR : Nat → Int32} {aN : Nat → Int32} {aF : Nat → Int32} {lC : Nat → Int64} {lS : Nat → Int64} {lP : Nat → Int64} {lX : Nat → Int64} {ztc : Int32} {aTs : Nat → Int32} {aTn : Nat → Int32} {zoc : Int32} {aOs : Nat → Int32} {aOn : Nat → Int32} {aTp : Nat → Int32} {zln : Int32} {zpl : Int32} {zfa : Int32} {aSz : Nat → Int32} {zit : Int32} {zip : Int32} {zic : Int32} {zig : Int32} {M : Nat → Nat → Int64} (F : Fx p s m args meth c cc nL RX3 ret) (hw : Wd G s A (kW G q zp ze zf zg zn aG aW aR aN aF lC lS lP lX ++ (oW G q ztc aTs aTn zoc aOs aOn aTp zln zpl zfa aSz zit zip zic zig M ++ fr)) H locs) (hdg : decode cc pc = .ok (.getfield 24, 3)) (kk : W p l e R s m args below meth c H locs 0 0 Q (F0 m (pc + 3) ls (.int zoc :: rest))) : W p l e R s m args below meth c H locs 0 0 Q (F0 m pc ls (.ref (q 10) :: rest)) :=
  va_get (D := G.1) (ci := 3) (v := .int zoc) (C := RX3) (T := TX3) (N := 6) (ref := RX3) F.x F.b F.ts in_ws3 F.ow hw.1 hw.2.1 10 rfl rfl 3 (by decide) (F.ts _ (BG_in 224 (by decide +kernel) (by decide +kernel) : Cond.fieldLink RX3 24 RX3 "openCount" "I" ∈ BG)) (fun _ h9 => h9) rfl hdg kk
theorem pf_3_24 {zp : Int32} {ze : Int32} {zf : Int32} {zg : Int32} {zn : Int32} {aG : Nat → Int32} {aW : Nat → Int32} {aR : Nat → Int32} {aN : Nat → Int32} {aF : Nat → Int32} {lC : Nat → Int64} {lS : Nat → Int64} {lP : Nat → Int64} {lX : Nat → Int64} {ztc : Int32} {aTs : Nat → Int32} {aTn : Nat → Int32} {zoc : Int32} {aOs : Nat → Int32} {aOn : Nat → Int32} {aTp : Nat → Int32} {zln : Int32} {zpl : Int32} {zfa : Int32} {aSz : Nat → Int32} {zit : Int32} {zip : Int32} {zic : Int32} {zig : Int32} {M : Nat → Nat → Int64} {v : Int32} (F : Fx p s m args meth c cc nL RX3 ret) (hw : Wd G s A (kW G q zp ze zf zg zn aG aW aR aN aF lC lS lP lX ++ (oW G q ztc aTs aTn zoc aOs aOn aTp zln zpl zfa aSz zit zip zic zig M ++ fr)) H locs) (hdg : decode cc pc = .ok (.putfield 24, 3)) (kk : ∀ (H : Heap) (locs : List Loc), Wd G s A (kW G q zp ze zf zg zn aG aW aR aN aF lC lS lP lX ++ (oW G q ztc aTs aTn v aOs aOn aTp zln zpl zfa aSz zit zip zic zig M ++ fr)) H locs → W p l e R s m args below meth c H locs 0 0 Q (F0 m (pc + 3) ls rest)) : W p l e R s m args below meth c H locs 0 0 Q (F0 m pc ls (.int v :: .ref (q 10) :: rest)) :=
  va_put (D := G.1) (ci := 3) (v := .int v) (ty := .int) (C := RX3) (T := TX3) (N := 6) (ref := RX3) F.x F.b F.ts in_ws3 tyX3 tyX3_ok nmX3 F.ow hw.1 hw.2.1 hw.2.2.1 hw.2.2.2 10 rfl rfl 3 (by decide) (F.ts _ (BG_in 224 (by decide +kernel) (by decide +kernel) : Cond.fieldLink RX3 24 RX3 "openCount" "I" ∈ BG)) (fun _ h9 => h9) rfl (by decide +kernel) rfl rfl (Nat.le_of_ble_eq_true rfl) hdg (fun H locs hP hD hS => kk H locs ⟨hw.1, hP, hD, hS⟩)
theorem pf_3_28 {zp : Int32} {ze : Int32} {zf : Int32} {zg : Int32} {zn : Int32} {aG : Nat → Int32} {aW : Nat → Int32} {aR : Nat → Int32} {aN : Nat → Int32} {aF : Nat → Int32} {lC : Nat → Int64} {lS : Nat → Int64} {lP : Nat → Int64} {lX : Nat → Int64} {ztc : Int32} {aTs : Nat → Int32} {aTn : Nat → Int32} {zoc : Int32} {aOs : Nat → Int32} {aOn : Nat → Int32} {aTp : Nat → Int32} {zln : Int32} {zpl : Int32} {zfa : Int32} {aSz : Nat → Int32} {zit : Int32} {zip : Int32} {zic : Int32} {zig : Int32} {M : Nat → Nat → Int64} {v : Int32} (F : Fx p s m args meth c cc nL RX3 ret) (hw : Wd G s A (kW G q zp ze zf zg zn aG aW aR aN aF lC lS lP lX ++ (oW G q ztc aTs aTn zoc aOs aOn aTp zln zpl zfa aSz zit zip zic zig M ++ fr)) H locs) (hdg : decode cc pc = .ok (.putfield 28, 3)) (kk : ∀ (H : Heap) (locs : List Loc), Wd G s A (kW G q zp ze zf zg zn aG aW aR aN aF lC lS lP lX ++ (oW G q v aTs aTn zoc aOs aOn aTp zln zpl zfa aSz zit zip zic zig M ++ fr)) H locs → W p l e R s m args below meth c H locs 0 0 Q (F0 m (pc + 3) ls rest)) : W p l e R s m args below meth c H locs 0 0 Q (F0 m pc ls (.int v :: .ref (q 10) :: rest)) :=
  va_put (D := G.1) (ci := 3) (v := .int v) (ty := .int) (C := RX3) (T := TX3) (N := 6) (ref := RX3) F.x F.b F.ts in_ws3 tyX3 tyX3_ok nmX3 F.ow hw.1 hw.2.1 hw.2.2.1 hw.2.2.2 10 rfl rfl 0 (by decide) (F.ts _ (BG_in 218 (by decide +kernel) (by decide +kernel) : Cond.fieldLink RX3 28 RX3 "toldCount" "I" ∈ BG)) (fun _ h9 => h9) rfl (by decide +kernel) rfl rfl (Nat.le_of_ble_eq_true rfl) hdg (fun H locs hP hD hS => kk H locs ⟨hw.1, hP, hD, hS⟩)
theorem gf_4_14 {zp : Int32} {ze : Int32} {zf : Int32} {zg : Int32} {zn : Int32} {aG : Nat → Int32} {aW : Nat → Int32} {aR : Nat → Int32} {aN : Nat → Int32} {aF : Nat → Int32} {lC : Nat → Int64} {lS : Nat → Int64} {lP : Nat → Int64} {lX : Nat → Int64} {ztc : Int32} {aTs : Nat → Int32} {aTn : Nat → Int32} {zoc : Int32} {aOs : Nat → Int32} {aOn : Nat → Int32} {aTp : Nat → Int32} {zln : Int32} {zpl : Int32} {zfa : Int32} {aSz : Nat → Int32} {zit : Int32} {zip : Int32} {zic : Int32} {zig : Int32} {M : Nat → Nat → Int64} (F : Fx p s m args meth c cc nL RX4 ret) (hw : Wd G s A (kW G q zp ze zf zg zn aG aW aR aN aF lC lS lP lX ++ (oW G q ztc aTs aTn zoc aOs aOn aTp zln zpl zfa aSz zit zip zic zig M ++ fr)) H locs) (hdg : decode cc pc = .ok (.getfield 14, 3)) (kk : W p l e R s m args below meth c H locs 0 0 Q (F0 m (pc + 3) ls (.ref (q 0) :: rest))) : W p l e R s m args below meth c H locs 0 0 Q (F0 m pc ls (.ref (q 21) :: rest)) :=
  va_get (D := G.1) (ci := 4) (v := .ref (q 0)) (C := RX4) (T := TX4) (N := 12) (ref := RX4) F.x F.b F.ts in_ws4 F.ow hw.1 hw.2.1 21 rfl rfl 0 (by decide) (F.ts _ (BG_in 304 (by decide +kernel) (by decide +kernel) : Cond.fieldLink RX4 14 RX4 "classes" "LPowerClasses$Classes;" ∈ BG)) (fun _ h9 => h9) rfl hdg kk
theorem gf_4_23 {zp : Int32} {ze : Int32} {zf : Int32} {zg : Int32} {zn : Int32} {aG : Nat → Int32} {aW : Nat → Int32} {aR : Nat → Int32} {aN : Nat → Int32} {aF : Nat → Int32} {lC : Nat → Int64} {lS : Nat → Int64} {lP : Nat → Int64} {lX : Nat → Int64} {ztc : Int32} {aTs : Nat → Int32} {aTn : Nat → Int32} {zoc : Int32} {aOs : Nat → Int32} {aOn : Nat → Int32} {aTp : Nat → Int32} {zln : Int32} {zpl : Int32} {zfa : Int32} {aSz : Nat → Int32} {zit : Int32} {zip : Int32} {zic : Int32} {zig : Int32} {M : Nat → Nat → Int64} (F : Fx p s m args meth c cc nL RX4 ret) (hw : Wd G s A (kW G q zp ze zf zg zn aG aW aR aN aF lC lS lP lX ++ (oW G q ztc aTs aTn zoc aOs aOn aTp zln zpl zfa aSz zit zip zic zig M ++ fr)) H locs) (hdg : decode cc pc = .ok (.getfield 23, 3)) (kk : W p l e R s m args below meth c H locs 0 0 Q (F0 m (pc + 3) ls (.ref (q 10) :: rest))) : W p l e R s m args below meth c H locs 0 0 Q (F0 m pc ls (.ref (q 21) :: rest)) :=
  va_get (D := G.1) (ci := 4) (v := .ref (q 10)) (C := RX4) (T := TX4) (N := 12) (ref := RX4) F.x F.b F.ts in_ws4 F.ow hw.1 hw.2.1 21 rfl rfl 1 (by decide) (F.ts _ (BG_in 305 (by decide +kernel) (by decide +kernel) : Cond.fieldLink RX4 23 RX4 "troubles" "LPowerClasses$Troubles;" ∈ BG)) (fun _ h9 => h9) rfl hdg kk
theorem gf_4_32 {zp : Int32} {ze : Int32} {zf : Int32} {zg : Int32} {zn : Int32} {aG : Nat → Int32} {aW : Nat → Int32} {aR : Nat → Int32} {aN : Nat → Int32} {aF : Nat → Int32} {lC : Nat → Int64} {lS : Nat → Int64} {lP : Nat → Int64} {lX : Nat → Int64} {ztc : Int32} {aTs : Nat → Int32} {aTn : Nat → Int32} {zoc : Int32} {aOs : Nat → Int32} {aOn : Nat → Int32} {aTp : Nat → Int32} {zln : Int32} {zpl : Int32} {zfa : Int32} {aSz : Nat → Int32} {zit : Int32} {zip : Int32} {zic : Int32} {zig : Int32} {M : Nat → Nat → Int64} (F : Fx p s m args meth c cc nL RX4 ret) (hw : Wd G s A (kW G q zp ze zf zg zn aG aW aR aN aF lC lS lP lX ++ (oW G q ztc aTs aTn zoc aOs aOn aTp zln zpl zfa aSz zit zip zic zig M ++ fr)) H locs) (hdg : decode cc pc = .ok (.getfield 32, 3)) (kk : W p l e R s m args below meth c H locs 0 0 Q (F0 m (pc + 3) ls (.ref (q 15) :: rest))) : W p l e R s m args below meth c H locs 0 0 Q (F0 m pc ls (.ref (q 21) :: rest)) :=
  va_get (D := G.1) (ci := 4) (v := .ref (q 15)) (C := RX4) (T := TX4) (N := 12) (ref := RX4) F.x F.b F.ts in_ws4 F.ow hw.1 hw.2.1 21 rfl rfl 2 (by decide) (F.ts _ (BG_in 306 (by decide +kernel) (by decide +kernel) : Cond.fieldLink RX4 32 RX4 "reckoner" "LPowerClasses$Reckoner;" ∈ BG)) (fun _ h9 => h9) rfl hdg kk
theorem gf_4_41 {zp : Int32} {ze : Int32} {zf : Int32} {zg : Int32} {zn : Int32} {aG : Nat → Int32} {aW : Nat → Int32} {aR : Nat → Int32} {aN : Nat → Int32} {aF : Nat → Int32} {lC : Nat → Int64} {lS : Nat → Int64} {lP : Nat → Int64} {lX : Nat → Int64} {ztc : Int32} {aTs : Nat → Int32} {aTn : Nat → Int32} {zoc : Int32} {aOs : Nat → Int32} {aOn : Nat → Int32} {aTp : Nat → Int32} {zln : Int32} {zpl : Int32} {zfa : Int32} {aSz : Nat → Int32} {zit : Int32} {zip : Int32} {zic : Int32} {zig : Int32} {M : Nat → Nat → Int64} (F : Fx p s m args meth c cc nL RX4 ret) (hw : Wd G s A (kW G q zp ze zf zg zn aG aW aR aN aF lC lS lP lX ++ (oW G q ztc aTs aTn zoc aOs aOn aTp zln zpl zfa aSz zit zip zic zig M ++ fr)) H locs) (hdg : decode cc pc = .ok (.getfield 41, 3)) (kk : W p l e R s m args below meth c H locs 0 0 Q (F0 m (pc + 3) ls (.ref (q 16) :: rest))) : W p l e R s m args below meth c H locs 0 0 Q (F0 m pc ls (.ref (q 21) :: rest)) :=
  va_get (D := G.1) (ci := 4) (v := .ref (q 16)) (C := RX4) (T := TX4) (N := 12) (ref := RX4) F.x F.b F.ts in_ws4 F.ow hw.1 hw.2.1 21 rfl rfl 3 (by decide) (F.ts _ (BG_in 307 (by decide +kernel) (by decide +kernel) : Cond.fieldLink RX4 41 RX4 "reader" "LPowerClasses$Reader;" ∈ BG)) (fun _ h9 => h9) rfl hdg kk
theorem gf_4_47 {zp : Int32} {ze : Int32} {zf : Int32} {zg : Int32} {zn : Int32} {aG : Nat → Int32} {aW : Nat → Int32} {aR : Nat → Int32} {aN : Nat → Int32} {aF : Nat → Int32} {lC : Nat → Int64} {lS : Nat → Int64} {lP : Nat → Int64} {lX : Nat → Int64} {ztc : Int32} {aTs : Nat → Int32} {aTn : Nat → Int32} {zoc : Int32} {aOs : Nat → Int32} {aOn : Nat → Int32} {aTp : Nat → Int32} {zln : Int32} {zpl : Int32} {zfa : Int32} {aSz : Nat → Int32} {zit : Int32} {zip : Int32} {zic : Int32} {zig : Int32} {M : Nat → Nat → Int64} (F : Fx p s m args meth c cc nL RX4 ret) (hw : Wd G s A (kW G q zp ze zf zg zn aG aW aR aN aF lC lS lP lX ++ (oW G q ztc aTs aTn zoc aOs aOn aTp zln zpl zfa aSz zit zip zic zig M ++ fr)) H locs) (hdg : decode cc pc = .ok (.getfield 47, 3)) (kk : W p l e R s m args below meth c H locs 0 0 Q (F0 m (pc + 3) ls (.ref (q 22) :: rest))) : W p l e R s m args below meth c H locs 0 0 Q (F0 m pc ls (.ref (q 21) :: rest)) :=
  va_get (D := G.1) (ci := 4) (v := .ref (q 22)) (C := RX4) (T := TX4) (N := 12) (ref := RX4) F.x F.b F.ts in_ws4 F.ow hw.1 hw.2.1 21 rfl rfl 4 (by decide) (F.ts _ (BG_in 308 (by decide +kernel) (by decide +kernel) : Cond.fieldLink RX4 47 RX4 "shelves" "[[J" ∈ BG)) (fun _ h9 => h9) rfl hdg kk
theorem gf_4_50 {zp : Int32} {ze : Int32} {zf : Int32} {zg : Int32} {zn : Int32} {aG : Nat → Int32} {aW : Nat → Int32} {aR : Nat → Int32} {aN : Nat → Int32} {aF : Nat → Int32} {lC : Nat → Int64} {lS : Nat → Int64} {lP : Nat → Int64} {lX : Nat → Int64} {ztc : Int32} {aTs : Nat → Int32} {aTn : Nat → Int32} {zoc : Int32} {aOs : Nat → Int32} {aOn : Nat → Int32} {aTp : Nat → Int32} {zln : Int32} {zpl : Int32} {zfa : Int32} {aSz : Nat → Int32} {zit : Int32} {zip : Int32} {zic : Int32} {zig : Int32} {M : Nat → Nat → Int64} (F : Fx p s m args meth c cc nL RX4 ret) (hw : Wd G s A (kW G q zp ze zf zg zn aG aW aR aN aF lC lS lP lX ++ (oW G q ztc aTs aTn zoc aOs aOn aTp zln zpl zfa aSz zit zip zic zig M ++ fr)) H locs) (hdg : decode cc pc = .ok (.getfield 50, 3)) (kk : W p l e R s m args below meth c H locs 0 0 Q (F0 m (pc + 3) ls (.ref (q 23) :: rest))) : W p l e R s m args below meth c H locs 0 0 Q (F0 m pc ls (.ref (q 21) :: rest)) :=
  va_get (D := G.1) (ci := 4) (v := .ref (q 23)) (C := RX4) (T := TX4) (N := 12) (ref := RX4) F.x F.b F.ts in_ws4 F.ow hw.1 hw.2.1 21 rfl rfl 5 (by decide) (F.ts _ (BG_in 309 (by decide +kernel) (by decide +kernel) : Cond.fieldLink RX4 50 RX4 "lists" "[[J" ∈ BG)) (fun _ h9 => h9) rfl hdg kk
theorem gf_4_53 {zp : Int32} {ze : Int32} {zf : Int32} {zg : Int32} {zn : Int32} {aG : Nat → Int32} {aW : Nat → Int32} {aR : Nat → Int32} {aN : Nat → Int32} {aF : Nat → Int32} {lC : Nat → Int64} {lS : Nat → Int64} {lP : Nat → Int64} {lX : Nat → Int64} {ztc : Int32} {aTs : Nat → Int32} {aTn : Nat → Int32} {zoc : Int32} {aOs : Nat → Int32} {aOn : Nat → Int32} {aTp : Nat → Int32} {zln : Int32} {zpl : Int32} {zfa : Int32} {aSz : Nat → Int32} {zit : Int32} {zip : Int32} {zic : Int32} {zig : Int32} {M : Nat → Nat → Int64} (F : Fx p s m args meth c cc nL RX4 ret) (hw : Wd G s A (kW G q zp ze zf zg zn aG aW aR aN aF lC lS lP lX ++ (oW G q ztc aTs aTn zoc aOs aOn aTp zln zpl zfa aSz zit zip zic zig M ++ fr)) H locs) (hdg : decode cc pc = .ok (.getfield 53, 3)) (kk : W p l e R s m args below meth c H locs 0 0 Q (F0 m (pc + 3) ls (.ref (q 24) :: rest))) : W p l e R s m args below meth c H locs 0 0 Q (F0 m pc ls (.ref (q 21) :: rest)) :=
  va_get (D := G.1) (ci := 4) (v := .ref (q 24)) (C := RX4) (T := TX4) (N := 12) (ref := RX4) F.x F.b F.ts in_ws4 F.ow hw.1 hw.2.1 21 rfl rfl 6 (by decide) (F.ts _ (BG_in 310 (by decide +kernel) (by decide +kernel) : Cond.fieldLink RX4 53 RX4 "sizes" "[I" ∈ BG)) (fun _ h9 => h9) rfl hdg kk
theorem gf_4_57 {zp : Int32} {ze : Int32} {zf : Int32} {zg : Int32} {zn : Int32} {aG : Nat → Int32} {aW : Nat → Int32} {aR : Nat → Int32} {aN : Nat → Int32} {aF : Nat → Int32} {lC : Nat → Int64} {lS : Nat → Int64} {lP : Nat → Int64} {lX : Nat → Int64} {ztc : Int32} {aTs : Nat → Int32} {aTn : Nat → Int32} {zoc : Int32} {aOs : Nat → Int32} {aOn : Nat → Int32} {aTp : Nat → Int32} {zln : Int32} {zpl : Int32} {zfa : Int32} {aSz : Nat → Int32} {zit : Int32} {zip : Int32} {zic : Int32} {zig : Int32} {M : Nat → Nat → Int64} (F : Fx p s m args meth c cc nL RX4 ret) (hw : Wd G s A (kW G q zp ze zf zg zn aG aW aR aN aF lC lS lP lX ++ (oW G q ztc aTs aTn zoc aOs aOn aTp zln zpl zfa aSz zit zip zic zig M ++ fr)) H locs) (hdg : decode cc pc = .ok (.getfield 57, 3)) (kk : W p l e R s m args below meth c H locs 0 0 Q (F0 m (pc + 3) ls (.ref (q 25) :: rest))) : W p l e R s m args below meth c H locs 0 0 Q (F0 m pc ls (.ref (q 21) :: rest)) :=
  va_get (D := G.1) (ci := 4) (v := .ref (q 25)) (C := RX4) (T := TX4) (N := 12) (ref := RX4) F.x F.b F.ts in_ws4 F.ow hw.1 hw.2.1 21 rfl rfl 7 (by decide) (F.ts _ (BG_in 311 (by decide +kernel) (by decide +kernel) : Cond.fieldLink RX4 57 RX4 "imageShelves" "[[J" ∈ BG)) (fun _ h9 => h9) rfl hdg kk
theorem gf_4_64 {zp : Int32} {ze : Int32} {zf : Int32} {zg : Int32} {zn : Int32} {aG : Nat → Int32} {aW : Nat → Int32} {aR : Nat → Int32} {aN : Nat → Int32} {aF : Nat → Int32} {lC : Nat → Int64} {lS : Nat → Int64} {lP : Nat → Int64} {lX : Nat → Int64} (F : Fx p s m args meth c cc nL RX4 ret) (hw : Wd G s A (kW G q zp ze zf zg zn aG aW aR aN aF lC lS lP lX ++ fr) H locs) (hdg : decode cc pc = .ok (.getfield 64, 3)) (kk : W p l e R s m args below meth c H locs 0 0 Q (F0 m (pc + 3) ls (.int zp :: rest))) : W p l e R s m args below meth c H locs 0 0 Q (F0 m pc ls (.ref (q 0) :: rest)) :=
  va_get (D := G.1) (ci := 0) (v := .int zp) (C := RX0) (T := TX0) (N := 14) (ref := RX0) F.x F.b F.ts in_ws0 F.ow hw.1 hw.2.1 0 rfl rfl 0 (by decide) (F.ts _ (BG_in 154 (by decide +kernel) (by decide +kernel) : Cond.fieldLink RX4 64 RX0 "p" "I" ∈ BG)) (fun _ h9 => h9) rfl hdg kk
theorem gf_4_75 {zp : Int32} {ze : Int32} {zf : Int32} {zg : Int32} {zn : Int32} {aG : Nat → Int32} {aW : Nat → Int32} {aR : Nat → Int32} {aN : Nat → Int32} {aF : Nat → Int32} {lC : Nat → Int64} {lS : Nat → Int64} {lP : Nat → Int64} {lX : Nat → Int64} (F : Fx p s m args meth c cc nL RX4 ret) (hw : Wd G s A (kW G q zp ze zf zg zn aG aW aR aN aF lC lS lP lX ++ fr) H locs) (hdg : decode cc pc = .ok (.getfield 75, 3)) (kk : W p l e R s m args below meth c H locs 0 0 Q (F0 m (pc + 3) ls (.int ze :: rest))) : W p l e R s m args below meth c H locs 0 0 Q (F0 m pc ls (.ref (q 0) :: rest)) :=
  va_get (D := G.1) (ci := 0) (v := .int ze) (C := RX0) (T := TX0) (N := 14) (ref := RX0) F.x F.b F.ts in_ws0 F.ow hw.1 hw.2.1 0 rfl rfl 1 (by decide) (F.ts _ (BG_in 157 (by decide +kernel) (by decide +kernel) : Cond.fieldLink RX4 75 RX0 "e" "I" ∈ BG)) (fun _ h9 => h9) rfl hdg kk
theorem gf_4_78 {zp : Int32} {ze : Int32} {zf : Int32} {zg : Int32} {zn : Int32} {aG : Nat → Int32} {aW : Nat → Int32} {aR : Nat → Int32} {aN : Nat → Int32} {aF : Nat → Int32} {lC : Nat → Int64} {lS : Nat → Int64} {lP : Nat → Int64} {lX : Nat → Int64} (F : Fx p s m args meth c cc nL RX4 ret) (hw : Wd G s A (kW G q zp ze zf zg zn aG aW aR aN aF lC lS lP lX ++ fr) H locs) (hdg : decode cc pc = .ok (.getfield 78, 3)) (kk : W p l e R s m args below meth c H locs 0 0 Q (F0 m (pc + 3) ls (.int zf :: rest))) : W p l e R s m args below meth c H locs 0 0 Q (F0 m pc ls (.ref (q 0) :: rest)) :=
  va_get (D := G.1) (ci := 0) (v := .int zf) (C := RX0) (T := TX0) (N := 14) (ref := RX0) F.x F.b F.ts in_ws0 F.ow hw.1 hw.2.1 0 rfl rfl 2 (by decide) (F.ts _ (BG_in 160 (by decide +kernel) (by decide +kernel) : Cond.fieldLink RX4 78 RX0 "f" "I" ∈ BG)) (fun _ h9 => h9) rfl hdg kk
theorem gf_4_81 {zp : Int32} {ze : Int32} {zf : Int32} {zg : Int32} {zn : Int32} {aG : Nat → Int32} {aW : Nat → Int32} {aR : Nat → Int32} {aN : Nat → Int32} {aF : Nat → Int32} {lC : Nat → Int64} {lS : Nat → Int64} {lP : Nat → Int64} {lX : Nat → Int64} (F : Fx p s m args meth c cc nL RX4 ret) (hw : Wd G s A (kW G q zp ze zf zg zn aG aW aR aN aF lC lS lP lX ++ fr) H locs) (hdg : decode cc pc = .ok (.getfield 81, 3)) (kk : W p l e R s m args below meth c H locs 0 0 Q (F0 m (pc + 3) ls (.int zg :: rest))) : W p l e R s m args below meth c H locs 0 0 Q (F0 m pc ls (.ref (q 0) :: rest)) :=
  va_get (D := G.1) (ci := 0) (v := .int zg) (C := RX0) (T := TX0) (N := 14) (ref := RX0) F.x F.b F.ts in_ws0 F.ow hw.1 hw.2.1 0 rfl rfl 3 (by decide) (F.ts _ (BG_in 162 (by decide +kernel) (by decide +kernel) : Cond.fieldLink RX4 81 RX0 "g" "I" ∈ BG)) (fun _ h9 => h9) rfl hdg kk
theorem gf_4_84 {zp : Int32} {ze : Int32} {zf : Int32} {zg : Int32} {zn : Int32} {aG : Nat → Int32} {aW : Nat → Int32} {aR : Nat → Int32} {aN : Nat → Int32} {aF : Nat → Int32} {lC : Nat → Int64} {lS : Nat → Int64} {lP : Nat → Int64} {lX : Nat → Int64} (F : Fx p s m args meth c cc nL RX4 ret) (hw : Wd G s A (kW G q zp ze zf zg zn aG aW aR aN aF lC lS lP lX ++ fr) H locs) (hdg : decode cc pc = .ok (.getfield 84, 3)) (kk : W p l e R s m args below meth c H locs 0 0 Q (F0 m (pc + 3) ls (.int zn :: rest))) : W p l e R s m args below meth c H locs 0 0 Q (F0 m pc ls (.ref (q 0) :: rest)) :=
  va_get (D := G.1) (ci := 0) (v := .int zn) (C := RX0) (T := TX0) (N := 14) (ref := RX0) F.x F.b F.ts in_ws0 F.ow hw.1 hw.2.1 0 rfl rfl 4 (by decide) (F.ts _ (BG_in 163 (by decide +kernel) (by decide +kernel) : Cond.fieldLink RX4 84 RX0 "generatorCount" "I" ∈ BG)) (fun _ h9 => h9) rfl hdg kk
theorem gf_4_87 {zp : Int32} {ze : Int32} {zf : Int32} {zg : Int32} {zn : Int32} {aG : Nat → Int32} {aW : Nat → Int32} {aR : Nat → Int32} {aN : Nat → Int32} {aF : Nat → Int32} {lC : Nat → Int64} {lS : Nat → Int64} {lP : Nat → Int64} {lX : Nat → Int64} (F : Fx p s m args meth c cc nL RX4 ret) (hw : Wd G s A (kW G q zp ze zf zg zn aG aW aR aN aF lC lS lP lX ++ fr) H locs) (hdg : decode cc pc = .ok (.getfield 87, 3)) (kk : W p l e R s m args below meth c H locs 0 0 Q (F0 m (pc + 3) ls (.ref (q 1) :: rest))) : W p l e R s m args below meth c H locs 0 0 Q (F0 m pc ls (.ref (q 0) :: rest)) :=
  va_get (D := G.1) (ci := 0) (v := .ref (q 1)) (C := RX0) (T := TX0) (N := 14) (ref := RX0) F.x F.b F.ts in_ws0 F.ow hw.1 hw.2.1 0 rfl rfl 5 (by decide) (F.ts _ (BG_in 166 (by decide +kernel) (by decide +kernel) : Cond.fieldLink RX4 87 RX0 "generators" "[I" ∈ BG)) (fun _ h9 => h9) rfl hdg kk
theorem gf_4_100 {zp : Int32} {ze : Int32} {zf : Int32} {zg : Int32} {zn : Int32} {aG : Nat → Int32} {aW : Nat → Int32} {aR : Nat → Int32} {aN : Nat → Int32} {aF : Nat → Int32} {lC : Nat → Int64} {lS : Nat → Int64} {lP : Nat → Int64} {lX : Nat → Int64} (F : Fx p s m args meth c cc nL RX4 ret) (hw : Wd G s A (kW G q zp ze zf zg zn aG aW aR aN aF lC lS lP lX ++ fr) H locs) (hdg : decode cc pc = .ok (.getfield 100, 3)) (kk : W p l e R s m args below meth c H locs 0 0 Q (F0 m (pc + 3) ls (.ref (q 2) :: rest))) : W p l e R s m args below meth c H locs 0 0 Q (F0 m pc ls (.ref (q 0) :: rest)) :=
  va_get (D := G.1) (ci := 0) (v := .ref (q 2)) (C := RX0) (T := TX0) (N := 14) (ref := RX0) F.x F.b F.ts in_ws0 F.ow hw.1 hw.2.1 0 rfl rfl 6 (by decide) (F.ts _ (BG_in 168 (by decide +kernel) (by decide +kernel) : Cond.fieldLink RX4 100 RX0 "powers" "[I" ∈ BG)) (fun _ h9 => h9) rfl hdg kk
theorem gf_4_106 {zp : Int32} {ze : Int32} {zf : Int32} {zg : Int32} {zn : Int32} {aG : Nat → Int32} {aW : Nat → Int32} {aR : Nat → Int32} {aN : Nat → Int32} {aF : Nat → Int32} {lC : Nat → Int64} {lS : Nat → Int64} {lP : Nat → Int64} {lX : Nat → Int64} (F : Fx p s m args meth c cc nL RX4 ret) (hw : Wd G s A (kW G q zp ze zf zg zn aG aW aR aN aF lC lS lP lX ++ fr) H locs) (hdg : decode cc pc = .ok (.getfield 106, 3)) (kk : W p l e R s m args below meth c H locs 0 0 Q (F0 m (pc + 3) ls (.ref (q 4) :: rest))) : W p l e R s m args below meth c H locs 0 0 Q (F0 m pc ls (.ref (q 0) :: rest)) :=
  va_get (D := G.1) (ci := 0) (v := .ref (q 4)) (C := RX0) (T := TX0) (N := 14) (ref := RX0) F.x F.b F.ts in_ws0 F.ow hw.1 hw.2.1 0 rfl rfl 8 (by decide) (F.ts _ (BG_in 172 (by decide +kernel) (by decide +kernel) : Cond.fieldLink RX4 106 RX0 "neighbours" "[I" ∈ BG)) (fun _ h9 => h9) rfl hdg kk
theorem gf_4_109 {zp : Int32} {ze : Int32} {zf : Int32} {zg : Int32} {zn : Int32} {aG : Nat → Int32} {aW : Nat → Int32} {aR : Nat → Int32} {aN : Nat → Int32} {aF : Nat → Int32} {lC : Nat → Int64} {lS : Nat → Int64} {lP : Nat → Int64} {lX : Nat → Int64} (F : Fx p s m args meth c cc nL RX4 ret) (hw : Wd G s A (kW G q zp ze zf zg zn aG aW aR aN aF lC lS lP lX ++ fr) H locs) (hdg : decode cc pc = .ok (.getfield 109, 3)) (kk : W p l e R s m args below meth c H locs 0 0 Q (F0 m (pc + 3) ls (.ref (q 5) :: rest))) : W p l e R s m args below meth c H locs 0 0 Q (F0 m pc ls (.ref (q 0) :: rest)) :=
  va_get (D := G.1) (ci := 0) (v := .ref (q 5)) (C := RX0) (T := TX0) (N := 14) (ref := RX0) F.x F.b F.ts in_ws0 F.ow hw.1 hw.2.1 0 rfl rfl 9 (by decide) (F.ts _ (BG_in 175 (by decide +kernel) (by decide +kernel) : Cond.fieldLink RX4 109 RX0 "factors" "[I" ∈ BG)) (fun _ h9 => h9) rfl hdg kk
theorem gf_4_123 {zp : Int32} {ze : Int32} {zf : Int32} {zg : Int32} {zn : Int32} {aG : Nat → Int32} {aW : Nat → Int32} {aR : Nat → Int32} {aN : Nat → Int32} {aF : Nat → Int32} {lC : Nat → Int64} {lS : Nat → Int64} {lP : Nat → Int64} {lX : Nat → Int64} (F : Fx p s m args meth c cc nL RX4 ret) (hw : Wd G s A (kW G q zp ze zf zg zn aG aW aR aN aF lC lS lP lX ++ fr) H locs) (hdg : decode cc pc = .ok (.getfield 123, 3)) (kk : W p l e R s m args below meth c H locs 0 0 Q (F0 m (pc + 3) ls (.ref (q 3) :: rest))) : W p l e R s m args below meth c H locs 0 0 Q (F0 m pc ls (.ref (q 0) :: rest)) :=
  va_get (D := G.1) (ci := 0) (v := .ref (q 3)) (C := RX0) (T := TX0) (N := 14) (ref := RX0) F.x F.b F.ts in_ws0 F.ow hw.1 hw.2.1 0 rfl rfl 7 (by decide) (F.ts _ (BG_in 170 (by decide +kernel) (by decide +kernel) : Cond.fieldLink RX4 123 RX0 "raised" "[I" ∈ BG)) (fun _ h9 => h9) rfl hdg kk
theorem gf_4_128 {zp : Int32} {ze : Int32} {zf : Int32} {zg : Int32} {zn : Int32} {aG : Nat → Int32} {aW : Nat → Int32} {aR : Nat → Int32} {aN : Nat → Int32} {aF : Nat → Int32} {lC : Nat → Int64} {lS : Nat → Int64} {lP : Nat → Int64} {lX : Nat → Int64} (F : Fx p s m args meth c cc nL RX4 ret) (hw : Wd G s A (kW G q zp ze zf zg zn aG aW aR aN aF lC lS lP lX ++ fr) H locs) (hdg : decode cc pc = .ok (.getfield 128, 3)) (kk : W p l e R s m args below meth c H locs 0 0 Q (F0 m (pc + 3) ls (.ref (q 6) :: rest))) : W p l e R s m args below meth c H locs 0 0 Q (F0 m pc ls (.ref (q 0) :: rest)) :=
  va_get (D := G.1) (ci := 0) (v := .ref (q 6)) (C := RX0) (T := TX0) (N := 14) (ref := RX0) F.x F.b F.ts in_ws0 F.ow hw.1 hw.2.1 0 rfl rfl 10 (by decide) (F.ts _ (BG_in 177 (by decide +kernel) (by decide +kernel) : Cond.fieldLink RX4 128 RX0 "coefficients" "[J" ∈ BG)) (fun _ h9 => h9) rfl hdg kk
theorem gf_4_166 {zp : Int32} {ze : Int32} {zf : Int32} {zg : Int32} {zn : Int32} {aG : Nat → Int32} {aW : Nat → Int32} {aR : Nat → Int32} {aN : Nat → Int32} {aF : Nat → Int32} {lC : Nat → Int64} {lS : Nat → Int64} {lP : Nat → Int64} {lX : Nat → Int64} {ztc : Int32} {aTs : Nat → Int32} {aTn : Nat → Int32} {zoc : Int32} {aOs : Nat → Int32} {aOn : Nat → Int32} {aTp : Nat → Int32} {zln : Int32} {zpl : Int32} {zfa : Int32} {aSz : Nat → Int32} {zit : Int32} {zip : Int32} {zic : Int32} {zig : Int32} {M : Nat → Nat → Int64} (F : Fx p s m args meth c cc nL RX4 ret) (hw : Wd G s A (kW G q zp ze zf zg zn aG aW aR aN aF lC lS lP lX ++ (oW G q ztc aTs aTn zoc aOs aOn aTp zln zpl zfa aSz zit zip zic zig M ++ fr)) H locs) (hdg : decode cc pc = .ok (.getfield 166, 3)) (kk : W p l e R s m args below meth c H locs 0 0 Q (F0 m (pc + 3) ls (.int ztc :: rest))) : W p l e R s m args below meth c H locs 0 0 Q (F0 m pc ls (.ref (q 10) :: rest)) :=
  va_get (D := G.1) (ci := 3) (v := .int ztc) (C := RX3) (T := TX3) (N := 6) (ref := RX3) F.x F.b F.ts in_ws3 F.ow hw.1 hw.2.1 10 rfl rfl 0 (by decide) (F.ts _ (BG_in 219 (by decide +kernel) (by decide +kernel) : Cond.fieldLink RX4 166 RX3 "toldCount" "I" ∈ BG)) (fun _ h9 => h9) rfl hdg kk
theorem gf_4_169 {zp : Int32} {ze : Int32} {zf : Int32} {zg : Int32} {zn : Int32} {aG : Nat → Int32} {aW : Nat → Int32} {aR : Nat → Int32} {aN : Nat → Int32} {aF : Nat → Int32} {lC : Nat → Int64} {lS : Nat → Int64} {lP : Nat → Int64} {lX : Nat → Int64} {ztc : Int32} {aTs : Nat → Int32} {aTn : Nat → Int32} {zoc : Int32} {aOs : Nat → Int32} {aOn : Nat → Int32} {aTp : Nat → Int32} {zln : Int32} {zpl : Int32} {zfa : Int32} {aSz : Nat → Int32} {zit : Int32} {zip : Int32} {zic : Int32} {zig : Int32} {M : Nat → Nat → Int64} (F : Fx p s m args meth c cc nL RX4 ret) (hw : Wd G s A (kW G q zp ze zf zg zn aG aW aR aN aF lC lS lP lX ++ (oW G q ztc aTs aTn zoc aOs aOn aTp zln zpl zfa aSz zit zip zic zig M ++ fr)) H locs) (hdg : decode cc pc = .ok (.getfield 169, 3)) (kk : W p l e R s m args below meth c H locs 0 0 Q (F0 m (pc + 3) ls (.ref (q 11) :: rest))) : W p l e R s m args below meth c H locs 0 0 Q (F0 m pc ls (.ref (q 10) :: rest)) :=
  va_get (D := G.1) (ci := 3) (v := .ref (q 11)) (C := RX3) (T := TX3) (N := 6) (ref := RX3) F.x F.b F.ts in_ws3 F.ow hw.1 hw.2.1 10 rfl rfl 1 (by decide) (F.ts _ (BG_in 221 (by decide +kernel) (by decide +kernel) : Cond.fieldLink RX4 169 RX3 "toldSorts" "[I" ∈ BG)) (fun _ h9 => h9) rfl hdg kk
theorem gf_4_172 {zp : Int32} {ze : Int32} {zf : Int32} {zg : Int32} {zn : Int32} {aG : Nat → Int32} {aW : Nat → Int32} {aR : Nat → Int32} {aN : Nat → Int32} {aF : Nat → Int32} {lC : Nat → Int64} {lS : Nat → Int64} {lP : Nat → Int64} {lX : Nat → Int64} {ztc : Int32} {aTs : Nat → Int32} {aTn : Nat → Int32} {zoc : Int32} {aOs : Nat → Int32} {aOn : Nat → Int32} {aTp : Nat → Int32} {zln : Int32} {zpl : Int32} {zfa : Int32} {aSz : Nat → Int32} {zit : Int32} {zip : Int32} {zic : Int32} {zig : Int32} {M : Nat → Nat → Int64} (F : Fx p s m args meth c cc nL RX4 ret) (hw : Wd G s A (kW G q zp ze zf zg zn aG aW aR aN aF lC lS lP lX ++ (oW G q ztc aTs aTn zoc aOs aOn aTp zln zpl zfa aSz zit zip zic zig M ++ fr)) H locs) (hdg : decode cc pc = .ok (.getfield 172, 3)) (kk : W p l e R s m args below meth c H locs 0 0 Q (F0 m (pc + 3) ls (.ref (q 12) :: rest))) : W p l e R s m args below meth c H locs 0 0 Q (F0 m pc ls (.ref (q 10) :: rest)) :=
  va_get (D := G.1) (ci := 3) (v := .ref (q 12)) (C := RX3) (T := TX3) (N := 6) (ref := RX3) F.x F.b F.ts in_ws3 F.ow hw.1 hw.2.1 10 rfl rfl 2 (by decide) (F.ts _ (BG_in 223 (by decide +kernel) (by decide +kernel) : Cond.fieldLink RX4 172 RX3 "toldNumbers" "[I" ∈ BG)) (fun _ h9 => h9) rfl hdg kk
theorem gf_4_175 {zp : Int32} {ze : Int32} {zf : Int32} {zg : Int32} {zn : Int32} {aG : Nat → Int32} {aW : Nat → Int32} {aR : Nat → Int32} {aN : Nat → Int32} {aF : Nat → Int32} {lC : Nat → Int64} {lS : Nat → Int64} {lP : Nat → Int64} {lX : Nat → Int64} {ztc : Int32} {aTs : Nat → Int32} {aTn : Nat → Int32} {zoc : Int32} {aOs : Nat → Int32} {aOn : Nat → Int32} {aTp : Nat → Int32} {zln : Int32} {zpl : Int32} {zfa : Int32} {aSz : Nat → Int32} {zit : Int32} {zip : Int32} {zic : Int32} {zig : Int32} {M : Nat → Nat → Int64} (F : Fx p s m args meth c cc nL RX4 ret) (hw : Wd G s A (kW G q zp ze zf zg zn aG aW aR aN aF lC lS lP lX ++ (oW G q ztc aTs aTn zoc aOs aOn aTp zln zpl zfa aSz zit zip zic zig M ++ fr)) H locs) (hdg : decode cc pc = .ok (.getfield 175, 3)) (kk : W p l e R s m args below meth c H locs 0 0 Q (F0 m (pc + 3) ls (.int zln :: rest))) : W p l e R s m args below meth c H locs 0 0 Q (F0 m pc ls (.ref (q 16) :: rest)) :=
  va_get (D := G.1) (ci := 1) (v := .int zln) (C := RX1) (T := TX1) (N := 10) (ref := RX1) F.x F.b F.ts in_ws1 F.ow hw.1 hw.2.1 16 rfl rfl 7 (by decide) (F.ts _ (BG_in 278 (by decide +kernel) (by decide +kernel) : Cond.fieldLink RX4 175 RX1 "length" "I" ∈ BG)) (fun _ h9 => h9) rfl hdg kk
theorem pf_4_175 {zp : Int32} {ze : Int32} {zf : Int32} {zg : Int32} {zn : Int32} {aG : Nat → Int32} {aW : Nat → Int32} {aR : Nat → Int32} {aN : Nat → Int32} {aF : Nat → Int32} {lC : Nat → Int64} {lS : Nat → Int64} {lP : Nat → Int64} {lX : Nat → Int64} {ztc : Int32} {aTs : Nat → Int32} {aTn : Nat → Int32} {zoc : Int32} {aOs : Nat → Int32} {aOn : Nat → Int32} {aTp : Nat → Int32} {zln : Int32} {zpl : Int32} {zfa : Int32} {aSz : Nat → Int32} {zit : Int32} {zip : Int32} {zic : Int32} {zig : Int32} {M : Nat → Nat → Int64} {v : Int32} (F : Fx p s m args meth c cc nL RX4 ret) (hw : Wd G s A (kW G q zp ze zf zg zn aG aW aR aN aF lC lS lP lX ++ (oW G q ztc aTs aTn zoc aOs aOn aTp zln zpl zfa aSz zit zip zic zig M ++ fr)) H locs) (hdg : decode cc pc = .ok (.putfield 175, 3)) (kk : ∀ (H : Heap) (locs : List Loc), Wd G s A (kW G q zp ze zf zg zn aG aW aR aN aF lC lS lP lX ++ (oW G q ztc aTs aTn zoc aOs aOn aTp v zpl zfa aSz zit zip zic zig M ++ fr)) H locs → W p l e R s m args below meth c H locs 0 0 Q (F0 m (pc + 3) ls rest)) : W p l e R s m args below meth c H locs 0 0 Q (F0 m pc ls (.int v :: .ref (q 16) :: rest)) :=
  va_put (D := G.1) (ci := 1) (v := .int v) (ty := .int) (C := RX1) (T := TX1) (N := 10) (ref := RX1) F.x F.b F.ts in_ws1 tyX1 tyX1_ok nmX1 F.ow hw.1 hw.2.1 hw.2.2.1 hw.2.2.2 16 rfl rfl 7 (by decide) (F.ts _ (BG_in 278 (by decide +kernel) (by decide +kernel) : Cond.fieldLink RX4 175 RX1 "length" "I" ∈ BG)) (fun _ h9 => h9) rfl (by decide +kernel) rfl rfl (Nat.le_of_ble_eq_true rfl) hdg (fun H locs hP hD hS => kk H locs ⟨hw.1, hP, hD, hS⟩)
theorem gf_4_192 {zp : Int32} {ze : Int32} {zf : Int32} {zg : Int32} {zn : Int32} {aG : Nat → Int32} {aW : Nat → Int32} {aR : Nat → Int32} {aN : Nat → Int32} {aF : Nat → Int32} {lC : Nat → Int64} {lS : Nat → Int64} {lP : Nat → Int64} {lX : Nat → Int64} {ztc : Int32} {aTs : Nat → Int32} {aTn : Nat → Int32} {zoc : Int32} {aOs : Nat → Int32} {aOn : Nat → Int32} {aTp : Nat → Int32} {zln : Int32} {zpl : Int32} {zfa : Int32} {aSz : Nat → Int32} {zit : Int32} {zip : Int32} {zic : Int32} {zig : Int32} {M : Nat → Nat → Int64} (F : Fx p s m args meth c cc nL RX4 ret) (hw : Wd G s A (kW G q zp ze zf zg zn aG aW aR aN aF lC lS lP lX ++ (oW G q ztc aTs aTn zoc aOs aOn aTp zln zpl zfa aSz zit zip zic zig M ++ fr)) H locs) (hdg : decode cc pc = .ok (.getfield 192, 3)) (kk : W p l e R s m args below meth c H locs 0 0 Q (F0 m (pc + 3) ls (.int zit :: rest))) : W p l e R s m args below meth c H locs 0 0 Q (F0 m pc ls (.ref (q 21) :: rest)) :=
  va_get (D := G.1) (ci := 4) (v := .int zit) (C := RX4) (T := TX4) (N := 12) (ref := RX4) F.x F.b F.ts in_ws4 F.ow hw.1 hw.2.1 21 rfl rfl 8 (by decide) (F.ts _ (BG_in 312 (by decide +kernel) (by decide +kernel) : Cond.fieldLink RX4 192 RX4 "imageTaken" "Z" ∈ BG)) (fun _ h9 => h9) rfl hdg kk
theorem pf_4_192 {zp : Int32} {ze : Int32} {zf : Int32} {zg : Int32} {zn : Int32} {aG : Nat → Int32} {aW : Nat → Int32} {aR : Nat → Int32} {aN : Nat → Int32} {aF : Nat → Int32} {lC : Nat → Int64} {lS : Nat → Int64} {lP : Nat → Int64} {lX : Nat → Int64} {ztc : Int32} {aTs : Nat → Int32} {aTn : Nat → Int32} {zoc : Int32} {aOs : Nat → Int32} {aOn : Nat → Int32} {aTp : Nat → Int32} {zln : Int32} {zpl : Int32} {zfa : Int32} {aSz : Nat → Int32} {zit : Int32} {zip : Int32} {zic : Int32} {zig : Int32} {M : Nat → Nat → Int64} {v : Int32} (hv : v = 0 ∨ v = 1) (F : Fx p s m args meth c cc nL RX4 ret) (hw : Wd G s A (kW G q zp ze zf zg zn aG aW aR aN aF lC lS lP lX ++ (oW G q ztc aTs aTn zoc aOs aOn aTp zln zpl zfa aSz zit zip zic zig M ++ fr)) H locs) (hdg : decode cc pc = .ok (.putfield 192, 3)) (kk : ∀ (H : Heap) (locs : List Loc), Wd G s A (kW G q zp ze zf zg zn aG aW aR aN aF lC lS lP lX ++ (oW G q ztc aTs aTn zoc aOs aOn aTp zln zpl zfa aSz v zip zic zig M ++ fr)) H locs → W p l e R s m args below meth c H locs 0 0 Q (F0 m (pc + 3) ls rest)) : W p l e R s m args below meth c H locs 0 0 Q (F0 m pc ls (.int v :: .ref (q 21) :: rest)) :=
  va_put (D := G.1) (ci := 4) (v := .int v) (ty := .boolean) (C := RX4) (T := TX4) (N := 12) (ref := RX4) F.x F.b F.ts in_ws4 tyX4 tyX4_ok nmX4 F.ow hw.1 hw.2.1 hw.2.2.1 hw.2.2.2 21 rfl rfl 8 (by decide) (F.ts _ (BG_in 312 (by decide +kernel) (by decide +kernel) : Cond.fieldLink RX4 192 RX4 "imageTaken" "Z" ∈ BG)) (fun _ h9 => h9) rfl (by decide +kernel) (nz_bool hv) (by rcases hv with rfl | rfl <;> rfl) (Nat.le_of_ble_eq_true rfl) hdg (fun H locs hP hD hS => kk H locs ⟨hw.1, hP, hD, hS⟩)
theorem gf_4_196 {zp : Int32} {ze : Int32} {zf : Int32} {zg : Int32} {zn : Int32} {aG : Nat → Int32} {aW : Nat → Int32} {aR : Nat → Int32} {aN : Nat → Int32} {aF : Nat → Int32} {lC : Nat → Int64} {lS : Nat → Int64} {lP : Nat → Int64} {lX : Nat → Int64} {ztc : Int32} {aTs : Nat → Int32} {aTn : Nat → Int32} {zoc : Int32} {aOs : Nat → Int32} {aOn : Nat → Int32} {aTp : Nat → Int32} {zln : Int32} {zpl : Int32} {zfa : Int32} {aSz : Nat → Int32} {zit : Int32} {zip : Int32} {zic : Int32} {zig : Int32} {M : Nat → Nat → Int64} (F : Fx p s m args meth c cc nL RX4 ret) (hw : Wd G s A (kW G q zp ze zf zg zn aG aW aR aN aF lC lS lP lX ++ (oW G q ztc aTs aTn zoc aOs aOn aTp zln zpl zfa aSz zit zip zic zig M ++ fr)) H locs) (hdg : decode cc pc = .ok (.getfield 196, 3)) (kk : W p l e R s m args below meth c H locs 0 0 Q (F0 m (pc + 3) ls (.int zip :: rest))) : W p l e R s m args below meth c H locs 0 0 Q (F0 m pc ls (.ref (q 21) :: rest)) :=
  va_get (D := G.1) (ci := 4) (v := .int zip) (C := RX4) (T := TX4) (N := 12) (ref := RX4) F.x F.b F.ts in_ws4 F.ow hw.1 hw.2.1 21 rfl rfl 9 (by decide) (F.ts _ (BG_in 313 (by decide +kernel) (by decide +kernel) : Cond.fieldLink RX4 196 RX4 "imagePrime" "I" ∈ BG)) (fun _ h9 => h9) rfl hdg kk
theorem pf_4_196 {zp : Int32} {ze : Int32} {zf : Int32} {zg : Int32} {zn : Int32} {aG : Nat → Int32} {aW : Nat → Int32} {aR : Nat → Int32} {aN : Nat → Int32} {aF : Nat → Int32} {lC : Nat → Int64} {lS : Nat → Int64} {lP : Nat → Int64} {lX : Nat → Int64} {ztc : Int32} {aTs : Nat → Int32} {aTn : Nat → Int32} {zoc : Int32} {aOs : Nat → Int32} {aOn : Nat → Int32} {aTp : Nat → Int32} {zln : Int32} {zpl : Int32} {zfa : Int32} {aSz : Nat → Int32} {zit : Int32} {zip : Int32} {zic : Int32} {zig : Int32} {M : Nat → Nat → Int64} {v : Int32} (F : Fx p s m args meth c cc nL RX4 ret) (hw : Wd G s A (kW G q zp ze zf zg zn aG aW aR aN aF lC lS lP lX ++ (oW G q ztc aTs aTn zoc aOs aOn aTp zln zpl zfa aSz zit zip zic zig M ++ fr)) H locs) (hdg : decode cc pc = .ok (.putfield 196, 3)) (kk : ∀ (H : Heap) (locs : List Loc), Wd G s A (kW G q zp ze zf zg zn aG aW aR aN aF lC lS lP lX ++ (oW G q ztc aTs aTn zoc aOs aOn aTp zln zpl zfa aSz zit v zic zig M ++ fr)) H locs → W p l e R s m args below meth c H locs 0 0 Q (F0 m (pc + 3) ls rest)) : W p l e R s m args below meth c H locs 0 0 Q (F0 m pc ls (.int v :: .ref (q 21) :: rest)) :=
  va_put (D := G.1) (ci := 4) (v := .int v) (ty := .int) (C := RX4) (T := TX4) (N := 12) (ref := RX4) F.x F.b F.ts in_ws4 tyX4 tyX4_ok nmX4 F.ow hw.1 hw.2.1 hw.2.2.1 hw.2.2.2 21 rfl rfl 9 (by decide) (F.ts _ (BG_in 313 (by decide +kernel) (by decide +kernel) : Cond.fieldLink RX4 196 RX4 "imagePrime" "I" ∈ BG)) (fun _ h9 => h9) rfl (by decide +kernel) rfl rfl (Nat.le_of_ble_eq_true rfl) hdg (fun H locs hP hD hS => kk H locs ⟨hw.1, hP, hD, hS⟩)
theorem gf_4_199 {zp : Int32} {ze : Int32} {zf : Int32} {zg : Int32} {zn : Int32} {aG : Nat → Int32} {aW : Nat → Int32} {aR : Nat → Int32} {aN : Nat → Int32} {aF : Nat → Int32} {lC : Nat → Int64} {lS : Nat → Int64} {lP : Nat → Int64} {lX : Nat → Int64} {ztc : Int32} {aTs : Nat → Int32} {aTn : Nat → Int32} {zoc : Int32} {aOs : Nat → Int32} {aOn : Nat → Int32} {aTp : Nat → Int32} {zln : Int32} {zpl : Int32} {zfa : Int32} {aSz : Nat → Int32} {zit : Int32} {zip : Int32} {zic : Int32} {zig : Int32} {M : Nat → Nat → Int64} (F : Fx p s m args meth c cc nL RX4 ret) (hw : Wd G s A (kW G q zp ze zf zg zn aG aW aR aN aF lC lS lP lX ++ (oW G q ztc aTs aTn zoc aOs aOn aTp zln zpl zfa aSz zit zip zic zig M ++ fr)) H locs) (hdg : decode cc pc = .ok (.getfield 199, 3)) (kk : W p l e R s m args below meth c H locs 0 0 Q (F0 m (pc + 3) ls (.int zic :: rest))) : W p l e R s m args below meth c H locs 0 0 Q (F0 m pc ls (.ref (q 21) :: rest)) :=
  va_get (D := G.1) (ci := 4) (v := .int zic) (C := RX4) (T := TX4) (N := 12) (ref := RX4) F.x F.b F.ts in_ws4 F.ow hw.1 hw.2.1 21 rfl rfl 10 (by decide) (F.ts _ (BG_in 314 (by decide +kernel) (by decide +kernel) : Cond.fieldLink RX4 199 RX4 "imageClasses" "I" ∈ BG)) (fun _ h9 => h9) rfl hdg kk
theorem pf_4_199 {zp : Int32} {ze : Int32} {zf : Int32} {zg : Int32} {zn : Int32} {aG : Nat → Int32} {aW : Nat → Int32} {aR : Nat → Int32} {aN : Nat → Int32} {aF : Nat → Int32} {lC : Nat → Int64} {lS : Nat → Int64} {lP : Nat → Int64} {lX : Nat → Int64} {ztc : Int32} {aTs : Nat → Int32} {aTn : Nat → Int32} {zoc : Int32} {aOs : Nat → Int32} {aOn : Nat → Int32} {aTp : Nat → Int32} {zln : Int32} {zpl : Int32} {zfa : Int32} {aSz : Nat → Int32} {zit : Int32} {zip : Int32} {zic : Int32} {zig : Int32} {M : Nat → Nat → Int64} {v : Int32} (F : Fx p s m args meth c cc nL RX4 ret) (hw : Wd G s A (kW G q zp ze zf zg zn aG aW aR aN aF lC lS lP lX ++ (oW G q ztc aTs aTn zoc aOs aOn aTp zln zpl zfa aSz zit zip zic zig M ++ fr)) H locs) (hdg : decode cc pc = .ok (.putfield 199, 3)) (kk : ∀ (H : Heap) (locs : List Loc), Wd G s A (kW G q zp ze zf zg zn aG aW aR aN aF lC lS lP lX ++ (oW G q ztc aTs aTn zoc aOs aOn aTp zln zpl zfa aSz zit zip v zig M ++ fr)) H locs → W p l e R s m args below meth c H locs 0 0 Q (F0 m (pc + 3) ls rest)) : W p l e R s m args below meth c H locs 0 0 Q (F0 m pc ls (.int v :: .ref (q 21) :: rest)) :=
  va_put (D := G.1) (ci := 4) (v := .int v) (ty := .int) (C := RX4) (T := TX4) (N := 12) (ref := RX4) F.x F.b F.ts in_ws4 tyX4 tyX4_ok nmX4 F.ow hw.1 hw.2.1 hw.2.2.1 hw.2.2.2 21 rfl rfl 10 (by decide) (F.ts _ (BG_in 314 (by decide +kernel) (by decide +kernel) : Cond.fieldLink RX4 199 RX4 "imageClasses" "I" ∈ BG)) (fun _ h9 => h9) rfl (by decide +kernel) rfl rfl (Nat.le_of_ble_eq_true rfl) hdg (fun H locs hP hD hS => kk H locs ⟨hw.1, hP, hD, hS⟩)
theorem gf_4_202 {zp : Int32} {ze : Int32} {zf : Int32} {zg : Int32} {zn : Int32} {aG : Nat → Int32} {aW : Nat → Int32} {aR : Nat → Int32} {aN : Nat → Int32} {aF : Nat → Int32} {lC : Nat → Int64} {lS : Nat → Int64} {lP : Nat → Int64} {lX : Nat → Int64} {ztc : Int32} {aTs : Nat → Int32} {aTn : Nat → Int32} {zoc : Int32} {aOs : Nat → Int32} {aOn : Nat → Int32} {aTp : Nat → Int32} {zln : Int32} {zpl : Int32} {zfa : Int32} {aSz : Nat → Int32} {zit : Int32} {zip : Int32} {zic : Int32} {zig : Int32} {M : Nat → Nat → Int64} (F : Fx p s m args meth c cc nL RX4 ret) (hw : Wd G s A (kW G q zp ze zf zg zn aG aW aR aN aF lC lS lP lX ++ (oW G q ztc aTs aTn zoc aOs aOn aTp zln zpl zfa aSz zit zip zic zig M ++ fr)) H locs) (hdg : decode cc pc = .ok (.getfield 202, 3)) (kk : W p l e R s m args below meth c H locs 0 0 Q (F0 m (pc + 3) ls (.int zig :: rest))) : W p l e R s m args below meth c H locs 0 0 Q (F0 m pc ls (.ref (q 21) :: rest)) :=
  va_get (D := G.1) (ci := 4) (v := .int zig) (C := RX4) (T := TX4) (N := 12) (ref := RX4) F.x F.b F.ts in_ws4 F.ow hw.1 hw.2.1 21 rfl rfl 11 (by decide) (F.ts _ (BG_in 315 (by decide +kernel) (by decide +kernel) : Cond.fieldLink RX4 202 RX4 "imageGenerator" "I" ∈ BG)) (fun _ h9 => h9) rfl hdg kk
theorem pf_4_202 {zp : Int32} {ze : Int32} {zf : Int32} {zg : Int32} {zn : Int32} {aG : Nat → Int32} {aW : Nat → Int32} {aR : Nat → Int32} {aN : Nat → Int32} {aF : Nat → Int32} {lC : Nat → Int64} {lS : Nat → Int64} {lP : Nat → Int64} {lX : Nat → Int64} {ztc : Int32} {aTs : Nat → Int32} {aTn : Nat → Int32} {zoc : Int32} {aOs : Nat → Int32} {aOn : Nat → Int32} {aTp : Nat → Int32} {zln : Int32} {zpl : Int32} {zfa : Int32} {aSz : Nat → Int32} {zit : Int32} {zip : Int32} {zic : Int32} {zig : Int32} {M : Nat → Nat → Int64} {v : Int32} (F : Fx p s m args meth c cc nL RX4 ret) (hw : Wd G s A (kW G q zp ze zf zg zn aG aW aR aN aF lC lS lP lX ++ (oW G q ztc aTs aTn zoc aOs aOn aTp zln zpl zfa aSz zit zip zic zig M ++ fr)) H locs) (hdg : decode cc pc = .ok (.putfield 202, 3)) (kk : ∀ (H : Heap) (locs : List Loc), Wd G s A (kW G q zp ze zf zg zn aG aW aR aN aF lC lS lP lX ++ (oW G q ztc aTs aTn zoc aOs aOn aTp zln zpl zfa aSz zit zip zic v M ++ fr)) H locs → W p l e R s m args below meth c H locs 0 0 Q (F0 m (pc + 3) ls rest)) : W p l e R s m args below meth c H locs 0 0 Q (F0 m pc ls (.int v :: .ref (q 21) :: rest)) :=
  va_put (D := G.1) (ci := 4) (v := .int v) (ty := .int) (C := RX4) (T := TX4) (N := 12) (ref := RX4) F.x F.b F.ts in_ws4 tyX4 tyX4_ok nmX4 F.ow hw.1 hw.2.1 hw.2.2.1 hw.2.2.2 21 rfl rfl 11 (by decide) (F.ts _ (BG_in 315 (by decide +kernel) (by decide +kernel) : Cond.fieldLink RX4 202 RX4 "imageGenerator" "I" ∈ BG)) (fun _ h9 => h9) rfl (by decide +kernel) rfl rfl (Nat.le_of_ble_eq_true rfl) hdg (fun H locs hP hD hS => kk H locs ⟨hw.1, hP, hD, hS⟩)
theorem gf_5_11 {yp : Int32} {ye : Int32} {yg : Int32} {bPo : Nat → Int32} {bTb : Nat → Int32} {wSh : Nat → Int64} {wTe : Nat → Int64} {wNx : Nat → Int64} {bOs : Nat → Int32} {bOn : Nat → Int32} {yop : Int32} {bSo : Nat → Int32} {bNu : Nat → Int32} {ytr : Int32} {yiw : Int32} {wMa : Nat → Int64} {wPr : Nat → Int64} {bTp : Nat → Int32} {yln : Int32} {ypl : Int32} {yfa : Int32} {wLi : Nat → Int64} {bSi : Nat → Int32} {yhp : Int32} {yhe : Int32} {yhg : Int32} {wHs : Nat → Int64} {yhi : Int32} (F : Fx p s m args meth c cc nL RX5 ret) (hw : Wd G s A (mW G q yp ye yg bPo bTb wSh wTe wNx bOs bOn yop bSo bNu ytr yiw wMa wPr bTp yln ypl yfa wLi bSi yhp yhe yhg wHs yhi ++ fr) H locs) (hdg : decode cc pc = .ok (.getfield 11, 3)) (kk : W p l e R s m args below meth c H locs 0 0 Q (F0 m (pc + 3) ls (.ref (q 1) :: rest))) : W p l e R s m args below meth c H locs 0 0 Q (F0 m pc ls (.ref (q 0) :: rest)) :=
  va_get (D := G.1) (ci := 5) (v := .ref (q 1)) (C := RX5) (T := TX5) (N := 28) (ref := RX5) F.x F.b F.ts in_ws5 F.ow hw.1 hw.2.1 0 rfl rfl 3 (by decide) (F.ts _ (BG_in 708 (by decide +kernel) (by decide +kernel) : Cond.fieldLink RX5 11 RX5 "powerOf" "[I" ∈ BG)) (fun _ h9 => h9) rfl hdg kk
theorem gf_5_15 {yp : Int32} {ye : Int32} {yg : Int32} {bPo : Nat → Int32} {bTb : Nat → Int32} {wSh : Nat → Int64} {wTe : Nat → Int64} {wNx : Nat → Int64} {bOs : Nat → Int32} {bOn : Nat → Int32} {yop : Int32} {bSo : Nat → Int32} {bNu : Nat → Int32} {ytr : Int32} {yiw : Int32} {wMa : Nat → Int64} {wPr : Nat → Int64} {bTp : Nat → Int32} {yln : Int32} {ypl : Int32} {yfa : Int32} {wLi : Nat → Int64} {bSi : Nat → Int32} {yhp : Int32} {yhe : Int32} {yhg : Int32} {wHs : Nat → Int64} {yhi : Int32} (F : Fx p s m args meth c cc nL RX5 ret) (hw : Wd G s A (mW G q yp ye yg bPo bTb wSh wTe wNx bOs bOn yop bSo bNu ytr yiw wMa wPr bTp yln ypl yfa wLi bSi yhp yhe yhg wHs yhi ++ fr) H locs) (hdg : decode cc pc = .ok (.getfield 15, 3)) (kk : W p l e R s m args below meth c H locs 0 0 Q (F0 m (pc + 3) ls (.ref (q 2) :: rest))) : W p l e R s m args below meth c H locs 0 0 Q (F0 m pc ls (.ref (q 0) :: rest)) :=
  va_get (D := G.1) (ci := 5) (v := .ref (q 2)) (C := RX5) (T := TX5) (N := 28) (ref := RX5) F.x F.b F.ts in_ws5 F.ow hw.1 hw.2.1 0 rfl rfl 4 (by decide) (F.ts _ (BG_in 709 (by decide +kernel) (by decide +kernel) : Cond.fieldLink RX5 15 RX5 "table" "[I" ∈ BG)) (fun _ h9 => h9) rfl hdg kk
theorem gf_5_18 {yp : Int32} {ye : Int32} {yg : Int32} {bPo : Nat → Int32} {bTb : Nat → Int32} {wSh : Nat → Int64} {wTe : Nat → Int64} {wNx : Nat → Int64} {bOs : Nat → Int32} {bOn : Nat → Int32} {yop : Int32} {bSo : Nat → Int32} {bNu : Nat → Int32} {ytr : Int32} {yiw : Int32} {wMa : Nat → Int64} {wPr : Nat → Int64} {bTp : Nat → Int32} {yln : Int32} {ypl : Int32} {yfa : Int32} {wLi : Nat → Int64} {bSi : Nat → Int32} {yhp : Int32} {yhe : Int32} {yhg : Int32} {wHs : Nat → Int64} {yhi : Int32} (F : Fx p s m args meth c cc nL RX5 ret) (hw : Wd G s A (mW G q yp ye yg bPo bTb wSh wTe wNx bOs bOn yop bSo bNu ytr yiw wMa wPr bTp yln ypl yfa wLi bSi yhp yhe yhg wHs yhi ++ fr) H locs) (hdg : decode cc pc = .ok (.getfield 18, 3)) (kk : W p l e R s m args below meth c H locs 0 0 Q (F0 m (pc + 3) ls (.ref (q 3) :: rest))) : W p l e R s m args below meth c H locs 0 0 Q (F0 m pc ls (.ref (q 0) :: rest)) :=
  va_get (D := G.1) (ci := 5) (v := .ref (q 3)) (C := RX5) (T := TX5) (N := 28) (ref := RX5) F.x F.b F.ts in_ws5 F.ow hw.1 hw.2.1 0 rfl rfl 5 (by decide) (F.ts _ (BG_in 710 (by decide +kernel) (by decide +kernel) : Cond.fieldLink RX5 18 RX5 "shelves" "[J" ∈ BG)) (fun _ h9 => h9) rfl hdg kk
theorem gf_5_22 {yp : Int32} {ye : Int32} {yg : Int32} {bPo : Nat → Int32} {bTb : Nat → Int32} {wSh : Nat → Int64} {wTe : Nat → Int64} {wNx : Nat → Int64} {bOs : Nat → Int32} {bOn : Nat → Int32} {yop : Int32} {bSo : Nat → Int32} {bNu : Nat → Int32} {ytr : Int32} {yiw : Int32} {wMa : Nat → Int64} {wPr : Nat → Int64} {bTp : Nat → Int32} {yln : Int32} {ypl : Int32} {yfa : Int32} {wLi : Nat → Int64} {bSi : Nat → Int32} {yhp : Int32} {yhe : Int32} {yhg : Int32} {wHs : Nat → Int64} {yhi : Int32} (F : Fx p s m args meth c cc nL RX5 ret) (hw : Wd G s A (mW G q yp ye yg bPo bTb wSh wTe wNx bOs bOn yop bSo bNu ytr yiw wMa wPr bTp yln ypl yfa wLi bSi yhp yhe yhg wHs yhi ++ fr) H locs) (hdg : decode cc pc = .ok (.getfield 22, 3)) (kk : W p l e R s m args below meth c H locs 0 0 Q (F0 m (pc + 3) ls (.ref (q 4) :: rest))) : W p l e R s m args below meth c H locs 0 0 Q (F0 m pc ls (.ref (q 0) :: rest)) :=
  va_get (D := G.1) (ci := 5) (v := .ref (q 4)) (C := RX5) (T := TX5) (N := 28) (ref := RX5) F.x F.b F.ts in_ws5 F.ow hw.1 hw.2.1 0 rfl rfl 6 (by decide) (F.ts _ (BG_in 711 (by decide +kernel) (by decide +kernel) : Cond.fieldLink RX5 22 RX5 "terms" "[J" ∈ BG)) (fun _ h9 => h9) rfl hdg kk
theorem gf_5_25 {yp : Int32} {ye : Int32} {yg : Int32} {bPo : Nat → Int32} {bTb : Nat → Int32} {wSh : Nat → Int64} {wTe : Nat → Int64} {wNx : Nat → Int64} {bOs : Nat → Int32} {bOn : Nat → Int32} {yop : Int32} {bSo : Nat → Int32} {bNu : Nat → Int32} {ytr : Int32} {yiw : Int32} {wMa : Nat → Int64} {wPr : Nat → Int64} {bTp : Nat → Int32} {yln : Int32} {ypl : Int32} {yfa : Int32} {wLi : Nat → Int64} {bSi : Nat → Int32} {yhp : Int32} {yhe : Int32} {yhg : Int32} {wHs : Nat → Int64} {yhi : Int32} (F : Fx p s m args meth c cc nL RX5 ret) (hw : Wd G s A (mW G q yp ye yg bPo bTb wSh wTe wNx bOs bOn yop bSo bNu ytr yiw wMa wPr bTp yln ypl yfa wLi bSi yhp yhe yhg wHs yhi ++ fr) H locs) (hdg : decode cc pc = .ok (.getfield 25, 3)) (kk : W p l e R s m args below meth c H locs 0 0 Q (F0 m (pc + 3) ls (.ref (q 5) :: rest))) : W p l e R s m args below meth c H locs 0 0 Q (F0 m pc ls (.ref (q 0) :: rest)) :=
  va_get (D := G.1) (ci := 5) (v := .ref (q 5)) (C := RX5) (T := TX5) (N := 28) (ref := RX5) F.x F.b F.ts in_ws5 F.ow hw.1 hw.2.1 0 rfl rfl 7 (by decide) (F.ts _ (BG_in 712 (by decide +kernel) (by decide +kernel) : Cond.fieldLink RX5 25 RX5 "next" "[J" ∈ BG)) (fun _ h9 => h9) rfl hdg kk
theorem gf_5_28 {yp : Int32} {ye : Int32} {yg : Int32} {bPo : Nat → Int32} {bTb : Nat → Int32} {wSh : Nat → Int64} {wTe : Nat → Int64} {wNx : Nat → Int64} {bOs : Nat → Int32} {bOn : Nat → Int32} {yop : Int32} {bSo : Nat → Int32} {bNu : Nat → Int32} {ytr : Int32} {yiw : Int32} {wMa : Nat → Int64} {wPr : Nat → Int64} {bTp : Nat → Int32} {yln : Int32} {ypl : Int32} {yfa : Int32} {wLi : Nat → Int64} {bSi : Nat → Int32} {yhp : Int32} {yhe : Int32} {yhg : Int32} {wHs : Nat → Int64} {yhi : Int32} (F : Fx p s m args meth c cc nL RX5 ret) (hw : Wd G s A (mW G q yp ye yg bPo bTb wSh wTe wNx bOs bOn yop bSo bNu ytr yiw wMa wPr bTp yln ypl yfa wLi bSi yhp yhe yhg wHs yhi ++ fr) H locs) (hdg : decode cc pc = .ok (.getfield 28, 3)) (kk : W p l e R s m args below meth c H locs 0 0 Q (F0 m (pc + 3) ls (.ref (q 6) :: rest))) : W p l e R s m args below meth c H locs 0 0 Q (F0 m pc ls (.ref (q 0) :: rest)) :=
  va_get (D := G.1) (ci := 5) (v := .ref (q 6)) (C := RX5) (T := TX5) (N := 28) (ref := RX5) F.x F.b F.ts in_ws5 F.ow hw.1 hw.2.1 0 rfl rfl 8 (by decide) (F.ts _ (BG_in 713 (by decide +kernel) (by decide +kernel) : Cond.fieldLink RX5 28 RX5 "openSort" "[I" ∈ BG)) (fun _ h9 => h9) rfl hdg kk
theorem gf_5_31 {yp : Int32} {ye : Int32} {yg : Int32} {bPo : Nat → Int32} {bTb : Nat → Int32} {wSh : Nat → Int64} {wTe : Nat → Int64} {wNx : Nat → Int64} {bOs : Nat → Int32} {bOn : Nat → Int32} {yop : Int32} {bSo : Nat → Int32} {bNu : Nat → Int32} {ytr : Int32} {yiw : Int32} {wMa : Nat → Int64} {wPr : Nat → Int64} {bTp : Nat → Int32} {yln : Int32} {ypl : Int32} {yfa : Int32} {wLi : Nat → Int64} {bSi : Nat → Int32} {yhp : Int32} {yhe : Int32} {yhg : Int32} {wHs : Nat → Int64} {yhi : Int32} (F : Fx p s m args meth c cc nL RX5 ret) (hw : Wd G s A (mW G q yp ye yg bPo bTb wSh wTe wNx bOs bOn yop bSo bNu ytr yiw wMa wPr bTp yln ypl yfa wLi bSi yhp yhe yhg wHs yhi ++ fr) H locs) (hdg : decode cc pc = .ok (.getfield 31, 3)) (kk : W p l e R s m args below meth c H locs 0 0 Q (F0 m (pc + 3) ls (.ref (q 7) :: rest))) : W p l e R s m args below meth c H locs 0 0 Q (F0 m pc ls (.ref (q 0) :: rest)) :=
  va_get (D := G.1) (ci := 5) (v := .ref (q 7)) (C := RX5) (T := TX5) (N := 28) (ref := RX5) F.x F.b F.ts in_ws5 F.ow hw.1 hw.2.1 0 rfl rfl 9 (by decide) (F.ts _ (BG_in 714 (by decide +kernel) (by decide +kernel) : Cond.fieldLink RX5 31 RX5 "openNumber" "[I" ∈ BG)) (fun _ h9 => h9) rfl hdg kk
theorem gf_5_34 {yp : Int32} {ye : Int32} {yg : Int32} {bPo : Nat → Int32} {bTb : Nat → Int32} {wSh : Nat → Int64} {wTe : Nat → Int64} {wNx : Nat → Int64} {bOs : Nat → Int32} {bOn : Nat → Int32} {yop : Int32} {bSo : Nat → Int32} {bNu : Nat → Int32} {ytr : Int32} {yiw : Int32} {wMa : Nat → Int64} {wPr : Nat → Int64} {bTp : Nat → Int32} {yln : Int32} {ypl : Int32} {yfa : Int32} {wLi : Nat → Int64} {bSi : Nat → Int32} {yhp : Int32} {yhe : Int32} {yhg : Int32} {wHs : Nat → Int64} {yhi : Int32} (F : Fx p s m args meth c cc nL RX5 ret) (hw : Wd G s A (mW G q yp ye yg bPo bTb wSh wTe wNx bOs bOn yop bSo bNu ytr yiw wMa wPr bTp yln ypl yfa wLi bSi yhp yhe yhg wHs yhi ++ fr) H locs) (hdg : decode cc pc = .ok (.getfield 34, 3)) (kk : W p l e R s m args below meth c H locs 0 0 Q (F0 m (pc + 3) ls (.ref (q 8) :: rest))) : W p l e R s m args below meth c H locs 0 0 Q (F0 m pc ls (.ref (q 0) :: rest)) :=
  va_get (D := G.1) (ci := 5) (v := .ref (q 8)) (C := RX5) (T := TX5) (N := 28) (ref := RX5) F.x F.b F.ts in_ws5 F.ow hw.1 hw.2.1 0 rfl rfl 11 (by decide) (F.ts _ (BG_in 716 (by decide +kernel) (by decide +kernel) : Cond.fieldLink RX5 34 RX5 "sorts" "[I" ∈ BG)) (fun _ h9 => h9) rfl hdg kk
theorem gf_5_37 {yp : Int32} {ye : Int32} {yg : Int32} {bPo : Nat → Int32} {bTb : Nat → Int32} {wSh : Nat → Int64} {wTe : Nat → Int64} {wNx : Nat → Int64} {bOs : Nat → Int32} {bOn : Nat → Int32} {yop : Int32} {bSo : Nat → Int32} {bNu : Nat → Int32} {ytr : Int32} {yiw : Int32} {wMa : Nat → Int64} {wPr : Nat → Int64} {bTp : Nat → Int32} {yln : Int32} {ypl : Int32} {yfa : Int32} {wLi : Nat → Int64} {bSi : Nat → Int32} {yhp : Int32} {yhe : Int32} {yhg : Int32} {wHs : Nat → Int64} {yhi : Int32} (F : Fx p s m args meth c cc nL RX5 ret) (hw : Wd G s A (mW G q yp ye yg bPo bTb wSh wTe wNx bOs bOn yop bSo bNu ytr yiw wMa wPr bTp yln ypl yfa wLi bSi yhp yhe yhg wHs yhi ++ fr) H locs) (hdg : decode cc pc = .ok (.getfield 37, 3)) (kk : W p l e R s m args below meth c H locs 0 0 Q (F0 m (pc + 3) ls (.ref (q 9) :: rest))) : W p l e R s m args below meth c H locs 0 0 Q (F0 m pc ls (.ref (q 0) :: rest)) :=
  va_get (D := G.1) (ci := 5) (v := .ref (q 9)) (C := RX5) (T := TX5) (N := 28) (ref := RX5) F.x F.b F.ts in_ws5 F.ow hw.1 hw.2.1 0 rfl rfl 12 (by decide) (F.ts _ (BG_in 717 (by decide +kernel) (by decide +kernel) : Cond.fieldLink RX5 37 RX5 "numbers" "[I" ∈ BG)) (fun _ h9 => h9) rfl hdg kk
theorem gf_5_40 {yp : Int32} {ye : Int32} {yg : Int32} {bPo : Nat → Int32} {bTb : Nat → Int32} {wSh : Nat → Int64} {wTe : Nat → Int64} {wNx : Nat → Int64} {bOs : Nat → Int32} {bOn : Nat → Int32} {yop : Int32} {bSo : Nat → Int32} {bNu : Nat → Int32} {ytr : Int32} {yiw : Int32} {wMa : Nat → Int64} {wPr : Nat → Int64} {bTp : Nat → Int32} {yln : Int32} {ypl : Int32} {yfa : Int32} {wLi : Nat → Int64} {bSi : Nat → Int32} {yhp : Int32} {yhe : Int32} {yhg : Int32} {wHs : Nat → Int64} {yhi : Int32} (F : Fx p s m args meth c cc nL RX5 ret) (hw : Wd G s A (mW G q yp ye yg bPo bTb wSh wTe wNx bOs bOn yop bSo bNu ytr yiw wMa wPr bTp yln ypl yfa wLi bSi yhp yhe yhg wHs yhi ++ fr) H locs) (hdg : decode cc pc = .ok (.getfield 40, 3)) (kk : W p l e R s m args below meth c H locs 0 0 Q (F0 m (pc + 3) ls (.ref (q 10) :: rest))) : W p l e R s m args below meth c H locs 0 0 Q (F0 m pc ls (.ref (q 0) :: rest)) :=
  va_get (D := G.1) (ci := 5) (v := .ref (q 10)) (C := RX5) (T := TX5) (N := 28) (ref := RX5) F.x F.b F.ts in_ws5 F.ow hw.1 hw.2.1 0 rfl rfl 15 (by decide) (F.ts _ (BG_in 720 (by decide +kernel) (by decide +kernel) : Cond.fieldLink RX5 40 RX5 "made" "[J" ∈ BG)) (fun _ h9 => h9) rfl hdg kk
theorem gf_5_43 {yp : Int32} {ye : Int32} {yg : Int32} {bPo : Nat → Int32} {bTb : Nat → Int32} {wSh : Nat → Int64} {wTe : Nat → Int64} {wNx : Nat → Int64} {bOs : Nat → Int32} {bOn : Nat → Int32} {yop : Int32} {bSo : Nat → Int32} {bNu : Nat → Int32} {ytr : Int32} {yiw : Int32} {wMa : Nat → Int64} {wPr : Nat → Int64} {bTp : Nat → Int32} {yln : Int32} {ypl : Int32} {yfa : Int32} {wLi : Nat → Int64} {bSi : Nat → Int32} {yhp : Int32} {yhe : Int32} {yhg : Int32} {wHs : Nat → Int64} {yhi : Int32} (F : Fx p s m args meth c cc nL RX5 ret) (hw : Wd G s A (mW G q yp ye yg bPo bTb wSh wTe wNx bOs bOn yop bSo bNu ytr yiw wMa wPr bTp yln ypl yfa wLi bSi yhp yhe yhg wHs yhi ++ fr) H locs) (hdg : decode cc pc = .ok (.getfield 43, 3)) (kk : W p l e R s m args below meth c H locs 0 0 Q (F0 m (pc + 3) ls (.ref (q 11) :: rest))) : W p l e R s m args below meth c H locs 0 0 Q (F0 m pc ls (.ref (q 0) :: rest)) :=
  va_get (D := G.1) (ci := 5) (v := .ref (q 11)) (C := RX5) (T := TX5) (N := 28) (ref := RX5) F.x F.b F.ts in_ws5 F.ow hw.1 hw.2.1 0 rfl rfl 16 (by decide) (F.ts _ (BG_in 721 (by decide +kernel) (by decide +kernel) : Cond.fieldLink RX5 43 RX5 "product" "[J" ∈ BG)) (fun _ h9 => h9) rfl hdg kk
theorem gf_5_46 {yp : Int32} {ye : Int32} {yg : Int32} {bPo : Nat → Int32} {bTb : Nat → Int32} {wSh : Nat → Int64} {wTe : Nat → Int64} {wNx : Nat → Int64} {bOs : Nat → Int32} {bOn : Nat → Int32} {yop : Int32} {bSo : Nat → Int32} {bNu : Nat → Int32} {ytr : Int32} {yiw : Int32} {wMa : Nat → Int64} {wPr : Nat → Int64} {bTp : Nat → Int32} {yln : Int32} {ypl : Int32} {yfa : Int32} {wLi : Nat → Int64} {bSi : Nat → Int32} {yhp : Int32} {yhe : Int32} {yhg : Int32} {wHs : Nat → Int64} {yhi : Int32} (F : Fx p s m args meth c cc nL RX5 ret) (hw : Wd G s A (mW G q yp ye yg bPo bTb wSh wTe wNx bOs bOn yop bSo bNu ytr yiw wMa wPr bTp yln ypl yfa wLi bSi yhp yhe yhg wHs yhi ++ fr) H locs) (hdg : decode cc pc = .ok (.getfield 46, 3)) (kk : W p l e R s m args below meth c H locs 0 0 Q (F0 m (pc + 3) ls (.ref (q 12) :: rest))) : W p l e R s m args below meth c H locs 0 0 Q (F0 m pc ls (.ref (q 0) :: rest)) :=
  va_get (D := G.1) (ci := 5) (v := .ref (q 12)) (C := RX5) (T := TX5) (N := 28) (ref := RX5) F.x F.b F.ts in_ws5 F.ow hw.1 hw.2.1 0 rfl rfl 17 (by decide) (F.ts _ (BG_in 722 (by decide +kernel) (by decide +kernel) : Cond.fieldLink RX5 46 RX5 "tape" "[I" ∈ BG)) (fun _ h9 => h9) rfl hdg kk
theorem gf_5_49 {yp : Int32} {ye : Int32} {yg : Int32} {bPo : Nat → Int32} {bTb : Nat → Int32} {wSh : Nat → Int64} {wTe : Nat → Int64} {wNx : Nat → Int64} {bOs : Nat → Int32} {bOn : Nat → Int32} {yop : Int32} {bSo : Nat → Int32} {bNu : Nat → Int32} {ytr : Int32} {yiw : Int32} {wMa : Nat → Int64} {wPr : Nat → Int64} {bTp : Nat → Int32} {yln : Int32} {ypl : Int32} {yfa : Int32} {wLi : Nat → Int64} {bSi : Nat → Int32} {yhp : Int32} {yhe : Int32} {yhg : Int32} {wHs : Nat → Int64} {yhi : Int32} (F : Fx p s m args meth c cc nL RX5 ret) (hw : Wd G s A (mW G q yp ye yg bPo bTb wSh wTe wNx bOs bOn yop bSo bNu ytr yiw wMa wPr bTp yln ypl yfa wLi bSi yhp yhe yhg wHs yhi ++ fr) H locs) (hdg : decode cc pc = .ok (.getfield 49, 3)) (kk : W p l e R s m args below meth c H locs 0 0 Q (F0 m (pc + 3) ls (.ref (q 13) :: rest))) : W p l e R s m args below meth c H locs 0 0 Q (F0 m pc ls (.ref (q 0) :: rest)) :=
  va_get (D := G.1) (ci := 5) (v := .ref (q 13)) (C := RX5) (T := TX5) (N := 28) (ref := RX5) F.x F.b F.ts in_ws5 F.ow hw.1 hw.2.1 0 rfl rfl 21 (by decide) (F.ts _ (BG_in 726 (by decide +kernel) (by decide +kernel) : Cond.fieldLink RX5 49 RX5 "lists" "[J" ∈ BG)) (fun _ h9 => h9) rfl hdg kk
theorem gf_5_52 {yp : Int32} {ye : Int32} {yg : Int32} {bPo : Nat → Int32} {bTb : Nat → Int32} {wSh : Nat → Int64} {wTe : Nat → Int64} {wNx : Nat → Int64} {bOs : Nat → Int32} {bOn : Nat → Int32} {yop : Int32} {bSo : Nat → Int32} {bNu : Nat → Int32} {ytr : Int32} {yiw : Int32} {wMa : Nat → Int64} {wPr : Nat → Int64} {bTp : Nat → Int32} {yln : Int32} {ypl : Int32} {yfa : Int32} {wLi : Nat → Int64} {bSi : Nat → Int32} {yhp : Int32} {yhe : Int32} {yhg : Int32} {wHs : Nat → Int64} {yhi : Int32} (F : Fx p s m args meth c cc nL RX5 ret) (hw : Wd G s A (mW G q yp ye yg bPo bTb wSh wTe wNx bOs bOn yop bSo bNu ytr yiw wMa wPr bTp yln ypl yfa wLi bSi yhp yhe yhg wHs yhi ++ fr) H locs) (hdg : decode cc pc = .ok (.getfield 52, 3)) (kk : W p l e R s m args below meth c H locs 0 0 Q (F0 m (pc + 3) ls (.ref (q 14) :: rest))) : W p l e R s m args below meth c H locs 0 0 Q (F0 m pc ls (.ref (q 0) :: rest)) :=
  va_get (D := G.1) (ci := 5) (v := .ref (q 14)) (C := RX5) (T := TX5) (N := 28) (ref := RX5) F.x F.b F.ts in_ws5 F.ow hw.1 hw.2.1 0 rfl rfl 22 (by decide) (F.ts _ (BG_in 727 (by decide +kernel) (by decide +kernel) : Cond.fieldLink RX5 52 RX5 "sizes" "[I" ∈ BG)) (fun _ h9 => h9) rfl hdg kk
theorem gf_5_55 {yp : Int32} {ye : Int32} {yg : Int32} {bPo : Nat → Int32} {bTb : Nat → Int32} {wSh : Nat → Int64} {wTe : Nat → Int64} {wNx : Nat → Int64} {bOs : Nat → Int32} {bOn : Nat → Int32} {yop : Int32} {bSo : Nat → Int32} {bNu : Nat → Int32} {ytr : Int32} {yiw : Int32} {wMa : Nat → Int64} {wPr : Nat → Int64} {bTp : Nat → Int32} {yln : Int32} {ypl : Int32} {yfa : Int32} {wLi : Nat → Int64} {bSi : Nat → Int32} {yhp : Int32} {yhe : Int32} {yhg : Int32} {wHs : Nat → Int64} {yhi : Int32} (F : Fx p s m args meth c cc nL RX5 ret) (hw : Wd G s A (mW G q yp ye yg bPo bTb wSh wTe wNx bOs bOn yop bSo bNu ytr yiw wMa wPr bTp yln ypl yfa wLi bSi yhp yhe yhg wHs yhi ++ fr) H locs) (hdg : decode cc pc = .ok (.getfield 55, 3)) (kk : W p l e R s m args below meth c H locs 0 0 Q (F0 m (pc + 3) ls (.ref (q 15) :: rest))) : W p l e R s m args below meth c H locs 0 0 Q (F0 m pc ls (.ref (q 0) :: rest)) :=
  va_get (D := G.1) (ci := 5) (v := .ref (q 15)) (C := RX5) (T := TX5) (N := 28) (ref := RX5) F.x F.b F.ts in_ws5 F.ow hw.1 hw.2.1 0 rfl rfl 26 (by decide) (F.ts _ (BG_in 731 (by decide +kernel) (by decide +kernel) : Cond.fieldLink RX5 55 RX5 "hadShelves" "[J" ∈ BG)) (fun _ h9 => h9) rfl hdg kk
theorem gf_5_62 {yp : Int32} {ye : Int32} {yg : Int32} {bPo : Nat → Int32} {bTb : Nat → Int32} {wSh : Nat → Int64} {wTe : Nat → Int64} {wNx : Nat → Int64} {bOs : Nat → Int32} {bOn : Nat → Int32} {yop : Int32} {bSo : Nat → Int32} {bNu : Nat → Int32} {ytr : Int32} {yiw : Int32} {wMa : Nat → Int64} {wPr : Nat → Int64} {bTp : Nat → Int32} {yln : Int32} {ypl : Int32} {yfa : Int32} {wLi : Nat → Int64} {bSi : Nat → Int32} {yhp : Int32} {yhe : Int32} {yhg : Int32} {wHs : Nat → Int64} {yhi : Int32} (F : Fx p s m args meth c cc nL RX5 ret) (hw : Wd G s A (mW G q yp ye yg bPo bTb wSh wTe wNx bOs bOn yop bSo bNu ytr yiw wMa wPr bTp yln ypl yfa wLi bSi yhp yhe yhg wHs yhi ++ fr) H locs) (hdg : decode cc pc = .ok (.getfield 62, 3)) (kk : W p l e R s m args below meth c H locs 0 0 Q (F0 m (pc + 3) ls (.int yp :: rest))) : W p l e R s m args below meth c H locs 0 0 Q (F0 m pc ls (.ref (q 0) :: rest)) :=
  va_get (D := G.1) (ci := 5) (v := .int yp) (C := RX5) (T := TX5) (N := 28) (ref := RX5) F.x F.b F.ts in_ws5 F.ow hw.1 hw.2.1 0 rfl rfl 0 (by decide) (F.ts _ (BG_in 705 (by decide +kernel) (by decide +kernel) : Cond.fieldLink RX5 62 RX5 "p" "I" ∈ BG)) (fun _ h9 => h9) rfl hdg kk
theorem pf_5_62 {yp : Int32} {ye : Int32} {yg : Int32} {bPo : Nat → Int32} {bTb : Nat → Int32} {wSh : Nat → Int64} {wTe : Nat → Int64} {wNx : Nat → Int64} {bOs : Nat → Int32} {bOn : Nat → Int32} {yop : Int32} {bSo : Nat → Int32} {bNu : Nat → Int32} {ytr : Int32} {yiw : Int32} {wMa : Nat → Int64} {wPr : Nat → Int64} {bTp : Nat → Int32} {yln : Int32} {ypl : Int32} {yfa : Int32} {wLi : Nat → Int64} {bSi : Nat → Int32} {yhp : Int32} {yhe : Int32} {yhg : Int32} {wHs : Nat → Int64} {yhi : Int32} {v : Int32} (F : Fx p s m args meth c cc nL RX5 ret) (hw : Wd G s A (mW G q yp ye yg bPo bTb wSh wTe wNx bOs bOn yop bSo bNu ytr yiw wMa wPr bTp yln ypl yfa wLi bSi yhp yhe yhg wHs yhi ++ fr) H locs) (hdg : decode cc pc = .ok (.putfield 62, 3)) (kk : ∀ (H : Heap) (locs : List Loc), Wd G s A (mW G q v ye yg bPo bTb wSh wTe wNx bOs bOn yop bSo bNu ytr yiw wMa wPr bTp yln ypl yfa wLi bSi yhp yhe yhg wHs yhi ++ fr) H locs → W p l e R s m args below meth c H locs 0 0 Q (F0 m (pc + 3) ls rest)) : W p l e R s m args below meth c H locs 0 0 Q (F0 m pc ls (.int v :: .ref (q 0) :: rest)) :=
  va_put (D := G.1) (ci := 5) (v := .int v) (ty := .int) (C := RX5) (T := TX5) (N := 28) (ref := RX5) F.x F.b F.ts in_ws5 tyX5 tyX5_ok nmX5 F.ow hw.1 hw.2.1 hw.2.2.1 hw.2.2.2 0 rfl rfl 0 (by decide) (F.ts _ (BG_in 705 (by decide +kernel) (by decide +kernel) : Cond.fieldLink RX5 62 RX5 "p" "I" ∈ BG)) (fun _ h9 => h9) rfl (by decide +kernel) rfl rfl (Nat.le_of_ble_eq_true rfl) hdg (fun H locs hP hD hS => kk H locs ⟨hw.1, hP, hD, hS⟩)
theorem gf_5_66 {yp : Int32} {ye : Int32} {yg : Int32} {bPo : Nat → Int32} {bTb : Nat → Int32} {wSh : Nat → Int64} {wTe : Nat → Int64} {wNx : Nat → Int64} {bOs : Nat → Int32} {bOn : Nat → Int32} {yop : Int32} {bSo : Nat → Int32} {bNu : Nat → Int32} {ytr : Int32} {yiw : Int32} {wMa : Nat → Int64} {wPr : Nat → Int64} {bTp : Nat → Int32} {yln : Int32} {ypl : Int32} {yfa : Int32} {wLi : Nat → Int64} {bSi : Nat → Int32} {yhp : Int32} {yhe : Int32} {yhg : Int32} {wHs : Nat → Int64} {yhi : Int32} (F : Fx p s m args meth c cc nL RX5 ret) (hw : Wd G s A (mW G q yp ye yg bPo bTb wSh wTe wNx bOs bOn yop bSo bNu ytr yiw wMa wPr bTp yln ypl yfa wLi bSi yhp yhe yhg wHs yhi ++ fr) H locs) (hdg : decode cc pc = .ok (.getfield 66, 3)) (kk : W p l e R s m args below meth c H locs 0 0 Q (F0 m (pc + 3) ls (.int ye :: rest))) : W p l e R s m args below meth c H locs 0 0 Q (F0 m pc ls (.ref (q 0) :: rest)) :=
  va_get (D := G.1) (ci := 5) (v := .int ye) (C := RX5) (T := TX5) (N := 28) (ref := RX5) F.x F.b F.ts in_ws5 F.ow hw.1 hw.2.1 0 rfl rfl 1 (by decide) (F.ts _ (BG_in 706 (by decide +kernel) (by decide +kernel) : Cond.fieldLink RX5 66 RX5 "e" "I" ∈ BG)) (fun _ h9 => h9) rfl hdg kk
theorem pf_5_66 {yp : Int32} {ye : Int32} {yg : Int32} {bPo : Nat → Int32} {bTb : Nat → Int32} {wSh : Nat → Int64} {wTe : Nat → Int64} {wNx : Nat → Int64} {bOs : Nat → Int32} {bOn : Nat → Int32} {yop : Int32} {bSo : Nat → Int32} {bNu : Nat → Int32} {ytr : Int32} {yiw : Int32} {wMa : Nat → Int64} {wPr : Nat → Int64} {bTp : Nat → Int32} {yln : Int32} {ypl : Int32} {yfa : Int32} {wLi : Nat → Int64} {bSi : Nat → Int32} {yhp : Int32} {yhe : Int32} {yhg : Int32} {wHs : Nat → Int64} {yhi : Int32} {v : Int32} (F : Fx p s m args meth c cc nL RX5 ret) (hw : Wd G s A (mW G q yp ye yg bPo bTb wSh wTe wNx bOs bOn yop bSo bNu ytr yiw wMa wPr bTp yln ypl yfa wLi bSi yhp yhe yhg wHs yhi ++ fr) H locs) (hdg : decode cc pc = .ok (.putfield 66, 3)) (kk : ∀ (H : Heap) (locs : List Loc), Wd G s A (mW G q yp v yg bPo bTb wSh wTe wNx bOs bOn yop bSo bNu ytr yiw wMa wPr bTp yln ypl yfa wLi bSi yhp yhe yhg wHs yhi ++ fr) H locs → W p l e R s m args below meth c H locs 0 0 Q (F0 m (pc + 3) ls rest)) : W p l e R s m args below meth c H locs 0 0 Q (F0 m pc ls (.int v :: .ref (q 0) :: rest)) :=
  va_put (D := G.1) (ci := 5) (v := .int v) (ty := .int) (C := RX5) (T := TX5) (N := 28) (ref := RX5) F.x F.b F.ts in_ws5 tyX5 tyX5_ok nmX5 F.ow hw.1 hw.2.1 hw.2.2.1 hw.2.2.2 0 rfl rfl 1 (by decide) (F.ts _ (BG_in 706 (by decide +kernel) (by decide +kernel) : Cond.fieldLink RX5 66 RX5 "e" "I" ∈ BG)) (fun _ h9 => h9) rfl (by decide +kernel) rfl rfl (Nat.le_of_ble_eq_true rfl) hdg (fun H locs hP hD hS => kk H locs ⟨hw.1, hP, hD, hS⟩)
theorem gf_5_69 {yp : Int32} {ye : Int32} {yg : Int32} {bPo : Nat → Int32} {bTb : Nat → Int32} {wSh : Nat → Int64} {wTe : Nat → Int64} {wNx : Nat → Int64} {bOs : Nat → Int32} {bOn : Nat → Int32} {yop : Int32} {bSo : Nat → Int32} {bNu : Nat → Int32} {ytr : Int32} {yiw : Int32} {wMa : Nat → Int64} {wPr : Nat → Int64} {bTp : Nat → Int32} {yln : Int32} {ypl : Int32} {yfa : Int32} {wLi : Nat → Int64} {bSi : Nat → Int32} {yhp : Int32} {yhe : Int32} {yhg : Int32} {wHs : Nat → Int64} {yhi : Int32} (F : Fx p s m args meth c cc nL RX5 ret) (hw : Wd G s A (mW G q yp ye yg bPo bTb wSh wTe wNx bOs bOn yop bSo bNu ytr yiw wMa wPr bTp yln ypl yfa wLi bSi yhp yhe yhg wHs yhi ++ fr) H locs) (hdg : decode cc pc = .ok (.getfield 69, 3)) (kk : W p l e R s m args below meth c H locs 0 0 Q (F0 m (pc + 3) ls (.int yg :: rest))) : W p l e R s m args below meth c H locs 0 0 Q (F0 m pc ls (.ref (q 0) :: rest)) :=
  va_get (D := G.1) (ci := 5) (v := .int yg) (C := RX5) (T := TX5) (N := 28) (ref := RX5) F.x F.b F.ts in_ws5 F.ow hw.1 hw.2.1 0 rfl rfl 2 (by decide) (F.ts _ (BG_in 707 (by decide +kernel) (by decide +kernel) : Cond.fieldLink RX5 69 RX5 "g" "I" ∈ BG)) (fun _ h9 => h9) rfl hdg kk
theorem pf_5_69 {yp : Int32} {ye : Int32} {yg : Int32} {bPo : Nat → Int32} {bTb : Nat → Int32} {wSh : Nat → Int64} {wTe : Nat → Int64} {wNx : Nat → Int64} {bOs : Nat → Int32} {bOn : Nat → Int32} {yop : Int32} {bSo : Nat → Int32} {bNu : Nat → Int32} {ytr : Int32} {yiw : Int32} {wMa : Nat → Int64} {wPr : Nat → Int64} {bTp : Nat → Int32} {yln : Int32} {ypl : Int32} {yfa : Int32} {wLi : Nat → Int64} {bSi : Nat → Int32} {yhp : Int32} {yhe : Int32} {yhg : Int32} {wHs : Nat → Int64} {yhi : Int32} {v : Int32} (F : Fx p s m args meth c cc nL RX5 ret) (hw : Wd G s A (mW G q yp ye yg bPo bTb wSh wTe wNx bOs bOn yop bSo bNu ytr yiw wMa wPr bTp yln ypl yfa wLi bSi yhp yhe yhg wHs yhi ++ fr) H locs) (hdg : decode cc pc = .ok (.putfield 69, 3)) (kk : ∀ (H : Heap) (locs : List Loc), Wd G s A (mW G q yp ye v bPo bTb wSh wTe wNx bOs bOn yop bSo bNu ytr yiw wMa wPr bTp yln ypl yfa wLi bSi yhp yhe yhg wHs yhi ++ fr) H locs → W p l e R s m args below meth c H locs 0 0 Q (F0 m (pc + 3) ls rest)) : W p l e R s m args below meth c H locs 0 0 Q (F0 m pc ls (.int v :: .ref (q 0) :: rest)) :=
  va_put (D := G.1) (ci := 5) (v := .int v) (ty := .int) (C := RX5) (T := TX5) (N := 28) (ref := RX5) F.x F.b F.ts in_ws5 tyX5 tyX5_ok nmX5 F.ow hw.1 hw.2.1 hw.2.2.1 hw.2.2.2 0 rfl rfl 2 (by decide) (F.ts _ (BG_in 707 (by decide +kernel) (by decide +kernel) : Cond.fieldLink RX5 69 RX5 "g" "I" ∈ BG)) (fun _ h9 => h9) rfl (by decide +kernel) rfl rfl (Nat.le_of_ble_eq_true rfl) hdg (fun H locs hP hD hS => kk H locs ⟨hw.1, hP, hD, hS⟩)
theorem gf_5_147 {yp : Int32} {ye : Int32} {yg : Int32} {bPo : Nat → Int32} {bTb : Nat → Int32} {wSh : Nat → Int64} {wTe : Nat → Int64} {wNx : Nat → Int64} {bOs : Nat → Int32} {bOn : Nat → Int32} {yop : Int32} {bSo : Nat → Int32} {bNu : Nat → Int32} {ytr : Int32} {yiw : Int32} {wMa : Nat → Int64} {wPr : Nat → Int64} {bTp : Nat → Int32} {yln : Int32} {ypl : Int32} {yfa : Int32} {wLi : Nat → Int64} {bSi : Nat → Int32} {yhp : Int32} {yhe : Int32} {yhg : Int32} {wHs : Nat → Int64} {yhi : Int32} (F : Fx p s m args meth c cc nL RX5 ret) (hw : Wd G s A (mW G q yp ye yg bPo bTb wSh wTe wNx bOs bOn yop bSo bNu ytr yiw wMa wPr bTp yln ypl yfa wLi bSi yhp yhe yhg wHs yhi ++ fr) H locs) (hdg : decode cc pc = .ok (.getfield 147, 3)) (kk : W p l e R s m args below meth c H locs 0 0 Q (F0 m (pc + 3) ls (.int yop :: rest))) : W p l e R s m args below meth c H locs 0 0 Q (F0 m pc ls (.ref (q 0) :: rest)) :=
  va_get (D := G.1) (ci := 5) (v := .int yop) (C := RX5) (T := TX5) (N := 28) (ref := RX5) F.x F.b F.ts in_ws5 F.ow hw.1 hw.2.1 0 rfl rfl 10 (by decide) (F.ts _ (BG_in 715 (by decide +kernel) (by decide +kernel) : Cond.fieldLink RX5 147 RX5 "open" "I" ∈ BG)) (fun _ h9 => h9) rfl hdg kk
theorem pf_5_147 {yp : Int32} {ye : Int32} {yg : Int32} {bPo : Nat → Int32} {bTb : Nat → Int32} {wSh : Nat → Int64} {wTe : Nat → Int64} {wNx : Nat → Int64} {bOs : Nat → Int32} {bOn : Nat → Int32} {yop : Int32} {bSo : Nat → Int32} {bNu : Nat → Int32} {ytr : Int32} {yiw : Int32} {wMa : Nat → Int64} {wPr : Nat → Int64} {bTp : Nat → Int32} {yln : Int32} {ypl : Int32} {yfa : Int32} {wLi : Nat → Int64} {bSi : Nat → Int32} {yhp : Int32} {yhe : Int32} {yhg : Int32} {wHs : Nat → Int64} {yhi : Int32} {v : Int32} (F : Fx p s m args meth c cc nL RX5 ret) (hw : Wd G s A (mW G q yp ye yg bPo bTb wSh wTe wNx bOs bOn yop bSo bNu ytr yiw wMa wPr bTp yln ypl yfa wLi bSi yhp yhe yhg wHs yhi ++ fr) H locs) (hdg : decode cc pc = .ok (.putfield 147, 3)) (kk : ∀ (H : Heap) (locs : List Loc), Wd G s A (mW G q yp ye yg bPo bTb wSh wTe wNx bOs bOn v bSo bNu ytr yiw wMa wPr bTp yln ypl yfa wLi bSi yhp yhe yhg wHs yhi ++ fr) H locs → W p l e R s m args below meth c H locs 0 0 Q (F0 m (pc + 3) ls rest)) : W p l e R s m args below meth c H locs 0 0 Q (F0 m pc ls (.int v :: .ref (q 0) :: rest)) :=
  va_put (D := G.1) (ci := 5) (v := .int v) (ty := .int) (C := RX5) (T := TX5) (N := 28) (ref := RX5) F.x F.b F.ts in_ws5 tyX5 tyX5_ok nmX5 F.ow hw.1 hw.2.1 hw.2.2.1 hw.2.2.2 0 rfl rfl 10 (by decide) (F.ts _ (BG_in 715 (by decide +kernel) (by decide +kernel) : Cond.fieldLink RX5 147 RX5 "open" "I" ∈ BG)) (fun _ h9 => h9) rfl (by decide +kernel) rfl rfl (Nat.le_of_ble_eq_true rfl) hdg (fun H locs hP hD hS => kk H locs ⟨hw.1, hP, hD, hS⟩)
theorem gf_5_150 {yp : Int32} {ye : Int32} {yg : Int32} {bPo : Nat → Int32} {bTb : Nat → Int32} {wSh : Nat → Int64} {wTe : Nat → Int64} {wNx : Nat → Int64} {bOs : Nat → Int32} {bOn : Nat → Int32} {yop : Int32} {bSo : Nat → Int32} {bNu : Nat → Int32} {ytr : Int32} {yiw : Int32} {wMa : Nat → Int64} {wPr : Nat → Int64} {bTp : Nat → Int32} {yln : Int32} {ypl : Int32} {yfa : Int32} {wLi : Nat → Int64} {bSi : Nat → Int32} {yhp : Int32} {yhe : Int32} {yhg : Int32} {wHs : Nat → Int64} {yhi : Int32} (F : Fx p s m args meth c cc nL RX5 ret) (hw : Wd G s A (mW G q yp ye yg bPo bTb wSh wTe wNx bOs bOn yop bSo bNu ytr yiw wMa wPr bTp yln ypl yfa wLi bSi yhp yhe yhg wHs yhi ++ fr) H locs) (hdg : decode cc pc = .ok (.getfield 150, 3)) (kk : W p l e R s m args below meth c H locs 0 0 Q (F0 m (pc + 3) ls (.int yiw :: rest))) : W p l e R s m args below meth c H locs 0 0 Q (F0 m pc ls (.ref (q 0) :: rest)) :=
  va_get (D := G.1) (ci := 5) (v := .int yiw) (C := RX5) (T := TX5) (N := 28) (ref := RX5) F.x F.b F.ts in_ws5 F.ow hw.1 hw.2.1 0 rfl rfl 14 (by decide) (F.ts _ (BG_in 719 (by decide +kernel) (by decide +kernel) : Cond.fieldLink RX5 150 RX5 "isWrong" "Z" ∈ BG)) (fun _ h9 => h9) rfl hdg kk
theorem pf_5_150 {yp : Int32} {ye : Int32} {yg : Int32} {bPo : Nat → Int32} {bTb : Nat → Int32} {wSh : Nat → Int64} {wTe : Nat → Int64} {wNx : Nat → Int64} {bOs : Nat → Int32} {bOn : Nat → Int32} {yop : Int32} {bSo : Nat → Int32} {bNu : Nat → Int32} {ytr : Int32} {yiw : Int32} {wMa : Nat → Int64} {wPr : Nat → Int64} {bTp : Nat → Int32} {yln : Int32} {ypl : Int32} {yfa : Int32} {wLi : Nat → Int64} {bSi : Nat → Int32} {yhp : Int32} {yhe : Int32} {yhg : Int32} {wHs : Nat → Int64} {yhi : Int32} {v : Int32} (hv : v = 0 ∨ v = 1) (F : Fx p s m args meth c cc nL RX5 ret) (hw : Wd G s A (mW G q yp ye yg bPo bTb wSh wTe wNx bOs bOn yop bSo bNu ytr yiw wMa wPr bTp yln ypl yfa wLi bSi yhp yhe yhg wHs yhi ++ fr) H locs) (hdg : decode cc pc = .ok (.putfield 150, 3)) (kk : ∀ (H : Heap) (locs : List Loc), Wd G s A (mW G q yp ye yg bPo bTb wSh wTe wNx bOs bOn yop bSo bNu ytr v wMa wPr bTp yln ypl yfa wLi bSi yhp yhe yhg wHs yhi ++ fr) H locs → W p l e R s m args below meth c H locs 0 0 Q (F0 m (pc + 3) ls rest)) : W p l e R s m args below meth c H locs 0 0 Q (F0 m pc ls (.int v :: .ref (q 0) :: rest)) :=
  va_put (D := G.1) (ci := 5) (v := .int v) (ty := .boolean) (C := RX5) (T := TX5) (N := 28) (ref := RX5) F.x F.b F.ts in_ws5 tyX5 tyX5_ok nmX5 F.ow hw.1 hw.2.1 hw.2.2.1 hw.2.2.2 0 rfl rfl 14 (by decide) (F.ts _ (BG_in 719 (by decide +kernel) (by decide +kernel) : Cond.fieldLink RX5 150 RX5 "isWrong" "Z" ∈ BG)) (fun _ h9 => h9) rfl (by decide +kernel) (nz_bool hv) (by rcases hv with rfl | rfl <;> rfl) (Nat.le_of_ble_eq_true rfl) hdg (fun H locs hP hD hS => kk H locs ⟨hw.1, hP, hD, hS⟩)
theorem gf_5_154 {yp : Int32} {ye : Int32} {yg : Int32} {bPo : Nat → Int32} {bTb : Nat → Int32} {wSh : Nat → Int64} {wTe : Nat → Int64} {wNx : Nat → Int64} {bOs : Nat → Int32} {bOn : Nat → Int32} {yop : Int32} {bSo : Nat → Int32} {bNu : Nat → Int32} {ytr : Int32} {yiw : Int32} {wMa : Nat → Int64} {wPr : Nat → Int64} {bTp : Nat → Int32} {yln : Int32} {ypl : Int32} {yfa : Int32} {wLi : Nat → Int64} {bSi : Nat → Int32} {yhp : Int32} {yhe : Int32} {yhg : Int32} {wHs : Nat → Int64} {yhi : Int32} (F : Fx p s m args meth c cc nL RX5 ret) (hw : Wd G s A (mW G q yp ye yg bPo bTb wSh wTe wNx bOs bOn yop bSo bNu ytr yiw wMa wPr bTp yln ypl yfa wLi bSi yhp yhe yhg wHs yhi ++ fr) H locs) (hdg : decode cc pc = .ok (.getfield 154, 3)) (kk : W p l e R s m args below meth c H locs 0 0 Q (F0 m (pc + 3) ls (.int ytr :: rest))) : W p l e R s m args below meth c H locs 0 0 Q (F0 m pc ls (.ref (q 0) :: rest)) :=
  va_get (D := G.1) (ci := 5) (v := .int ytr) (C := RX5) (T := TX5) (N := 28) (ref := RX5) F.x F.b F.ts in_ws5 F.ow hw.1 hw.2.1 0 rfl rfl 13 (by decide) (F.ts _ (BG_in 718 (by decide +kernel) (by decide +kernel) : Cond.fieldLink RX5 154 RX5 "troubles" "I" ∈ BG)) (fun _ h9 => h9) rfl hdg kk
theorem pf_5_154 {yp : Int32} {ye : Int32} {yg : Int32} {bPo : Nat → Int32} {bTb : Nat → Int32} {wSh : Nat → Int64} {wTe : Nat → Int64} {wNx : Nat → Int64} {bOs : Nat → Int32} {bOn : Nat → Int32} {yop : Int32} {bSo : Nat → Int32} {bNu : Nat → Int32} {ytr : Int32} {yiw : Int32} {wMa : Nat → Int64} {wPr : Nat → Int64} {bTp : Nat → Int32} {yln : Int32} {ypl : Int32} {yfa : Int32} {wLi : Nat → Int64} {bSi : Nat → Int32} {yhp : Int32} {yhe : Int32} {yhg : Int32} {wHs : Nat → Int64} {yhi : Int32} {v : Int32} (F : Fx p s m args meth c cc nL RX5 ret) (hw : Wd G s A (mW G q yp ye yg bPo bTb wSh wTe wNx bOs bOn yop bSo bNu ytr yiw wMa wPr bTp yln ypl yfa wLi bSi yhp yhe yhg wHs yhi ++ fr) H locs) (hdg : decode cc pc = .ok (.putfield 154, 3)) (kk : ∀ (H : Heap) (locs : List Loc), Wd G s A (mW G q yp ye yg bPo bTb wSh wTe wNx bOs bOn yop bSo bNu v yiw wMa wPr bTp yln ypl yfa wLi bSi yhp yhe yhg wHs yhi ++ fr) H locs → W p l e R s m args below meth c H locs 0 0 Q (F0 m (pc + 3) ls rest)) : W p l e R s m args below meth c H locs 0 0 Q (F0 m pc ls (.int v :: .ref (q 0) :: rest)) :=
  va_put (D := G.1) (ci := 5) (v := .int v) (ty := .int) (C := RX5) (T := TX5) (N := 28) (ref := RX5) F.x F.b F.ts in_ws5 tyX5 tyX5_ok nmX5 F.ow hw.1 hw.2.1 hw.2.2.1 hw.2.2.2 0 rfl rfl 13 (by decide) (F.ts _ (BG_in 718 (by decide +kernel) (by decide +kernel) : Cond.fieldLink RX5 154 RX5 "troubles" "I" ∈ BG)) (fun _ h9 => h9) rfl (by decide +kernel) rfl rfl (Nat.le_of_ble_eq_true rfl) hdg (fun H locs hP hD hS => kk H locs ⟨hw.1, hP, hD, hS⟩)
theorem gf_5_216 {yp : Int32} {ye : Int32} {yg : Int32} {bPo : Nat → Int32} {bTb : Nat → Int32} {wSh : Nat → Int64} {wTe : Nat → Int64} {wNx : Nat → Int64} {bOs : Nat → Int32} {bOn : Nat → Int32} {yop : Int32} {bSo : Nat → Int32} {bNu : Nat → Int32} {ytr : Int32} {yiw : Int32} {wMa : Nat → Int64} {wPr : Nat → Int64} {bTp : Nat → Int32} {yln : Int32} {ypl : Int32} {yfa : Int32} {wLi : Nat → Int64} {bSi : Nat → Int32} {yhp : Int32} {yhe : Int32} {yhg : Int32} {wHs : Nat → Int64} {yhi : Int32} (F : Fx p s m args meth c cc nL RX5 ret) (hw : Wd G s A (mW G q yp ye yg bPo bTb wSh wTe wNx bOs bOn yop bSo bNu ytr yiw wMa wPr bTp yln ypl yfa wLi bSi yhp yhe yhg wHs yhi ++ fr) H locs) (hdg : decode cc pc = .ok (.getfield 216, 3)) (kk : W p l e R s m args below meth c H locs 0 0 Q (F0 m (pc + 3) ls (.int yln :: rest))) : W p l e R s m args below meth c H locs 0 0 Q (F0 m pc ls (.ref (q 0) :: rest)) :=
  va_get (D := G.1) (ci := 5) (v := .int yln) (C := RX5) (T := TX5) (N := 28) (ref := RX5) F.x F.b F.ts in_ws5 F.ow hw.1 hw.2.1 0 rfl rfl 18 (by decide) (F.ts _ (BG_in 723 (by decide +kernel) (by decide +kernel) : Cond.fieldLink RX5 216 RX5 "length" "I" ∈ BG)) (fun _ h9 => h9) rfl hdg kk
theorem pf_5_216 {yp : Int32} {ye : Int32} {yg : Int32} {bPo : Nat → Int32} {bTb : Nat → Int32} {wSh : Nat → Int64} {wTe : Nat → Int64} {wNx : Nat → Int64} {bOs : Nat → Int32} {bOn : Nat → Int32} {yop : Int32} {bSo : Nat → Int32} {bNu : Nat → Int32} {ytr : Int32} {yiw : Int32} {wMa : Nat → Int64} {wPr : Nat → Int64} {bTp : Nat → Int32} {yln : Int32} {ypl : Int32} {yfa : Int32} {wLi : Nat → Int64} {bSi : Nat → Int32} {yhp : Int32} {yhe : Int32} {yhg : Int32} {wHs : Nat → Int64} {yhi : Int32} {v : Int32} (F : Fx p s m args meth c cc nL RX5 ret) (hw : Wd G s A (mW G q yp ye yg bPo bTb wSh wTe wNx bOs bOn yop bSo bNu ytr yiw wMa wPr bTp yln ypl yfa wLi bSi yhp yhe yhg wHs yhi ++ fr) H locs) (hdg : decode cc pc = .ok (.putfield 216, 3)) (kk : ∀ (H : Heap) (locs : List Loc), Wd G s A (mW G q yp ye yg bPo bTb wSh wTe wNx bOs bOn yop bSo bNu ytr yiw wMa wPr bTp v ypl yfa wLi bSi yhp yhe yhg wHs yhi ++ fr) H locs → W p l e R s m args below meth c H locs 0 0 Q (F0 m (pc + 3) ls rest)) : W p l e R s m args below meth c H locs 0 0 Q (F0 m pc ls (.int v :: .ref (q 0) :: rest)) :=
  va_put (D := G.1) (ci := 5) (v := .int v) (ty := .int) (C := RX5) (T := TX5) (N := 28) (ref := RX5) F.x F.b F.ts in_ws5 tyX5 tyX5_ok nmX5 F.ow hw.1 hw.2.1 hw.2.2.1 hw.2.2.2 0 rfl rfl 18 (by decide) (F.ts _ (BG_in 723 (by decide +kernel) (by decide +kernel) : Cond.fieldLink RX5 216 RX5 "length" "I" ∈ BG)) (fun _ h9 => h9) rfl (by decide +kernel) rfl rfl (Nat.le_of_ble_eq_true rfl) hdg (fun H locs hP hD hS => kk H locs ⟨hw.1, hP, hD, hS⟩)
theorem gf_5_219 {yp : Int32} {ye : Int32} {yg : Int32} {bPo : Nat → Int32} {bTb : Nat → Int32} {wSh : Nat → Int64} {wTe : Nat → Int64} {wNx : Nat → Int64} {bOs : Nat → Int32} {bOn : Nat → Int32} {yop : Int32} {bSo : Nat → Int32} {bNu : Nat → Int32} {ytr : Int32} {yiw : Int32} {wMa : Nat → Int64} {wPr : Nat → Int64} {bTp : Nat → Int32} {yln : Int32} {ypl : Int32} {yfa : Int32} {wLi : Nat → Int64} {bSi : Nat → Int32} {yhp : Int32} {yhe : Int32} {yhg : Int32} {wHs : Nat → Int64} {yhi : Int32} (F : Fx p s m args meth c cc nL RX5 ret) (hw : Wd G s A (mW G q yp ye yg bPo bTb wSh wTe wNx bOs bOn yop bSo bNu ytr yiw wMa wPr bTp yln ypl yfa wLi bSi yhp yhe yhg wHs yhi ++ fr) H locs) (hdg : decode cc pc = .ok (.getfield 219, 3)) (kk : W p l e R s m args below meth c H locs 0 0 Q (F0 m (pc + 3) ls (.int ypl :: rest))) : W p l e R s m args below meth c H locs 0 0 Q (F0 m pc ls (.ref (q 0) :: rest)) :=
  va_get (D := G.1) (ci := 5) (v := .int ypl) (C := RX5) (T := TX5) (N := 28) (ref := RX5) F.x F.b F.ts in_ws5 F.ow hw.1 hw.2.1 0 rfl rfl 19 (by decide) (F.ts _ (BG_in 724 (by decide +kernel) (by decide +kernel) : Cond.fieldLink RX5 219 RX5 "place" "I" ∈ BG)) (fun _ h9 => h9) rfl hdg kk
theorem pf_5_219 {yp : Int32} {ye : Int32} {yg : Int32} {bPo : Nat → Int32} {bTb : Nat → Int32} {wSh : Nat → Int64} {wTe : Nat → Int64} {wNx : Nat → Int64} {bOs : Nat → Int32} {bOn : Nat → Int32} {yop : Int32} {bSo : Nat → Int32} {bNu : Nat → Int32} {ytr : Int32} {yiw : Int32} {wMa : Nat → Int64} {wPr : Nat → Int64} {bTp : Nat → Int32} {yln : Int32} {ypl : Int32} {yfa : Int32} {wLi : Nat → Int64} {bSi : Nat → Int32} {yhp : Int32} {yhe : Int32} {yhg : Int32} {wHs : Nat → Int64} {yhi : Int32} {v : Int32} (F : Fx p s m args meth c cc nL RX5 ret) (hw : Wd G s A (mW G q yp ye yg bPo bTb wSh wTe wNx bOs bOn yop bSo bNu ytr yiw wMa wPr bTp yln ypl yfa wLi bSi yhp yhe yhg wHs yhi ++ fr) H locs) (hdg : decode cc pc = .ok (.putfield 219, 3)) (kk : ∀ (H : Heap) (locs : List Loc), Wd G s A (mW G q yp ye yg bPo bTb wSh wTe wNx bOs bOn yop bSo bNu ytr yiw wMa wPr bTp yln v yfa wLi bSi yhp yhe yhg wHs yhi ++ fr) H locs → W p l e R s m args below meth c H locs 0 0 Q (F0 m (pc + 3) ls rest)) : W p l e R s m args below meth c H locs 0 0 Q (F0 m pc ls (.int v :: .ref (q 0) :: rest)) :=
  va_put (D := G.1) (ci := 5) (v := .int v) (ty := .int) (C := RX5) (T := TX5) (N := 28) (ref := RX5) F.x F.b F.ts in_ws5 tyX5 tyX5_ok nmX5 F.ow hw.1 hw.2.1 hw.2.2.1 hw.2.2.2 0 rfl rfl 19 (by decide) (F.ts _ (BG_in 724 (by decide +kernel) (by decide +kernel) : Cond.fieldLink RX5 219 RX5 "place" "I" ∈ BG)) (fun _ h9 => h9) rfl (by decide +kernel) rfl rfl (Nat.le_of_ble_eq_true rfl) hdg (fun H locs hP hD hS => kk H locs ⟨hw.1, hP, hD, hS⟩)
theorem gf_5_226 {yp : Int32} {ye : Int32} {yg : Int32} {bPo : Nat → Int32} {bTb : Nat → Int32} {wSh : Nat → Int64} {wTe : Nat → Int64} {wNx : Nat → Int64} {bOs : Nat → Int32} {bOn : Nat → Int32} {yop : Int32} {bSo : Nat → Int32} {bNu : Nat → Int32} {ytr : Int32} {yiw : Int32} {wMa : Nat → Int64} {wPr : Nat → Int64} {bTp : Nat → Int32} {yln : Int32} {ypl : Int32} {yfa : Int32} {wLi : Nat → Int64} {bSi : Nat → Int32} {yhp : Int32} {yhe : Int32} {yhg : Int32} {wHs : Nat → Int64} {yhi : Int32} (F : Fx p s m args meth c cc nL RX5 ret) (hw : Wd G s A (mW G q yp ye yg bPo bTb wSh wTe wNx bOs bOn yop bSo bNu ytr yiw wMa wPr bTp yln ypl yfa wLi bSi yhp yhe yhg wHs yhi ++ fr) H locs) (hdg : decode cc pc = .ok (.getfield 226, 3)) (kk : W p l e R s m args below meth c H locs 0 0 Q (F0 m (pc + 3) ls (.int yfa :: rest))) : W p l e R s m args below meth c H locs 0 0 Q (F0 m pc ls (.ref (q 0) :: rest)) :=
  va_get (D := G.1) (ci := 5) (v := .int yfa) (C := RX5) (T := TX5) (N := 28) (ref := RX5) F.x F.b F.ts in_ws5 F.ow hw.1 hw.2.1 0 rfl rfl 20 (by decide) (F.ts _ (BG_in 725 (by decide +kernel) (by decide +kernel) : Cond.fieldLink RX5 226 RX5 "fault" "I" ∈ BG)) (fun _ h9 => h9) rfl hdg kk
theorem pf_5_226 {yp : Int32} {ye : Int32} {yg : Int32} {bPo : Nat → Int32} {bTb : Nat → Int32} {wSh : Nat → Int64} {wTe : Nat → Int64} {wNx : Nat → Int64} {bOs : Nat → Int32} {bOn : Nat → Int32} {yop : Int32} {bSo : Nat → Int32} {bNu : Nat → Int32} {ytr : Int32} {yiw : Int32} {wMa : Nat → Int64} {wPr : Nat → Int64} {bTp : Nat → Int32} {yln : Int32} {ypl : Int32} {yfa : Int32} {wLi : Nat → Int64} {bSi : Nat → Int32} {yhp : Int32} {yhe : Int32} {yhg : Int32} {wHs : Nat → Int64} {yhi : Int32} {v : Int32} (F : Fx p s m args meth c cc nL RX5 ret) (hw : Wd G s A (mW G q yp ye yg bPo bTb wSh wTe wNx bOs bOn yop bSo bNu ytr yiw wMa wPr bTp yln ypl yfa wLi bSi yhp yhe yhg wHs yhi ++ fr) H locs) (hdg : decode cc pc = .ok (.putfield 226, 3)) (kk : ∀ (H : Heap) (locs : List Loc), Wd G s A (mW G q yp ye yg bPo bTb wSh wTe wNx bOs bOn yop bSo bNu ytr yiw wMa wPr bTp yln ypl v wLi bSi yhp yhe yhg wHs yhi ++ fr) H locs → W p l e R s m args below meth c H locs 0 0 Q (F0 m (pc + 3) ls rest)) : W p l e R s m args below meth c H locs 0 0 Q (F0 m pc ls (.int v :: .ref (q 0) :: rest)) :=
  va_put (D := G.1) (ci := 5) (v := .int v) (ty := .int) (C := RX5) (T := TX5) (N := 28) (ref := RX5) F.x F.b F.ts in_ws5 tyX5 tyX5_ok nmX5 F.ow hw.1 hw.2.1 hw.2.2.1 hw.2.2.2 0 rfl rfl 20 (by decide) (F.ts _ (BG_in 725 (by decide +kernel) (by decide +kernel) : Cond.fieldLink RX5 226 RX5 "fault" "I" ∈ BG)) (fun _ h9 => h9) rfl (by decide +kernel) rfl rfl (Nat.le_of_ble_eq_true rfl) hdg (fun H locs hP hD hS => kk H locs ⟨hw.1, hP, hD, hS⟩)
theorem gf_5_258 {yp : Int32} {ye : Int32} {yg : Int32} {bPo : Nat → Int32} {bTb : Nat → Int32} {wSh : Nat → Int64} {wTe : Nat → Int64} {wNx : Nat → Int64} {bOs : Nat → Int32} {bOn : Nat → Int32} {yop : Int32} {bSo : Nat → Int32} {bNu : Nat → Int32} {ytr : Int32} {yiw : Int32} {wMa : Nat → Int64} {wPr : Nat → Int64} {bTp : Nat → Int32} {yln : Int32} {ypl : Int32} {yfa : Int32} {wLi : Nat → Int64} {bSi : Nat → Int32} {yhp : Int32} {yhe : Int32} {yhg : Int32} {wHs : Nat → Int64} {yhi : Int32} (F : Fx p s m args meth c cc nL RX5 ret) (hw : Wd G s A (mW G q yp ye yg bPo bTb wSh wTe wNx bOs bOn yop bSo bNu ytr yiw wMa wPr bTp yln ypl yfa wLi bSi yhp yhe yhg wHs yhi ++ fr) H locs) (hdg : decode cc pc = .ok (.getfield 258, 3)) (kk : W p l e R s m args below meth c H locs 0 0 Q (F0 m (pc + 3) ls (.int yhp :: rest))) : W p l e R s m args below meth c H locs 0 0 Q (F0 m pc ls (.ref (q 0) :: rest)) :=
  va_get (D := G.1) (ci := 5) (v := .int yhp) (C := RX5) (T := TX5) (N := 28) (ref := RX5) F.x F.b F.ts in_ws5 F.ow hw.1 hw.2.1 0 rfl rfl 23 (by decide) (F.ts _ (BG_in 728 (by decide +kernel) (by decide +kernel) : Cond.fieldLink RX5 258 RX5 "hadP" "I" ∈ BG)) (fun _ h9 => h9) rfl hdg kk
theorem pf_5_258 {yp : Int32} {ye : Int32} {yg : Int32} {bPo : Nat → Int32} {bTb : Nat → Int32} {wSh : Nat → Int64} {wTe : Nat → Int64} {wNx : Nat → Int64} {bOs : Nat → Int32} {bOn : Nat → Int32} {yop : Int32} {bSo : Nat → Int32} {bNu : Nat → Int32} {ytr : Int32} {yiw : Int32} {wMa : Nat → Int64} {wPr : Nat → Int64} {bTp : Nat → Int32} {yln : Int32} {ypl : Int32} {yfa : Int32} {wLi : Nat → Int64} {bSi : Nat → Int32} {yhp : Int32} {yhe : Int32} {yhg : Int32} {wHs : Nat → Int64} {yhi : Int32} {v : Int32} (F : Fx p s m args meth c cc nL RX5 ret) (hw : Wd G s A (mW G q yp ye yg bPo bTb wSh wTe wNx bOs bOn yop bSo bNu ytr yiw wMa wPr bTp yln ypl yfa wLi bSi yhp yhe yhg wHs yhi ++ fr) H locs) (hdg : decode cc pc = .ok (.putfield 258, 3)) (kk : ∀ (H : Heap) (locs : List Loc), Wd G s A (mW G q yp ye yg bPo bTb wSh wTe wNx bOs bOn yop bSo bNu ytr yiw wMa wPr bTp yln ypl yfa wLi bSi v yhe yhg wHs yhi ++ fr) H locs → W p l e R s m args below meth c H locs 0 0 Q (F0 m (pc + 3) ls rest)) : W p l e R s m args below meth c H locs 0 0 Q (F0 m pc ls (.int v :: .ref (q 0) :: rest)) :=
  va_put (D := G.1) (ci := 5) (v := .int v) (ty := .int) (C := RX5) (T := TX5) (N := 28) (ref := RX5) F.x F.b F.ts in_ws5 tyX5 tyX5_ok nmX5 F.ow hw.1 hw.2.1 hw.2.2.1 hw.2.2.2 0 rfl rfl 23 (by decide) (F.ts _ (BG_in 728 (by decide +kernel) (by decide +kernel) : Cond.fieldLink RX5 258 RX5 "hadP" "I" ∈ BG)) (fun _ h9 => h9) rfl (by decide +kernel) rfl rfl (Nat.le_of_ble_eq_true rfl) hdg (fun H locs hP hD hS => kk H locs ⟨hw.1, hP, hD, hS⟩)
theorem gf_5_261 {yp : Int32} {ye : Int32} {yg : Int32} {bPo : Nat → Int32} {bTb : Nat → Int32} {wSh : Nat → Int64} {wTe : Nat → Int64} {wNx : Nat → Int64} {bOs : Nat → Int32} {bOn : Nat → Int32} {yop : Int32} {bSo : Nat → Int32} {bNu : Nat → Int32} {ytr : Int32} {yiw : Int32} {wMa : Nat → Int64} {wPr : Nat → Int64} {bTp : Nat → Int32} {yln : Int32} {ypl : Int32} {yfa : Int32} {wLi : Nat → Int64} {bSi : Nat → Int32} {yhp : Int32} {yhe : Int32} {yhg : Int32} {wHs : Nat → Int64} {yhi : Int32} (F : Fx p s m args meth c cc nL RX5 ret) (hw : Wd G s A (mW G q yp ye yg bPo bTb wSh wTe wNx bOs bOn yop bSo bNu ytr yiw wMa wPr bTp yln ypl yfa wLi bSi yhp yhe yhg wHs yhi ++ fr) H locs) (hdg : decode cc pc = .ok (.getfield 261, 3)) (kk : W p l e R s m args below meth c H locs 0 0 Q (F0 m (pc + 3) ls (.int yhe :: rest))) : W p l e R s m args below meth c H locs 0 0 Q (F0 m pc ls (.ref (q 0) :: rest)) :=
  va_get (D := G.1) (ci := 5) (v := .int yhe) (C := RX5) (T := TX5) (N := 28) (ref := RX5) F.x F.b F.ts in_ws5 F.ow hw.1 hw.2.1 0 rfl rfl 24 (by decide) (F.ts _ (BG_in 729 (by decide +kernel) (by decide +kernel) : Cond.fieldLink RX5 261 RX5 "hadE" "I" ∈ BG)) (fun _ h9 => h9) rfl hdg kk
theorem pf_5_261 {yp : Int32} {ye : Int32} {yg : Int32} {bPo : Nat → Int32} {bTb : Nat → Int32} {wSh : Nat → Int64} {wTe : Nat → Int64} {wNx : Nat → Int64} {bOs : Nat → Int32} {bOn : Nat → Int32} {yop : Int32} {bSo : Nat → Int32} {bNu : Nat → Int32} {ytr : Int32} {yiw : Int32} {wMa : Nat → Int64} {wPr : Nat → Int64} {bTp : Nat → Int32} {yln : Int32} {ypl : Int32} {yfa : Int32} {wLi : Nat → Int64} {bSi : Nat → Int32} {yhp : Int32} {yhe : Int32} {yhg : Int32} {wHs : Nat → Int64} {yhi : Int32} {v : Int32} (F : Fx p s m args meth c cc nL RX5 ret) (hw : Wd G s A (mW G q yp ye yg bPo bTb wSh wTe wNx bOs bOn yop bSo bNu ytr yiw wMa wPr bTp yln ypl yfa wLi bSi yhp yhe yhg wHs yhi ++ fr) H locs) (hdg : decode cc pc = .ok (.putfield 261, 3)) (kk : ∀ (H : Heap) (locs : List Loc), Wd G s A (mW G q yp ye yg bPo bTb wSh wTe wNx bOs bOn yop bSo bNu ytr yiw wMa wPr bTp yln ypl yfa wLi bSi yhp v yhg wHs yhi ++ fr) H locs → W p l e R s m args below meth c H locs 0 0 Q (F0 m (pc + 3) ls rest)) : W p l e R s m args below meth c H locs 0 0 Q (F0 m pc ls (.int v :: .ref (q 0) :: rest)) :=
  va_put (D := G.1) (ci := 5) (v := .int v) (ty := .int) (C := RX5) (T := TX5) (N := 28) (ref := RX5) F.x F.b F.ts in_ws5 tyX5 tyX5_ok nmX5 F.ow hw.1 hw.2.1 hw.2.2.1 hw.2.2.2 0 rfl rfl 24 (by decide) (F.ts _ (BG_in 729 (by decide +kernel) (by decide +kernel) : Cond.fieldLink RX5 261 RX5 "hadE" "I" ∈ BG)) (fun _ h9 => h9) rfl (by decide +kernel) rfl rfl (Nat.le_of_ble_eq_true rfl) hdg (fun H locs hP hD hS => kk H locs ⟨hw.1, hP, hD, hS⟩)
theorem gf_5_264 {yp : Int32} {ye : Int32} {yg : Int32} {bPo : Nat → Int32} {bTb : Nat → Int32} {wSh : Nat → Int64} {wTe : Nat → Int64} {wNx : Nat → Int64} {bOs : Nat → Int32} {bOn : Nat → Int32} {yop : Int32} {bSo : Nat → Int32} {bNu : Nat → Int32} {ytr : Int32} {yiw : Int32} {wMa : Nat → Int64} {wPr : Nat → Int64} {bTp : Nat → Int32} {yln : Int32} {ypl : Int32} {yfa : Int32} {wLi : Nat → Int64} {bSi : Nat → Int32} {yhp : Int32} {yhe : Int32} {yhg : Int32} {wHs : Nat → Int64} {yhi : Int32} (F : Fx p s m args meth c cc nL RX5 ret) (hw : Wd G s A (mW G q yp ye yg bPo bTb wSh wTe wNx bOs bOn yop bSo bNu ytr yiw wMa wPr bTp yln ypl yfa wLi bSi yhp yhe yhg wHs yhi ++ fr) H locs) (hdg : decode cc pc = .ok (.getfield 264, 3)) (kk : W p l e R s m args below meth c H locs 0 0 Q (F0 m (pc + 3) ls (.int yhg :: rest))) : W p l e R s m args below meth c H locs 0 0 Q (F0 m pc ls (.ref (q 0) :: rest)) :=
  va_get (D := G.1) (ci := 5) (v := .int yhg) (C := RX5) (T := TX5) (N := 28) (ref := RX5) F.x F.b F.ts in_ws5 F.ow hw.1 hw.2.1 0 rfl rfl 25 (by decide) (F.ts _ (BG_in 730 (by decide +kernel) (by decide +kernel) : Cond.fieldLink RX5 264 RX5 "hadG" "I" ∈ BG)) (fun _ h9 => h9) rfl hdg kk
theorem pf_5_264 {yp : Int32} {ye : Int32} {yg : Int32} {bPo : Nat → Int32} {bTb : Nat → Int32} {wSh : Nat → Int64} {wTe : Nat → Int64} {wNx : Nat → Int64} {bOs : Nat → Int32} {bOn : Nat → Int32} {yop : Int32} {bSo : Nat → Int32} {bNu : Nat → Int32} {ytr : Int32} {yiw : Int32} {wMa : Nat → Int64} {wPr : Nat → Int64} {bTp : Nat → Int32} {yln : Int32} {ypl : Int32} {yfa : Int32} {wLi : Nat → Int64} {bSi : Nat → Int32} {yhp : Int32} {yhe : Int32} {yhg : Int32} {wHs : Nat → Int64} {yhi : Int32} {v : Int32} (F : Fx p s m args meth c cc nL RX5 ret) (hw : Wd G s A (mW G q yp ye yg bPo bTb wSh wTe wNx bOs bOn yop bSo bNu ytr yiw wMa wPr bTp yln ypl yfa wLi bSi yhp yhe yhg wHs yhi ++ fr) H locs) (hdg : decode cc pc = .ok (.putfield 264, 3)) (kk : ∀ (H : Heap) (locs : List Loc), Wd G s A (mW G q yp ye yg bPo bTb wSh wTe wNx bOs bOn yop bSo bNu ytr yiw wMa wPr bTp yln ypl yfa wLi bSi yhp yhe v wHs yhi ++ fr) H locs → W p l e R s m args below meth c H locs 0 0 Q (F0 m (pc + 3) ls rest)) : W p l e R s m args below meth c H locs 0 0 Q (F0 m pc ls (.int v :: .ref (q 0) :: rest)) :=
  va_put (D := G.1) (ci := 5) (v := .int v) (ty := .int) (C := RX5) (T := TX5) (N := 28) (ref := RX5) F.x F.b F.ts in_ws5 tyX5 tyX5_ok nmX5 F.ow hw.1 hw.2.1 hw.2.2.1 hw.2.2.2 0 rfl rfl 25 (by decide) (F.ts _ (BG_in 730 (by decide +kernel) (by decide +kernel) : Cond.fieldLink RX5 264 RX5 "hadG" "I" ∈ BG)) (fun _ h9 => h9) rfl (by decide +kernel) rfl rfl (Nat.le_of_ble_eq_true rfl) hdg (fun H locs hP hD hS => kk H locs ⟨hw.1, hP, hD, hS⟩)
theorem gf_5_267 {yp : Int32} {ye : Int32} {yg : Int32} {bPo : Nat → Int32} {bTb : Nat → Int32} {wSh : Nat → Int64} {wTe : Nat → Int64} {wNx : Nat → Int64} {bOs : Nat → Int32} {bOn : Nat → Int32} {yop : Int32} {bSo : Nat → Int32} {bNu : Nat → Int32} {ytr : Int32} {yiw : Int32} {wMa : Nat → Int64} {wPr : Nat → Int64} {bTp : Nat → Int32} {yln : Int32} {ypl : Int32} {yfa : Int32} {wLi : Nat → Int64} {bSi : Nat → Int32} {yhp : Int32} {yhe : Int32} {yhg : Int32} {wHs : Nat → Int64} {yhi : Int32} (F : Fx p s m args meth c cc nL RX5 ret) (hw : Wd G s A (mW G q yp ye yg bPo bTb wSh wTe wNx bOs bOn yop bSo bNu ytr yiw wMa wPr bTp yln ypl yfa wLi bSi yhp yhe yhg wHs yhi ++ fr) H locs) (hdg : decode cc pc = .ok (.getfield 267, 3)) (kk : W p l e R s m args below meth c H locs 0 0 Q (F0 m (pc + 3) ls (.int yhi :: rest))) : W p l e R s m args below meth c H locs 0 0 Q (F0 m pc ls (.ref (q 0) :: rest)) :=
  va_get (D := G.1) (ci := 5) (v := .int yhi) (C := RX5) (T := TX5) (N := 28) (ref := RX5) F.x F.b F.ts in_ws5 F.ow hw.1 hw.2.1 0 rfl rfl 27 (by decide) (F.ts _ (BG_in 732 (by decide +kernel) (by decide +kernel) : Cond.fieldLink RX5 267 RX5 "hasImage" "Z" ∈ BG)) (fun _ h9 => h9) rfl hdg kk
theorem pf_5_267 {yp : Int32} {ye : Int32} {yg : Int32} {bPo : Nat → Int32} {bTb : Nat → Int32} {wSh : Nat → Int64} {wTe : Nat → Int64} {wNx : Nat → Int64} {bOs : Nat → Int32} {bOn : Nat → Int32} {yop : Int32} {bSo : Nat → Int32} {bNu : Nat → Int32} {ytr : Int32} {yiw : Int32} {wMa : Nat → Int64} {wPr : Nat → Int64} {bTp : Nat → Int32} {yln : Int32} {ypl : Int32} {yfa : Int32} {wLi : Nat → Int64} {bSi : Nat → Int32} {yhp : Int32} {yhe : Int32} {yhg : Int32} {wHs : Nat → Int64} {yhi : Int32} {v : Int32} (hv : v = 0 ∨ v = 1) (F : Fx p s m args meth c cc nL RX5 ret) (hw : Wd G s A (mW G q yp ye yg bPo bTb wSh wTe wNx bOs bOn yop bSo bNu ytr yiw wMa wPr bTp yln ypl yfa wLi bSi yhp yhe yhg wHs yhi ++ fr) H locs) (hdg : decode cc pc = .ok (.putfield 267, 3)) (kk : ∀ (H : Heap) (locs : List Loc), Wd G s A (mW G q yp ye yg bPo bTb wSh wTe wNx bOs bOn yop bSo bNu ytr yiw wMa wPr bTp yln ypl yfa wLi bSi yhp yhe yhg wHs v ++ fr) H locs → W p l e R s m args below meth c H locs 0 0 Q (F0 m (pc + 3) ls rest)) : W p l e R s m args below meth c H locs 0 0 Q (F0 m pc ls (.int v :: .ref (q 0) :: rest)) :=
  va_put (D := G.1) (ci := 5) (v := .int v) (ty := .boolean) (C := RX5) (T := TX5) (N := 28) (ref := RX5) F.x F.b F.ts in_ws5 tyX5 tyX5_ok nmX5 F.ow hw.1 hw.2.1 hw.2.2.1 hw.2.2.2 0 rfl rfl 27 (by decide) (F.ts _ (BG_in 732 (by decide +kernel) (by decide +kernel) : Cond.fieldLink RX5 267 RX5 "hasImage" "Z" ∈ BG)) (fun _ h9 => h9) rfl (by decide +kernel) (nz_bool hv) (by rcases hv with rfl | rfl <;> rfl) (Nat.le_of_ble_eq_true rfl) hdg (fun H locs hP hD hS => kk H locs ⟨hw.1, hP, hD, hS⟩)
theorem va_aldA {cl : List vw_C} {ws : va_W} {a : Nat} (hexec : p.tables.exec = Jvm.exec) (hb : c.code = cc) (hK : va_K G.1 classes (ty4 G) s) (hP : va_P G.1 cl ws H) (q0 : Nat) {cA : ClassId} {n : Nat} {f : Nat → Option Nat} (ha : ws[q0]? = some (a, .inl (G.2.2.2.2, n, .inr (.inr (.inr (.inr f)))))) {i : Int32} (hin : vp_in i n) (hdg : decode cc pc = .ok (.aaload, 1))
    (kk : W p l e R s m args below meth c H locs 0 0 Q (F0 m (pc + 1) ls (va_rf (f i.toNatClampNeg) :: rest))) : W p l e R s m args below meth c H locs 0 0 Q (F0 m pc ls (.int i :: .ref a :: rest)) := by
  have hlt : i.toNatClampNeg < n := Nat.not_le.mp fun q => hin (Or.inr q)
  exact W.aald (v := va_rf (f i.toNatClampNeg)) (ty := .array .long) hexec hb (hP q0 _ ha) ((hK.2 3 _ rfl).1 n (fun j => va_rf (f j))) rfl (fun q => by cases q) (by show ¬ (i < 0 ∨ (arrV _ _ _).slots.size ≤ _); rw [arrV_size]; exact hin) (by show (arrV _ _ _).slots[_]? = _; rw [arrV_read _ _ hlt]) rfl rfl hdg kk
theorem al_c1 {own : String} {zp : Int32} {ze : Int32} {zf : Int32} {zg : Int32} {zn : Int32} {aG : Nat → Int32} {aW : Nat → Int32} {aR : Nat → Int32} {aN : Nat → Int32} {aF : Nat → Int32} {lC : Nat → Int64} {lS : Nat → Int64} {lP : Nat → Int64} {lX : Nat → Int64} {i : Int32} (F : Fx p s m args meth c cc nL own ret) (hw : Wd G s A (kW G q zp ze zf zg zn aG aW aR aN aF lC lS lP lX ++ fr) H locs) (hi : inb i 61 = true) (hdg : decode cc pc = .ok (.iaload, 1)) (kk : W p l e R s m args below meth c H locs 0 0 Q (F0 m (pc + 1) ls (.int (aG i.toNatClampNeg) :: rest))) : W p l e R s m args below meth c H locs 0 0 Q (F0 m pc ls (.int i :: .ref (q 1) :: rest)) :=
  va_iald F.x F.b hw.1 hw.2.1 1 0 (cA := G.2.1) (n := 61) (f := aG) rfl rfl (inb_vp hi) hdg kk
theorem as_c1 {own : String} {zp : Int32} {ze : Int32} {zf : Int32} {zg : Int32} {zn : Int32} {aG : Nat → Int32} {aW : Nat → Int32} {aR : Nat → Int32} {aN : Nat → Int32} {aF : Nat → Int32} {lC : Nat → Int64} {lS : Nat → Int64} {lP : Nat → Int64} {lX : Nat → Int64} {i x : Int32} (F : Fx p s m args meth c cc nL own ret) (hw : Wd G s A (kW G q zp ze zf zg zn aG aW aR aN aF lC lS lP lX ++ fr) H locs) (hi : inb i 61 = true) (hdg : decode cc pc = .ok (.iastore, 1)) (kk : ∀ (H : Heap) (locs : List Loc), Wd G s A (kW G q zp ze zf zg zn (upd aG i.toNatClampNeg x) aW aR aN aF lC lS lP lX ++ fr) H locs → W p l e R s m args below meth c H locs 0 0 Q (F0 m (pc + 1) ls rest)) : W p l e R s m args below meth c H locs 0 0 Q (F0 m pc ls (.int x :: .int i :: .ref (q 1) :: rest)) :=
  va_iast F.x F.b hw.1 hw.2.1 hw.2.2.1 hw.2.2.2 1 0 (cA := G.2.1) (n := 61) (f := aG) rfl rfl (inb_vp hi) hdg (fun H locs hP hD hS => kk H locs ⟨hw.1, hP, hD, hS⟩)
theorem al_c2 {own : String} {zp : Int32} {ze : Int32} {zf : Int32} {zg : Int32} {zn : Int32} {aG : Nat → Int32} {aW : Nat → Int32} {aR : Nat → Int32} {aN : Nat → Int32} {aF : Nat → Int32} {lC : Nat → Int64} {lS : Nat → Int64} {lP : Nat → Int64} {lX : Nat → Int64} {i : Int32} (F : Fx p s m args meth c cc nL own ret) (hw : Wd G s A (kW G q zp ze zf zg zn aG aW aR aN aF lC lS lP lX ++ fr) H locs) (hi : inb i 61 = true) (hdg : decode cc pc = .ok (.iaload, 1)) (kk : W p l e R s m args below meth c H locs 0 0 Q (F0 m (pc + 1) ls (.int (aW i.toNatClampNeg) :: rest))) : W p l e R s m args below meth c H locs 0 0 Q (F0 m pc ls (.int i :: .ref (q 2) :: rest)) :=
  va_iald F.x F.b hw.1 hw.2.1 2 0 (cA := G.2.1) (n := 61) (f := aW) rfl rfl (inb_vp hi) hdg kk
theorem as_c2 {own : String} {zp : Int32} {ze : Int32} {zf : Int32} {zg : Int32} {zn : Int32} {aG : Nat → Int32} {aW : Nat → Int32} {aR : Nat → Int32} {aN : Nat → Int32} {aF : Nat → Int32} {lC : Nat → Int64} {lS : Nat → Int64} {lP : Nat → Int64} {lX : Nat → Int64} {i x : Int32} (F : Fx p s m args meth c cc nL own ret) (hw : Wd G s A (kW G q zp ze zf zg zn aG aW aR aN aF lC lS lP lX ++ fr) H locs) (hi : inb i 61 = true) (hdg : decode cc pc = .ok (.iastore, 1)) (kk : ∀ (H : Heap) (locs : List Loc), Wd G s A (kW G q zp ze zf zg zn aG (upd aW i.toNatClampNeg x) aR aN aF lC lS lP lX ++ fr) H locs → W p l e R s m args below meth c H locs 0 0 Q (F0 m (pc + 1) ls rest)) : W p l e R s m args below meth c H locs 0 0 Q (F0 m pc ls (.int x :: .int i :: .ref (q 2) :: rest)) :=
  va_iast F.x F.b hw.1 hw.2.1 hw.2.2.1 hw.2.2.2 2 0 (cA := G.2.1) (n := 61) (f := aW) rfl rfl (inb_vp hi) hdg (fun H locs hP hD hS => kk H locs ⟨hw.1, hP, hD, hS⟩)
theorem al_c3 {own : String} {zp : Int32} {ze : Int32} {zf : Int32} {zg : Int32} {zn : Int32} {aG : Nat → Int32} {aW : Nat → Int32} {aR : Nat → Int32} {aN : Nat → Int32} {aF : Nat → Int32} {lC : Nat → Int64} {lS : Nat → Int64} {lP : Nat → Int64} {lX : Nat → Int64} {i : Int32} (F : Fx p s m args meth c cc nL own ret) (hw : Wd G s A (kW G q zp ze zf zg zn aG aW aR aN aF lC lS lP lX ++ fr) H locs) (hi : inb i 61 = true) (hdg : decode cc pc = .ok (.iaload, 1)) (kk : W p l e R s m args below meth c H locs 0 0 Q (F0 m (pc + 1) ls (.int (aR i.toNatClampNeg) :: rest))) : W p l e R s m args below meth c H locs 0 0 Q (F0 m pc ls (.int i :: .ref (q 3) :: rest)) :=
  va_iald F.x F.b hw.1 hw.2.1 3 0 (cA := G.2.1) (n := 61) (f := aR) rfl rfl (inb_vp hi) hdg kk
theorem as_c3 {own : String} {zp : Int32} {ze : Int32} {zf : Int32} {zg : Int32} {zn : Int32} {aG : Nat → Int32} {aW : Nat → Int32} {aR : Nat → Int32} {aN : Nat → Int32} {aF : Nat → Int32} {lC : Nat → Int64} {lS : Nat → Int64} {lP : Nat → Int64} {lX : Nat → Int64} {i x : Int32} (F : Fx p s m args meth c cc nL own ret) (hw : Wd G s A (kW G q zp ze zf zg zn aG aW aR aN aF lC lS lP lX ++ fr) H locs) (hi : inb i 61 = true) (hdg : decode cc pc = .ok (.iastore, 1)) (kk : ∀ (H : Heap) (locs : List Loc), Wd G s A (kW G q zp ze zf zg zn aG aW (upd aR i.toNatClampNeg x) aN aF lC lS lP lX ++ fr) H locs → W p l e R s m args below meth c H locs 0 0 Q (F0 m (pc + 1) ls rest)) : W p l e R s m args below meth c H locs 0 0 Q (F0 m pc ls (.int x :: .int i :: .ref (q 3) :: rest)) :=
  va_iast F.x F.b hw.1 hw.2.1 hw.2.2.1 hw.2.2.2 3 0 (cA := G.2.1) (n := 61) (f := aR) rfl rfl (inb_vp hi) hdg (fun H locs hP hD hS => kk H locs ⟨hw.1, hP, hD, hS⟩)
theorem al_c4 {own : String} {zp : Int32} {ze : Int32} {zf : Int32} {zg : Int32} {zn : Int32} {aG : Nat → Int32} {aW : Nat → Int32} {aR : Nat → Int32} {aN : Nat → Int32} {aF : Nat → Int32} {lC : Nat → Int64} {lS : Nat → Int64} {lP : Nat → Int64} {lX : Nat → Int64} {i : Int32} (F : Fx p s m args meth c cc nL own ret) (hw : Wd G s A (kW G q zp ze zf zg zn aG aW aR aN aF lC lS lP lX ++ fr) H locs) (hi : inb i 144 = true) (hdg : decode cc pc = .ok (.iaload, 1)) (kk : W p l e R s m args below meth c H locs 0 0 Q (F0 m (pc + 1) ls (.int (aN i.toNatClampNeg) :: rest))) : W p l e R s m args below meth c H locs 0 0 Q (F0 m pc ls (.int i :: .ref (q 4) :: rest)) :=
  va_iald F.x F.b hw.1 hw.2.1 4 0 (cA := G.2.1) (n := 144) (f := aN) rfl rfl (inb_vp hi) hdg kk
theorem as_c4 {own : String} {zp : Int32} {ze : Int32} {zf : Int32} {zg : Int32} {zn : Int32} {aG : Nat → Int32} {aW : Nat → Int32} {aR : Nat → Int32} {aN : Nat → Int32} {aF : Nat → Int32} {lC : Nat → Int64} {lS : Nat → Int64} {lP : Nat → Int64} {lX : Nat → Int64} {i x : Int32} (F : Fx p s m args meth c cc nL own ret) (hw : Wd G s A (kW G q zp ze zf zg zn aG aW aR aN aF lC lS lP lX ++ fr) H locs) (hi : inb i 144 = true) (hdg : decode cc pc = .ok (.iastore, 1)) (kk : ∀ (H : Heap) (locs : List Loc), Wd G s A (kW G q zp ze zf zg zn aG aW aR (upd aN i.toNatClampNeg x) aF lC lS lP lX ++ fr) H locs → W p l e R s m args below meth c H locs 0 0 Q (F0 m (pc + 1) ls rest)) : W p l e R s m args below meth c H locs 0 0 Q (F0 m pc ls (.int x :: .int i :: .ref (q 4) :: rest)) :=
  va_iast F.x F.b hw.1 hw.2.1 hw.2.2.1 hw.2.2.2 4 0 (cA := G.2.1) (n := 144) (f := aN) rfl rfl (inb_vp hi) hdg (fun H locs hP hD hS => kk H locs ⟨hw.1, hP, hD, hS⟩)
theorem al_c5 {own : String} {zp : Int32} {ze : Int32} {zf : Int32} {zg : Int32} {zn : Int32} {aG : Nat → Int32} {aW : Nat → Int32} {aR : Nat → Int32} {aN : Nat → Int32} {aF : Nat → Int32} {lC : Nat → Int64} {lS : Nat → Int64} {lP : Nat → Int64} {lX : Nat → Int64} {i : Int32} (F : Fx p s m args meth c cc nL own ret) (hw : Wd G s A (kW G q zp ze zf zg zn aG aW aR aN aF lC lS lP lX ++ fr) H locs) (hi : inb i 1728 = true) (hdg : decode cc pc = .ok (.iaload, 1)) (kk : W p l e R s m args below meth c H locs 0 0 Q (F0 m (pc + 1) ls (.int (aF i.toNatClampNeg) :: rest))) : W p l e R s m args below meth c H locs 0 0 Q (F0 m pc ls (.int i :: .ref (q 5) :: rest)) :=
  va_iald F.x F.b hw.1 hw.2.1 5 0 (cA := G.2.1) (n := 1728) (f := aF) rfl rfl (inb_vp hi) hdg kk
theorem as_c5 {own : String} {zp : Int32} {ze : Int32} {zf : Int32} {zg : Int32} {zn : Int32} {aG : Nat → Int32} {aW : Nat → Int32} {aR : Nat → Int32} {aN : Nat → Int32} {aF : Nat → Int32} {lC : Nat → Int64} {lS : Nat → Int64} {lP : Nat → Int64} {lX : Nat → Int64} {i x : Int32} (F : Fx p s m args meth c cc nL own ret) (hw : Wd G s A (kW G q zp ze zf zg zn aG aW aR aN aF lC lS lP lX ++ fr) H locs) (hi : inb i 1728 = true) (hdg : decode cc pc = .ok (.iastore, 1)) (kk : ∀ (H : Heap) (locs : List Loc), Wd G s A (kW G q zp ze zf zg zn aG aW aR aN (upd aF i.toNatClampNeg x) lC lS lP lX ++ fr) H locs → W p l e R s m args below meth c H locs 0 0 Q (F0 m (pc + 1) ls rest)) : W p l e R s m args below meth c H locs 0 0 Q (F0 m pc ls (.int x :: .int i :: .ref (q 5) :: rest)) :=
  va_iast F.x F.b hw.1 hw.2.1 hw.2.2.1 hw.2.2.2 5 0 (cA := G.2.1) (n := 1728) (f := aF) rfl rfl (inb_vp hi) hdg (fun H locs hP hD hS => kk H locs ⟨hw.1, hP, hD, hS⟩)
theorem al_c6 {own : String} {zp : Int32} {ze : Int32} {zf : Int32} {zg : Int32} {zn : Int32} {aG : Nat → Int32} {aW : Nat → Int32} {aR : Nat → Int32} {aN : Nat → Int32} {aF : Nat → Int32} {lC : Nat → Int64} {lS : Nat → Int64} {lP : Nat → Int64} {lX : Nat → Int64} {i : Int32} (F : Fx p s m args meth c cc nL own ret) (hw : Wd G s A (kW G q zp ze zf zg zn aG aW aR aN aF lC lS lP lX ++ fr) H locs) (hi : inb i 13 = true) (hdg : decode cc pc = .ok (.laload, 1)) (kk : W p l e R s m args below meth c H locs 0 0 Q (F0 m (pc + 1) ls (.long (lC i.toNatClampNeg) :: rest))) : W p l e R s m args below meth c H locs 0 0 Q (F0 m pc ls (.int i :: .ref (q 6) :: rest)) :=
  va_lald F.x F.b hw.1 hw.2.1 6 2 (cA := G.2.2.2.1) (n := 13) (f := lC) rfl rfl (inb_vp hi) hdg kk
theorem as_c6 {own : String} {zp : Int32} {ze : Int32} {zf : Int32} {zg : Int32} {zn : Int32} {aG : Nat → Int32} {aW : Nat → Int32} {aR : Nat → Int32} {aN : Nat → Int32} {aF : Nat → Int32} {lC : Nat → Int64} {lS : Nat → Int64} {lP : Nat → Int64} {lX : Nat → Int64} {i : Int32} {x : Int64} (F : Fx p s m args meth c cc nL own ret) (hw : Wd G s A (kW G q zp ze zf zg zn aG aW aR aN aF lC lS lP lX ++ fr) H locs) (hi : inb i 13 = true) (hdg : decode cc pc = .ok (.lastore, 1)) (kk : ∀ (H : Heap) (locs : List Loc), Wd G s A (kW G q zp ze zf zg zn aG aW aR aN aF (vp_updL lC i.toNatClampNeg x) lS lP lX ++ fr) H locs → W p l e R s m args below meth c H locs 0 0 Q (F0 m (pc + 1) ls rest)) : W p l e R s m args below meth c H locs 0 0 Q (F0 m pc ls (.long x :: .int i :: .ref (q 6) :: rest)) :=
  va_last F.x F.b hw.1 hw.2.1 hw.2.2.1 hw.2.2.2 6 2 (cA := G.2.2.2.1) (n := 13) (f := lC) rfl rfl (inb_vp hi) hdg (fun H locs hP hD hS => kk H locs ⟨hw.1, hP, hD, hS⟩)
theorem al_c7 {own : String} {zp : Int32} {ze : Int32} {zf : Int32} {zg : Int32} {zn : Int32} {aG : Nat → Int32} {aW : Nat → Int32} {aR : Nat → Int32} {aN : Nat → Int32} {aF : Nat → Int32} {lC : Nat → Int64} {lS : Nat → Int64} {lP : Nat → Int64} {lX : Nat → Int64} {i : Int32} (F : Fx p s m args meth c cc nL own ret) (hw : Wd G s A (kW G q zp ze zf zg zn aG aW aR aN aF lC lS lP lX ++ fr) H locs) (hi : inb i 13 = true) (hdg : decode cc pc = .ok (.laload, 1)) (kk : W p l e R s m args below meth c H locs 0 0 Q (F0 m (pc + 1) ls (.long (lS i.toNatClampNeg) :: rest))) : W p l e R s m args below meth c H locs 0 0 Q (F0 m pc ls (.int i :: .ref (q 7) :: rest)) :=
  va_lald F.x F.b hw.1 hw.2.1 7 2 (cA := G.2.2.2.1) (n := 13) (f := lS) rfl rfl (inb_vp hi) hdg kk
theorem as_c7 {own : String} {zp : Int32} {ze : Int32} {zf : Int32} {zg : Int32} {zn : Int32} {aG : Nat → Int32} {aW : Nat → Int32} {aR : Nat → Int32} {aN : Nat → Int32} {aF : Nat → Int32} {lC : Nat → Int64} {lS : Nat → Int64} {lP : Nat → Int64} {lX : Nat → Int64} {i : Int32} {x : Int64} (F : Fx p s m args meth c cc nL own ret) (hw : Wd G s A (kW G q zp ze zf zg zn aG aW aR aN aF lC lS lP lX ++ fr) H locs) (hi : inb i 13 = true) (hdg : decode cc pc = .ok (.lastore, 1)) (kk : ∀ (H : Heap) (locs : List Loc), Wd G s A (kW G q zp ze zf zg zn aG aW aR aN aF lC (vp_updL lS i.toNatClampNeg x) lP lX ++ fr) H locs → W p l e R s m args below meth c H locs 0 0 Q (F0 m (pc + 1) ls rest)) : W p l e R s m args below meth c H locs 0 0 Q (F0 m pc ls (.long x :: .int i :: .ref (q 7) :: rest)) :=
  va_last F.x F.b hw.1 hw.2.1 hw.2.2.1 hw.2.2.2 7 2 (cA := G.2.2.2.1) (n := 13) (f := lS) rfl rfl (inb_vp hi) hdg (fun H locs hP hD hS => kk H locs ⟨hw.1, hP, hD, hS⟩)
theorem al_c8 {own : String} {zp : Int32} {ze : Int32} {zf : Int32} {zg : Int32} {zn : Int32} {aG : Nat → Int32} {aW : Nat → Int32} {aR : Nat → Int32} {aN : Nat → Int32} {aF : Nat → Int32} {lC : Nat → Int64} {lS : Nat → Int64} {lP : Nat → Int64} {lX : Nat → Int64} {i : Int32} (F : Fx p s m args meth c cc nL own ret) (hw : Wd G s A (kW G q zp ze zf zg zn aG aW aR aN aF lC lS lP lX ++ fr) H locs) (hi : inb i 12 = true) (hdg : decode cc pc = .ok (.laload, 1)) (kk : W p l e R s m args below meth c H locs 0 0 Q (F0 m (pc + 1) ls (.long (lP i.toNatClampNeg) :: rest))) : W p l e R s m args below meth c H locs 0 0 Q (F0 m pc ls (.int i :: .ref (q 8) :: rest)) :=
  va_lald F.x F.b hw.1 hw.2.1 8 2 (cA := G.2.2.2.1) (n := 12) (f := lP) rfl rfl (inb_vp hi) hdg kk
theorem as_c8 {own : String} {zp : Int32} {ze : Int32} {zf : Int32} {zg : Int32} {zn : Int32} {aG : Nat → Int32} {aW : Nat → Int32} {aR : Nat → Int32} {aN : Nat → Int32} {aF : Nat → Int32} {lC : Nat → Int64} {lS : Nat → Int64} {lP : Nat → Int64} {lX : Nat → Int64} {i : Int32} {x : Int64} (F : Fx p s m args meth c cc nL own ret) (hw : Wd G s A (kW G q zp ze zf zg zn aG aW aR aN aF lC lS lP lX ++ fr) H locs) (hi : inb i 12 = true) (hdg : decode cc pc = .ok (.lastore, 1)) (kk : ∀ (H : Heap) (locs : List Loc), Wd G s A (kW G q zp ze zf zg zn aG aW aR aN aF lC lS (vp_updL lP i.toNatClampNeg x) lX ++ fr) H locs → W p l e R s m args below meth c H locs 0 0 Q (F0 m (pc + 1) ls rest)) : W p l e R s m args below meth c H locs 0 0 Q (F0 m pc ls (.long x :: .int i :: .ref (q 8) :: rest)) :=
  va_last F.x F.b hw.1 hw.2.1 hw.2.2.1 hw.2.2.2 8 2 (cA := G.2.2.2.1) (n := 12) (f := lP) rfl rfl (inb_vp hi) hdg (fun H locs hP hD hS => kk H locs ⟨hw.1, hP, hD, hS⟩)
theorem al_c9 {own : String} {zp : Int32} {ze : Int32} {zf : Int32} {zg : Int32} {zn : Int32} {aG : Nat → Int32} {aW : Nat → Int32} {aR : Nat → Int32} {aN : Nat → Int32} {aF : Nat → Int32} {lC : Nat → Int64} {lS : Nat → Int64} {lP : Nat → Int64} {lX : Nat → Int64} {i : Int32} (F : Fx p s m args meth c cc nL own ret) (hw : Wd G s A (kW G q zp ze zf zg zn aG aW aR aN aF lC lS lP lX ++ fr) H locs) (hi : inb i 12 = true) (hdg : decode cc pc = .ok (.laload, 1)) (kk : W p l e R s m args below meth c H locs 0 0 Q (F0 m (pc + 1) ls (.long (lX i.toNatClampNeg) :: rest))) : W p l e R s m args below meth c H locs 0 0 Q (F0 m pc ls (.int i :: .ref (q 9) :: rest)) :=
  va_lald F.x F.b hw.1 hw.2.1 9 2 (cA := G.2.2.2.1) (n := 12) (f := lX) rfl rfl (inb_vp hi) hdg kk
theorem as_c9 {own : String} {zp : Int32} {ze : Int32} {zf : Int32} {zg : Int32} {zn : Int32} {aG : Nat → Int32} {aW : Nat → Int32} {aR : Nat → Int32} {aN : Nat → Int32} {aF : Nat → Int32} {lC : Nat → Int64} {lS : Nat → Int64} {lP : Nat → Int64} {lX : Nat → Int64} {i : Int32} {x : Int64} (F : Fx p s m args meth c cc nL own ret) (hw : Wd G s A (kW G q zp ze zf zg zn aG aW aR aN aF lC lS lP lX ++ fr) H locs) (hi : inb i 12 = true) (hdg : decode cc pc = .ok (.lastore, 1)) (kk : ∀ (H : Heap) (locs : List Loc), Wd G s A (kW G q zp ze zf zg zn aG aW aR aN aF lC lS lP (vp_updL lX i.toNatClampNeg x) ++ fr) H locs → W p l e R s m args below meth c H locs 0 0 Q (F0 m (pc + 1) ls rest)) : W p l e R s m args below meth c H locs 0 0 Q (F0 m pc ls (.long x :: .int i :: .ref (q 9) :: rest)) :=
  va_last F.x F.b hw.1 hw.2.1 hw.2.2.1 hw.2.2.2 9 2 (cA := G.2.2.2.1) (n := 12) (f := lX) rfl rfl (inb_vp hi) hdg (fun H locs hP hD hS => kk H locs ⟨hw.1, hP, hD, hS⟩)
theorem al_c11 {own : String} {zp : Int32} {ze : Int32} {zf : Int32} {zg : Int32} {zn : Int32} {aG : Nat → Int32} {aW : Nat → Int32} {aR : Nat → Int32} {aN : Nat → Int32} {aF : Nat → Int32} {lC : Nat → Int64} {lS : Nat → Int64} {lP : Nat → Int64} {lX : Nat → Int64} {ztc : Int32} {aTs : Nat → Int32} {aTn : Nat → Int32} {zoc : Int32} {aOs : Nat → Int32} {aOn : Nat → Int32} {aTp : Nat → Int32} {zln : Int32} {zpl : Int32} {zfa : Int32} {aSz : Nat → Int32} {zit : Int32} {zip : Int32} {zic : Int32} {zig : Int32} {M : Nat → Nat → Int64} {i : Int32} (F : Fx p s m args meth c cc nL own ret) (hw : Wd G s A (kW G q zp ze zf zg zn aG aW aR aN aF lC lS lP lX ++ (oW G q ztc aTs aTn zoc aOs aOn aTp zln zpl zfa aSz zit zip zic zig M ++ fr)) H locs) (hi : inb i 6 = true) (hdg : decode cc pc = .ok (.iaload, 1)) (kk : W p l e R s m args below meth c H locs 0 0 Q (F0 m (pc + 1) ls (.int (aTs i.toNatClampNeg) :: rest))) : W p l e R s m args below meth c H locs 0 0 Q (F0 m pc ls (.int i :: .ref (q 11) :: rest)) :=
  va_iald F.x F.b hw.1 hw.2.1 11 0 (cA := G.2.1) (n := 6) (f := aTs) rfl rfl (inb_vp hi) hdg kk
theorem as_c11 {own : String} {zp : Int32} {ze : Int32} {zf : Int32} {zg : Int32} {zn : Int32} {aG : Nat → Int32} {aW : Nat → Int32} {aR : Nat → Int32} {aN : Nat → Int32} {aF : Nat → Int32} {lC : Nat → Int64} {lS : Nat → Int64} {lP : Nat → Int64} {lX : Nat → Int64} {ztc : Int32} {aTs : Nat → Int32} {aTn : Nat → Int32} {zoc : Int32} {aOs : Nat → Int32} {aOn : Nat → Int32} {aTp : Nat → Int32} {zln : Int32} {zpl : Int32} {zfa : Int32} {aSz : Nat → Int32} {zit : Int32} {zip : Int32} {zic : Int32} {zig : Int32} {M : Nat → Nat → Int64} {i x : Int32} (F : Fx p s m args meth c cc nL own ret) (hw : Wd G s A (kW G q zp ze zf zg zn aG aW aR aN aF lC lS lP lX ++ (oW G q ztc aTs aTn zoc aOs aOn aTp zln zpl zfa aSz zit zip zic zig M ++ fr)) H locs) (hi : inb i 6 = true) (hdg : decode cc pc = .ok (.iastore, 1)) (kk : ∀ (H : Heap) (locs : List Loc), Wd G s A (kW G q zp ze zf zg zn aG aW aR aN aF lC lS lP lX ++ (oW G q ztc (upd aTs i.toNatClampNeg x) aTn zoc aOs aOn aTp zln zpl zfa aSz zit zip zic zig M ++ fr)) H locs → W p l e R s m args below meth c H locs 0 0 Q (F0 m (pc + 1) ls rest)) : W p l e R s m args below meth c H locs 0 0 Q (F0 m pc ls (.int x :: .int i :: .ref (q 11) :: rest)) :=
  va_iast F.x F.b hw.1 hw.2.1 hw.2.2.1 hw.2.2.2 11 0 (cA := G.2.1) (n := 6) (f := aTs) rfl rfl (inb_vp hi) hdg (fun H locs hP hD hS => kk H locs ⟨hw.1, hP, hD, hS⟩)
theorem al_c12 {own : String} {zp : Int32} {ze : Int32} {zf : Int32} {zg : Int32} {zn : Int32} {aG : Nat → Int32} {aW : Nat → Int32} {aR : Nat → Int32} {aN : Nat → Int32} {aF : Nat → Int32} {lC : Nat → Int64} {lS : Nat → Int64} {lP : Nat → Int64} {lX : Nat → Int64} {ztc : Int32} {aTs : Nat → Int32} {aTn : Nat → Int32} {zoc : Int32} {aOs : Nat → Int32} {aOn : Nat → Int32} {aTp : Nat → Int32} {zln : Int32} {zpl : Int32} {zfa : Int32} {aSz : Nat → Int32} {zit : Int32} {zip : Int32} {zic : Int32} {zig : Int32} {M : Nat → Nat → Int64} {i : Int32} (F : Fx p s m args meth c cc nL own ret) (hw : Wd G s A (kW G q zp ze zf zg zn aG aW aR aN aF lC lS lP lX ++ (oW G q ztc aTs aTn zoc aOs aOn aTp zln zpl zfa aSz zit zip zic zig M ++ fr)) H locs) (hi : inb i 6 = true) (hdg : decode cc pc = .ok (.iaload, 1)) (kk : W p l e R s m args below meth c H locs 0 0 Q (F0 m (pc + 1) ls (.int (aTn i.toNatClampNeg) :: rest))) : W p l e R s m args below meth c H locs 0 0 Q (F0 m pc ls (.int i :: .ref (q 12) :: rest)) :=
  va_iald F.x F.b hw.1 hw.2.1 12 0 (cA := G.2.1) (n := 6) (f := aTn) rfl rfl (inb_vp hi) hdg kk
theorem as_c12 {own : String} {zp : Int32} {ze : Int32} {zf : Int32} {zg : Int32} {zn : Int32} {aG : Nat → Int32} {aW : Nat → Int32} {aR : Nat → Int32} {aN : Nat → Int32} {aF : Nat → Int32} {lC : Nat → Int64} {lS : Nat → Int64} {lP : Nat → Int64} {lX : Nat → Int64} {ztc : Int32} {aTs : Nat → Int32} {aTn : Nat → Int32} {zoc : Int32} {aOs : Nat → Int32} {aOn : Nat → Int32} {aTp : Nat → Int32} {zln : Int32} {zpl : Int32} {zfa : Int32} {aSz : Nat → Int32} {zit : Int32} {zip : Int32} {zic : Int32} {zig : Int32} {M : Nat → Nat → Int64} {i x : Int32} (F : Fx p s m args meth c cc nL own ret) (hw : Wd G s A (kW G q zp ze zf zg zn aG aW aR aN aF lC lS lP lX ++ (oW G q ztc aTs aTn zoc aOs aOn aTp zln zpl zfa aSz zit zip zic zig M ++ fr)) H locs) (hi : inb i 6 = true) (hdg : decode cc pc = .ok (.iastore, 1)) (kk : ∀ (H : Heap) (locs : List Loc), Wd G s A (kW G q zp ze zf zg zn aG aW aR aN aF lC lS lP lX ++ (oW G q ztc aTs (upd aTn i.toNatClampNeg x) zoc aOs aOn aTp zln zpl zfa aSz zit zip zic zig M ++ fr)) H locs → W p l e R s m args below meth c H locs 0 0 Q (F0 m (pc + 1) ls rest)) : W p l e R s m args below meth c H locs 0 0 Q (F0 m pc ls (.int x :: .int i :: .ref (q 12) :: rest)) :=
  va_iast F.x F.b hw.1 hw.2.1 hw.2.2.1 hw.2.2.2 12 0 (cA := G.2.1) (n := 6) (f := aTn) rfl rfl (inb_vp hi) hdg (fun H locs hP hD hS => kk H locs ⟨hw.1, hP, hD, hS⟩)
theorem al_c13 {own : String} {zp : Int32} {ze : Int32} {zf : Int32} {zg : Int32} {zn : Int32} {aG : Nat → Int32} {aW : Nat → Int32} {aR : Nat → Int32} {aN : Nat → Int32} {aF : Nat → Int32} {lC : Nat → Int64} {lS : Nat → Int64} {lP : Nat → Int64} {lX : Nat → Int64} {ztc : Int32} {aTs : Nat → Int32} {aTn : Nat → Int32} {zoc : Int32} {aOs : Nat → Int32} {aOn : Nat → Int32} {aTp : Nat → Int32} {zln : Int32} {zpl : Int32} {zfa : Int32} {aSz : Nat → Int32} {zit : Int32} {zip : Int32} {zic : Int32} {zig : Int32} {M : Nat → Nat → Int64} {i : Int32} (F : Fx p s m args meth c cc nL own ret) (hw : Wd G s A (kW G q zp ze zf zg zn aG aW aR aN aF lC lS lP lX ++ (oW G q ztc aTs aTn zoc aOs aOn aTp zln zpl zfa aSz zit zip zic zig M ++ fr)) H locs) (hi : inb i 6 = true) (hdg : decode cc pc = .ok (.iaload, 1)) (kk : W p l e R s m args below meth c H locs 0 0 Q (F0 m (pc + 1) ls (.int (aOs i.toNatClampNeg) :: rest))) : W p l e R s m args below meth c H locs 0 0 Q (F0 m pc ls (.int i :: .ref (q 13) :: rest)) :=
  va_iald F.x F.b hw.1 hw.2.1 13 0 (cA := G.2.1) (n := 6) (f := aOs) rfl rfl (inb_vp hi) hdg kk
theorem as_c13 {own : String} {zp : Int32} {ze : Int32} {zf : Int32} {zg : Int32} {zn : Int32} {aG : Nat → Int32} {aW : Nat → Int32} {aR : Nat → Int32} {aN : Nat → Int32} {aF : Nat → Int32} {lC : Nat → Int64} {lS : Nat → Int64} {lP : Nat → Int64} {lX : Nat → Int64} {ztc : Int32} {aTs : Nat → Int32} {aTn : Nat → Int32} {zoc : Int32} {aOs : Nat → Int32} {aOn : Nat → Int32} {aTp : Nat → Int32} {zln : Int32} {zpl : Int32} {zfa : Int32} {aSz : Nat → Int32} {zit : Int32} {zip : Int32} {zic : Int32} {zig : Int32} {M : Nat → Nat → Int64} {i x : Int32} (F : Fx p s m args meth c cc nL own ret) (hw : Wd G s A (kW G q zp ze zf zg zn aG aW aR aN aF lC lS lP lX ++ (oW G q ztc aTs aTn zoc aOs aOn aTp zln zpl zfa aSz zit zip zic zig M ++ fr)) H locs) (hi : inb i 6 = true) (hdg : decode cc pc = .ok (.iastore, 1)) (kk : ∀ (H : Heap) (locs : List Loc), Wd G s A (kW G q zp ze zf zg zn aG aW aR aN aF lC lS lP lX ++ (oW G q ztc aTs aTn zoc (upd aOs i.toNatClampNeg x) aOn aTp zln zpl zfa aSz zit zip zic zig M ++ fr)) H locs → W p l e R s m args below meth c H locs 0 0 Q (F0 m (pc + 1) ls rest)) : W p l e R s m args below meth c H locs 0 0 Q (F0 m pc ls (.int x :: .int i :: .ref (q 13) :: rest)) :=
  va_iast F.x F.b hw.1 hw.2.1 hw.2.2.1 hw.2.2.2 13 0 (cA := G.2.1) (n := 6) (f := aOs) rfl rfl (inb_vp hi) hdg (fun H locs hP hD hS => kk H locs ⟨hw.1, hP, hD, hS⟩)
theorem al_c14 {own : String} {zp : Int32} {ze : Int32} {zf : Int32} {zg : Int32} {zn : Int32} {aG : Nat → Int32} {aW : Nat → Int32} {aR : Nat → Int32} {aN : Nat → Int32} {aF : Nat → Int32} {lC : Nat → Int64} {lS : Nat → Int64} {lP : Nat → Int64} {lX : Nat → Int64} {ztc : Int32} {aTs : Nat → Int32} {aTn : Nat → Int32} {zoc : Int32} {aOs : Nat → Int32} {aOn : Nat → Int32} {aTp : Nat → Int32} {zln : Int32} {zpl : Int32} {zfa : Int32} {aSz : Nat → Int32} {zit : Int32} {zip : Int32} {zic : Int32} {zig : Int32} {M : Nat → Nat → Int64} {i : Int32} (F : Fx p s m args meth c cc nL own ret) (hw : Wd G s A (kW G q zp ze zf zg zn aG aW aR aN aF lC lS lP lX ++ (oW G q ztc aTs aTn zoc aOs aOn aTp zln zpl zfa aSz zit zip zic zig M ++ fr)) H locs) (hi : inb i 6 = true) (hdg : decode cc pc = .ok (.iaload, 1)) (kk : W p l e R s m args below meth c H locs 0 0 Q (F0 m (pc + 1) ls (.int (aOn i.toNatClampNeg) :: rest))) : W p l e R s m args below meth c H locs 0 0 Q (F0 m pc ls (.int i :: .ref (q 14) :: rest)) :=
  va_iald F.x F.b hw.1 hw.2.1 14 0 (cA := G.2.1) (n := 6) (f := aOn) rfl rfl (inb_vp hi) hdg kk
theorem as_c14 {own : String} {zp : Int32} {ze : Int32} {zf : Int32} {zg : Int32} {zn : Int32} {aG : Nat → Int32} {aW : Nat → Int32} {aR : Nat → Int32} {aN : Nat → Int32} {aF : Nat → Int32} {lC : Nat → Int64} {lS : Nat → Int64} {lP : Nat → Int64} {lX : Nat → Int64} {ztc : Int32} {aTs : Nat → Int32} {aTn : Nat → Int32} {zoc : Int32} {aOs : Nat → Int32} {aOn : Nat → Int32} {aTp : Nat → Int32} {zln : Int32} {zpl : Int32} {zfa : Int32} {aSz : Nat → Int32} {zit : Int32} {zip : Int32} {zic : Int32} {zig : Int32} {M : Nat → Nat → Int64} {i x : Int32} (F : Fx p s m args meth c cc nL own ret) (hw : Wd G s A (kW G q zp ze zf zg zn aG aW aR aN aF lC lS lP lX ++ (oW G q ztc aTs aTn zoc aOs aOn aTp zln zpl zfa aSz zit zip zic zig M ++ fr)) H locs) (hi : inb i 6 = true) (hdg : decode cc pc = .ok (.iastore, 1)) (kk : ∀ (H : Heap) (locs : List Loc), Wd G s A (kW G q zp ze zf zg zn aG aW aR aN aF lC lS lP lX ++ (oW G q ztc aTs aTn zoc aOs (upd aOn i.toNatClampNeg x) aTp zln zpl zfa aSz zit zip zic zig M ++ fr)) H locs → W p l e R s m args below meth c H locs 0 0 Q (F0 m (pc + 1) ls rest)) : W p l e R s m args below meth c H locs 0 0 Q (F0 m pc ls (.int x :: .int i :: .ref (q 14) :: rest)) :=
  va_iast F.x F.b hw.1 hw.2.1 hw.2.2.1 hw.2.2.2 14 0 (cA := G.2.1) (n := 6) (f := aOn) rfl rfl (inb_vp hi) hdg (fun H locs hP hD hS => kk H locs ⟨hw.1, hP, hD, hS⟩)
theorem al_c17 {own : String} {zp : Int32} {ze : Int32} {zf : Int32} {zg : Int32} {zn : Int32} {aG : Nat → Int32} {aW : Nat → Int32} {aR : Nat → Int32} {aN : Nat → Int32} {aF : Nat → Int32} {lC : Nat → Int64} {lS : Nat → Int64} {lP : Nat → Int64} {lX : Nat → Int64} {ztc : Int32} {aTs : Nat → Int32} {aTn : Nat → Int32} {zoc : Int32} {aOs : Nat → Int32} {aOn : Nat → Int32} {aTp : Nat → Int32} {zln : Int32} {zpl : Int32} {zfa : Int32} {aSz : Nat → Int32} {zit : Int32} {zip : Int32} {zic : Int32} {zig : Int32} {M : Nat → Nat → Int64} {i : Int32} (F : Fx p s m args meth c cc nL own ret) (hw : Wd G s A (kW G q zp ze zf zg zn aG aW aR aN aF lC lS lP lX ++ (oW G q ztc aTs aTn zoc aOs aOn aTp zln zpl zfa aSz zit zip zic zig M ++ fr)) H locs) (hi : inb i 80 = true) (hdg : decode cc pc = .ok (.baload, 1)) (kk : W p l e R s m args below meth c H locs 0 0 Q (F0 m (pc + 1) ls (.int (aTp i.toNatClampNeg) :: rest))) : W p l e R s m args below meth c H locs 0 0 Q (F0 m pc ls (.int i :: .ref (q 17) :: rest)) :=
  va_bald F.x F.b hw.1 hw.2.1 17 1 (cA := G.2.2.1) (n := 80) (f := aTp) rfl rfl (inb_vp hi) hdg kk
theorem as_c17 {own : String} {zp : Int32} {ze : Int32} {zf : Int32} {zg : Int32} {zn : Int32} {aG : Nat → Int32} {aW : Nat → Int32} {aR : Nat → Int32} {aN : Nat → Int32} {aF : Nat → Int32} {lC : Nat → Int64} {lS : Nat → Int64} {lP : Nat → Int64} {lX : Nat → Int64} {ztc : Int32} {aTs : Nat → Int32} {aTn : Nat → Int32} {zoc : Int32} {aOs : Nat → Int32} {aOn : Nat → Int32} {aTp : Nat → Int32} {zln : Int32} {zpl : Int32} {zfa : Int32} {aSz : Nat → Int32} {zit : Int32} {zip : Int32} {zic : Int32} {zig : Int32} {M : Nat → Nat → Int64} {i x : Int32} (F : Fx p s m args meth c cc nL own ret) (hw : Wd G s A (kW G q zp ze zf zg zn aG aW aR aN aF lC lS lP lX ++ (oW G q ztc aTs aTn zoc aOs aOn aTp zln zpl zfa aSz zit zip zic zig M ++ fr)) H locs) (hi : inb i 80 = true) (hdg : decode cc pc = .ok (.bastore, 1)) (kk : ∀ (H : Heap) (locs : List Loc), Wd G s A (kW G q zp ze zf zg zn aG aW aR aN aF lC lS lP lX ++ (oW G q ztc aTs aTn zoc aOs aOn (upd aTp i.toNatClampNeg (vp_nar .byte x)) zln zpl zfa aSz zit zip zic zig M ++ fr)) H locs → W p l e R s m args below meth c H locs 0 0 Q (F0 m (pc + 1) ls rest)) : W p l e R s m args below meth c H locs 0 0 Q (F0 m pc ls (.int x :: .int i :: .ref (q 17) :: rest)) :=
  va_bast F.x F.b hw.1 hw.2.1 hw.2.2.1 hw.2.2.2 17 1 (cA := G.2.2.1) (n := 80) (f := aTp) rfl rfl (inb_vp hi) hdg (fun H locs hP hD hS => kk H locs ⟨hw.1, hP, hD, hS⟩)
theorem aq_c18 {own : String} {zp : Int32} {ze : Int32} {zf : Int32} {zg : Int32} {zn : Int32} {aG : Nat → Int32} {aW : Nat → Int32} {aR : Nat → Int32} {aN : Nat → Int32} {aF : Nat → Int32} {lC : Nat → Int64} {lS : Nat → Int64} {lP : Nat → Int64} {lX : Nat → Int64} {ztc : Int32} {aTs : Nat → Int32} {aTn : Nat → Int32} {zoc : Int32} {aOs : Nat → Int32} {aOn : Nat → Int32} {aTp : Nat → Int32} {zln : Int32} {zpl : Int32} {zfa : Int32} {aSz : Nat → Int32} {zit : Int32} {zip : Int32} {zic : Int32} {zig : Int32} {M : Nat → Nat → Int64} {i : Int32} (F : Fx p s m args meth c cc nL own ret) (hw : Wd G s A (kW G q zp ze zf zg zn aG aW aR aN aF lC lS lP lX ++ (oW G q ztc aTs aTn zoc aOs aOn aTp zln zpl zfa aSz zit zip zic zig M ++ fr)) H locs) (hi : inb i 6 = true) (hdg : decode cc pc = .ok (.aaload, 1)) (kk : W p l e R s m args below meth c H locs 0 0 Q (F0 m (pc + 1) ls (.ref (q (26 + (11 + i.toNatClampNeg))) :: rest))) : W p l e R s m args below meth c H locs 0 0 Q (F0 m pc ls (.int i :: .ref (q 18) :: rest)) := by
  refine va_aldA F.x F.b hw.1 hw.2.1 18 (cA := G.2.2.2.2) (n := 6) (f := fun i => some (q (37 + i))) rfl (inb_vp hi) hdg ?_
  rw [show 26 + (11 + i.toNatClampNeg) = 37 + i.toNatClampNeg from by omega] at kk
  exact kk
theorem aq_c19 {own : String} {zp : Int32} {ze : Int32} {zf : Int32} {zg : Int32} {zn : Int32} {aG : Nat → Int32} {aW : Nat → Int32} {aR : Nat → Int32} {aN : Nat → Int32} {aF : Nat → Int32} {lC : Nat → Int64} {lS : Nat → Int64} {lP : Nat → Int64} {lX : Nat → Int64} {ztc : Int32} {aTs : Nat → Int32} {aTn : Nat → Int32} {zoc : Int32} {aOs : Nat → Int32} {aOn : Nat → Int32} {aTp : Nat → Int32} {zln : Int32} {zpl : Int32} {zfa : Int32} {aSz : Nat → Int32} {zit : Int32} {zip : Int32} {zic : Int32} {zig : Int32} {M : Nat → Nat → Int64} {i : Int32} (F : Fx p s m args meth c cc nL own ret) (hw : Wd G s A (kW G q zp ze zf zg zn aG aW aR aN aF lC lS lP lX ++ (oW G q ztc aTs aTn zoc aOs aOn aTp zln zpl zfa aSz zit zip zic zig M ++ fr)) H locs) (hi : inb i 6 = true) (hdg : decode cc pc = .ok (.aaload, 1)) (kk : W p l e R s m args below meth c H locs 0 0 Q (F0 m (pc + 1) ls (.ref (q (26 + (17 + i.toNatClampNeg))) :: rest))) : W p l e R s m args below meth c H locs 0 0 Q (F0 m pc ls (.int i :: .ref (q 19) :: rest)) := by
  refine va_aldA F.x F.b hw.1 hw.2.1 19 (cA := G.2.2.2.2) (n := 6) (f := fun i => some (q (43 + i))) rfl (inb_vp hi) hdg ?_
  rw [show 26 + (17 + i.toNatClampNeg) = 43 + i.toNatClampNeg from by omega] at kk
  exact kk
theorem aq_c20 {own : String} {zp : Int32} {ze : Int32} {zf : Int32} {zg : Int32} {zn : Int32} {aG : Nat → Int32} {aW : Nat → Int32} {aR : Nat → Int32} {aN : Nat → Int32} {aF : Nat → Int32} {lC : Nat → Int64} {lS : Nat → Int64} {lP : Nat → Int64} {lX : Nat → Int64} {ztc : Int32} {aTs : Nat → Int32} {aTn : Nat → Int32} {zoc : Int32} {aOs : Nat → Int32} {aOn : Nat → Int32} {aTp : Nat → Int32} {zln : Int32} {zpl : Int32} {zfa : Int32} {aSz : Nat → Int32} {zit : Int32} {zip : Int32} {zic : Int32} {zig : Int32} {M : Nat → Nat → Int64} {i : Int32} (F : Fx p s m args meth c cc nL own ret) (hw : Wd G s A (kW G q zp ze zf zg zn aG aW aR aN aF lC lS lP lX ++ (oW G q ztc aTs aTn zoc aOs aOn aTp zln zpl zfa aSz zit zip zic zig M ++ fr)) H locs) (hi : inb i 6 = true) (hdg : decode cc pc = .ok (.aaload, 1)) (kk : W p l e R s m args below meth c H locs 0 0 Q (F0 m (pc + 1) ls (.ref (q (26 + (23 + i.toNatClampNeg))) :: rest))) : W p l e R s m args below meth c H locs 0 0 Q (F0 m pc ls (.int i :: .ref (q 20) :: rest)) := by
  refine va_aldA F.x F.b hw.1 hw.2.1 20 (cA := G.2.2.2.2) (n := 6) (f := fun i => some (q (49 + i))) rfl (inb_vp hi) hdg ?_
  rw [show 26 + (23 + i.toNatClampNeg) = 49 + i.toNatClampNeg from by omega] at kk
  exact kk
theorem aq_c22 {own : String} {zp : Int32} {ze : Int32} {zf : Int32} {zg : Int32} {zn : Int32} {aG : Nat → Int32} {aW : Nat → Int32} {aR : Nat → Int32} {aN : Nat → Int32} {aF : Nat → Int32} {lC : Nat → Int64} {lS : Nat → Int64} {lP : Nat → Int64} {lX : Nat → Int64} {ztc : Int32} {aTs : Nat → Int32} {aTn : Nat → Int32} {zoc : Int32} {aOs : Nat → Int32} {aOn : Nat → Int32} {aTp : Nat → Int32} {zln : Int32} {zpl : Int32} {zfa : Int32} {aSz : Nat → Int32} {zit : Int32} {zip : Int32} {zic : Int32} {zig : Int32} {M : Nat → Nat → Int64} {i : Int32} (F : Fx p s m args meth c cc nL own ret) (hw : Wd G s A (kW G q zp ze zf zg zn aG aW aR aN aF lC lS lP lX ++ (oW G q ztc aTs aTn zoc aOs aOn aTp zln zpl zfa aSz zit zip zic zig M ++ fr)) H locs) (hi : inb i 4 = true) (hdg : decode cc pc = .ok (.aaload, 1)) (kk : W p l e R s m args below meth c H locs 0 0 Q (F0 m (pc + 1) ls (.ref (q (26 + (0 + i.toNatClampNeg))) :: rest))) : W p l e R s m args below meth c H locs 0 0 Q (F0 m pc ls (.int i :: .ref (q 22) :: rest)) := by
  refine va_aldA F.x F.b hw.1 hw.2.1 22 (cA := G.2.2.2.2) (n := 4) (f := fun i => some (q (26 + i))) rfl (inb_vp hi) hdg ?_
  rw [show 26 + (0 + i.toNatClampNeg) = 26 + i.toNatClampNeg from by omega] at kk
  exact kk
theorem aq_c23 {own : String} {zp : Int32} {ze : Int32} {zf : Int32} {zg : Int32} {zn : Int32} {aG : Nat → Int32} {aW : Nat → Int32} {aR : Nat → Int32} {aN : Nat → Int32} {aF : Nat → Int32} {lC : Nat → Int64} {lS : Nat → Int64} {lP : Nat → Int64} {lX : Nat → Int64} {ztc : Int32} {aTs : Nat → Int32} {aTn : Nat → Int32} {zoc : Int32} {aOs : Nat → Int32} {aOn : Nat → Int32} {aTp : Nat → Int32} {zln : Int32} {zpl : Int32} {zfa : Int32} {aSz : Nat → Int32} {zit : Int32} {zip : Int32} {zic : Int32} {zig : Int32} {M : Nat → Nat → Int64} {i : Int32} (F : Fx p s m args meth c cc nL own ret) (hw : Wd G s A (kW G q zp ze zf zg zn aG aW aR aN aF lC lS lP lX ++ (oW G q ztc aTs aTn zoc aOs aOn aTp zln zpl zfa aSz zit zip zic zig M ++ fr)) H locs) (hi : inb i 3 = true) (hdg : decode cc pc = .ok (.aaload, 1)) (kk : W p l e R s m args below meth c H locs 0 0 Q (F0 m (pc + 1) ls (.ref (q (26 + (4 + i.toNatClampNeg))) :: rest))) : W p l e R s m args below meth c H locs 0 0 Q (F0 m pc ls (.int i :: .ref (q 23) :: rest)) := by
  refine va_aldA F.x F.b hw.1 hw.2.1 23 (cA := G.2.2.2.2) (n := 3) (f := fun i => some (q (30 + i))) rfl (inb_vp hi) hdg ?_
  rw [show 26 + (4 + i.toNatClampNeg) = 30 + i.toNatClampNeg from by omega] at kk
  exact kk
theorem al_c24 {own : String} {zp : Int32} {ze : Int32} {zf : Int32} {zg : Int32} {zn : Int32} {aG : Nat → Int32} {aW : Nat → Int32} {aR : Nat → Int32} {aN : Nat → Int32} {aF : Nat → Int32} {lC : Nat → Int64} {lS : Nat → Int64} {lP : Nat → Int64} {lX : Nat → Int64} {ztc : Int32} {aTs : Nat → Int32} {aTn : Nat → Int32} {zoc : Int32} {aOs : Nat → Int32} {aOn : Nat → Int32} {aTp : Nat → Int32} {zln : Int32} {zpl : Int32} {zfa : Int32} {aSz : Nat → Int32} {zit : Int32} {zip : Int32} {zic : Int32} {zig : Int32} {M : Nat → Nat → Int64} {i : Int32} (F : Fx p s m args meth c cc nL own ret) (hw : Wd G s A (kW G q zp ze zf zg zn aG aW aR aN aF lC lS lP lX ++ (oW G q ztc aTs aTn zoc aOs aOn aTp zln zpl zfa aSz zit zip zic zig M ++ fr)) H locs) (hi : inb i 3 = true) (hdg : decode cc pc = .ok (.iaload, 1)) (kk : W p l e R s m args below meth c H locs 0 0 Q (F0 m (pc + 1) ls (.int (aSz i.toNatClampNeg) :: rest))) : W p l e R s m args below meth c H locs 0 0 Q (F0 m pc ls (.int i :: .ref (q 24) :: rest)) :=
  va_iald F.x F.b hw.1 hw.2.1 24 0 (cA := G.2.1) (n := 3) (f := aSz) rfl rfl (inb_vp hi) hdg kk
theorem as_c24 {own : String} {zp : Int32} {ze : Int32} {zf : Int32} {zg : Int32} {zn : Int32} {aG : Nat → Int32} {aW : Nat → Int32} {aR : Nat → Int32} {aN : Nat → Int32} {aF : Nat → Int32} {lC : Nat → Int64} {lS : Nat → Int64} {lP : Nat → Int64} {lX : Nat → Int64} {ztc : Int32} {aTs : Nat → Int32} {aTn : Nat → Int32} {zoc : Int32} {aOs : Nat → Int32} {aOn : Nat → Int32} {aTp : Nat → Int32} {zln : Int32} {zpl : Int32} {zfa : Int32} {aSz : Nat → Int32} {zit : Int32} {zip : Int32} {zic : Int32} {zig : Int32} {M : Nat → Nat → Int64} {i x : Int32} (F : Fx p s m args meth c cc nL own ret) (hw : Wd G s A (kW G q zp ze zf zg zn aG aW aR aN aF lC lS lP lX ++ (oW G q ztc aTs aTn zoc aOs aOn aTp zln zpl zfa aSz zit zip zic zig M ++ fr)) H locs) (hi : inb i 3 = true) (hdg : decode cc pc = .ok (.iastore, 1)) (kk : ∀ (H : Heap) (locs : List Loc), Wd G s A (kW G q zp ze zf zg zn aG aW aR aN aF lC lS lP lX ++ (oW G q ztc aTs aTn zoc aOs aOn aTp zln zpl zfa (upd aSz i.toNatClampNeg x) zit zip zic zig M ++ fr)) H locs → W p l e R s m args below meth c H locs 0 0 Q (F0 m (pc + 1) ls rest)) : W p l e R s m args below meth c H locs 0 0 Q (F0 m pc ls (.int x :: .int i :: .ref (q 24) :: rest)) :=
  va_iast F.x F.b hw.1 hw.2.1 hw.2.2.1 hw.2.2.2 24 0 (cA := G.2.1) (n := 3) (f := aSz) rfl rfl (inb_vp hi) hdg (fun H locs hP hD hS => kk H locs ⟨hw.1, hP, hD, hS⟩)
theorem aq_c25 {own : String} {zp : Int32} {ze : Int32} {zf : Int32} {zg : Int32} {zn : Int32} {aG : Nat → Int32} {aW : Nat → Int32} {aR : Nat → Int32} {aN : Nat → Int32} {aF : Nat → Int32} {lC : Nat → Int64} {lS : Nat → Int64} {lP : Nat → Int64} {lX : Nat → Int64} {ztc : Int32} {aTs : Nat → Int32} {aTn : Nat → Int32} {zoc : Int32} {aOs : Nat → Int32} {aOn : Nat → Int32} {aTp : Nat → Int32} {zln : Int32} {zpl : Int32} {zfa : Int32} {aSz : Nat → Int32} {zit : Int32} {zip : Int32} {zic : Int32} {zig : Int32} {M : Nat → Nat → Int64} {i : Int32} (F : Fx p s m args meth c cc nL own ret) (hw : Wd G s A (kW G q zp ze zf zg zn aG aW aR aN aF lC lS lP lX ++ (oW G q ztc aTs aTn zoc aOs aOn aTp zln zpl zfa aSz zit zip zic zig M ++ fr)) H locs) (hi : inb i 4 = true) (hdg : decode cc pc = .ok (.aaload, 1)) (kk : W p l e R s m args below meth c H locs 0 0 Q (F0 m (pc + 1) ls (.ref (q (26 + (7 + i.toNatClampNeg))) :: rest))) : W p l e R s m args below meth c H locs 0 0 Q (F0 m pc ls (.int i :: .ref (q 25) :: rest)) := by
  refine va_aldA F.x F.b hw.1 hw.2.1 25 (cA := G.2.2.2.2) (n := 4) (f := fun i => some (q (33 + i))) rfl (inb_vp hi) hdg ?_
  rw [show 26 + (7 + i.toNatClampNeg) = 33 + i.toNatClampNeg from by omega] at kk
  exact kk
theorem al_m1 {own : String} {yp : Int32} {ye : Int32} {yg : Int32} {bPo : Nat → Int32} {bTb : Nat → Int32} {wSh : Nat → Int64} {wTe : Nat → Int64} {wNx : Nat → Int64} {bOs : Nat → Int32} {bOn : Nat → Int32} {yop : Int32} {bSo : Nat → Int32} {bNu : Nat → Int32} {ytr : Int32} {yiw : Int32} {wMa : Nat → Int64} {wPr : Nat → Int64} {bTp : Nat → Int32} {yln : Int32} {ypl : Int32} {yfa : Int32} {wLi : Nat → Int64} {bSi : Nat → Int32} {yhp : Int32} {yhe : Int32} {yhg : Int32} {wHs : Nat → Int64} {yhi : Int32} {i : Int32} (F : Fx p s m args meth c cc nL own ret) (hw : Wd G s A (mW G q yp ye yg bPo bTb wSh wTe wNx bOs bOn yop bSo bNu ytr yiw wMa wPr bTp yln ypl yfa wLi bSi yhp yhe yhg wHs yhi ++ fr) H locs) (hi : inb i 62 = true) (hdg : decode cc pc = .ok (.iaload, 1)) (kk : W p l e R s m args below meth c H locs 0 0 Q (F0 m (pc + 1) ls (.int (bPo i.toNatClampNeg) :: rest))) : W p l e R s m args below meth c H locs 0 0 Q (F0 m pc ls (.int i :: .ref (q 1) :: rest)) :=
  va_iald F.x F.b hw.1 hw.2.1 1 0 (cA := G.2.1) (n := 62) (f := bPo) rfl rfl (inb_vp hi) hdg kk
theorem as_m1 {own : String} {yp : Int32} {ye : Int32} {yg : Int32} {bPo : Nat → Int32} {bTb : Nat → Int32} {wSh : Nat → Int64} {wTe : Nat → Int64} {wNx : Nat → Int64} {bOs : Nat → Int32} {bOn : Nat → Int32} {yop : Int32} {bSo : Nat → Int32} {bNu : Nat → Int32} {ytr : Int32} {yiw : Int32} {wMa : Nat → Int64} {wPr : Nat → Int64} {bTp : Nat → Int32} {yln : Int32} {ypl : Int32} {yfa : Int32} {wLi : Nat → Int64} {bSi : Nat → Int32} {yhp : Int32} {yhe : Int32} {yhg : Int32} {wHs : Nat → Int64} {yhi : Int32} {i x : Int32} (F : Fx p s m args meth c cc nL own ret) (hw : Wd G s A (mW G q yp ye yg bPo bTb wSh wTe wNx bOs bOn yop bSo bNu ytr yiw wMa wPr bTp yln ypl yfa wLi bSi yhp yhe yhg wHs yhi ++ fr) H locs) (hi : inb i 62 = true) (hdg : decode cc pc = .ok (.iastore, 1)) (kk : ∀ (H : Heap) (locs : List Loc), Wd G s A (mW G q yp ye yg (upd bPo i.toNatClampNeg x) bTb wSh wTe wNx bOs bOn yop bSo bNu ytr yiw wMa wPr bTp yln ypl yfa wLi bSi yhp yhe yhg wHs yhi ++ fr) H locs → W p l e R s m args below meth c H locs 0 0 Q (F0 m (pc + 1) ls rest)) : W p l e R s m args below meth c H locs 0 0 Q (F0 m pc ls (.int x :: .int i :: .ref (q 1) :: rest)) :=
  va_iast F.x F.b hw.1 hw.2.1 hw.2.2.1 hw.2.2.2 1 0 (cA := G.2.1) (n := 62) (f := bPo) rfl rfl (inb_vp hi) hdg (fun H locs hP hD hS => kk H locs ⟨hw.1, hP, hD, hS⟩)
theorem al_m2 {own : String} {yp : Int32} {ye : Int32} {yg : Int32} {bPo : Nat → Int32} {bTb : Nat → Int32} {wSh : Nat → Int64} {wTe : Nat → Int64} {wNx : Nat → Int64} {bOs : Nat → Int32} {bOn : Nat → Int32} {yop : Int32} {bSo : Nat → Int32} {bNu : Nat → Int32} {ytr : Int32} {yiw : Int32} {wMa : Nat → Int64} {wPr : Nat → Int64} {bTp : Nat → Int32} {yln : Int32} {ypl : Int32} {yfa : Int32} {wLi : Nat → Int64} {bSi : Nat → Int32} {yhp : Int32} {yhe : Int32} {yhg : Int32} {wHs : Nat → Int64} {yhi : Int32} {i : Int32} (F : Fx p s m args meth c cc nL own ret) (hw : Wd G s A (mW G q yp ye yg bPo bTb wSh wTe wNx bOs bOn yop bSo bNu ytr yiw wMa wPr bTp yln ypl yfa wLi bSi yhp yhe yhg wHs yhi ++ fr) H locs) (hi : inb i 1728 = true) (hdg : decode cc pc = .ok (.iaload, 1)) (kk : W p l e R s m args below meth c H locs 0 0 Q (F0 m (pc + 1) ls (.int (bTb i.toNatClampNeg) :: rest))) : W p l e R s m args below meth c H locs 0 0 Q (F0 m pc ls (.int i :: .ref (q 2) :: rest)) :=
  va_iald F.x F.b hw.1 hw.2.1 2 0 (cA := G.2.1) (n := 1728) (f := bTb) rfl rfl (inb_vp hi) hdg kk
theorem as_m2 {own : String} {yp : Int32} {ye : Int32} {yg : Int32} {bPo : Nat → Int32} {bTb : Nat → Int32} {wSh : Nat → Int64} {wTe : Nat → Int64} {wNx : Nat → Int64} {bOs : Nat → Int32} {bOn : Nat → Int32} {yop : Int32} {bSo : Nat → Int32} {bNu : Nat → Int32} {ytr : Int32} {yiw : Int32} {wMa : Nat → Int64} {wPr : Nat → Int64} {bTp : Nat → Int32} {yln : Int32} {ypl : Int32} {yfa : Int32} {wLi : Nat → Int64} {bSi : Nat → Int32} {yhp : Int32} {yhe : Int32} {yhg : Int32} {wHs : Nat → Int64} {yhi : Int32} {i x : Int32} (F : Fx p s m args meth c cc nL own ret) (hw : Wd G s A (mW G q yp ye yg bPo bTb wSh wTe wNx bOs bOn yop bSo bNu ytr yiw wMa wPr bTp yln ypl yfa wLi bSi yhp yhe yhg wHs yhi ++ fr) H locs) (hi : inb i 1728 = true) (hdg : decode cc pc = .ok (.iastore, 1)) (kk : ∀ (H : Heap) (locs : List Loc), Wd G s A (mW G q yp ye yg bPo (upd bTb i.toNatClampNeg x) wSh wTe wNx bOs bOn yop bSo bNu ytr yiw wMa wPr bTp yln ypl yfa wLi bSi yhp yhe yhg wHs yhi ++ fr) H locs → W p l e R s m args below meth c H locs 0 0 Q (F0 m (pc + 1) ls rest)) : W p l e R s m args below meth c H locs 0 0 Q (F0 m pc ls (.int x :: .int i :: .ref (q 2) :: rest)) :=
  va_iast F.x F.b hw.1 hw.2.1 hw.2.2.1 hw.2.2.2 2 0 (cA := G.2.1) (n := 1728) (f := bTb) rfl rfl (inb_vp hi) hdg (fun H locs hP hD hS => kk H locs ⟨hw.1, hP, hD, hS⟩)
theorem al_m3 {own : String} {yp : Int32} {ye : Int32} {yg : Int32} {bPo : Nat → Int32} {bTb : Nat → Int32} {wSh : Nat → Int64} {wTe : Nat → Int64} {wNx : Nat → Int64} {bOs : Nat → Int32} {bOn : Nat → Int32} {yop : Int32} {bSo : Nat → Int32} {bNu : Nat → Int32} {ytr : Int32} {yiw : Int32} {wMa : Nat → Int64} {wPr : Nat → Int64} {bTp : Nat → Int32} {yln : Int32} {ypl : Int32} {yfa : Int32} {wLi : Nat → Int64} {bSi : Nat → Int32} {yhp : Int32} {yhe : Int32} {yhg : Int32} {wHs : Nat → Int64} {yhi : Int32} {i : Int32} (F : Fx p s m args meth c cc nL own ret) (hw : Wd G s A (mW G q yp ye yg bPo bTb wSh wTe wNx bOs bOn yop bSo bNu ytr yiw wMa wPr bTp yln ypl yfa wLi bSi yhp yhe yhg wHs yhi ++ fr) H locs) (hi : inb i 48 = true) (hdg : decode cc pc = .ok (.laload, 1)) (kk : W p l e R s m args below meth c H locs 0 0 Q (F0 m (pc + 1) ls (.long (wSh i.toNatClampNeg) :: rest))) : W p l e R s m args below meth c H locs 0 0 Q (F0 m pc ls (.int i :: .ref (q 3) :: rest)) :=
  va_lald F.x F.b hw.1 hw.2.1 3 2 (cA := G.2.2.2.1) (n := 48) (f := wSh) rfl rfl (inb_vp hi) hdg kk
theorem as_m3 {own : String} {yp : Int32} {ye : Int32} {yg : Int32} {bPo : Nat → Int32} {bTb : Nat → Int32} {wSh : Nat → Int64} {wTe : Nat → Int64} {wNx : Nat → Int64} {bOs : Nat → Int32} {bOn : Nat → Int32} {yop : Int32} {bSo : Nat → Int32} {bNu : Nat → Int32} {ytr : Int32} {yiw : Int32} {wMa : Nat → Int64} {wPr : Nat → Int64} {bTp : Nat → Int32} {yln : Int32} {ypl : Int32} {yfa : Int32} {wLi : Nat → Int64} {bSi : Nat → Int32} {yhp : Int32} {yhe : Int32} {yhg : Int32} {wHs : Nat → Int64} {yhi : Int32} {i : Int32} {x : Int64} (F : Fx p s m args meth c cc nL own ret) (hw : Wd G s A (mW G q yp ye yg bPo bTb wSh wTe wNx bOs bOn yop bSo bNu ytr yiw wMa wPr bTp yln ypl yfa wLi bSi yhp yhe yhg wHs yhi ++ fr) H locs) (hi : inb i 48 = true) (hdg : decode cc pc = .ok (.lastore, 1)) (kk : ∀ (H : Heap) (locs : List Loc), Wd G s A (mW G q yp ye yg bPo bTb (vp_updL wSh i.toNatClampNeg x) wTe wNx bOs bOn yop bSo bNu ytr yiw wMa wPr bTp yln ypl yfa wLi bSi yhp yhe yhg wHs yhi ++ fr) H locs → W p l e R s m args below meth c H locs 0 0 Q (F0 m (pc + 1) ls rest)) : W p l e R s m args below meth c H locs 0 0 Q (F0 m pc ls (.long x :: .int i :: .ref (q 3) :: rest)) :=
  va_last F.x F.b hw.1 hw.2.1 hw.2.2.1 hw.2.2.2 3 2 (cA := G.2.2.2.1) (n := 48) (f := wSh) rfl rfl (inb_vp hi) hdg (fun H locs hP hD hS => kk H locs ⟨hw.1, hP, hD, hS⟩)
theorem al_m4 {own : String} {yp : Int32} {ye : Int32} {yg : Int32} {bPo : Nat → Int32} {bTb : Nat → Int32} {wSh : Nat → Int64} {wTe : Nat → Int64} {wNx : Nat → Int64} {bOs : Nat → Int32} {bOn : Nat → Int32} {yop : Int32} {bSo : Nat → Int32} {bNu : Nat → Int32} {ytr : Int32} {yiw : Int32} {wMa : Nat → Int64} {wPr : Nat → Int64} {bTp : Nat → Int32} {yln : Int32} {ypl : Int32} {yfa : Int32} {wLi : Nat → Int64} {bSi : Nat → Int32} {yhp : Int32} {yhe : Int32} {yhg : Int32} {wHs : Nat → Int64} {yhi : Int32} {i : Int32} (F : Fx p s m args meth c cc nL own ret) (hw : Wd G s A (mW G q yp ye yg bPo bTb wSh wTe wNx bOs bOn yop bSo bNu ytr yiw wMa wPr bTp yln ypl yfa wLi bSi yhp yhe yhg wHs yhi ++ fr) H locs) (hi : inb i 168 = true) (hdg : decode cc pc = .ok (.laload, 1)) (kk : W p l e R s m args below meth c H locs 0 0 Q (F0 m (pc + 1) ls (.long (wTe i.toNatClampNeg) :: rest))) : W p l e R s m args below meth c H locs 0 0 Q (F0 m pc ls (.int i :: .ref (q 4) :: rest)) :=
  va_lald F.x F.b hw.1 hw.2.1 4 2 (cA := G.2.2.2.1) (n := 168) (f := wTe) rfl rfl (inb_vp hi) hdg kk
theorem as_m4 {own : String} {yp : Int32} {ye : Int32} {yg : Int32} {bPo : Nat → Int32} {bTb : Nat → Int32} {wSh : Nat → Int64} {wTe : Nat → Int64} {wNx : Nat → Int64} {bOs : Nat → Int32} {bOn : Nat → Int32} {yop : Int32} {bSo : Nat → Int32} {bNu : Nat → Int32} {ytr : Int32} {yiw : Int32} {wMa : Nat → Int64} {wPr : Nat → Int64} {bTp : Nat → Int32} {yln : Int32} {ypl : Int32} {yfa : Int32} {wLi : Nat → Int64} {bSi : Nat → Int32} {yhp : Int32} {yhe : Int32} {yhg : Int32} {wHs : Nat → Int64} {yhi : Int32} {i : Int32} {x : Int64} (F : Fx p s m args meth c cc nL own ret) (hw : Wd G s A (mW G q yp ye yg bPo bTb wSh wTe wNx bOs bOn yop bSo bNu ytr yiw wMa wPr bTp yln ypl yfa wLi bSi yhp yhe yhg wHs yhi ++ fr) H locs) (hi : inb i 168 = true) (hdg : decode cc pc = .ok (.lastore, 1)) (kk : ∀ (H : Heap) (locs : List Loc), Wd G s A (mW G q yp ye yg bPo bTb wSh (vp_updL wTe i.toNatClampNeg x) wNx bOs bOn yop bSo bNu ytr yiw wMa wPr bTp yln ypl yfa wLi bSi yhp yhe yhg wHs yhi ++ fr) H locs → W p l e R s m args below meth c H locs 0 0 Q (F0 m (pc + 1) ls rest)) : W p l e R s m args below meth c H locs 0 0 Q (F0 m pc ls (.long x :: .int i :: .ref (q 4) :: rest)) :=
  va_last F.x F.b hw.1 hw.2.1 hw.2.2.1 hw.2.2.2 4 2 (cA := G.2.2.2.1) (n := 168) (f := wTe) rfl rfl (inb_vp hi) hdg (fun H locs hP hD hS => kk H locs ⟨hw.1, hP, hD, hS⟩)
theorem al_m5 {own : String} {yp : Int32} {ye : Int32} {yg : Int32} {bPo : Nat → Int32} {bTb : Nat → Int32} {wSh : Nat → Int64} {wTe : Nat → Int64} {wNx : Nat → Int64} {bOs : Nat → Int32} {bOn : Nat → Int32} {yop : Int32} {bSo : Nat → Int32} {bNu : Nat → Int32} {ytr : Int32} {yiw : Int32} {wMa : Nat → Int64} {wPr : Nat → Int64} {bTp : Nat → Int32} {yln : Int32} {ypl : Int32} {yfa : Int32} {wLi : Nat → Int64} {bSi : Nat → Int32} {yhp : Int32} {yhe : Int32} {yhg : Int32} {wHs : Nat → Int64} {yhi : Int32} {i : Int32} (F : Fx p s m args meth c cc nL own ret) (hw : Wd G s A (mW G q yp ye yg bPo bTb wSh wTe wNx bOs bOn yop bSo bNu ytr yiw wMa wPr bTp yln ypl yfa wLi bSi yhp yhe yhg wHs yhi ++ fr) H locs) (hi : inb i 12 = true) (hdg : decode cc pc = .ok (.laload, 1)) (kk : W p l e R s m args below meth c H locs 0 0 Q (F0 m (pc + 1) ls (.long (wNx i.toNatClampNeg) :: rest))) : W p l e R s m args below meth c H locs 0 0 Q (F0 m pc ls (.int i :: .ref (q 5) :: rest)) :=
  va_lald F.x F.b hw.1 hw.2.1 5 2 (cA := G.2.2.2.1) (n := 12) (f := wNx) rfl rfl (inb_vp hi) hdg kk
theorem as_m5 {own : String} {yp : Int32} {ye : Int32} {yg : Int32} {bPo : Nat → Int32} {bTb : Nat → Int32} {wSh : Nat → Int64} {wTe : Nat → Int64} {wNx : Nat → Int64} {bOs : Nat → Int32} {bOn : Nat → Int32} {yop : Int32} {bSo : Nat → Int32} {bNu : Nat → Int32} {ytr : Int32} {yiw : Int32} {wMa : Nat → Int64} {wPr : Nat → Int64} {bTp : Nat → Int32} {yln : Int32} {ypl : Int32} {yfa : Int32} {wLi : Nat → Int64} {bSi : Nat → Int32} {yhp : Int32} {yhe : Int32} {yhg : Int32} {wHs : Nat → Int64} {yhi : Int32} {i : Int32} {x : Int64} (F : Fx p s m args meth c cc nL own ret) (hw : Wd G s A (mW G q yp ye yg bPo bTb wSh wTe wNx bOs bOn yop bSo bNu ytr yiw wMa wPr bTp yln ypl yfa wLi bSi yhp yhe yhg wHs yhi ++ fr) H locs) (hi : inb i 12 = true) (hdg : decode cc pc = .ok (.lastore, 1)) (kk : ∀ (H : Heap) (locs : List Loc), Wd G s A (mW G q yp ye yg bPo bTb wSh wTe (vp_updL wNx i.toNatClampNeg x) bOs bOn yop bSo bNu ytr yiw wMa wPr bTp yln ypl yfa wLi bSi yhp yhe yhg wHs yhi ++ fr) H locs → W p l e R s m args below meth c H locs 0 0 Q (F0 m (pc + 1) ls rest)) : W p l e R s m args below meth c H locs 0 0 Q (F0 m pc ls (.long x :: .int i :: .ref (q 5) :: rest)) :=
  va_last F.x F.b hw.1 hw.2.1 hw.2.2.1 hw.2.2.2 5 2 (cA := G.2.2.2.1) (n := 12) (f := wNx) rfl rfl (inb_vp hi) hdg (fun H locs hP hD hS => kk H locs ⟨hw.1, hP, hD, hS⟩)
theorem al_m6 {own : String} {yp : Int32} {ye : Int32} {yg : Int32} {bPo : Nat → Int32} {bTb : Nat → Int32} {wSh : Nat → Int64} {wTe : Nat → Int64} {wNx : Nat → Int64} {bOs : Nat → Int32} {bOn : Nat → Int32} {yop : Int32} {bSo : Nat → Int32} {bNu : Nat → Int32} {ytr : Int32} {yiw : Int32} {wMa : Nat → Int64} {wPr : Nat → Int64} {bTp : Nat → Int32} {yln : Int32} {ypl : Int32} {yfa : Int32} {wLi : Nat → Int64} {bSi : Nat → Int32} {yhp : Int32} {yhe : Int32} {yhg : Int32} {wHs : Nat → Int64} {yhi : Int32} {i : Int32} (F : Fx p s m args meth c cc nL own ret) (hw : Wd G s A (mW G q yp ye yg bPo bTb wSh wTe wNx bOs bOn yop bSo bNu ytr yiw wMa wPr bTp yln ypl yfa wLi bSi yhp yhe yhg wHs yhi ++ fr) H locs) (hi : inb i 7 = true) (hdg : decode cc pc = .ok (.iaload, 1)) (kk : W p l e R s m args below meth c H locs 0 0 Q (F0 m (pc + 1) ls (.int (bOs i.toNatClampNeg) :: rest))) : W p l e R s m args below meth c H locs 0 0 Q (F0 m pc ls (.int i :: .ref (q 6) :: rest)) :=
  va_iald F.x F.b hw.1 hw.2.1 6 0 (cA := G.2.1) (n := 7) (f := bOs) rfl rfl (inb_vp hi) hdg kk
theorem as_m6 {own : String} {yp : Int32} {ye : Int32} {yg : Int32} {bPo : Nat → Int32} {bTb : Nat → Int32} {wSh : Nat → Int64} {wTe : Nat → Int64} {wNx : Nat → Int64} {bOs : Nat → Int32} {bOn : Nat → Int32} {yop : Int32} {bSo : Nat → Int32} {bNu : Nat → Int32} {ytr : Int32} {yiw : Int32} {wMa : Nat → Int64} {wPr : Nat → Int64} {bTp : Nat → Int32} {yln : Int32} {ypl : Int32} {yfa : Int32} {wLi : Nat → Int64} {bSi : Nat → Int32} {yhp : Int32} {yhe : Int32} {yhg : Int32} {wHs : Nat → Int64} {yhi : Int32} {i x : Int32} (F : Fx p s m args meth c cc nL own ret) (hw : Wd G s A (mW G q yp ye yg bPo bTb wSh wTe wNx bOs bOn yop bSo bNu ytr yiw wMa wPr bTp yln ypl yfa wLi bSi yhp yhe yhg wHs yhi ++ fr) H locs) (hi : inb i 7 = true) (hdg : decode cc pc = .ok (.iastore, 1)) (kk : ∀ (H : Heap) (locs : List Loc), Wd G s A (mW G q yp ye yg bPo bTb wSh wTe wNx (upd bOs i.toNatClampNeg x) bOn yop bSo bNu ytr yiw wMa wPr bTp yln ypl yfa wLi bSi yhp yhe yhg wHs yhi ++ fr) H locs → W p l e R s m args below meth c H locs 0 0 Q (F0 m (pc + 1) ls rest)) : W p l e R s m args below meth c H locs 0 0 Q (F0 m pc ls (.int x :: .int i :: .ref (q 6) :: rest)) :=
  va_iast F.x F.b hw.1 hw.2.1 hw.2.2.1 hw.2.2.2 6 0 (cA := G.2.1) (n := 7) (f := bOs) rfl rfl (inb_vp hi) hdg (fun H locs hP hD hS => kk H locs ⟨hw.1, hP, hD, hS⟩)
theorem al_m7 {own : String} {yp : Int32} {ye : Int32} {yg : Int32} {bPo : Nat → Int32} {bTb : Nat → Int32} {wSh : Nat → Int64} {wTe : Nat → Int64} {wNx : Nat → Int64} {bOs : Nat → Int32} {bOn : Nat → Int32} {yop : Int32} {bSo : Nat → Int32} {bNu : Nat → Int32} {ytr : Int32} {yiw : Int32} {wMa : Nat → Int64} {wPr : Nat → Int64} {bTp : Nat → Int32} {yln : Int32} {ypl : Int32} {yfa : Int32} {wLi : Nat → Int64} {bSi : Nat → Int32} {yhp : Int32} {yhe : Int32} {yhg : Int32} {wHs : Nat → Int64} {yhi : Int32} {i : Int32} (F : Fx p s m args meth c cc nL own ret) (hw : Wd G s A (mW G q yp ye yg bPo bTb wSh wTe wNx bOs bOn yop bSo bNu ytr yiw wMa wPr bTp yln ypl yfa wLi bSi yhp yhe yhg wHs yhi ++ fr) H locs) (hi : inb i 7 = true) (hdg : decode cc pc = .ok (.iaload, 1)) (kk : W p l e R s m args below meth c H locs 0 0 Q (F0 m (pc + 1) ls (.int (bOn i.toNatClampNeg) :: rest))) : W p l e R s m args below meth c H locs 0 0 Q (F0 m pc ls (.int i :: .ref (q 7) :: rest)) :=
  va_iald F.x F.b hw.1 hw.2.1 7 0 (cA := G.2.1) (n := 7) (f := bOn) rfl rfl (inb_vp hi) hdg kk
theorem as_m7 {own : String} {yp : Int32} {ye : Int32} {yg : Int32} {bPo : Nat → Int32} {bTb : Nat → Int32} {wSh : Nat → Int64} {wTe : Nat → Int64} {wNx : Nat → Int64} {bOs : Nat → Int32} {bOn : Nat → Int32} {yop : Int32} {bSo : Nat → Int32} {bNu : Nat → Int32} {ytr : Int32} {yiw : Int32} {wMa : Nat → Int64} {wPr : Nat → Int64} {bTp : Nat → Int32} {yln : Int32} {ypl : Int32} {yfa : Int32} {wLi : Nat → Int64} {bSi : Nat → Int32} {yhp : Int32} {yhe : Int32} {yhg : Int32} {wHs : Nat → Int64} {yhi : Int32} {i x : Int32} (F : Fx p s m args meth c cc nL own ret) (hw : Wd G s A (mW G q yp ye yg bPo bTb wSh wTe wNx bOs bOn yop bSo bNu ytr yiw wMa wPr bTp yln ypl yfa wLi bSi yhp yhe yhg wHs yhi ++ fr) H locs) (hi : inb i 7 = true) (hdg : decode cc pc = .ok (.iastore, 1)) (kk : ∀ (H : Heap) (locs : List Loc), Wd G s A (mW G q yp ye yg bPo bTb wSh wTe wNx bOs (upd bOn i.toNatClampNeg x) yop bSo bNu ytr yiw wMa wPr bTp yln ypl yfa wLi bSi yhp yhe yhg wHs yhi ++ fr) H locs → W p l e R s m args below meth c H locs 0 0 Q (F0 m (pc + 1) ls rest)) : W p l e R s m args below meth c H locs 0 0 Q (F0 m pc ls (.int x :: .int i :: .ref (q 7) :: rest)) :=
  va_iast F.x F.b hw.1 hw.2.1 hw.2.2.1 hw.2.2.2 7 0 (cA := G.2.1) (n := 7) (f := bOn) rfl rfl (inb_vp hi) hdg (fun H locs hP hD hS => kk H locs ⟨hw.1, hP, hD, hS⟩)
theorem al_m8 {own : String} {yp : Int32} {ye : Int32} {yg : Int32} {bPo : Nat → Int32} {bTb : Nat → Int32} {wSh : Nat → Int64} {wTe : Nat → Int64} {wNx : Nat → Int64} {bOs : Nat → Int32} {bOn : Nat → Int32} {yop : Int32} {bSo : Nat → Int32} {bNu : Nat → Int32} {ytr : Int32} {yiw : Int32} {wMa : Nat → Int64} {wPr : Nat → Int64} {bTp : Nat → Int32} {yln : Int32} {ypl : Int32} {yfa : Int32} {wLi : Nat → Int64} {bSi : Nat → Int32} {yhp : Int32} {yhe : Int32} {yhg : Int32} {wHs : Nat → Int64} {yhi : Int32} {i : Int32} (F : Fx p s m args meth c cc nL own ret) (hw : Wd G s A (mW G q yp ye yg bPo bTb wSh wTe wNx bOs bOn yop bSo bNu ytr yiw wMa wPr bTp yln ypl yfa wLi bSi yhp yhe yhg wHs yhi ++ fr) H locs) (hi : inb i 8 = true) (hdg : decode cc pc = .ok (.iaload, 1)) (kk : W p l e R s m args below meth c H locs 0 0 Q (F0 m (pc + 1) ls (.int (bSo i.toNatClampNeg) :: rest))) : W p l e R s m args below meth c H locs 0 0 Q (F0 m pc ls (.int i :: .ref (q 8) :: rest)) :=
  va_iald F.x F.b hw.1 hw.2.1 8 0 (cA := G.2.1) (n := 8) (f := bSo) rfl rfl (inb_vp hi) hdg kk
theorem as_m8 {own : String} {yp : Int32} {ye : Int32} {yg : Int32} {bPo : Nat → Int32} {bTb : Nat → Int32} {wSh : Nat → Int64} {wTe : Nat → Int64} {wNx : Nat → Int64} {bOs : Nat → Int32} {bOn : Nat → Int32} {yop : Int32} {bSo : Nat → Int32} {bNu : Nat → Int32} {ytr : Int32} {yiw : Int32} {wMa : Nat → Int64} {wPr : Nat → Int64} {bTp : Nat → Int32} {yln : Int32} {ypl : Int32} {yfa : Int32} {wLi : Nat → Int64} {bSi : Nat → Int32} {yhp : Int32} {yhe : Int32} {yhg : Int32} {wHs : Nat → Int64} {yhi : Int32} {i x : Int32} (F : Fx p s m args meth c cc nL own ret) (hw : Wd G s A (mW G q yp ye yg bPo bTb wSh wTe wNx bOs bOn yop bSo bNu ytr yiw wMa wPr bTp yln ypl yfa wLi bSi yhp yhe yhg wHs yhi ++ fr) H locs) (hi : inb i 8 = true) (hdg : decode cc pc = .ok (.iastore, 1)) (kk : ∀ (H : Heap) (locs : List Loc), Wd G s A (mW G q yp ye yg bPo bTb wSh wTe wNx bOs bOn yop (upd bSo i.toNatClampNeg x) bNu ytr yiw wMa wPr bTp yln ypl yfa wLi bSi yhp yhe yhg wHs yhi ++ fr) H locs → W p l e R s m args below meth c H locs 0 0 Q (F0 m (pc + 1) ls rest)) : W p l e R s m args below meth c H locs 0 0 Q (F0 m pc ls (.int x :: .int i :: .ref (q 8) :: rest)) :=
  va_iast F.x F.b hw.1 hw.2.1 hw.2.2.1 hw.2.2.2 8 0 (cA := G.2.1) (n := 8) (f := bSo) rfl rfl (inb_vp hi) hdg (fun H locs hP hD hS => kk H locs ⟨hw.1, hP, hD, hS⟩)
theorem al_m9 {own : String} {yp : Int32} {ye : Int32} {yg : Int32} {bPo : Nat → Int32} {bTb : Nat → Int32} {wSh : Nat → Int64} {wTe : Nat → Int64} {wNx : Nat → Int64} {bOs : Nat → Int32} {bOn : Nat → Int32} {yop : Int32} {bSo : Nat → Int32} {bNu : Nat → Int32} {ytr : Int32} {yiw : Int32} {wMa : Nat → Int64} {wPr : Nat → Int64} {bTp : Nat → Int32} {yln : Int32} {ypl : Int32} {yfa : Int32} {wLi : Nat → Int64} {bSi : Nat → Int32} {yhp : Int32} {yhe : Int32} {yhg : Int32} {wHs : Nat → Int64} {yhi : Int32} {i : Int32} (F : Fx p s m args meth c cc nL own ret) (hw : Wd G s A (mW G q yp ye yg bPo bTb wSh wTe wNx bOs bOn yop bSo bNu ytr yiw wMa wPr bTp yln ypl yfa wLi bSi yhp yhe yhg wHs yhi ++ fr) H locs) (hi : inb i 8 = true) (hdg : decode cc pc = .ok (.iaload, 1)) (kk : W p l e R s m args below meth c H locs 0 0 Q (F0 m (pc + 1) ls (.int (bNu i.toNatClampNeg) :: rest))) : W p l e R s m args below meth c H locs 0 0 Q (F0 m pc ls (.int i :: .ref (q 9) :: rest)) :=
  va_iald F.x F.b hw.1 hw.2.1 9 0 (cA := G.2.1) (n := 8) (f := bNu) rfl rfl (inb_vp hi) hdg kk
theorem as_m9 {own : String} {yp : Int32} {ye : Int32} {yg : Int32} {bPo : Nat → Int32} {bTb : Nat → Int32} {wSh : Nat → Int64} {wTe : Nat → Int64} {wNx : Nat → Int64} {bOs : Nat → Int32} {bOn : Nat → Int32} {yop : Int32} {bSo : Nat → Int32} {bNu : Nat → Int32} {ytr : Int32} {yiw : Int32} {wMa : Nat → Int64} {wPr : Nat → Int64} {bTp : Nat → Int32} {yln : Int32} {ypl : Int32} {yfa : Int32} {wLi : Nat → Int64} {bSi : Nat → Int32} {yhp : Int32} {yhe : Int32} {yhg : Int32} {wHs : Nat → Int64} {yhi : Int32} {i x : Int32} (F : Fx p s m args meth c cc nL own ret) (hw : Wd G s A (mW G q yp ye yg bPo bTb wSh wTe wNx bOs bOn yop bSo bNu ytr yiw wMa wPr bTp yln ypl yfa wLi bSi yhp yhe yhg wHs yhi ++ fr) H locs) (hi : inb i 8 = true) (hdg : decode cc pc = .ok (.iastore, 1)) (kk : ∀ (H : Heap) (locs : List Loc), Wd G s A (mW G q yp ye yg bPo bTb wSh wTe wNx bOs bOn yop bSo (upd bNu i.toNatClampNeg x) ytr yiw wMa wPr bTp yln ypl yfa wLi bSi yhp yhe yhg wHs yhi ++ fr) H locs → W p l e R s m args below meth c H locs 0 0 Q (F0 m (pc + 1) ls rest)) : W p l e R s m args below meth c H locs 0 0 Q (F0 m pc ls (.int x :: .int i :: .ref (q 9) :: rest)) :=
  va_iast F.x F.b hw.1 hw.2.1 hw.2.2.1 hw.2.2.2 9 0 (cA := G.2.1) (n := 8) (f := bNu) rfl rfl (inb_vp hi) hdg (fun H locs hP hD hS => kk H locs ⟨hw.1, hP, hD, hS⟩)
theorem al_m10 {own : String} {yp : Int32} {ye : Int32} {yg : Int32} {bPo : Nat → Int32} {bTb : Nat → Int32} {wSh : Nat → Int64} {wTe : Nat → Int64} {wNx : Nat → Int64} {bOs : Nat → Int32} {bOn : Nat → Int32} {yop : Int32} {bSo : Nat → Int32} {bNu : Nat → Int32} {ytr : Int32} {yiw : Int32} {wMa : Nat → Int64} {wPr : Nat → Int64} {bTp : Nat → Int32} {yln : Int32} {ypl : Int32} {yfa : Int32} {wLi : Nat → Int64} {bSi : Nat → Int32} {yhp : Int32} {yhe : Int32} {yhg : Int32} {wHs : Nat → Int64} {yhi : Int32} {i : Int32} (F : Fx p s m args meth c cc nL own ret) (hw : Wd G s A (mW G q yp ye yg bPo bTb wSh wTe wNx bOs bOn yop bSo bNu ytr yiw wMa wPr bTp yln ypl yfa wLi bSi yhp yhe yhg wHs yhi ++ fr) H locs) (hi : inb i 480 = true) (hdg : decode cc pc = .ok (.laload, 1)) (kk : W p l e R s m args below meth c H locs 0 0 Q (F0 m (pc + 1) ls (.long (wMa i.toNatClampNeg) :: rest))) : W p l e R s m args below meth c H locs 0 0 Q (F0 m pc ls (.int i :: .ref (q 10) :: rest)) :=
  va_lald F.x F.b hw.1 hw.2.1 10 2 (cA := G.2.2.2.1) (n := 480) (f := wMa) rfl rfl (inb_vp hi) hdg kk
theorem as_m10 {own : String} {yp : Int32} {ye : Int32} {yg : Int32} {bPo : Nat → Int32} {bTb : Nat → Int32} {wSh : Nat → Int64} {wTe : Nat → Int64} {wNx : Nat → Int64} {bOs : Nat → Int32} {bOn : Nat → Int32} {yop : Int32} {bSo : Nat → Int32} {bNu : Nat → Int32} {ytr : Int32} {yiw : Int32} {wMa : Nat → Int64} {wPr : Nat → Int64} {bTp : Nat → Int32} {yln : Int32} {ypl : Int32} {yfa : Int32} {wLi : Nat → Int64} {bSi : Nat → Int32} {yhp : Int32} {yhe : Int32} {yhg : Int32} {wHs : Nat → Int64} {yhi : Int32} {i : Int32} {x : Int64} (F : Fx p s m args meth c cc nL own ret) (hw : Wd G s A (mW G q yp ye yg bPo bTb wSh wTe wNx bOs bOn yop bSo bNu ytr yiw wMa wPr bTp yln ypl yfa wLi bSi yhp yhe yhg wHs yhi ++ fr) H locs) (hi : inb i 480 = true) (hdg : decode cc pc = .ok (.lastore, 1)) (kk : ∀ (H : Heap) (locs : List Loc), Wd G s A (mW G q yp ye yg bPo bTb wSh wTe wNx bOs bOn yop bSo bNu ytr yiw (vp_updL wMa i.toNatClampNeg x) wPr bTp yln ypl yfa wLi bSi yhp yhe yhg wHs yhi ++ fr) H locs → W p l e R s m args below meth c H locs 0 0 Q (F0 m (pc + 1) ls rest)) : W p l e R s m args below meth c H locs 0 0 Q (F0 m pc ls (.long x :: .int i :: .ref (q 10) :: rest)) :=
  va_last F.x F.b hw.1 hw.2.1 hw.2.2.1 hw.2.2.2 10 2 (cA := G.2.2.2.1) (n := 480) (f := wMa) rfl rfl (inb_vp hi) hdg (fun H locs hP hD hS => kk H locs ⟨hw.1, hP, hD, hS⟩)
theorem al_m11 {own : String} {yp : Int32} {ye : Int32} {yg : Int32} {bPo : Nat → Int32} {bTb : Nat → Int32} {wSh : Nat → Int64} {wTe : Nat → Int64} {wNx : Nat → Int64} {bOs : Nat → Int32} {bOn : Nat → Int32} {yop : Int32} {bSo : Nat → Int32} {bNu : Nat → Int32} {ytr : Int32} {yiw : Int32} {wMa : Nat → Int64} {wPr : Nat → Int64} {bTp : Nat → Int32} {yln : Int32} {ypl : Int32} {yfa : Int32} {wLi : Nat → Int64} {bSi : Nat → Int32} {yhp : Int32} {yhe : Int32} {yhg : Int32} {wHs : Nat → Int64} {yhi : Int32} {i : Int32} (F : Fx p s m args meth c cc nL own ret) (hw : Wd G s A (mW G q yp ye yg bPo bTb wSh wTe wNx bOs bOn yop bSo bNu ytr yiw wMa wPr bTp yln ypl yfa wLi bSi yhp yhe yhg wHs yhi ++ fr) H locs) (hi : inb i 12 = true) (hdg : decode cc pc = .ok (.laload, 1)) (kk : W p l e R s m args below meth c H locs 0 0 Q (F0 m (pc + 1) ls (.long (wPr i.toNatClampNeg) :: rest))) : W p l e R s m args below meth c H locs 0 0 Q (F0 m pc ls (.int i :: .ref (q 11) :: rest)) :=
  va_lald F.x F.b hw.1 hw.2.1 11 2 (cA := G.2.2.2.1) (n := 12) (f := wPr) rfl rfl (inb_vp hi) hdg kk
theorem as_m11 {own : String} {yp : Int32} {ye : Int32} {yg : Int32} {bPo : Nat → Int32} {bTb : Nat → Int32} {wSh : Nat → Int64} {wTe : Nat → Int64} {wNx : Nat → Int64} {bOs : Nat → Int32} {bOn : Nat → Int32} {yop : Int32} {bSo : Nat → Int32} {bNu : Nat → Int32} {ytr : Int32} {yiw : Int32} {wMa : Nat → Int64} {wPr : Nat → Int64} {bTp : Nat → Int32} {yln : Int32} {ypl : Int32} {yfa : Int32} {wLi : Nat → Int64} {bSi : Nat → Int32} {yhp : Int32} {yhe : Int32} {yhg : Int32} {wHs : Nat → Int64} {yhi : Int32} {i : Int32} {x : Int64} (F : Fx p s m args meth c cc nL own ret) (hw : Wd G s A (mW G q yp ye yg bPo bTb wSh wTe wNx bOs bOn yop bSo bNu ytr yiw wMa wPr bTp yln ypl yfa wLi bSi yhp yhe yhg wHs yhi ++ fr) H locs) (hi : inb i 12 = true) (hdg : decode cc pc = .ok (.lastore, 1)) (kk : ∀ (H : Heap) (locs : List Loc), Wd G s A (mW G q yp ye yg bPo bTb wSh wTe wNx bOs bOn yop bSo bNu ytr yiw wMa (vp_updL wPr i.toNatClampNeg x) bTp yln ypl yfa wLi bSi yhp yhe yhg wHs yhi ++ fr) H locs → W p l e R s m args below meth c H locs 0 0 Q (F0 m (pc + 1) ls rest)) : W p l e R s m args below meth c H locs 0 0 Q (F0 m pc ls (.long x :: .int i :: .ref (q 11) :: rest)) :=
  va_last F.x F.b hw.1 hw.2.1 hw.2.2.1 hw.2.2.2 11 2 (cA := G.2.2.2.1) (n := 12) (f := wPr) rfl rfl (inb_vp hi) hdg (fun H locs hP hD hS => kk H locs ⟨hw.1, hP, hD, hS⟩)
theorem al_m12 {own : String} {yp : Int32} {ye : Int32} {yg : Int32} {bPo : Nat → Int32} {bTb : Nat → Int32} {wSh : Nat → Int64} {wTe : Nat → Int64} {wNx : Nat → Int64} {bOs : Nat → Int32} {bOn : Nat → Int32} {yop : Int32} {bSo : Nat → Int32} {bNu : Nat → Int32} {ytr : Int32} {yiw : Int32} {wMa : Nat → Int64} {wPr : Nat → Int64} {bTp : Nat → Int32} {yln : Int32} {ypl : Int32} {yfa : Int32} {wLi : Nat → Int64} {bSi : Nat → Int32} {yhp : Int32} {yhe : Int32} {yhg : Int32} {wHs : Nat → Int64} {yhi : Int32} {i : Int32} (F : Fx p s m args meth c cc nL own ret) (hw : Wd G s A (mW G q yp ye yg bPo bTb wSh wTe wNx bOs bOn yop bSo bNu ytr yiw wMa wPr bTp yln ypl yfa wLi bSi yhp yhe yhg wHs yhi ++ fr) H locs) (hi : inb i 80 = true) (hdg : decode cc pc = .ok (.iaload, 1)) (kk : W p l e R s m args below meth c H locs 0 0 Q (F0 m (pc + 1) ls (.int (bTp i.toNatClampNeg) :: rest))) : W p l e R s m args below meth c H locs 0 0 Q (F0 m pc ls (.int i :: .ref (q 12) :: rest)) :=
  va_iald F.x F.b hw.1 hw.2.1 12 0 (cA := G.2.1) (n := 80) (f := bTp) rfl rfl (inb_vp hi) hdg kk
theorem as_m12 {own : String} {yp : Int32} {ye : Int32} {yg : Int32} {bPo : Nat → Int32} {bTb : Nat → Int32} {wSh : Nat → Int64} {wTe : Nat → Int64} {wNx : Nat → Int64} {bOs : Nat → Int32} {bOn : Nat → Int32} {yop : Int32} {bSo : Nat → Int32} {bNu : Nat → Int32} {ytr : Int32} {yiw : Int32} {wMa : Nat → Int64} {wPr : Nat → Int64} {bTp : Nat → Int32} {yln : Int32} {ypl : Int32} {yfa : Int32} {wLi : Nat → Int64} {bSi : Nat → Int32} {yhp : Int32} {yhe : Int32} {yhg : Int32} {wHs : Nat → Int64} {yhi : Int32} {i x : Int32} (F : Fx p s m args meth c cc nL own ret) (hw : Wd G s A (mW G q yp ye yg bPo bTb wSh wTe wNx bOs bOn yop bSo bNu ytr yiw wMa wPr bTp yln ypl yfa wLi bSi yhp yhe yhg wHs yhi ++ fr) H locs) (hi : inb i 80 = true) (hdg : decode cc pc = .ok (.iastore, 1)) (kk : ∀ (H : Heap) (locs : List Loc), Wd G s A (mW G q yp ye yg bPo bTb wSh wTe wNx bOs bOn yop bSo bNu ytr yiw wMa wPr (upd bTp i.toNatClampNeg x) yln ypl yfa wLi bSi yhp yhe yhg wHs yhi ++ fr) H locs → W p l e R s m args below meth c H locs 0 0 Q (F0 m (pc + 1) ls rest)) : W p l e R s m args below meth c H locs 0 0 Q (F0 m pc ls (.int x :: .int i :: .ref (q 12) :: rest)) :=
  va_iast F.x F.b hw.1 hw.2.1 hw.2.2.1 hw.2.2.2 12 0 (cA := G.2.1) (n := 80) (f := bTp) rfl rfl (inb_vp hi) hdg (fun H locs hP hD hS => kk H locs ⟨hw.1, hP, hD, hS⟩)
theorem al_m13 {own : String} {yp : Int32} {ye : Int32} {yg : Int32} {bPo : Nat → Int32} {bTb : Nat → Int32} {wSh : Nat → Int64} {wTe : Nat → Int64} {wNx : Nat → Int64} {bOs : Nat → Int32} {bOn : Nat → Int32} {yop : Int32} {bSo : Nat → Int32} {bNu : Nat → Int32} {ytr : Int32} {yiw : Int32} {wMa : Nat → Int64} {wPr : Nat → Int64} {bTp : Nat → Int32} {yln : Int32} {ypl : Int32} {yfa : Int32} {wLi : Nat → Int64} {bSi : Nat → Int32} {yhp : Int32} {yhe : Int32} {yhg : Int32} {wHs : Nat → Int64} {yhi : Int32} {i : Int32} (F : Fx p s m args meth c cc nL own ret) (hw : Wd G s A (mW G q yp ye yg bPo bTb wSh wTe wNx bOs bOn yop bSo bNu ytr yiw wMa wPr bTp yln ypl yfa wLi bSi yhp yhe yhg wHs yhi ++ fr) H locs) (hi : inb i 45 = true) (hdg : decode cc pc = .ok (.laload, 1)) (kk : W p l e R s m args below meth c H locs 0 0 Q (F0 m (pc + 1) ls (.long (wLi i.toNatClampNeg) :: rest))) : W p l e R s m args below meth c H locs 0 0 Q (F0 m pc ls (.int i :: .ref (q 13) :: rest)) :=
  va_lald F.x F.b hw.1 hw.2.1 13 2 (cA := G.2.2.2.1) (n := 45) (f := wLi) rfl rfl (inb_vp hi) hdg kk
theorem as_m13 {own : String} {yp : Int32} {ye : Int32} {yg : Int32} {bPo : Nat → Int32} {bTb : Nat → Int32} {wSh : Nat → Int64} {wTe : Nat → Int64} {wNx : Nat → Int64} {bOs : Nat → Int32} {bOn : Nat → Int32} {yop : Int32} {bSo : Nat → Int32} {bNu : Nat → Int32} {ytr : Int32} {yiw : Int32} {wMa : Nat → Int64} {wPr : Nat → Int64} {bTp : Nat → Int32} {yln : Int32} {ypl : Int32} {yfa : Int32} {wLi : Nat → Int64} {bSi : Nat → Int32} {yhp : Int32} {yhe : Int32} {yhg : Int32} {wHs : Nat → Int64} {yhi : Int32} {i : Int32} {x : Int64} (F : Fx p s m args meth c cc nL own ret) (hw : Wd G s A (mW G q yp ye yg bPo bTb wSh wTe wNx bOs bOn yop bSo bNu ytr yiw wMa wPr bTp yln ypl yfa wLi bSi yhp yhe yhg wHs yhi ++ fr) H locs) (hi : inb i 45 = true) (hdg : decode cc pc = .ok (.lastore, 1)) (kk : ∀ (H : Heap) (locs : List Loc), Wd G s A (mW G q yp ye yg bPo bTb wSh wTe wNx bOs bOn yop bSo bNu ytr yiw wMa wPr bTp yln ypl yfa (vp_updL wLi i.toNatClampNeg x) bSi yhp yhe yhg wHs yhi ++ fr) H locs → W p l e R s m args below meth c H locs 0 0 Q (F0 m (pc + 1) ls rest)) : W p l e R s m args below meth c H locs 0 0 Q (F0 m pc ls (.long x :: .int i :: .ref (q 13) :: rest)) :=
  va_last F.x F.b hw.1 hw.2.1 hw.2.2.1 hw.2.2.2 13 2 (cA := G.2.2.2.1) (n := 45) (f := wLi) rfl rfl (inb_vp hi) hdg (fun H locs hP hD hS => kk H locs ⟨hw.1, hP, hD, hS⟩)
theorem al_m14 {own : String} {yp : Int32} {ye : Int32} {yg : Int32} {bPo : Nat → Int32} {bTb : Nat → Int32} {wSh : Nat → Int64} {wTe : Nat → Int64} {wNx : Nat → Int64} {bOs : Nat → Int32} {bOn : Nat → Int32} {yop : Int32} {bSo : Nat → Int32} {bNu : Nat → Int32} {ytr : Int32} {yiw : Int32} {wMa : Nat → Int64} {wPr : Nat → Int64} {bTp : Nat → Int32} {yln : Int32} {ypl : Int32} {yfa : Int32} {wLi : Nat → Int64} {bSi : Nat → Int32} {yhp : Int32} {yhe : Int32} {yhg : Int32} {wHs : Nat → Int64} {yhi : Int32} {i : Int32} (F : Fx p s m args meth c cc nL own ret) (hw : Wd G s A (mW G q yp ye yg bPo bTb wSh wTe wNx bOs bOn yop bSo bNu ytr yiw wMa wPr bTp yln ypl yfa wLi bSi yhp yhe yhg wHs yhi ++ fr) H locs) (hi : inb i 3 = true) (hdg : decode cc pc = .ok (.iaload, 1)) (kk : W p l e R s m args below meth c H locs 0 0 Q (F0 m (pc + 1) ls (.int (bSi i.toNatClampNeg) :: rest))) : W p l e R s m args below meth c H locs 0 0 Q (F0 m pc ls (.int i :: .ref (q 14) :: rest)) :=
  va_iald F.x F.b hw.1 hw.2.1 14 0 (cA := G.2.1) (n := 3) (f := bSi) rfl rfl (inb_vp hi) hdg kk
theorem as_m14 {own : String} {yp : Int32} {ye : Int32} {yg : Int32} {bPo : Nat → Int32} {bTb : Nat → Int32} {wSh : Nat → Int64} {wTe : Nat → Int64} {wNx : Nat → Int64} {bOs : Nat → Int32} {bOn : Nat → Int32} {yop : Int32} {bSo : Nat → Int32} {bNu : Nat → Int32} {ytr : Int32} {yiw : Int32} {wMa : Nat → Int64} {wPr : Nat → Int64} {bTp : Nat → Int32} {yln : Int32} {ypl : Int32} {yfa : Int32} {wLi : Nat → Int64} {bSi : Nat → Int32} {yhp : Int32} {yhe : Int32} {yhg : Int32} {wHs : Nat → Int64} {yhi : Int32} {i x : Int32} (F : Fx p s m args meth c cc nL own ret) (hw : Wd G s A (mW G q yp ye yg bPo bTb wSh wTe wNx bOs bOn yop bSo bNu ytr yiw wMa wPr bTp yln ypl yfa wLi bSi yhp yhe yhg wHs yhi ++ fr) H locs) (hi : inb i 3 = true) (hdg : decode cc pc = .ok (.iastore, 1)) (kk : ∀ (H : Heap) (locs : List Loc), Wd G s A (mW G q yp ye yg bPo bTb wSh wTe wNx bOs bOn yop bSo bNu ytr yiw wMa wPr bTp yln ypl yfa wLi (upd bSi i.toNatClampNeg x) yhp yhe yhg wHs yhi ++ fr) H locs → W p l e R s m args below meth c H locs 0 0 Q (F0 m (pc + 1) ls rest)) : W p l e R s m args below meth c H locs 0 0 Q (F0 m pc ls (.int x :: .int i :: .ref (q 14) :: rest)) :=
  va_iast F.x F.b hw.1 hw.2.1 hw.2.2.1 hw.2.2.2 14 0 (cA := G.2.1) (n := 3) (f := bSi) rfl rfl (inb_vp hi) hdg (fun H locs hP hD hS => kk H locs ⟨hw.1, hP, hD, hS⟩)
theorem al_m15 {own : String} {yp : Int32} {ye : Int32} {yg : Int32} {bPo : Nat → Int32} {bTb : Nat → Int32} {wSh : Nat → Int64} {wTe : Nat → Int64} {wNx : Nat → Int64} {bOs : Nat → Int32} {bOn : Nat → Int32} {yop : Int32} {bSo : Nat → Int32} {bNu : Nat → Int32} {ytr : Int32} {yiw : Int32} {wMa : Nat → Int64} {wPr : Nat → Int64} {bTp : Nat → Int32} {yln : Int32} {ypl : Int32} {yfa : Int32} {wLi : Nat → Int64} {bSi : Nat → Int32} {yhp : Int32} {yhe : Int32} {yhg : Int32} {wHs : Nat → Int64} {yhi : Int32} {i : Int32} (F : Fx p s m args meth c cc nL own ret) (hw : Wd G s A (mW G q yp ye yg bPo bTb wSh wTe wNx bOs bOn yop bSo bNu ytr yiw wMa wPr bTp yln ypl yfa wLi bSi yhp yhe yhg wHs yhi ++ fr) H locs) (hi : inb i 48 = true) (hdg : decode cc pc = .ok (.laload, 1)) (kk : W p l e R s m args below meth c H locs 0 0 Q (F0 m (pc + 1) ls (.long (wHs i.toNatClampNeg) :: rest))) : W p l e R s m args below meth c H locs 0 0 Q (F0 m pc ls (.int i :: .ref (q 15) :: rest)) :=
  va_lald F.x F.b hw.1 hw.2.1 15 2 (cA := G.2.2.2.1) (n := 48) (f := wHs) rfl rfl (inb_vp hi) hdg kk
theorem as_m15 {own : String} {yp : Int32} {ye : Int32} {yg : Int32} {bPo : Nat → Int32} {bTb : Nat → Int32} {wSh : Nat → Int64} {wTe : Nat → Int64} {wNx : Nat → Int64} {bOs : Nat → Int32} {bOn : Nat → Int32} {yop : Int32} {bSo : Nat → Int32} {bNu : Nat → Int32} {ytr : Int32} {yiw : Int32} {wMa : Nat → Int64} {wPr : Nat → Int64} {bTp : Nat → Int32} {yln : Int32} {ypl : Int32} {yfa : Int32} {wLi : Nat → Int64} {bSi : Nat → Int32} {yhp : Int32} {yhe : Int32} {yhg : Int32} {wHs : Nat → Int64} {yhi : Int32} {i : Int32} {x : Int64} (F : Fx p s m args meth c cc nL own ret) (hw : Wd G s A (mW G q yp ye yg bPo bTb wSh wTe wNx bOs bOn yop bSo bNu ytr yiw wMa wPr bTp yln ypl yfa wLi bSi yhp yhe yhg wHs yhi ++ fr) H locs) (hi : inb i 48 = true) (hdg : decode cc pc = .ok (.lastore, 1)) (kk : ∀ (H : Heap) (locs : List Loc), Wd G s A (mW G q yp ye yg bPo bTb wSh wTe wNx bOs bOn yop bSo bNu ytr yiw wMa wPr bTp yln ypl yfa wLi bSi yhp yhe yhg (vp_updL wHs i.toNatClampNeg x) yhi ++ fr) H locs → W p l e R s m args below meth c H locs 0 0 Q (F0 m (pc + 1) ls rest)) : W p l e R s m args below meth c H locs 0 0 Q (F0 m pc ls (.long x :: .int i :: .ref (q 15) :: rest)) :=
  va_last F.x F.b hw.1 hw.2.1 hw.2.2.1 hw.2.2.2 15 2 (cA := G.2.2.2.1) (n := 48) (f := wHs) rfl rfl (inb_vp hi) hdg (fun H locs hP hD hS => kk H locs ⟨hw.1, hP, hD, hS⟩)
theorem al_row {zp : Int32} {ze : Int32} {zf : Int32} {zg : Int32} {zn : Int32} {aG : Nat → Int32} {aW : Nat → Int32} {aR : Nat → Int32} {aN : Nat → Int32} {aF : Nat → Int32} {lC : Nat → Int64} {lS : Nat → Int64} {lP : Nat → Int64} {lX : Nat → Int64} {ztc : Int32} {aTs : Nat → Int32} {aTn : Nat → Int32} {zoc : Int32} {aOs : Nat → Int32} {aOn : Nat → Int32} {aTp : Nat → Int32} {zln : Int32} {zpl : Int32} {zfa : Int32} {aSz : Nat → Int32} {zit : Int32} {zip : Int32} {zic : Int32} {zig : Int32} {M : Nat → Nat → Int64} {own : String} {i : Int32} {a : Nat} (F : Fx p s m args meth c cc nL own ret) (hw : Wd G s A (kW G q zp ze zf zg zn aG aW aR aN aF lC lS lP lX ++ (oW G q ztc aTs aTn zoc aOs aOn aTp zln zpl zfa aSz zit zip zic zig M ++ fr)) H locs) (ha : a < 32) (hi : inb i (rl a) = true) (hdg : decode cc pc = .ok (.laload, 1)) (kk : W p l e R s m args below meth c H locs 0 0 Q (F0 m (pc + 1) ls (.long (M a i.toNatClampNeg) :: rest))) : W p l e R s m args below meth c H locs 0 0 Q (F0 m pc ls (.int i :: .ref (q (26 + a)) :: rest)) :=
  va_lald F.x F.b hw.1 hw.2.1 (26 + a) 2 (cA := G.2.2.2.1) (n := rl a) (f := M a) (row_at ha) rfl (inb_vp hi) hdg kk
theorem as_row {zp : Int32} {ze : Int32} {zf : Int32} {zg : Int32} {zn : Int32} {aG : Nat → Int32} {aW : Nat → Int32} {aR : Nat → Int32} {aN : Nat → Int32} {aF : Nat → Int32} {lC : Nat → Int64} {lS : Nat → Int64} {lP : Nat → Int64} {lX : Nat → Int64} {ztc : Int32} {aTs : Nat → Int32} {aTn : Nat → Int32} {zoc : Int32} {aOs : Nat → Int32} {aOn : Nat → Int32} {aTp : Nat → Int32} {zln : Int32} {zpl : Int32} {zfa : Int32} {aSz : Nat → Int32} {zit : Int32} {zip : Int32} {zic : Int32} {zig : Int32} {M : Nat → Nat → Int64} {own : String} {i : Int32} {a : Nat} {x : Int64} (F : Fx p s m args meth c cc nL own ret) (hw : Wd G s A (kW G q zp ze zf zg zn aG aW aR aN aF lC lS lP lX ++ (oW G q ztc aTs aTn zoc aOs aOn aTp zln zpl zfa aSz zit zip zic zig M ++ fr)) H locs) (ha : a < 32) (hi : inb i (rl a) = true) (hdg : decode cc pc = .ok (.lastore, 1)) (kk : ∀ (H : Heap) (locs : List Loc), Wd G s A (kW G q zp ze zf zg zn aG aW aR aN aF lC lS lP lX ++ (oW G q ztc aTs aTn zoc aOs aOn aTp zln zpl zfa aSz zit zip zic zig (va_up M a (vp_updL (M a) i.toNatClampNeg x)) ++ fr)) H locs → W p l e R s m args below meth c H locs 0 0 Q (F0 m (pc + 1) ls rest)) : W p l e R s m args below meth c H locs 0 0 Q (F0 m pc ls (.long x :: .int i :: .ref (q (26 + a)) :: rest)) :=
  va_last F.x F.b hw.1 hw.2.1 hw.2.2.1 hw.2.2.2 (26 + a) 2 (cA := G.2.2.2.1) (n := rl a) (f := M a) (row_at ha) rfl (inb_vp hi) hdg (fun H locs hP hD hS => kk H locs ⟨hw.1, (row_set ha (vp_updL (M a) i.toNatClampNeg x)) ▸ hP, (row_set ha (vp_updL (M a) i.toNatClampNeg x)) ▸ hD, hS⟩)
end WR
end
section
/-! printed by wip/whole/mk.py: the words of the calls -/
def cpk (sp dp n : Int32) (n0 n1 : Nat) : Bool := (!decide (sp < 0)) && (!decide (dp < 0)) && (!decide (n < 0)) && decide (sp.toNatClampNeg + n.toNatClampNeg ≤ n0) && decide (dp.toNatClampNeg + n.toNatClampNeg ≤ n1)
theorem cpk_all {sp dp n : Int32} {n0 n1 : Nat} (h : cpk sp dp n n0 n1 = true) : (¬ sp < 0) ∧ (¬ dp < 0) ∧ (¬ n < 0) ∧ sp.toNatClampNeg + n.toNatClampNeg ≤ n0 ∧ dp.toNatClampNeg + n.toNatClampNeg ≤ n1 := by
  simp only [cpk, Bool.and_eq_true, Bool.not_eq_true', decide_eq_false_iff_not, decide_eq_true_eq] at h
  exact ⟨h.1.1.1.1, h.1.1.1.2, h.1.1.2, h.1.2, h.2⟩
theorem cpk1 {sp dp n : Int32} {n0 n1 : Nat} (h : cpk sp dp n n0 n1 = true) : ¬ sp < 0 := (cpk_all h).1
theorem cpk2 {sp dp n : Int32} {n0 n1 : Nat} (h : cpk sp dp n n0 n1 = true) : ¬ dp < 0 := (cpk_all h).2.1
theorem cpk3 {sp dp n : Int32} {n0 n1 : Nat} (h : cpk sp dp n n0 n1 = true) : ¬ n < 0 := (cpk_all h).2.2.1
theorem cpk4 {sp dp n : Int32} {n0 n1 : Nat} (h : cpk sp dp n n0 n1 = true) : sp.toNatClampNeg + n.toNatClampNeg ≤ n0 := (cpk_all h).2.2.2.1
theorem cpk5 {sp dp n : Int32} {n0 n1 : Nat} (h : cpk sp dp n n0 n1 = true) : dp.toNatClampNeg + n.toNatClampNeg ≤ n1 := (cpk_all h).2.2.2.2
theorem kac1 : Cond.methodLink RX5 132 arraycopyName ∈ BG := BG_in 892 (by decide +kernel) (by decide +kernel)
theorem kac2 : Cond.native arraycopyName ∈ BG := BG_in 894 (by decide +kernel) (by decide +kernel)
theorem kac3 : Cond.static arraycopyName ∈ BG := BG_in 893 (by decide +kernel) (by decide +kernel)
theorem kac4 : Cond.initialized "java/lang/System" ∈ BG := BG_in 69 (by decide +kernel) (by decide +kernel)
theorem tsw_at {x : Int32} {k : Int} (h : x.toInt = k) : x = Int32.ofInt k := by rw [← h, Int32.ofInt_toInt]
theorem tsw4 {x : Int32} (h0 : ¬ x = 0) (h1 : ¬ x = 1) (h2 : ¬ x = 2) (h3 : ¬ x = 3) : x.toInt < 0 ∨ 3 < x.toInt := by
  by_cases hx : x.toInt < 0
  · exact Or.inl hx
  · refine Or.inr ?_
    have a0 : ¬ x.toInt = 0 := fun q => h0 (tsw_at q)
    have a1 : ¬ x.toInt = 1 := fun q => h1 (tsw_at q)
    have a2 : ¬ x.toInt = 2 := fun q => h2 (tsw_at q)
    have a3 : ¬ x.toInt = 3 := fun q => h3 (tsw_at q)
    omega
theorem tsw5 {x : Int32} (h0 : ¬ x = 0) (h1 : ¬ x = 1) (h2 : ¬ x = 2) (h3 : ¬ x = 3) (h4 : ¬ x = 4) : x.toInt < 0 ∨ 4 < x.toInt := by
  rcases tsw4 h0 h1 h2 h3 with h | h
  · exact Or.inl h
  · have a4 : ¬ x.toInt = 4 := fun q => h4 (tsw_at q)
    omega
theorem kc_5_94 : Cond.constantLong RX5 94 (3) ∈ BG := BG_in 794 (by decide +kernel) (by decide +kernel)
theorem kc_5_96 : Cond.constantLong RX5 96 (61) ∈ BG := BG_in 795 (by decide +kernel) (by decide +kernel)
theorem kc_5_101 : Cond.constantLong RX5 101 (12) ∈ BG := BG_in 802 (by decide +kernel) (by decide +kernel)
theorem kc_5_130 : Cond.constantLong RX5 130 (-1) ∈ BG := BG_in 891 (by decide +kernel) (by decide +kernel)
theorem kc_5_138 : Cond.constantLong RX5 138 (-9223372036854775808) ∈ BG := BG_in 886 (by decide +kernel) (by decide +kernel)
theorem kc_5_143 : Cond.constantLong RX5 143 (2) ∈ BG := BG_in 899 (by decide +kernel) (by decide +kernel)
theorem kc_5_145 : Cond.constantLong RX5 145 (97) ∈ BG := BG_in 900 (by decide +kernel) (by decide +kernel)
theorem ki_0 : Cond.initialized RX0 ∈ BG := BG_in 64 (by decide +kernel) (by decide +kernel)
theorem ki_1 : Cond.initialized RX1 ∈ BG := BG_in 67 (by decide +kernel) (by decide +kernel)
theorem ki_2 : Cond.initialized RX2 ∈ BG := BG_in 66 (by decide +kernel) (by decide +kernel)
theorem ki_3 : Cond.initialized RX3 ∈ BG := BG_in 65 (by decide +kernel) (by decide +kernel)
theorem ki_4 : Cond.initialized RX4 ∈ BG := BG_in 63 (by decide +kernel) (by decide +kernel)
theorem ki_5 : Cond.initialized RX5 ∈ BG := BG_in 68 (by decide +kernel) (by decide +kernel)
theorem kl_0_70 : ∀ w ∈ wsV RX0 70 RX0 yX0_findPowers (.code yX0_findPowers cX0_findPowers 3 none :: BG), w ∈ BG := kV (BG_in 105 (by decide +kernel) (by decide +kernel)) (BG_in 107 (by decide +kernel) (by decide +kernel)) (BG_in 2 (by decide +kernel) (by decide +kernel)) ki_0 (BG_in 108 (by decide +kernel) (by decide +kernel) : Cond.code yX0_findPowers cX0_findPowers 3 none ∈ BG)
theorem kl_0_73 : ∀ w ∈ wsV RX0 73 RX0 yX0_findNeighbours (.code yX0_findNeighbours cX0_findNeighbours 2 none :: BG), w ∈ BG := kV (BG_in 109 (by decide +kernel) (by decide +kernel)) (BG_in 111 (by decide +kernel) (by decide +kernel)) (BG_in 3 (by decide +kernel) (by decide +kernel)) ki_0 (BG_in 112 (by decide +kernel) (by decide +kernel) : Cond.code yX0_findNeighbours cX0_findNeighbours 2 none ∈ BG)
theorem kl_0_76 : ∀ w ∈ wsV RX0 76 RX0 yX0_findFactors (.code yX0_findFactors cX0_findFactors 5 none :: BG), w ∈ BG := kV (BG_in 117 (by decide +kernel) (by decide +kernel)) (BG_in 119 (by decide +kernel) (by decide +kernel)) (BG_in 5 (by decide +kernel) (by decide +kernel)) ki_0 (BG_in 120 (by decide +kernel) (by decide +kernel) : Cond.code yX0_findFactors cX0_findFactors 5 none ∈ BG)
theorem kl_0_82 : ∀ w ∈ wsV RX0 82 RX0 yX0_isGenerator (.code yX0_isGenerator cX0_isGenerator 4 (some .boolean) :: BG), w ∈ BG := kV (BG_in 93 (by decide +kernel) (by decide +kernel)) (BG_in 94 (by decide +kernel) (by decide +kernel)) (BG_in 95 (by decide +kernel) (by decide +kernel)) ki_0 (BG_in 96 (by decide +kernel) (by decide +kernel) : Cond.code yX0_isGenerator cX0_isGenerator 4 (some .boolean) ∈ BG)
theorem kl_0_86 : ∀ w ∈ wsV RX0 86 RX0 yX0_classNumber (.code yX0_classNumber cX0_classNumber 2 (some .int) :: BG), w ∈ BG := kV (BG_in 113 (by decide +kernel) (by decide +kernel)) (BG_in 115 (by decide +kernel) (by decide +kernel)) (BG_in 4 (by decide +kernel) (by decide +kernel)) ki_0 (BG_in 116 (by decide +kernel) (by decide +kernel) : Cond.code yX0_classNumber cX0_classNumber 2 (some .int) ∈ BG)
theorem kl_0_90 : ∀ w ∈ wsV RX0 90 RX0 yX0_oppositeOf (.code yX0_oppositeOf cX0_oppositeOf 2 (some .int) :: BG), w ∈ BG := kV (BG_in 121 (by decide +kernel) (by decide +kernel)) (BG_in 122 (by decide +kernel) (by decide +kernel)) (BG_in 123 (by decide +kernel) (by decide +kernel)) ki_0 (BG_in 124 (by decide +kernel) (by decide +kernel) : Cond.code yX0_oppositeOf cX0_oppositeOf 2 (some .int) ∈ BG)
theorem kl_0_97 : ∀ w ∈ wsV RX0 97 RX0 yX0_countMeetings (.code yX0_countMeetings cX0_countMeetings 5 none :: BG), w ∈ BG := kV (BG_in 128 (by decide +kernel) (by decide +kernel)) (BG_in 130 (by decide +kernel) (by decide +kernel)) (BG_in 6 (by decide +kernel) (by decide +kernel)) ki_0 (BG_in 131 (by decide +kernel) (by decide +kernel) : Cond.code yX0_countMeetings cX0_countMeetings 5 none ∈ BG)
theorem kl_5_58 : ∀ w ∈ wsV RX5 58 RX5 yX5_begins (.code yX5_begins cX5_begins 4 none :: BG), w ∈ BG := kV (BG_in 682 (by decide +kernel) (by decide +kernel)) (BG_in 684 (by decide +kernel) (by decide +kernel)) (BG_in 29 (by decide +kernel) (by decide +kernel)) ki_5 (BG_in 685 (by decide +kernel) (by decide +kernel) : Cond.code yX5_begins cX5_begins 4 none ∈ BG)
theorem kl_5_72 : ∀ w ∈ wsV RX5 72 RX5 yX5_isGenerator (.code yX5_isGenerator cX5_isGenerator 4 (some .boolean) :: BG), w ∈ BG := kV (BG_in 686 (by decide +kernel) (by decide +kernel)) (BG_in 688 (by decide +kernel) (by decide +kernel)) (BG_in 30 (by decide +kernel) (by decide +kernel)) ki_5 (BG_in 689 (by decide +kernel) (by decide +kernel) : Cond.code yX5_isGenerator cX5_isGenerator 4 (some .boolean) ∈ BG)
theorem kl_5_76 : ∀ w ∈ wsV RX5 76 RX5 yX5_findsClasses (.code yX5_findsClasses cX5_findsClasses 6 none :: BG), w ∈ BG := kV (BG_in 690 (by decide +kernel) (by decide +kernel)) (BG_in 692 (by decide +kernel) (by decide +kernel)) (BG_in 31 (by decide +kernel) (by decide +kernel)) ki_5 (BG_in 693 (by decide +kernel) (by decide +kernel) : Cond.code yX5_findsClasses cX5_findsClasses 6 none ∈ BG)
theorem kl_5_79 : ∀ w ∈ wsV RX5 79 RX5 yX5_firstOf (.code yX5_firstOf cX5_firstOf 3 (some .int) :: BG), w ∈ BG := kV (BG_in 694 (by decide +kernel) (by decide +kernel)) (BG_in 696 (by decide +kernel) (by decide +kernel)) (BG_in 32 (by decide +kernel) (by decide +kernel)) ki_5 (BG_in 697 (by decide +kernel) (by decide +kernel) : Cond.code yX5_firstOf cX5_firstOf 3 (some .int) ∈ BG)
theorem kl_5_83 : ∀ w ∈ wsV RX5 83 RX5 yX5_classAt (.code yX5_classAt cX5_classAt 2 (some .int) :: BG), w ∈ BG := kV (BG_in 698 (by decide +kernel) (by decide +kernel)) (BG_in 700 (by decide +kernel) (by decide +kernel)) (BG_in 33 (by decide +kernel) (by decide +kernel)) ki_5 (BG_in 701 (by decide +kernel) (by decide +kernel) : Cond.code yX5_classAt cX5_classAt 2 (some .int) ∈ BG)
theorem kl_5_86 : ∀ w ∈ va_wsS RX5 86 yX5_at (.code yX5_at cX5_at 3 (some .int) :: BG), w ∈ BG := kS (BG_in 702 (by decide +kernel) (by decide +kernel)) (BG_in 703 (by decide +kernel) (by decide +kernel)) ki_5 (BG_in 704 (by decide +kernel) (by decide +kernel) : Cond.code yX5_at cX5_at 3 (some .int) ∈ BG)
theorem kl_5_90 : ∀ w ∈ va_wsS RX5 90 yX5_in (.code yX5_in cX5_in 6 (some .boolean) :: BG), w ∈ BG := kS (BG_in 796 (by decide +kernel) (by decide +kernel)) (BG_in 797 (by decide +kernel) (by decide +kernel)) ki_5 (BG_in 798 (by decide +kernel) (by decide +kernel) : Cond.code yX5_in cX5_in 6 (some .boolean) ∈ BG)
theorem kl_5_98 : ∀ w ∈ va_wsS RX5 98 yX5_isPrime (.code yX5_isPrime cX5_isPrime 2 (some .boolean) :: BG), w ∈ BG := kS (BG_in 799 (by decide +kernel) (by decide +kernel)) (BG_in 800 (by decide +kernel) (by decide +kernel)) ki_5 (BG_in 801 (by decide +kernel) (by decide +kernel) : Cond.code yX5_isPrime cX5_isPrime 2 (some .boolean) ∈ BG)
theorem kl_5_103 : ∀ w ∈ va_wsS RX5 103 yX5_bit (.code yX5_bit cX5_bit 1 (some .int) :: BG), w ∈ BG := kS (BG_in 811 (by decide +kernel) (by decide +kernel)) (BG_in 812 (by decide +kernel) (by decide +kernel)) ki_5 (BG_in 813 (by decide +kernel) (by decide +kernel) : Cond.code yX5_bit cX5_bit 1 (some .int) ∈ BG)
theorem kl_5_107 : ∀ w ∈ wsV RX5 107 RX5 yX5_generators (.code yX5_generators cX5_generators 3 (some .int) :: BG), w ∈ BG := kV (BG_in 807 (by decide +kernel) (by decide +kernel)) (BG_in 809 (by decide +kernel) (by decide +kernel)) (BG_in 34 (by decide +kernel) (by decide +kernel)) ki_5 (BG_in 810 (by decide +kernel) (by decide +kernel) : Cond.code yX5_generators cX5_generators 3 (some .int) ∈ BG)
theorem kl_5_111 : ∀ w ∈ wsV RX5 111 RX5 yX5_isNumber (.code yX5_isNumber cX5_isNumber 2 (some .boolean) :: BG), w ∈ BG := kV (BG_in 822 (by decide +kernel) (by decide +kernel)) (BG_in 824 (by decide +kernel) (by decide +kernel)) (BG_in 35 (by decide +kernel) (by decide +kernel)) ki_5 (BG_in 825 (by decide +kernel) (by decide +kernel) : Cond.code yX5_isNumber cX5_isNumber 2 (some .boolean) ∈ BG)
theorem kl_5_114 : ∀ w ∈ wsV RX5 114 RX5 yX5_isClass (.code yX5_isClass cX5_isClass 2 (some .boolean) :: BG), w ∈ BG := kV (BG_in 838 (by decide +kernel) (by decide +kernel)) (BG_in 840 (by decide +kernel) (by decide +kernel)) (BG_in 36 (by decide +kernel) (by decide +kernel)) ki_5 (BG_in 841 (by decide +kernel) (by decide +kernel) : Cond.code yX5_isClass cX5_isClass 2 (some .boolean) ∈ BG)
theorem kl_5_117 : ∀ w ∈ wsV RX5 117 RX5 yX5_besideOf (.code yX5_besideOf cX5_besideOf 5 (some .int) :: BG), w ∈ BG := kV (BG_in 846 (by decide +kernel) (by decide +kernel)) (BG_in 848 (by decide +kernel) (by decide +kernel)) (BG_in 37 (by decide +kernel) (by decide +kernel)) ki_5 (BG_in 849 (by decide +kernel) (by decide +kernel) : Cond.code yX5_besideOf cX5_besideOf 5 (some .int) ∈ BG)
theorem kl_5_121 : ∀ w ∈ wsV RX5 121 RX5 yX5_oppositeOf (.code yX5_oppositeOf cX5_oppositeOf 2 (some .int) :: BG), w ∈ BG := kV (BG_in 862 (by decide +kernel) (by decide +kernel)) (BG_in 864 (by decide +kernel) (by decide +kernel)) (BG_in 39 (by decide +kernel) (by decide +kernel)) ki_5 (BG_in 865 (by decide +kernel) (by decide +kernel) : Cond.code yX5_oppositeOf cX5_oppositeOf 2 (some .int) ∈ BG)
theorem kl_5_124 : ∀ w ∈ wsV RX5 124 RX5 yX5_timesOf (.code yX5_timesOf cX5_timesOf 4 (some .int) :: BG), w ∈ BG := kV (BG_in 858 (by decide +kernel) (by decide +kernel)) (BG_in 860 (by decide +kernel) (by decide +kernel)) (BG_in 38 (by decide +kernel) (by decide +kernel)) ki_5 (BG_in 861 (by decide +kernel) (by decide +kernel) : Cond.code yX5_timesOf cX5_timesOf 4 (some .int) ∈ BG)
theorem kl_5_127 : ∀ w ∈ wsV RX5 127 RX5 yX5_raisedModulo (.code yX5_raisedModulo cX5_raisedModulo 4 (some .int) :: BG), w ∈ BG := kV (BG_in 878 (by decide +kernel) (by decide +kernel)) (BG_in 880 (by decide +kernel) (by decide +kernel)) (BG_in 40 (by decide +kernel) (by decide +kernel)) ki_5 (BG_in 881 (by decide +kernel) (by decide +kernel) : Cond.code yX5_raisedModulo cX5_raisedModulo 4 (some .int) ∈ BG)
theorem kl_5_140 : ∀ w ∈ wsV RX5 140 RX5 yX5_findsPolynomial (.code yX5_findsPolynomial cX5_findsPolynomial 5 none :: BG), w ∈ BG := kV (BG_in 887 (by decide +kernel) (by decide +kernel)) (BG_in 889 (by decide +kernel) (by decide +kernel)) (BG_in 41 (by decide +kernel) (by decide +kernel)) ki_5 (BG_in 890 (by decide +kernel) (by decide +kernel) : Cond.code yX5_findsPolynomial cX5_findsPolynomial 5 none ∈ BG)
theorem kd_X0_findPowers : yX0_findPowers.cls = RX0 ∧ yX0_findPowers.cls ≠ "java/lang/invoke/MethodHandle" ∧ yX0_findPowers.cls ≠ "java/lang/invoke/VarHandle" ∧ (parseMethodDescriptor yX0_findPowers.desc).map (fun d => d.parameters.length) = some 0 := by decide +kernel
theorem kd_X0_findNeighbours : yX0_findNeighbours.cls = RX0 ∧ yX0_findNeighbours.cls ≠ "java/lang/invoke/MethodHandle" ∧ yX0_findNeighbours.cls ≠ "java/lang/invoke/VarHandle" ∧ (parseMethodDescriptor yX0_findNeighbours.desc).map (fun d => d.parameters.length) = some 0 := by decide +kernel
theorem kd_X0_findFactors : yX0_findFactors.cls = RX0 ∧ yX0_findFactors.cls ≠ "java/lang/invoke/MethodHandle" ∧ yX0_findFactors.cls ≠ "java/lang/invoke/VarHandle" ∧ (parseMethodDescriptor yX0_findFactors.desc).map (fun d => d.parameters.length) = some 0 := by decide +kernel
theorem kd_X0_isGenerator : yX0_isGenerator.cls = RX0 ∧ yX0_isGenerator.cls ≠ "java/lang/invoke/MethodHandle" ∧ yX0_isGenerator.cls ≠ "java/lang/invoke/VarHandle" ∧ (parseMethodDescriptor yX0_isGenerator.desc).map (fun d => d.parameters.length) = some 1 := by decide +kernel
theorem kd_X0_classNumber : yX0_classNumber.cls = RX0 ∧ yX0_classNumber.cls ≠ "java/lang/invoke/MethodHandle" ∧ yX0_classNumber.cls ≠ "java/lang/invoke/VarHandle" ∧ (parseMethodDescriptor yX0_classNumber.desc).map (fun d => d.parameters.length) = some 1 := by decide +kernel
theorem kd_X0_oppositeOf : yX0_oppositeOf.cls = RX0 ∧ yX0_oppositeOf.cls ≠ "java/lang/invoke/MethodHandle" ∧ yX0_oppositeOf.cls ≠ "java/lang/invoke/VarHandle" ∧ (parseMethodDescriptor yX0_oppositeOf.desc).map (fun d => d.parameters.length) = some 1 := by decide +kernel
theorem kd_X4_factorIndex : yX4_factorIndex.cls ≠ "java/lang/invoke/MethodHandle" ∧ yX4_factorIndex.cls ≠ "java/lang/invoke/VarHandle" ∧ (parseMethodDescriptor yX4_factorIndex.desc).map (fun d => d.parameters.length) = some 3 := by decide +kernel
theorem kd_X0_countMeetings : yX0_countMeetings.cls = RX0 ∧ yX0_countMeetings.cls ≠ "java/lang/invoke/MethodHandle" ∧ yX0_countMeetings.cls ≠ "java/lang/invoke/VarHandle" ∧ (parseMethodDescriptor yX0_countMeetings.desc).map (fun d => d.parameters.length) = some 2 := by decide +kernel
theorem kd_X5_begins : yX5_begins.cls = RX5 ∧ yX5_begins.cls ≠ "java/lang/invoke/MethodHandle" ∧ yX5_begins.cls ≠ "java/lang/invoke/VarHandle" ∧ (parseMethodDescriptor yX5_begins.desc).map (fun d => d.parameters.length) = some 2 := by decide +kernel
theorem kd_X5_isGenerator : yX5_isGenerator.cls = RX5 ∧ yX5_isGenerator.cls ≠ "java/lang/invoke/MethodHandle" ∧ yX5_isGenerator.cls ≠ "java/lang/invoke/VarHandle" ∧ (parseMethodDescriptor yX5_isGenerator.desc).map (fun d => d.parameters.length) = some 1 := by decide +kernel
theorem kd_X5_findsClasses : yX5_findsClasses.cls = RX5 ∧ yX5_findsClasses.cls ≠ "java/lang/invoke/MethodHandle" ∧ yX5_findsClasses.cls ≠ "java/lang/invoke/VarHandle" ∧ (parseMethodDescriptor yX5_findsClasses.desc).map (fun d => d.parameters.length) = some 0 := by decide +kernel
theorem kd_X5_firstOf : yX5_firstOf.cls = RX5 ∧ yX5_firstOf.cls ≠ "java/lang/invoke/MethodHandle" ∧ yX5_firstOf.cls ≠ "java/lang/invoke/VarHandle" ∧ (parseMethodDescriptor yX5_firstOf.desc).map (fun d => d.parameters.length) = some 1 := by decide +kernel
theorem kd_X5_classAt : yX5_classAt.cls = RX5 ∧ yX5_classAt.cls ≠ "java/lang/invoke/MethodHandle" ∧ yX5_classAt.cls ≠ "java/lang/invoke/VarHandle" ∧ (parseMethodDescriptor yX5_classAt.desc).map (fun d => d.parameters.length) = some 1 := by decide +kernel
theorem kd_X5_at : yX5_at.cls ≠ "java/lang/invoke/MethodHandle" ∧ yX5_at.cls ≠ "java/lang/invoke/VarHandle" ∧ (parseMethodDescriptor yX5_at.desc).map (fun d => d.parameters.length) = some 3 := by decide +kernel
theorem kd_X5_in : yX5_in.cls ≠ "java/lang/invoke/MethodHandle" ∧ yX5_in.cls ≠ "java/lang/invoke/VarHandle" ∧ (parseMethodDescriptor yX5_in.desc).map (fun d => d.parameters.length) = some 3 := by decide +kernel
theorem kd_X5_isPrime : yX5_isPrime.cls ≠ "java/lang/invoke/MethodHandle" ∧ yX5_isPrime.cls ≠ "java/lang/invoke/VarHandle" ∧ (parseMethodDescriptor yX5_isPrime.desc).map (fun d => d.parameters.length) = some 1 := by decide +kernel
theorem kd_X5_bit : yX5_bit.cls ≠ "java/lang/invoke/MethodHandle" ∧ yX5_bit.cls ≠ "java/lang/invoke/VarHandle" ∧ (parseMethodDescriptor yX5_bit.desc).map (fun d => d.parameters.length) = some 1 := by decide +kernel
theorem kd_X5_generators : yX5_generators.cls = RX5 ∧ yX5_generators.cls ≠ "java/lang/invoke/MethodHandle" ∧ yX5_generators.cls ≠ "java/lang/invoke/VarHandle" ∧ (parseMethodDescriptor yX5_generators.desc).map (fun d => d.parameters.length) = some 0 := by decide +kernel
theorem kd_X5_isNumber : yX5_isNumber.cls = RX5 ∧ yX5_isNumber.cls ≠ "java/lang/invoke/MethodHandle" ∧ yX5_isNumber.cls ≠ "java/lang/invoke/VarHandle" ∧ (parseMethodDescriptor yX5_isNumber.desc).map (fun d => d.parameters.length) = some 1 := by decide +kernel
theorem kd_X5_isClass : yX5_isClass.cls = RX5 ∧ yX5_isClass.cls ≠ "java/lang/invoke/MethodHandle" ∧ yX5_isClass.cls ≠ "java/lang/invoke/VarHandle" ∧ (parseMethodDescriptor yX5_isClass.desc).map (fun d => d.parameters.length) = some 1 := by decide +kernel
theorem kd_X5_besideOf : yX5_besideOf.cls = RX5 ∧ yX5_besideOf.cls ≠ "java/lang/invoke/MethodHandle" ∧ yX5_besideOf.cls ≠ "java/lang/invoke/VarHandle" ∧ (parseMethodDescriptor yX5_besideOf.desc).map (fun d => d.parameters.length) = some 2 := by decide +kernel
theorem kd_X5_oppositeOf : yX5_oppositeOf.cls = RX5 ∧ yX5_oppositeOf.cls ≠ "java/lang/invoke/MethodHandle" ∧ yX5_oppositeOf.cls ≠ "java/lang/invoke/VarHandle" ∧ (parseMethodDescriptor yX5_oppositeOf.desc).map (fun d => d.parameters.length) = some 1 := by decide +kernel
theorem kd_X5_timesOf : yX5_timesOf.cls = RX5 ∧ yX5_timesOf.cls ≠ "java/lang/invoke/MethodHandle" ∧ yX5_timesOf.cls ≠ "java/lang/invoke/VarHandle" ∧ (parseMethodDescriptor yX5_timesOf.desc).map (fun d => d.parameters.length) = some 3 := by decide +kernel
theorem kd_X5_raisedModulo : yX5_raisedModulo.cls = RX5 ∧ yX5_raisedModulo.cls ≠ "java/lang/invoke/MethodHandle" ∧ yX5_raisedModulo.cls ≠ "java/lang/invoke/VarHandle" ∧ (parseMethodDescriptor yX5_raisedModulo.desc).map (fun d => d.parameters.length) = some 1 := by decide +kernel
theorem kd_X5_findsPolynomial : yX5_findsPolynomial.cls = RX5 ∧ yX5_findsPolynomial.cls ≠ "java/lang/invoke/MethodHandle" ∧ yX5_findsPolynomial.cls ≠ "java/lang/invoke/VarHandle" ∧ (parseMethodDescriptor yX5_findsPolynomial.desc).map (fun d => d.parameters.length) = some 0 := by decide +kernel
theorem kn_X4_factorIndex : ∀ w ∈ Cond.code yX4_factorIndex cX4_factorIndex 3 (some .int) :: BG, w ∈ BG := kN (BG_in 127 (by decide +kernel) (by decide +kernel))
theorem ks_X4_factorIndex : Cond.static yX4_factorIndex ∈ BG := BG_in 126 (by decide +kernel) (by decide +kernel)
end
section
/-! printed by wip/whole/mk.py: the functions that mirror the bytecode, and the contracts over them -/
theorem dX0_isGenerator_0 : decode cX0_isGenerator 0 = .ok (.iload_n 1, 1) := by decide +kernel
theorem dX0_isGenerator_1 : decode cX0_isGenerator 1 = .ok (.iconst 1, 1) := by decide +kernel
theorem dX0_isGenerator_2 : decode cX0_isGenerator 2 = .ok (.if_icmp .lt 11, 3) := by decide +kernel
theorem dX0_isGenerator_5 : decode cX0_isGenerator 5 = .ok (.iload_n 1, 1) := by decide +kernel
theorem dX0_isGenerator_6 : decode cX0_isGenerator 6 = .ok (.aload_n 0, 1) := by decide +kernel
theorem dX0_isGenerator_7 : decode cX0_isGenerator 7 = .ok (.getfield 44, 3) := by decide +kernel
theorem dX0_isGenerator_10 : decode cX0_isGenerator 10 = .ok (.if_icmp .lt 5, 3) := by decide +kernel
theorem dX0_isGenerator_13 : decode cX0_isGenerator 13 = .ok (.iconst 0, 1) := by decide +kernel
theorem dX0_isGenerator_14 : decode cX0_isGenerator 14 = .ok (.ireturn, 1) := by decide +kernel
theorem dX0_isGenerator_15 : decode cX0_isGenerator 15 = .ok (.iconst 1, 1) := by decide +kernel
theorem dX0_isGenerator_16 : decode cX0_isGenerator 16 = .ok (.istore_n 2, 1) := by decide +kernel
theorem dX0_isGenerator_17 : decode cX0_isGenerator 17 = .ok (.iconst 1, 1) := by decide +kernel
theorem dX0_isGenerator_18 : decode cX0_isGenerator 18 = .ok (.istore_n 3, 1) := by decide +kernel
theorem dX0_isGenerator_19 : decode cX0_isGenerator 19 = .ok (.iload_n 3, 1) := by decide +kernel
theorem dX0_isGenerator_20 : decode cX0_isGenerator 20 = .ok (.aload_n 0, 1) := by decide +kernel
theorem dX0_isGenerator_21 : decode cX0_isGenerator 21 = .ok (.getfield 44, 3) := by decide +kernel
theorem dX0_isGenerator_24 : decode cX0_isGenerator 24 = .ok (.iconst 1, 1) := by decide +kernel
theorem dX0_isGenerator_25 : decode cX0_isGenerator 25 = .ok (.isub, 1) := by decide +kernel
theorem dX0_isGenerator_26 : decode cX0_isGenerator 26 = .ok (.if_icmp .ge 25, 3) := by decide +kernel
theorem dX0_isGenerator_29 : decode cX0_isGenerator 29 = .ok (.iload_n 2, 1) := by decide +kernel
theorem dX0_isGenerator_30 : decode cX0_isGenerator 30 = .ok (.iload_n 1, 1) := by decide +kernel
theorem dX0_isGenerator_31 : decode cX0_isGenerator 31 = .ok (.imul, 1) := by decide +kernel
theorem dX0_isGenerator_32 : decode cX0_isGenerator 32 = .ok (.aload_n 0, 1) := by decide +kernel
theorem dX0_isGenerator_33 : decode cX0_isGenerator 33 = .ok (.getfield 44, 3) := by decide +kernel
theorem dX0_isGenerator_36 : decode cX0_isGenerator 36 = .ok (.irem, 1) := by decide +kernel
theorem dX0_isGenerator_37 : decode cX0_isGenerator 37 = .ok (.istore_n 2, 1) := by decide +kernel
theorem dX0_isGenerator_38 : decode cX0_isGenerator 38 = .ok (.iload_n 2, 1) := by decide +kernel
theorem dX0_isGenerator_39 : decode cX0_isGenerator 39 = .ok (.iconst 1, 1) := by decide +kernel
theorem dX0_isGenerator_40 : decode cX0_isGenerator 40 = .ok (.if_icmp .ne 5, 3) := by decide +kernel
theorem dX0_isGenerator_43 : decode cX0_isGenerator 43 = .ok (.iconst 0, 1) := by decide +kernel
theorem dX0_isGenerator_44 : decode cX0_isGenerator 44 = .ok (.ireturn, 1) := by decide +kernel
theorem dX0_isGenerator_45 : decode cX0_isGenerator 45 = .ok (.iinc 3 1, 3) := by decide +kernel
theorem dX0_isGenerator_48 : decode cX0_isGenerator 48 = .ok (.goto (-29), 3) := by decide +kernel
theorem dX0_isGenerator_51 : decode cX0_isGenerator 51 = .ok (.iconst 1, 1) := by decide +kernel
theorem dX0_isGenerator_52 : decode cX0_isGenerator 52 = .ok (.ireturn, 1) := by decide +kernel
section
variable {p : Program} {l : Launch} {e : Env} {s : State} {m : MethodId} {args : Array Value} {below : List Frame} {meth : Method} {c : Code} {Q : State → Prop} {G : GG} {A : Nat → Prop} {q : Nat → Nat} {fr : va_W}
def f_X0_isGenerator_L19 (zp : Int32) (v1 : Int32) : Nat → Int32 → Int32 → Option (Int32)
  | 0, _, _ => none
  | fu + 1, v2, v3 =>
    if (zp - 1) ≤ v3 then
    some 1
    else
    if zp = 0 then none else
    if ((v2 * v1) - (v2 * v1) / zp * zp) = 1 then
    some 0
    else
    f_X0_isGenerator_L19 zp v1 fu ((v2 * v1) - (v2 * v1) / zp * zp) (v3 + 1)
set_option maxHeartbeats 4000000 in
set_option maxRecDepth 100000 in
theorem w_X0_isGenerator_L19 {zp : Int32} {ze : Int32} {zf : Int32} {zg : Int32} {zn : Int32} {aG : Nat → Int32} {aW : Nat → Int32} {aR : Nat → Int32} {aN : Nat → Int32} {aF : Nat → Int32} {lC : Nat → Int64} {lS : Nat → Int64} {lP : Nat → Int64} {lX : Nat → Int64} {v1 : Int32}  (F : Fx p s m args meth c cX0_isGenerator 4 RX0 (some .boolean)) (hA : ∀ q, s.heap.size ≤ q → A q)   : ∀ (fu : Nat) (v2 : Int32) (v3 : Int32) (z : Int32), f_X0_isGenerator_L19 zp v1 fu v2 v3 = some z → Ends p l e (rmOf 0 0) s m args below meth c Q cX0_isGenerator G A (some .boolean) (some (.int z)) (kW G q zp ze zf zg zn aG aW aR aN aF lC lS lP lX ++ fr) → ∀ (H : Heap) (locs : List Loc) (ls : Array Slot), Wd G s A (kW G q zp ze zf zg zn aG aW aR aN aF lC lS lP lX ++ fr) H locs → lv_has ls 4 [(0, .ref (q 0)), (1, .int v1), (2, .int v2), (3, .int v3)] → W p l e (rmOf 0 0) s m args below meth c H locs 0 0 Q (F0 m 19 ls []) := by
  have hx := F.x
  have hb := F.b
  intro fu
  induction fu with
  | zero =>
    intro v2 v3 z h
    cases (h : none = some z)
  | succ fu ih =>
    intro v2 v3 z h hE H locs ls hw hl
    rw [f_X0_isGenerator_L19] at h
    refine lv_iload_n hx hb dX0_isGenerator_19 rfl (lv_at hl 3 rfl) ?_
    refine lv_aload_n hx hb dX0_isGenerator_20 rfl (lv_at hl 0 rfl) ?_
    refine gf_0_44 F hw dX0_isGenerator_21 ?_
    refine lv_iconst (v := 1) hx hb dX0_isGenerator_24 (by decide) ?_
    refine lv_isub hx hb dX0_isGenerator_25 ?_
    refine lv_icmp_ge (tgt := 51) hx hb dX0_isGenerator_26 (by decide) (fun c1 => ?_) (fun c1 => ?_)
    · replace h := stT c1 h
      refine lv_iconst (v := 1) hx hb dX0_isGenerator_51 (by decide) ?_
      obtain rfl := Option.some.inj h
      exact hE H locs _ ls hw (by decide) dX0_isGenerator_52
    · replace h := stF c1 h
      refine lv_iload_n hx hb dX0_isGenerator_29 rfl (lv_at hl 2 rfl) ?_
      refine lv_iload_n hx hb dX0_isGenerator_30 rfl (lv_at hl 1 rfl) ?_
      refine lv_imul hx hb dX0_isGenerator_31 ?_
      refine lv_aload_n hx hb dX0_isGenerator_32 rfl (lv_at hl 0 rfl) ?_
      refine gf_0_44 F hw dX0_isGenerator_33 ?_
      obtain ⟨g2, h⟩ := stD h
      refine lv_irem hx hb dX0_isGenerator_36 g2 ?_
      refine lv_istore_n (lv' := [(2, .int ((v2 * v1) - (v2 * v1) / zp * zp)), (0, .ref (q 0)), (1, .int v1), (3, .int v3)]) hx hb dX0_isGenerator_37 rfl hl (by decide) rfl (fun ls hl => ?_)
      refine lv_iload_n hx hb dX0_isGenerator_38 rfl (lv_at hl 0 rfl) ?_
      refine lv_iconst (v := 1) hx hb dX0_isGenerator_39 (by decide) ?_
      refine lv_icmp_ne (tgt := 45) hx hb dX0_isGenerator_40 (by decide) (fun c3 => ?_) (fun c3 => ?_)
      · replace h := stF c3 h
        refine lv_iinc (v := (v3 + 1)) (lv' := [(3, .int (v3 + 1)), (2, .int ((v2 * v1) - (v2 * v1) / zp * zp)), (0, .ref (q 0)), (1, .int v1)]) hx hb dX0_isGenerator_45 hl (k := 3) rfl rfl (by decide) rfl (fun ls hl => ?_)
        refine lv_goto (tgt := 19) hx hb dX0_isGenerator_48 (by decide) ?_
        exact ih _ _ z h hE H locs ls hw (lv_sub hl [2, 3, 1, 0] rfl)
      · replace h := stT c3 h
        refine lv_iconst (v := 0) hx hb dX0_isGenerator_43 (by decide) ?_
        obtain rfl := Option.some.inj h
        exact hE H locs _ ls hw (by decide) dX0_isGenerator_44
def f_X0_isGenerator (zp : Int32) (v1 : Int32) : Option (Int32) :=
  if v1 < 1 then
  some 0
  else
  if v1 < zp then
  f_X0_isGenerator_L19 zp v1 FU 1 1
  else
  some 0
set_option maxHeartbeats 4000000 in
set_option maxRecDepth 100000 in
theorem k_X0_isGenerator {l : Launch} {G : GG} {q : Nat → Nat} {fr : va_W} {zp : Int32} {ze : Int32} {zf : Int32} {zg : Int32} {zn : Int32} {aG : Nat → Int32} {aW : Nat → Int32} {aR : Nat → Int32} {aN : Nat → Int32} {aF : Nat → Int32} {lC : Nat → Int64} {lS : Nat → Int64} {lP : Nat → Int64} {lX : Nat → Int64} {v1 : Int32} {z : Int32}  (h : f_X0_isGenerator zp v1 = some z) : Ct l G yX0_isGenerator cX0_isGenerator 4 (some .boolean) 0 0 [.ref (q 0), .int v1] (kW G q zp ze zf zg zn aG aW aR aN aF lC lS lP lX ++ fr) (some (.int z)) (kW G q zp ze zf zg zn aG aW aR aN aF lC lS lP lX ++ fr) := by
  refine Ct.of (by decide) (Nat.le_of_ble_eq_true rfl) trivial ?_
  intro p e s m args below meth c Q A ls F hw hA hE hl
  have hx := F.x
  have hb := F.b
  unfold f_X0_isGenerator at h
  obtain ⟨H, hH⟩ : ∃ H, H = s.heap := ⟨_, rfl⟩
  obtain ⟨locs, hlo⟩ : ∃ locs : List Loc, locs = [] := ⟨_, rfl⟩
  rw [← hH, ← hlo] at hw ⊢
  have hl : lv_has ls 4 [(0, .ref (q 0)), (1, .int v1)] := hl
  refine lv_iload_n hx hb dX0_isGenerator_0 rfl (lv_at hl 1 rfl) ?_
  refine lv_iconst (v := 1) hx hb dX0_isGenerator_1 (by decide) ?_
  refine lv_icmp_lt (tgt := 13) hx hb dX0_isGenerator_2 (by decide) (fun c1 => ?_) (fun c1 => ?_)
  · replace h := stT c1 h
    refine lv_iconst (v := 0) hx hb dX0_isGenerator_13 (by decide) ?_
    obtain rfl := Option.some.inj h
    exact hE H locs _ ls hw (by decide) dX0_isGenerator_14
  · replace h := stF c1 h
    refine lv_iload_n hx hb dX0_isGenerator_5 rfl (lv_at hl 1 rfl) ?_
    refine lv_aload_n hx hb dX0_isGenerator_6 rfl (lv_at hl 0 rfl) ?_
    refine gf_0_44 F hw dX0_isGenerator_7 ?_
    refine lv_icmp_lt (tgt := 15) hx hb dX0_isGenerator_10 (by decide) (fun c2 => ?_) (fun c2 => ?_)
    · replace h := stT c2 h
      refine lv_iconst (v := 1) hx hb dX0_isGenerator_15 (by decide) ?_
      refine lv_istore_n (lv' := [(2, .int 1), (0, .ref (q 0)), (1, .int v1)]) hx hb dX0_isGenerator_16 rfl hl (by decide) rfl (fun ls hl => ?_)
      refine lv_iconst (v := 1) hx hb dX0_isGenerator_17 (by decide) ?_
      refine lv_istore_n (lv' := [(3, .int 1), (2, .int 1), (0, .ref (q 0)), (1, .int v1)]) hx hb dX0_isGenerator_18 rfl hl (by decide) rfl (fun ls hl => ?_)
      exact w_X0_isGenerator_L19 F hA  FU _ _ z h hE H locs ls hw (lv_sub hl [2, 3, 1, 0] rfl)
    · replace h := stF c2 h
      refine lv_iconst (v := 0) hx hb dX0_isGenerator_13 (by decide) ?_
      obtain rfl := Option.some.inj h
      exact hE H locs _ ls hw (by decide) dX0_isGenerator_14
end
theorem dX0_findGenerators_0 : decode cX0_findGenerators 0 = .ok (.aload_n 0, 1) := by decide +kernel
theorem dX0_findGenerators_1 : decode cX0_findGenerators 1 = .ok (.iconst 0, 1) := by decide +kernel
theorem dX0_findGenerators_2 : decode cX0_findGenerators 2 = .ok (.putfield 79, 3) := by decide +kernel
theorem dX0_findGenerators_5 : decode cX0_findGenerators 5 = .ok (.iconst 1, 1) := by decide +kernel
theorem dX0_findGenerators_6 : decode cX0_findGenerators 6 = .ok (.istore_n 1, 1) := by decide +kernel
theorem dX0_findGenerators_7 : decode cX0_findGenerators 7 = .ok (.iload_n 1, 1) := by decide +kernel
theorem dX0_findGenerators_8 : decode cX0_findGenerators 8 = .ok (.aload_n 0, 1) := by decide +kernel
theorem dX0_findGenerators_9 : decode cX0_findGenerators 9 = .ok (.getfield 44, 3) := by decide +kernel
theorem dX0_findGenerators_12 : decode cX0_findGenerators 12 = .ok (.if_icmp .ge 37, 3) := by decide +kernel
theorem dX0_findGenerators_15 : decode cX0_findGenerators 15 = .ok (.aload_n 0, 1) := by decide +kernel
theorem dX0_findGenerators_16 : decode cX0_findGenerators 16 = .ok (.iload_n 1, 1) := by decide +kernel
theorem dX0_findGenerators_17 : decode cX0_findGenerators 17 = .ok (.invokevirtual 82, 3) := by decide +kernel
theorem dX0_findGenerators_20 : decode cX0_findGenerators 20 = .ok (.ifCond .eq 23, 3) := by decide +kernel
theorem dX0_findGenerators_23 : decode cX0_findGenerators 23 = .ok (.aload_n 0, 1) := by decide +kernel
theorem dX0_findGenerators_24 : decode cX0_findGenerators 24 = .ok (.getfield 9, 3) := by decide +kernel
theorem dX0_findGenerators_27 : decode cX0_findGenerators 27 = .ok (.aload_n 0, 1) := by decide +kernel
theorem dX0_findGenerators_28 : decode cX0_findGenerators 28 = .ok (.getfield 79, 3) := by decide +kernel
theorem dX0_findGenerators_31 : decode cX0_findGenerators 31 = .ok (.iload_n 1, 1) := by decide +kernel
theorem dX0_findGenerators_32 : decode cX0_findGenerators 32 = .ok (.iastore, 1) := by decide +kernel
theorem dX0_findGenerators_33 : decode cX0_findGenerators 33 = .ok (.aload_n 0, 1) := by decide +kernel
theorem dX0_findGenerators_34 : decode cX0_findGenerators 34 = .ok (.dup, 1) := by decide +kernel
theorem dX0_findGenerators_35 : decode cX0_findGenerators 35 = .ok (.getfield 79, 3) := by decide +kernel
theorem dX0_findGenerators_38 : decode cX0_findGenerators 38 = .ok (.iconst 1, 1) := by decide +kernel
theorem dX0_findGenerators_39 : decode cX0_findGenerators 39 = .ok (.iadd, 1) := by decide +kernel
theorem dX0_findGenerators_40 : decode cX0_findGenerators 40 = .ok (.putfield 79, 3) := by decide +kernel
theorem dX0_findGenerators_43 : decode cX0_findGenerators 43 = .ok (.iinc 1 1, 3) := by decide +kernel
theorem dX0_findGenerators_46 : decode cX0_findGenerators 46 = .ok (.goto (-39), 3) := by decide +kernel
theorem dX0_findGenerators_49 : decode cX0_findGenerators 49 = .ok (.return_, 1) := by decide +kernel
section
variable {p : Program} {l : Launch} {e : Env} {s : State} {m : MethodId} {args : Array Value} {below : List Frame} {meth : Method} {c : Code} {Q : State → Prop} {G : GG} {A : Nat → Prop} {q : Nat → Nat} {fr : va_W}
def f_X0_findGenerators_L7 (zp : Int32) : Nat → Int32 → (Nat → Int32) → Int32 → Option (Int32 × (Nat → Int32))
  | 0, _, _, _ => none
  | fu + 1, zn, aG, v1 =>
    if zp ≤ v1 then
    some (zn, aG)
    else
    (f_X0_isGenerator zp v1).bind fun z2 =>
    if z2 = 0 then
    f_X0_findGenerators_L7 zp fu zn aG (v1 + 1)
    else
    if inb zn 61 then
    f_X0_findGenerators_L7 zp fu (zn + 1) (upd aG zn.toNatClampNeg v1) (v1 + 1)
    else none
set_option maxHeartbeats 4000000 in
set_option maxRecDepth 100000 in
theorem w_X0_findGenerators_L7 {zp : Int32} {ze : Int32} {zf : Int32} {zg : Int32} {aW : Nat → Int32} {aR : Nat → Int32} {aN : Nat → Int32} {aF : Nat → Int32} {lC : Nat → Int64} {lS : Nat → Int64} {lP : Nat → Int64} {lX : Nat → Int64}   (F : Fx p s m args meth c cX0_findGenerators 2 RX0 none) (hA : ∀ q, s.heap.size ≤ q → A q)   : ∀ (fu : Nat) (zn : Int32) (aG : Nat → Int32) (v1 : Int32) (z : Int32 × (Nat → Int32)), f_X0_findGenerators_L7 zp fu zn aG v1 = some z → Ends p l e (rmOf 1 23) s m args below meth c Q cX0_findGenerators G A none (none) (kW G q zp ze zf zg z.1 z.2 aW aR aN aF lC lS lP lX ++ fr) → ∀ (H : Heap) (locs : List Loc) (ls : Array Slot), Wd G s A (kW G q zp ze zf zg zn aG aW aR aN aF lC lS lP lX ++ fr) H locs → lv_has ls 2 [(0, .ref (q 0)), (1, .int v1)] → W p l e (rmOf 1 23) s m args below meth c H locs 0 0 Q (F0 m 7 ls []) := by
  have hx := F.x
  have hb := F.b
  intro fu
  induction fu with
  | zero =>
    intro zn aG v1 z h
    cases (h : none = some z)
  | succ fu ih =>
    intro zn aG v1 z h hE H locs ls hw hl
    rw [f_X0_findGenerators_L7] at h
    refine lv_iload_n hx hb dX0_findGenerators_7 rfl (lv_at hl 1 rfl) ?_
    refine lv_aload_n hx hb dX0_findGenerators_8 rfl (lv_at hl 0 rfl) ?_
    refine gf_0_44 F hw dX0_findGenerators_9 ?_
    refine lv_icmp_ge (tgt := 49) hx hb dX0_findGenerators_12 (by decide) (fun c1 => ?_) (fun c1 => ?_)
    · replace h := stT c1 h
      obtain rfl := Option.some.inj h
      exact hE H locs _ ls hw dX0_findGenerators_49
    · replace h := stF c1 h
      refine lv_aload_n hx hb dX0_findGenerators_15 rfl (lv_at hl 0 rfl) ?_
      refine lv_iload_n hx hb dX0_findGenerators_16 rfl (lv_at hl 1 rfl) ?_
      obtain ⟨z2, hz2, h⟩ := stB h
      refine ctV (av := [.int v1]) (st0 := ([] : List Value)) (st1 := ([.int z2] : List Value)) F hw hA (k_X0_isGenerator hz2) kl_0_82 kd_X0_isGenerator rfl ⟨by decide, by decide⟩ 0 rfl rfl hl.1 rfl (Nat.le_of_ble_eq_true rfl) dX0_findGenerators_17 rfl (fun H locs hw => ?_)
      refine lv_if_eq (tgt := 43) hx hb dX0_findGenerators_20 (by decide) (fun c3 => ?_) (fun c3 => ?_)
      · replace h := stT c3 h
        refine lv_iinc (v := (v1 + 1)) (lv' := [(1, .int (v1 + 1)), (0, .ref (q 0))]) hx hb dX0_findGenerators_43 hl (k := 1) rfl rfl (by decide) rfl (fun ls hl => ?_)
        refine lv_goto (tgt := 7) hx hb dX0_findGenerators_46 (by decide) ?_
        exact ih _ _ _ z h hE H locs ls hw (lv_sub hl [1, 0] rfl)
      · replace h := stF c3 h
        refine lv_aload_n hx hb dX0_findGenerators_23 rfl (lv_at hl 0 rfl) ?_
        refine gf_0_9 F hw dX0_findGenerators_24 ?_
        refine lv_aload_n hx hb dX0_findGenerators_27 rfl (lv_at hl 0 rfl) ?_
        refine gf_0_79 F hw dX0_findGenerators_28 ?_
        refine lv_iload_n hx hb dX0_findGenerators_31 rfl (lv_at hl 1 rfl) ?_
        obtain ⟨g4, h⟩ := stG h
        refine as_c1 F hw g4 dX0_findGenerators_32 (fun H locs hw => ?_)
        refine lv_aload_n hx hb dX0_findGenerators_33 rfl (lv_at hl 0 rfl) ?_
        refine lv_dup hx hb dX0_findGenerators_34 rfl ?_
        refine gf_0_79 F hw dX0_findGenerators_35 ?_
        refine lv_iconst (v := 1) hx hb dX0_findGenerators_38 (by decide) ?_
        refine lv_iadd hx hb dX0_findGenerators_39 ?_
        refine pf_0_79 F hw dX0_findGenerators_40 (fun H locs hw => ?_)
        refine lv_iinc (v := (v1 + 1)) (lv' := [(1, .int (v1 + 1)), (0, .ref (q 0))]) hx hb dX0_findGenerators_43 hl (k := 1) rfl rfl (by decide) rfl (fun ls hl => ?_)
        refine lv_goto (tgt := 7) hx hb dX0_findGenerators_46 (by decide) ?_
        exact ih _ _ _ z h hE H locs ls hw (lv_sub hl [1, 0] rfl)
def f_X0_findGenerators (zp : Int32) (zn : Int32) (aG : Nat → Int32) : Option (Int32 × (Nat → Int32)) :=
  f_X0_findGenerators_L7 zp FU 0 aG 1
set_option maxHeartbeats 4000000 in
set_option maxRecDepth 100000 in
theorem k_X0_findGenerators {l : Launch} {G : GG} {q : Nat → Nat} {fr : va_W} {zp : Int32} {ze : Int32} {zf : Int32} {zg : Int32} {zn : Int32} {aG : Nat → Int32} {aW : Nat → Int32} {aR : Nat → Int32} {aN : Nat → Int32} {aF : Nat → Int32} {lC : Nat → Int64} {lS : Nat → Int64} {lP : Nat → Int64} {lX : Nat → Int64}  {z : Int32 × (Nat → Int32)}  (h : f_X0_findGenerators zp zn aG = some z) : Ct l G yX0_findGenerators cX0_findGenerators 2 none 1 23 [.ref (q 0)] (kW G q zp ze zf zg zn aG aW aR aN aF lC lS lP lX ++ fr) (none) (kW G q zp ze zf zg z.1 z.2 aW aR aN aF lC lS lP lX ++ fr) := by
  refine Ct.of (by decide) (Nat.le_of_ble_eq_true rfl) trivial ?_
  intro p e s m args below meth c Q A ls F hw hA hE hl
  have hx := F.x
  have hb := F.b
  unfold f_X0_findGenerators at h
  obtain ⟨H, hH⟩ : ∃ H, H = s.heap := ⟨_, rfl⟩
  obtain ⟨locs, hlo⟩ : ∃ locs : List Loc, locs = [] := ⟨_, rfl⟩
  rw [← hH, ← hlo] at hw ⊢
  have hl : lv_has ls 2 [(0, .ref (q 0))] := hl
  refine lv_aload_n hx hb dX0_findGenerators_0 rfl (lv_at hl 0 rfl) ?_
  refine lv_iconst (v := 0) hx hb dX0_findGenerators_1 (by decide) ?_
  refine pf_0_79 F hw dX0_findGenerators_2 (fun H locs hw => ?_)
  refine lv_iconst (v := 1) hx hb dX0_findGenerators_5 (by decide) ?_
  refine lv_istore_n (lv' := [(1, .int 1), (0, .ref (q 0))]) hx hb dX0_findGenerators_6 rfl hl (by decide) rfl (fun ls hl => ?_)
  exact w_X0_findGenerators_L7 F hA  FU _ _ _ z h hE H locs ls hw (lv_sub hl [1, 0] rfl)
end
theorem dX0_findRaised_0 : decode cX0_findRaised 0 = .ok (.iconst 0, 1) := by decide +kernel
theorem dX0_findRaised_1 : decode cX0_findRaised 1 = .ok (.istore_n 1, 1) := by decide +kernel
theorem dX0_findRaised_2 : decode cX0_findRaised 2 = .ok (.iload_n 1, 1) := by decide +kernel
theorem dX0_findRaised_3 : decode cX0_findRaised 3 = .ok (.aload_n 0, 1) := by decide +kernel
theorem dX0_findRaised_4 : decode cX0_findRaised 4 = .ok (.getfield 44, 3) := by decide +kernel
theorem dX0_findRaised_7 : decode cX0_findRaised 7 = .ok (.if_icmp .ge 43, 3) := by decide +kernel
theorem dX0_findRaised_10 : decode cX0_findRaised 10 = .ok (.iconst 1, 1) := by decide +kernel
theorem dX0_findRaised_11 : decode cX0_findRaised 11 = .ok (.istore_n 2, 1) := by decide +kernel
theorem dX0_findRaised_12 : decode cX0_findRaised 12 = .ok (.iconst 0, 1) := by decide +kernel
theorem dX0_findRaised_13 : decode cX0_findRaised 13 = .ok (.istore_n 3, 1) := by decide +kernel
theorem dX0_findRaised_14 : decode cX0_findRaised 14 = .ok (.iload_n 3, 1) := by decide +kernel
theorem dX0_findRaised_15 : decode cX0_findRaised 15 = .ok (.aload_n 0, 1) := by decide +kernel
theorem dX0_findRaised_16 : decode cX0_findRaised 16 = .ok (.getfield 48, 3) := by decide +kernel
theorem dX0_findRaised_19 : decode cX0_findRaised 19 = .ok (.if_icmp .ge 18, 3) := by decide +kernel
theorem dX0_findRaised_22 : decode cX0_findRaised 22 = .ok (.iload_n 2, 1) := by decide +kernel
theorem dX0_findRaised_23 : decode cX0_findRaised 23 = .ok (.iload_n 1, 1) := by decide +kernel
theorem dX0_findRaised_24 : decode cX0_findRaised 24 = .ok (.imul, 1) := by decide +kernel
theorem dX0_findRaised_25 : decode cX0_findRaised 25 = .ok (.aload_n 0, 1) := by decide +kernel
theorem dX0_findRaised_26 : decode cX0_findRaised 26 = .ok (.getfield 44, 3) := by decide +kernel
theorem dX0_findRaised_29 : decode cX0_findRaised 29 = .ok (.irem, 1) := by decide +kernel
theorem dX0_findRaised_30 : decode cX0_findRaised 30 = .ok (.istore_n 2, 1) := by decide +kernel
theorem dX0_findRaised_31 : decode cX0_findRaised 31 = .ok (.iinc 3 1, 3) := by decide +kernel
theorem dX0_findRaised_34 : decode cX0_findRaised 34 = .ok (.goto (-20), 3) := by decide +kernel
theorem dX0_findRaised_37 : decode cX0_findRaised 37 = .ok (.aload_n 0, 1) := by decide +kernel
theorem dX0_findRaised_38 : decode cX0_findRaised 38 = .ok (.getfield 18, 3) := by decide +kernel
theorem dX0_findRaised_41 : decode cX0_findRaised 41 = .ok (.iload_n 1, 1) := by decide +kernel
theorem dX0_findRaised_42 : decode cX0_findRaised 42 = .ok (.iload_n 2, 1) := by decide +kernel
theorem dX0_findRaised_43 : decode cX0_findRaised 43 = .ok (.iastore, 1) := by decide +kernel
theorem dX0_findRaised_44 : decode cX0_findRaised 44 = .ok (.iinc 1 1, 3) := by decide +kernel
theorem dX0_findRaised_47 : decode cX0_findRaised 47 = .ok (.goto (-45), 3) := by decide +kernel
theorem dX0_findRaised_50 : decode cX0_findRaised 50 = .ok (.return_, 1) := by decide +kernel
section
variable {p : Program} {l : Launch} {e : Env} {s : State} {m : MethodId} {args : Array Value} {below : List Frame} {meth : Method} {c : Code} {Q : State → Prop} {G : GG} {A : Nat → Prop} {q : Nat → Nat} {fr : va_W}
def f_X0_findRaised_L14 (zp : Int32) (ze : Int32) (KK : (Nat → Int32) → Int32 → Option ((Nat → Int32))) : Nat → (Nat → Int32) → Int32 → Int32 → Int32 → Option ((Nat → Int32))
  | 0, _, _, _, _ => none
  | fu + 1, aR, v1, v2, v3 =>
    if ze ≤ v3 then
    if inb v1 61 then
    KK (upd aR v1.toNatClampNeg v2) (v1 + 1)
    else none
    else
    if zp = 0 then none else
    f_X0_findRaised_L14 zp ze KK fu aR v1 ((v2 * v1) - (v2 * v1) / zp * zp) (v3 + 1)
set_option maxHeartbeats 4000000 in
set_option maxRecDepth 100000 in
theorem w_X0_findRaised_L14 {zp : Int32} {ze : Int32} {zf : Int32} {zg : Int32} {zn : Int32} {aG : Nat → Int32} {aW : Nat → Int32} {aN : Nat → Int32} {aF : Nat → Int32} {lC : Nat → Int64} {lS : Nat → Int64} {lP : Nat → Int64} {lX : Nat → Int64}  {KK : (Nat → Int32) → Int32 → Option ((Nat → Int32))} (F : Fx p s m args meth c cX0_findRaised 4 RX0 none) (hA : ∀ q, s.heap.size ≤ q → A q)  (hK : ∀ (aR : Nat → Int32) (v1 : Int32) (z : (Nat → Int32)), KK aR v1 = some z → Ends p l e (rmOf 0 0) s m args below meth c Q cX0_findRaised G A none (none) (kW G q zp ze zf zg zn aG aW z aN aF lC lS lP lX ++ fr) → ∀ (H : Heap) (locs : List Loc) (ls : Array Slot), Wd G s A (kW G q zp ze zf zg zn aG aW aR aN aF lC lS lP lX ++ fr) H locs → lv_has ls 4 [(0, .ref (q 0)), (1, .int v1)] → W p l e (rmOf 0 0) s m args below meth c H locs 0 0 Q (F0 m 2 ls [])) : ∀ (fu : Nat) (aR : Nat → Int32) (v1 : Int32) (v2 : Int32) (v3 : Int32) (z : (Nat → Int32)), f_X0_findRaised_L14 zp ze KK fu aR v1 v2 v3 = some z → Ends p l e (rmOf 0 0) s m args below meth c Q cX0_findRaised G A none (none) (kW G q zp ze zf zg zn aG aW z aN aF lC lS lP lX ++ fr) → ∀ (H : Heap) (locs : List Loc) (ls : Array Slot), Wd G s A (kW G q zp ze zf zg zn aG aW aR aN aF lC lS lP lX ++ fr) H locs → lv_has ls 4 [(0, .ref (q 0)), (1, .int v1), (2, .int v2), (3, .int v3)] → W p l e (rmOf 0 0) s m args below meth c H locs 0 0 Q (F0 m 14 ls []) := by
  have hx := F.x
  have hb := F.b
  intro fu
  induction fu with
  | zero =>
    intro aR v1 v2 v3 z h
    cases (h : none = some z)
  | succ fu ih =>
    intro aR v1 v2 v3 z h hE H locs ls hw hl
    rw [f_X0_findRaised_L14] at h
    refine lv_iload_n hx hb dX0_findRaised_14 rfl (lv_at hl 3 rfl) ?_
    refine lv_aload_n hx hb dX0_findRaised_15 rfl (lv_at hl 0 rfl) ?_
    refine gf_0_48 F hw dX0_findRaised_16 ?_
    refine lv_icmp_ge (tgt := 37) hx hb dX0_findRaised_19 (by decide) (fun c1 => ?_) (fun c1 => ?_)
    · replace h := stT c1 h
      refine lv_aload_n hx hb dX0_findRaised_37 rfl (lv_at hl 0 rfl) ?_
      refine gf_0_18 F hw dX0_findRaised_38 ?_
      refine lv_iload_n hx hb dX0_findRaised_41 rfl (lv_at hl 1 rfl) ?_
      refine lv_iload_n hx hb dX0_findRaised_42 rfl (lv_at hl 2 rfl) ?_
      obtain ⟨g2, h⟩ := stG h
      refine as_c3 F hw g2 dX0_findRaised_43 (fun H locs hw => ?_)
      refine lv_iinc (v := (v1 + 1)) (lv' := [(1, .int (v1 + 1)), (0, .ref (q 0)), (2, .int v2), (3, .int v3)]) hx hb dX0_findRaised_44 hl (k := 1) rfl rfl (by decide) rfl (fun ls hl => ?_)
      refine lv_goto (tgt := 2) hx hb dX0_findRaised_47 (by decide) ?_
      exact hK _ _ z h hE H locs ls hw (lv_sub hl [1, 0] rfl)
    · replace h := stF c1 h
      refine lv_iload_n hx hb dX0_findRaised_22 rfl (lv_at hl 2 rfl) ?_
      refine lv_iload_n hx hb dX0_findRaised_23 rfl (lv_at hl 1 rfl) ?_
      refine lv_imul hx hb dX0_findRaised_24 ?_
      refine lv_aload_n hx hb dX0_findRaised_25 rfl (lv_at hl 0 rfl) ?_
      refine gf_0_44 F hw dX0_findRaised_26 ?_
      obtain ⟨g3, h⟩ := stD h
      refine lv_irem hx hb dX0_findRaised_29 g3 ?_
      refine lv_istore_n (lv' := [(2, .int ((v2 * v1) - (v2 * v1) / zp * zp)), (0, .ref (q 0)), (1, .int v1), (3, .int v3)]) hx hb dX0_findRaised_30 rfl hl (by decide) rfl (fun ls hl => ?_)
      refine lv_iinc (v := (v3 + 1)) (lv' := [(3, .int (v3 + 1)), (2, .int ((v2 * v1) - (v2 * v1) / zp * zp)), (0, .ref (q 0)), (1, .int v1)]) hx hb dX0_findRaised_31 hl (k := 3) rfl rfl (by decide) rfl (fun ls hl => ?_)
      refine lv_goto (tgt := 14) hx hb dX0_findRaised_34 (by decide) ?_
      exact ih _ _ _ _ z h hE H locs ls hw (lv_sub hl [2, 3, 1, 0] rfl)
def f_X0_findRaised_L2 (zp : Int32) (ze : Int32) : Nat → (Nat → Int32) → Int32 → Option ((Nat → Int32))
  | 0, _, _ => none
  | fu + 1, aR, v1 =>
    if zp ≤ v1 then
    some aR
    else
    f_X0_findRaised_L14 zp ze (fun w0 w1 => f_X0_findRaised_L2 zp ze fu w0 w1) FU aR v1 1 0
set_option maxHeartbeats 4000000 in
set_option maxRecDepth 100000 in
theorem w_X0_findRaised_L2 {zp : Int32} {ze : Int32} {zf : Int32} {zg : Int32} {zn : Int32} {aG : Nat → Int32} {aW : Nat → Int32} {aN : Nat → Int32} {aF : Nat → Int32} {lC : Nat → Int64} {lS : Nat → Int64} {lP : Nat → Int64} {lX : Nat → Int64}   (F : Fx p s m args meth c cX0_findRaised 4 RX0 none) (hA : ∀ q, s.heap.size ≤ q → A q)   : ∀ (fu : Nat) (aR : Nat → Int32) (v1 : Int32) (z : (Nat → Int32)), f_X0_findRaised_L2 zp ze fu aR v1 = some z → Ends p l e (rmOf 0 0) s m args below meth c Q cX0_findRaised G A none (none) (kW G q zp ze zf zg zn aG aW z aN aF lC lS lP lX ++ fr) → ∀ (H : Heap) (locs : List Loc) (ls : Array Slot), Wd G s A (kW G q zp ze zf zg zn aG aW aR aN aF lC lS lP lX ++ fr) H locs → lv_has ls 4 [(0, .ref (q 0)), (1, .int v1)] → W p l e (rmOf 0 0) s m args below meth c H locs 0 0 Q (F0 m 2 ls []) := by
  have hx := F.x
  have hb := F.b
  intro fu
  induction fu with
  | zero =>
    intro aR v1 z h
    cases (h : none = some z)
  | succ fu ih =>
    intro aR v1 z h hE H locs ls hw hl
    rw [f_X0_findRaised_L2] at h
    refine lv_iload_n hx hb dX0_findRaised_2 rfl (lv_at hl 1 rfl) ?_
    refine lv_aload_n hx hb dX0_findRaised_3 rfl (lv_at hl 0 rfl) ?_
    refine gf_0_44 F hw dX0_findRaised_4 ?_
    refine lv_icmp_ge (tgt := 50) hx hb dX0_findRaised_7 (by decide) (fun c1 => ?_) (fun c1 => ?_)
    · replace h := stT c1 h
      obtain rfl := Option.some.inj h
      exact hE H locs _ ls hw dX0_findRaised_50
    · replace h := stF c1 h
      refine lv_iconst (v := 1) hx hb dX0_findRaised_10 (by decide) ?_
      refine lv_istore_n (lv' := [(2, .int 1), (0, .ref (q 0)), (1, .int v1)]) hx hb dX0_findRaised_11 rfl hl (by decide) rfl (fun ls hl => ?_)
      refine lv_iconst (v := 0) hx hb dX0_findRaised_12 (by decide) ?_
      refine lv_istore_n (lv' := [(3, .int 0), (2, .int 1), (0, .ref (q 0)), (1, .int v1)]) hx hb dX0_findRaised_13 rfl hl (by decide) rfl (fun ls hl => ?_)
      exact w_X0_findRaised_L14 F hA  (fun w0 w1 z h hE H locs ls hw hl => ih w0 w1 z h hE H locs ls hw hl) FU _ _ _ _ z h hE H locs ls hw (lv_sub hl [2, 3, 1, 0] rfl)
def f_X0_findRaised (zp : Int32) (ze : Int32) (aR : Nat → Int32) : Option ((Nat → Int32)) :=
  f_X0_findRaised_L2 zp ze FU aR 0
set_option maxHeartbeats 4000000 in
set_option maxRecDepth 100000 in
theorem k_X0_findRaised {l : Launch} {G : GG} {q : Nat → Nat} {fr : va_W} {zp : Int32} {ze : Int32} {zf : Int32} {zg : Int32} {zn : Int32} {aG : Nat → Int32} {aW : Nat → Int32} {aR : Nat → Int32} {aN : Nat → Int32} {aF : Nat → Int32} {lC : Nat → Int64} {lS : Nat → Int64} {lP : Nat → Int64} {lX : Nat → Int64}  {z : (Nat → Int32)}  (h : f_X0_findRaised zp ze aR = some z) : Ct l G yX0_findRaised cX0_findRaised 4 none 0 0 [.ref (q 0)] (kW G q zp ze zf zg zn aG aW aR aN aF lC lS lP lX ++ fr) (none) (kW G q zp ze zf zg zn aG aW z aN aF lC lS lP lX ++ fr) := by
  refine Ct.of (by decide) (Nat.le_of_ble_eq_true rfl) trivial ?_
  intro p e s m args below meth c Q A ls F hw hA hE hl
  have hx := F.x
  have hb := F.b
  unfold f_X0_findRaised at h
  obtain ⟨H, hH⟩ : ∃ H, H = s.heap := ⟨_, rfl⟩
  obtain ⟨locs, hlo⟩ : ∃ locs : List Loc, locs = [] := ⟨_, rfl⟩
  rw [← hH, ← hlo] at hw ⊢
  have hl : lv_has ls 4 [(0, .ref (q 0))] := hl
  refine lv_iconst (v := 0) hx hb dX0_findRaised_0 (by decide) ?_
  refine lv_istore_n (lv' := [(1, .int 0), (0, .ref (q 0))]) hx hb dX0_findRaised_1 rfl hl (by decide) rfl (fun ls hl => ?_)
  exact w_X0_findRaised_L2 F hA  FU _ _ z h hE H locs ls hw (lv_sub hl [1, 0] rfl)
end
theorem dX0_findPowers_0 : decode cX0_findPowers 0 = .ok (.iconst 1, 1) := by decide +kernel
theorem dX0_findPowers_1 : decode cX0_findPowers 1 = .ok (.istore_n 1, 1) := by decide +kernel
theorem dX0_findPowers_2 : decode cX0_findPowers 2 = .ok (.iconst 0, 1) := by decide +kernel
theorem dX0_findPowers_3 : decode cX0_findPowers 3 = .ok (.istore_n 2, 1) := by decide +kernel
theorem dX0_findPowers_4 : decode cX0_findPowers 4 = .ok (.iload_n 2, 1) := by decide +kernel
theorem dX0_findPowers_5 : decode cX0_findPowers 5 = .ok (.aload_n 0, 1) := by decide +kernel
theorem dX0_findPowers_6 : decode cX0_findPowers 6 = .ok (.getfield 44, 3) := by decide +kernel
theorem dX0_findPowers_9 : decode cX0_findPowers 9 = .ok (.iconst 1, 1) := by decide +kernel
theorem dX0_findPowers_10 : decode cX0_findPowers 10 = .ok (.isub, 1) := by decide +kernel
theorem dX0_findPowers_11 : decode cX0_findPowers 11 = .ok (.if_icmp .ge 28, 3) := by decide +kernel
theorem dX0_findPowers_14 : decode cX0_findPowers 14 = .ok (.aload_n 0, 1) := by decide +kernel
theorem dX0_findPowers_15 : decode cX0_findPowers 15 = .ok (.getfield 15, 3) := by decide +kernel
theorem dX0_findPowers_18 : decode cX0_findPowers 18 = .ok (.iload_n 1, 1) := by decide +kernel
theorem dX0_findPowers_19 : decode cX0_findPowers 19 = .ok (.iload_n 2, 1) := by decide +kernel
theorem dX0_findPowers_20 : decode cX0_findPowers 20 = .ok (.iastore, 1) := by decide +kernel
theorem dX0_findPowers_21 : decode cX0_findPowers 21 = .ok (.iload_n 1, 1) := by decide +kernel
theorem dX0_findPowers_22 : decode cX0_findPowers 22 = .ok (.aload_n 0, 1) := by decide +kernel
theorem dX0_findPowers_23 : decode cX0_findPowers 23 = .ok (.getfield 67, 3) := by decide +kernel
theorem dX0_findPowers_26 : decode cX0_findPowers 26 = .ok (.imul, 1) := by decide +kernel
theorem dX0_findPowers_27 : decode cX0_findPowers 27 = .ok (.aload_n 0, 1) := by decide +kernel
theorem dX0_findPowers_28 : decode cX0_findPowers 28 = .ok (.getfield 44, 3) := by decide +kernel
theorem dX0_findPowers_31 : decode cX0_findPowers 31 = .ok (.irem, 1) := by decide +kernel
theorem dX0_findPowers_32 : decode cX0_findPowers 32 = .ok (.istore_n 1, 1) := by decide +kernel
theorem dX0_findPowers_33 : decode cX0_findPowers 33 = .ok (.iinc 2 1, 3) := by decide +kernel
theorem dX0_findPowers_36 : decode cX0_findPowers 36 = .ok (.goto (-32), 3) := by decide +kernel
theorem dX0_findPowers_39 : decode cX0_findPowers 39 = .ok (.return_, 1) := by decide +kernel
section
variable {p : Program} {l : Launch} {e : Env} {s : State} {m : MethodId} {args : Array Value} {below : List Frame} {meth : Method} {c : Code} {Q : State → Prop} {G : GG} {A : Nat → Prop} {q : Nat → Nat} {fr : va_W}
def f_X0_findPowers_L4 (zp : Int32) (zg : Int32) : Nat → (Nat → Int32) → Int32 → Int32 → Option ((Nat → Int32))
  | 0, _, _, _ => none
  | fu + 1, aW, v1, v2 =>
    if (zp - 1) ≤ v2 then
    some aW
    else
    if inb v1 61 then
    if zp = 0 then none else
    f_X0_findPowers_L4 zp zg fu (upd aW v1.toNatClampNeg v2) ((v1 * zg) - (v1 * zg) / zp * zp) (v2 + 1)
    else none
set_option maxHeartbeats 4000000 in
set_option maxRecDepth 100000 in
theorem w_X0_findPowers_L4 {zp : Int32} {ze : Int32} {zf : Int32} {zg : Int32} {zn : Int32} {aG : Nat → Int32} {aR : Nat → Int32} {aN : Nat → Int32} {aF : Nat → Int32} {lC : Nat → Int64} {lS : Nat → Int64} {lP : Nat → Int64} {lX : Nat → Int64}   (F : Fx p s m args meth c cX0_findPowers 3 RX0 none) (hA : ∀ q, s.heap.size ≤ q → A q)   : ∀ (fu : Nat) (aW : Nat → Int32) (v1 : Int32) (v2 : Int32) (z : (Nat → Int32)), f_X0_findPowers_L4 zp zg fu aW v1 v2 = some z → Ends p l e (rmOf 0 0) s m args below meth c Q cX0_findPowers G A none (none) (kW G q zp ze zf zg zn aG z aR aN aF lC lS lP lX ++ fr) → ∀ (H : Heap) (locs : List Loc) (ls : Array Slot), Wd G s A (kW G q zp ze zf zg zn aG aW aR aN aF lC lS lP lX ++ fr) H locs → lv_has ls 3 [(0, .ref (q 0)), (1, .int v1), (2, .int v2)] → W p l e (rmOf 0 0) s m args below meth c H locs 0 0 Q (F0 m 4 ls []) := by
  have hx := F.x
  have hb := F.b
  intro fu
  induction fu with
  | zero =>
    intro aW v1 v2 z h
    cases (h : none = some z)
  | succ fu ih =>
    intro aW v1 v2 z h hE H locs ls hw hl
    rw [f_X0_findPowers_L4] at h
    refine lv_iload_n hx hb dX0_findPowers_4 rfl (lv_at hl 2 rfl) ?_
    refine lv_aload_n hx hb dX0_findPowers_5 rfl (lv_at hl 0 rfl) ?_
    refine gf_0_44 F hw dX0_findPowers_6 ?_
    refine lv_iconst (v := 1) hx hb dX0_findPowers_9 (by decide) ?_
    refine lv_isub hx hb dX0_findPowers_10 ?_
    refine lv_icmp_ge (tgt := 39) hx hb dX0_findPowers_11 (by decide) (fun c1 => ?_) (fun c1 => ?_)
    · replace h := stT c1 h
      obtain rfl := Option.some.inj h
      exact hE H locs _ ls hw dX0_findPowers_39
    · replace h := stF c1 h
      refine lv_aload_n hx hb dX0_findPowers_14 rfl (lv_at hl 0 rfl) ?_
      refine gf_0_15 F hw dX0_findPowers_15 ?_
      refine lv_iload_n hx hb dX0_findPowers_18 rfl (lv_at hl 1 rfl) ?_
      refine lv_iload_n hx hb dX0_findPowers_19 rfl (lv_at hl 2 rfl) ?_
      obtain ⟨g2, h⟩ := stG h
      refine as_c2 F hw g2 dX0_findPowers_20 (fun H locs hw => ?_)
      refine lv_iload_n hx hb dX0_findPowers_21 rfl (lv_at hl 1 rfl) ?_
      refine lv_aload_n hx hb dX0_findPowers_22 rfl (lv_at hl 0 rfl) ?_
      refine gf_0_67 F hw dX0_findPowers_23 ?_
      refine lv_imul hx hb dX0_findPowers_26 ?_
      refine lv_aload_n hx hb dX0_findPowers_27 rfl (lv_at hl 0 rfl) ?_
      refine gf_0_44 F hw dX0_findPowers_28 ?_
      obtain ⟨g3, h⟩ := stD h
      refine lv_irem hx hb dX0_findPowers_31 g3 ?_
      refine lv_istore_n (lv' := [(1, .int ((v1 * zg) - (v1 * zg) / zp * zp)), (0, .ref (q 0)), (2, .int v2)]) hx hb dX0_findPowers_32 rfl hl (by decide) rfl (fun ls hl => ?_)
      refine lv_iinc (v := (v2 + 1)) (lv' := [(2, .int (v2 + 1)), (1, .int ((v1 * zg) - (v1 * zg) / zp * zp)), (0, .ref (q 0))]) hx hb dX0_findPowers_33 hl (k := 2) rfl rfl (by decide) rfl (fun ls hl => ?_)
      refine lv_goto (tgt := 4) hx hb dX0_findPowers_36 (by decide) ?_
      exact ih _ _ _ z h hE H locs ls hw (lv_sub hl [2, 1, 0] rfl)
def f_X0_findPowers (zp : Int32) (zg : Int32) (aW : Nat → Int32) : Option ((Nat → Int32)) :=
  f_X0_findPowers_L4 zp zg FU aW 1 0
set_option maxHeartbeats 4000000 in
set_option maxRecDepth 100000 in
theorem k_X0_findPowers {l : Launch} {G : GG} {q : Nat → Nat} {fr : va_W} {zp : Int32} {ze : Int32} {zf : Int32} {zg : Int32} {zn : Int32} {aG : Nat → Int32} {aW : Nat → Int32} {aR : Nat → Int32} {aN : Nat → Int32} {aF : Nat → Int32} {lC : Nat → Int64} {lS : Nat → Int64} {lP : Nat → Int64} {lX : Nat → Int64}  {z : (Nat → Int32)}  (h : f_X0_findPowers zp zg aW = some z) : Ct l G yX0_findPowers cX0_findPowers 3 none 0 0 [.ref (q 0)] (kW G q zp ze zf zg zn aG aW aR aN aF lC lS lP lX ++ fr) (none) (kW G q zp ze zf zg zn aG z aR aN aF lC lS lP lX ++ fr) := by
  refine Ct.of (by decide) (Nat.le_of_ble_eq_true rfl) trivial ?_
  intro p e s m args below meth c Q A ls F hw hA hE hl
  have hx := F.x
  have hb := F.b
  unfold f_X0_findPowers at h
  obtain ⟨H, hH⟩ : ∃ H, H = s.heap := ⟨_, rfl⟩
  obtain ⟨locs, hlo⟩ : ∃ locs : List Loc, locs = [] := ⟨_, rfl⟩
  rw [← hH, ← hlo] at hw ⊢
  have hl : lv_has ls 3 [(0, .ref (q 0))] := hl
  refine lv_iconst (v := 1) hx hb dX0_findPowers_0 (by decide) ?_
  refine lv_istore_n (lv' := [(1, .int 1), (0, .ref (q 0))]) hx hb dX0_findPowers_1 rfl hl (by decide) rfl (fun ls hl => ?_)
  refine lv_iconst (v := 0) hx hb dX0_findPowers_2 (by decide) ?_
  refine lv_istore_n (lv' := [(2, .int 0), (1, .int 1), (0, .ref (q 0))]) hx hb dX0_findPowers_3 rfl hl (by decide) rfl (fun ls hl => ?_)
  exact w_X0_findPowers_L4 F hA  FU _ _ _ z h hE H locs ls hw (lv_sub hl [2, 1, 0] rfl)
end
theorem dX0_classNumber_0 : decode cX0_classNumber 0 = .ok (.aload_n 0, 1) := by decide +kernel
theorem dX0_classNumber_1 : decode cX0_classNumber 1 = .ok (.getfield 15, 3) := by decide +kernel
theorem dX0_classNumber_4 : decode cX0_classNumber 4 = .ok (.iload_n 1, 1) := by decide +kernel
theorem dX0_classNumber_5 : decode cX0_classNumber 5 = .ok (.iaload, 1) := by decide +kernel
theorem dX0_classNumber_6 : decode cX0_classNumber 6 = .ok (.aload_n 0, 1) := by decide +kernel
theorem dX0_classNumber_7 : decode cX0_classNumber 7 = .ok (.getfield 48, 3) := by decide +kernel
theorem dX0_classNumber_10 : decode cX0_classNumber 10 = .ok (.irem, 1) := by decide +kernel
theorem dX0_classNumber_11 : decode cX0_classNumber 11 = .ok (.ireturn, 1) := by decide +kernel
section
variable {p : Program} {l : Launch} {e : Env} {s : State} {m : MethodId} {args : Array Value} {below : List Frame} {meth : Method} {c : Code} {Q : State → Prop} {G : GG} {A : Nat → Prop} {q : Nat → Nat} {fr : va_W}
def f_X0_classNumber (ze : Int32) (aW : Nat → Int32) (v1 : Int32) : Option (Int32) :=
  if inb v1 61 then
  if ze = 0 then none else
  some ((aW v1.toNatClampNeg) - (aW v1.toNatClampNeg) / ze * ze)
  else none
set_option maxHeartbeats 4000000 in
set_option maxRecDepth 100000 in
theorem k_X0_classNumber {l : Launch} {G : GG} {q : Nat → Nat} {fr : va_W} {zp : Int32} {ze : Int32} {zf : Int32} {zg : Int32} {zn : Int32} {aG : Nat → Int32} {aW : Nat → Int32} {aR : Nat → Int32} {aN : Nat → Int32} {aF : Nat → Int32} {lC : Nat → Int64} {lS : Nat → Int64} {lP : Nat → Int64} {lX : Nat → Int64} {v1 : Int32} {z : Int32}  (h : f_X0_classNumber ze aW v1 = some z) : Ct l G yX0_classNumber cX0_classNumber 2 (some .int) 0 0 [.ref (q 0), .int v1] (kW G q zp ze zf zg zn aG aW aR aN aF lC lS lP lX ++ fr) (some (.int z)) (kW G q zp ze zf zg zn aG aW aR aN aF lC lS lP lX ++ fr) := by
  refine Ct.of (by decide) (Nat.le_of_ble_eq_true rfl) trivial ?_
  intro p e s m args below meth c Q A ls F hw hA hE hl
  have hx := F.x
  have hb := F.b
  unfold f_X0_classNumber at h
  obtain ⟨H, hH⟩ : ∃ H, H = s.heap := ⟨_, rfl⟩
  obtain ⟨locs, hlo⟩ : ∃ locs : List Loc, locs = [] := ⟨_, rfl⟩
  rw [← hH, ← hlo] at hw ⊢
  have hl : lv_has ls 2 [(0, .ref (q 0)), (1, .int v1)] := hl
  refine lv_aload_n hx hb dX0_classNumber_0 rfl (lv_at hl 0 rfl) ?_
  refine gf_0_15 F hw dX0_classNumber_1 ?_
  refine lv_iload_n hx hb dX0_classNumber_4 rfl (lv_at hl 1 rfl) ?_
  obtain ⟨g1, h⟩ := stG h
  refine al_c2 F hw g1 dX0_classNumber_5 ?_
  refine lv_aload_n hx hb dX0_classNumber_6 rfl (lv_at hl 0 rfl) ?_
  refine gf_0_48 F hw dX0_classNumber_7 ?_
  obtain ⟨g2, h⟩ := stD h
  refine lv_irem hx hb dX0_classNumber_10 g2 ?_
  obtain rfl := Option.some.inj h
  exact hE H locs _ ls hw dX0_classNumber_11
end
theorem dX0_findNeighbours_0 : decode cX0_findNeighbours 0 = .ok (.iconst 0, 1) := by decide +kernel
theorem dX0_findNeighbours_1 : decode cX0_findNeighbours 1 = .ok (.istore_n 1, 1) := by decide +kernel
theorem dX0_findNeighbours_2 : decode cX0_findNeighbours 2 = .ok (.iload_n 1, 1) := by decide +kernel
theorem dX0_findNeighbours_3 : decode cX0_findNeighbours 3 = .ok (.aload_n 0, 1) := by decide +kernel
theorem dX0_findNeighbours_4 : decode cX0_findNeighbours 4 = .ok (.getfield 21, 3) := by decide +kernel
theorem dX0_findNeighbours_7 : decode cX0_findNeighbours 7 = .ok (.arraylength, 1) := by decide +kernel
theorem dX0_findNeighbours_8 : decode cX0_findNeighbours 8 = .ok (.if_icmp .ge 16, 3) := by decide +kernel
theorem dX0_findNeighbours_11 : decode cX0_findNeighbours 11 = .ok (.aload_n 0, 1) := by decide +kernel
theorem dX0_findNeighbours_12 : decode cX0_findNeighbours 12 = .ok (.getfield 21, 3) := by decide +kernel
theorem dX0_findNeighbours_15 : decode cX0_findNeighbours 15 = .ok (.iload_n 1, 1) := by decide +kernel
theorem dX0_findNeighbours_16 : decode cX0_findNeighbours 16 = .ok (.iconst 0, 1) := by decide +kernel
theorem dX0_findNeighbours_17 : decode cX0_findNeighbours 17 = .ok (.iastore, 1) := by decide +kernel
theorem dX0_findNeighbours_18 : decode cX0_findNeighbours 18 = .ok (.iinc 1 1, 3) := by decide +kernel
theorem dX0_findNeighbours_21 : decode cX0_findNeighbours 21 = .ok (.goto (-19), 3) := by decide +kernel
theorem dX0_findNeighbours_24 : decode cX0_findNeighbours 24 = .ok (.iconst 1, 1) := by decide +kernel
theorem dX0_findNeighbours_25 : decode cX0_findNeighbours 25 = .ok (.istore_n 1, 1) := by decide +kernel
theorem dX0_findNeighbours_26 : decode cX0_findNeighbours 26 = .ok (.iload_n 1, 1) := by decide +kernel
theorem dX0_findNeighbours_27 : decode cX0_findNeighbours 27 = .ok (.iconst 1, 1) := by decide +kernel
theorem dX0_findNeighbours_28 : decode cX0_findNeighbours 28 = .ok (.iadd, 1) := by decide +kernel
theorem dX0_findNeighbours_29 : decode cX0_findNeighbours 29 = .ok (.aload_n 0, 1) := by decide +kernel
theorem dX0_findNeighbours_30 : decode cX0_findNeighbours 30 = .ok (.getfield 44, 3) := by decide +kernel
theorem dX0_findNeighbours_33 : decode cX0_findNeighbours 33 = .ok (.if_icmp .ge 34, 3) := by decide +kernel
theorem dX0_findNeighbours_36 : decode cX0_findNeighbours 36 = .ok (.aload_n 0, 1) := by decide +kernel
theorem dX0_findNeighbours_37 : decode cX0_findNeighbours 37 = .ok (.getfield 21, 3) := by decide +kernel
theorem dX0_findNeighbours_40 : decode cX0_findNeighbours 40 = .ok (.aload_n 0, 1) := by decide +kernel
theorem dX0_findNeighbours_41 : decode cX0_findNeighbours 41 = .ok (.iload_n 1, 1) := by decide +kernel
theorem dX0_findNeighbours_42 : decode cX0_findNeighbours 42 = .ok (.invokevirtual 86, 3) := by decide +kernel
theorem dX0_findNeighbours_45 : decode cX0_findNeighbours 45 = .ok (.bipush 12, 2) := by decide +kernel
theorem dX0_findNeighbours_47 : decode cX0_findNeighbours 47 = .ok (.imul, 1) := by decide +kernel
theorem dX0_findNeighbours_48 : decode cX0_findNeighbours 48 = .ok (.aload_n 0, 1) := by decide +kernel
theorem dX0_findNeighbours_49 : decode cX0_findNeighbours 49 = .ok (.iload_n 1, 1) := by decide +kernel
theorem dX0_findNeighbours_50 : decode cX0_findNeighbours 50 = .ok (.iconst 1, 1) := by decide +kernel
theorem dX0_findNeighbours_51 : decode cX0_findNeighbours 51 = .ok (.iadd, 1) := by decide +kernel
theorem dX0_findNeighbours_52 : decode cX0_findNeighbours 52 = .ok (.invokevirtual 86, 3) := by decide +kernel
theorem dX0_findNeighbours_55 : decode cX0_findNeighbours 55 = .ok (.iadd, 1) := by decide +kernel
theorem dX0_findNeighbours_56 : decode cX0_findNeighbours 56 = .ok (.dup2, 1) := by decide +kernel
theorem dX0_findNeighbours_57 : decode cX0_findNeighbours 57 = .ok (.iaload, 1) := by decide +kernel
theorem dX0_findNeighbours_58 : decode cX0_findNeighbours 58 = .ok (.iconst 1, 1) := by decide +kernel
theorem dX0_findNeighbours_59 : decode cX0_findNeighbours 59 = .ok (.iadd, 1) := by decide +kernel
theorem dX0_findNeighbours_60 : decode cX0_findNeighbours 60 = .ok (.iastore, 1) := by decide +kernel
theorem dX0_findNeighbours_61 : decode cX0_findNeighbours 61 = .ok (.iinc 1 1, 3) := by decide +kernel
theorem dX0_findNeighbours_64 : decode cX0_findNeighbours 64 = .ok (.goto (-38), 3) := by decide +kernel
theorem dX0_findNeighbours_67 : decode cX0_findNeighbours 67 = .ok (.return_, 1) := by decide +kernel
section
variable {p : Program} {l : Launch} {e : Env} {s : State} {m : MethodId} {args : Array Value} {below : List Frame} {meth : Method} {c : Code} {Q : State → Prop} {G : GG} {A : Nat → Prop} {q : Nat → Nat} {fr : va_W}
def f_X0_findNeighbours_L26 (zp : Int32) (ze : Int32) (aW : Nat → Int32) : Nat → (Nat → Int32) → Int32 → Option ((Nat → Int32))
  | 0, _, _ => none
  | fu + 1, aN, v1 =>
    if zp ≤ (v1 + 1) then
    some aN
    else
    (f_X0_classNumber ze aW v1).bind fun z2 =>
    (f_X0_classNumber ze aW (v1 + 1)).bind fun z3 =>
    if inb ((z2 * 12) + z3) 144 then
    if inb ((z2 * 12) + z3) 144 then
    f_X0_findNeighbours_L26 zp ze aW fu (upd aN ((z2 * 12) + z3).toNatClampNeg ((aN ((z2 * 12) + z3).toNatClampNeg) + 1)) (v1 + 1)
    else none
    else none
set_option maxHeartbeats 4000000 in
set_option maxRecDepth 100000 in
theorem w_X0_findNeighbours_L26 {zp : Int32} {ze : Int32} {zf : Int32} {zg : Int32} {zn : Int32} {aG : Nat → Int32} {aW : Nat → Int32} {aR : Nat → Int32} {aF : Nat → Int32} {lC : Nat → Int64} {lS : Nat → Int64} {lP : Nat → Int64} {lX : Nat → Int64}   (F : Fx p s m args meth c cX0_findNeighbours 2 RX0 none) (hA : ∀ q, s.heap.size ≤ q → A q)   : ∀ (fu : Nat) (aN : Nat → Int32) (v1 : Int32) (z : (Nat → Int32)), f_X0_findNeighbours_L26 zp ze aW fu aN v1 = some z → Ends p l e (rmOf 1 21) s m args below meth c Q cX0_findNeighbours G A none (none) (kW G q zp ze zf zg zn aG aW aR z aF lC lS lP lX ++ fr) → ∀ (H : Heap) (locs : List Loc) (ls : Array Slot), Wd G s A (kW G q zp ze zf zg zn aG aW aR aN aF lC lS lP lX ++ fr) H locs → lv_has ls 2 [(0, .ref (q 0)), (1, .int v1)] → W p l e (rmOf 1 21) s m args below meth c H locs 0 0 Q (F0 m 26 ls []) := by
  have hx := F.x
  have hb := F.b
  intro fu
  induction fu with
  | zero =>
    intro aN v1 z h
    cases (h : none = some z)
  | succ fu ih =>
    intro aN v1 z h hE H locs ls hw hl
    rw [f_X0_findNeighbours_L26] at h
    refine lv_iload_n hx hb dX0_findNeighbours_26 rfl (lv_at hl 1 rfl) ?_
    refine lv_iconst (v := 1) hx hb dX0_findNeighbours_27 (by decide) ?_
    refine lv_iadd hx hb dX0_findNeighbours_28 ?_
    refine lv_aload_n hx hb dX0_findNeighbours_29 rfl (lv_at hl 0 rfl) ?_
    refine gf_0_44 F hw dX0_findNeighbours_30 ?_
    refine lv_icmp_ge (tgt := 67) hx hb dX0_findNeighbours_33 (by decide) (fun c1 => ?_) (fun c1 => ?_)
    · replace h := stT c1 h
      obtain rfl := Option.some.inj h
      exact hE H locs _ ls hw dX0_findNeighbours_67
    · replace h := stF c1 h
      refine lv_aload_n hx hb dX0_findNeighbours_36 rfl (lv_at hl 0 rfl) ?_
      refine gf_0_21 F hw dX0_findNeighbours_37 ?_
      refine lv_aload_n hx hb dX0_findNeighbours_40 rfl (lv_at hl 0 rfl) ?_
      refine lv_iload_n hx hb dX0_findNeighbours_41 rfl (lv_at hl 1 rfl) ?_
      obtain ⟨z2, hz2, h⟩ := stB h
      refine ctV (av := [.int v1]) (st0 := ([.ref (q 4)] : List Value)) (st1 := ([.int z2, .ref (q 4)] : List Value)) F hw hA (k_X0_classNumber hz2) kl_0_86 kd_X0_classNumber rfl ⟨by decide, by decide⟩ 0 rfl rfl hl.1 rfl (Nat.le_of_ble_eq_true rfl) dX0_findNeighbours_42 rfl (fun H locs hw => ?_)
      refine lv_bipush (v := 12) hx hb dX0_findNeighbours_45 (by decide) ?_
      refine lv_imul hx hb dX0_findNeighbours_47 ?_
      refine lv_aload_n hx hb dX0_findNeighbours_48 rfl (lv_at hl 0 rfl) ?_
      refine lv_iload_n hx hb dX0_findNeighbours_49 rfl (lv_at hl 1 rfl) ?_
      refine lv_iconst (v := 1) hx hb dX0_findNeighbours_50 (by decide) ?_
      refine lv_iadd hx hb dX0_findNeighbours_51 ?_
      obtain ⟨z3, hz3, h⟩ := stB h
      refine ctV (av := [.int (v1 + 1)]) (st0 := ([.int (z2 * 12), .ref (q 4)] : List Value)) (st1 := ([.int z3, .int (z2 * 12), .ref (q 4)] : List Value)) F hw hA (k_X0_classNumber hz3) kl_0_86 kd_X0_classNumber rfl ⟨by decide, by decide⟩ 0 rfl rfl hl.1 rfl (Nat.le_of_ble_eq_true rfl) dX0_findNeighbours_52 rfl (fun H locs hw => ?_)
      refine lv_iadd hx hb dX0_findNeighbours_55 ?_
      refine lv_dup2_11 hx hb dX0_findNeighbours_56 rfl rfl ?_
      obtain ⟨g4, h⟩ := stG h
      refine al_c4 F hw g4 dX0_findNeighbours_57 ?_
      refine lv_iconst (v := 1) hx hb dX0_findNeighbours_58 (by decide) ?_
      refine lv_iadd hx hb dX0_findNeighbours_59 ?_
      obtain ⟨g5, h⟩ := stG h
      refine as_c4 F hw g5 dX0_findNeighbours_60 (fun H locs hw => ?_)
      refine lv_iinc (v := (v1 + 1)) (lv' := [(1, .int (v1 + 1)), (0, .ref (q 0))]) hx hb dX0_findNeighbours_61 hl (k := 1) rfl rfl (by decide) rfl (fun ls hl => ?_)
      refine lv_goto (tgt := 26) hx hb dX0_findNeighbours_64 (by decide) ?_
      exact ih _ _ z h hE H locs ls hw (lv_sub hl [1, 0] rfl)
def f_X0_findNeighbours_L2 (zp : Int32) (ze : Int32) (aW : Nat → Int32) : Nat → (Nat → Int32) → Int32 → Option ((Nat → Int32))
  | 0, _, _ => none
  | fu + 1, aN, v1 =>
    if 144 ≤ v1 then
    f_X0_findNeighbours_L26 zp ze aW FU aN 1
    else
    if inb v1 144 then
    f_X0_findNeighbours_L2 zp ze aW fu (upd aN v1.toNatClampNeg 0) (v1 + 1)
    else none
set_option maxHeartbeats 4000000 in
set_option maxRecDepth 100000 in
theorem w_X0_findNeighbours_L2 {zp : Int32} {ze : Int32} {zf : Int32} {zg : Int32} {zn : Int32} {aG : Nat → Int32} {aW : Nat → Int32} {aR : Nat → Int32} {aF : Nat → Int32} {lC : Nat → Int64} {lS : Nat → Int64} {lP : Nat → Int64} {lX : Nat → Int64}   (F : Fx p s m args meth c cX0_findNeighbours 2 RX0 none) (hA : ∀ q, s.heap.size ≤ q → A q)   : ∀ (fu : Nat) (aN : Nat → Int32) (v1 : Int32) (z : (Nat → Int32)), f_X0_findNeighbours_L2 zp ze aW fu aN v1 = some z → Ends p l e (rmOf 1 21) s m args below meth c Q cX0_findNeighbours G A none (none) (kW G q zp ze zf zg zn aG aW aR z aF lC lS lP lX ++ fr) → ∀ (H : Heap) (locs : List Loc) (ls : Array Slot), Wd G s A (kW G q zp ze zf zg zn aG aW aR aN aF lC lS lP lX ++ fr) H locs → lv_has ls 2 [(0, .ref (q 0)), (1, .int v1)] → W p l e (rmOf 1 21) s m args below meth c H locs 0 0 Q (F0 m 2 ls []) := by
  have hx := F.x
  have hb := F.b
  intro fu
  induction fu with
  | zero =>
    intro aN v1 z h
    cases (h : none = some z)
  | succ fu ih =>
    intro aN v1 z h hE H locs ls hw hl
    rw [f_X0_findNeighbours_L2] at h
    refine lv_iload_n hx hb dX0_findNeighbours_2 rfl (lv_at hl 1 rfl) ?_
    refine lv_aload_n hx hb dX0_findNeighbours_3 rfl (lv_at hl 0 rfl) ?_
    refine gf_0_21 F hw dX0_findNeighbours_4 ?_
    refine va_alen F.x F.b hw.1 hw.2.1 4 0 rfl rfl (v := 144) rfl dX0_findNeighbours_7 ?_
    refine lv_icmp_ge (tgt := 24) hx hb dX0_findNeighbours_8 (by decide) (fun c1 => ?_) (fun c1 => ?_)
    · replace h := stT c1 h
      refine lv_iconst (v := 1) hx hb dX0_findNeighbours_24 (by decide) ?_
      refine lv_istore_n (lv' := [(1, .int 1), (0, .ref (q 0))]) hx hb dX0_findNeighbours_25 rfl hl (by decide) rfl (fun ls hl => ?_)
      exact w_X0_findNeighbours_L26 F hA  FU _ _ z h hE H locs ls hw (lv_sub hl [1, 0] rfl)
    · replace h := stF c1 h
      refine lv_aload_n hx hb dX0_findNeighbours_11 rfl (lv_at hl 0 rfl) ?_
      refine gf_0_21 F hw dX0_findNeighbours_12 ?_
      refine lv_iload_n hx hb dX0_findNeighbours_15 rfl (lv_at hl 1 rfl) ?_
      refine lv_iconst (v := 0) hx hb dX0_findNeighbours_16 (by decide) ?_
      obtain ⟨g2, h⟩ := stG h
      refine as_c4 F hw g2 dX0_findNeighbours_17 (fun H locs hw => ?_)
      refine lv_iinc (v := (v1 + 1)) (lv' := [(1, .int (v1 + 1)), (0, .ref (q 0))]) hx hb dX0_findNeighbours_18 hl (k := 1) rfl rfl (by decide) rfl (fun ls hl => ?_)
      refine lv_goto (tgt := 2) hx hb dX0_findNeighbours_21 (by decide) ?_
      exact ih _ _ z h hE H locs ls hw (lv_sub hl [1, 0] rfl)
def f_X0_findNeighbours (zp : Int32) (ze : Int32) (aW : Nat → Int32) (aN : Nat → Int32) : Option ((Nat → Int32)) :=
  f_X0_findNeighbours_L2 zp ze aW FU aN 0
set_option maxHeartbeats 4000000 in
set_option maxRecDepth 100000 in
theorem k_X0_findNeighbours {l : Launch} {G : GG} {q : Nat → Nat} {fr : va_W} {zp : Int32} {ze : Int32} {zf : Int32} {zg : Int32} {zn : Int32} {aG : Nat → Int32} {aW : Nat → Int32} {aR : Nat → Int32} {aN : Nat → Int32} {aF : Nat → Int32} {lC : Nat → Int64} {lS : Nat → Int64} {lP : Nat → Int64} {lX : Nat → Int64}  {z : (Nat → Int32)}  (h : f_X0_findNeighbours zp ze aW aN = some z) : Ct l G yX0_findNeighbours cX0_findNeighbours 2 none 1 21 [.ref (q 0)] (kW G q zp ze zf zg zn aG aW aR aN aF lC lS lP lX ++ fr) (none) (kW G q zp ze zf zg zn aG aW aR z aF lC lS lP lX ++ fr) := by
  refine Ct.of (by decide) (Nat.le_of_ble_eq_true rfl) trivial ?_
  intro p e s m args below meth c Q A ls F hw hA hE hl
  have hx := F.x
  have hb := F.b
  unfold f_X0_findNeighbours at h
  obtain ⟨H, hH⟩ : ∃ H, H = s.heap := ⟨_, rfl⟩
  obtain ⟨locs, hlo⟩ : ∃ locs : List Loc, locs = [] := ⟨_, rfl⟩
  rw [← hH, ← hlo] at hw ⊢
  have hl : lv_has ls 2 [(0, .ref (q 0))] := hl
  refine lv_iconst (v := 0) hx hb dX0_findNeighbours_0 (by decide) ?_
  refine lv_istore_n (lv' := [(1, .int 0), (0, .ref (q 0))]) hx hb dX0_findNeighbours_1 rfl hl (by decide) rfl (fun ls hl => ?_)
  exact w_X0_findNeighbours_L2 F hA  FU _ _ z h hE H locs ls hw (lv_sub hl [1, 0] rfl)
end
theorem dX0_oppositeOf_0 : decode cX0_oppositeOf 0 = .ok (.iload_n 1, 1) := by decide +kernel
theorem dX0_oppositeOf_1 : decode cX0_oppositeOf 1 = .ok (.aload_n 0, 1) := by decide +kernel
theorem dX0_oppositeOf_2 : decode cX0_oppositeOf 2 = .ok (.getfield 44, 3) := by decide +kernel
theorem dX0_oppositeOf_5 : decode cX0_oppositeOf 5 = .ok (.iconst 1, 1) := by decide +kernel
theorem dX0_oppositeOf_6 : decode cX0_oppositeOf 6 = .ok (.isub, 1) := by decide +kernel
theorem dX0_oppositeOf_7 : decode cX0_oppositeOf 7 = .ok (.iconst 2, 1) := by decide +kernel
theorem dX0_oppositeOf_8 : decode cX0_oppositeOf 8 = .ok (.idiv, 1) := by decide +kernel
theorem dX0_oppositeOf_9 : decode cX0_oppositeOf 9 = .ok (.iadd, 1) := by decide +kernel
theorem dX0_oppositeOf_10 : decode cX0_oppositeOf 10 = .ok (.aload_n 0, 1) := by decide +kernel
theorem dX0_oppositeOf_11 : decode cX0_oppositeOf 11 = .ok (.getfield 48, 3) := by decide +kernel
theorem dX0_oppositeOf_14 : decode cX0_oppositeOf 14 = .ok (.irem, 1) := by decide +kernel
theorem dX0_oppositeOf_15 : decode cX0_oppositeOf 15 = .ok (.ireturn, 1) := by decide +kernel
section
variable {p : Program} {l : Launch} {e : Env} {s : State} {m : MethodId} {args : Array Value} {below : List Frame} {meth : Method} {c : Code} {Q : State → Prop} {G : GG} {A : Nat → Prop} {q : Nat → Nat} {fr : va_W}
def f_X0_oppositeOf (zp : Int32) (ze : Int32) (v1 : Int32) : Option (Int32) :=
  if ze = 0 then none else
  some ((v1 + ((zp - 1) / 2)) - (v1 + ((zp - 1) / 2)) / ze * ze)
set_option maxHeartbeats 4000000 in
set_option maxRecDepth 100000 in
theorem k_X0_oppositeOf {l : Launch} {G : GG} {q : Nat → Nat} {fr : va_W} {zp : Int32} {ze : Int32} {zf : Int32} {zg : Int32} {zn : Int32} {aG : Nat → Int32} {aW : Nat → Int32} {aR : Nat → Int32} {aN : Nat → Int32} {aF : Nat → Int32} {lC : Nat → Int64} {lS : Nat → Int64} {lP : Nat → Int64} {lX : Nat → Int64} {v1 : Int32} {z : Int32}  (h : f_X0_oppositeOf zp ze v1 = some z) : Ct l G yX0_oppositeOf cX0_oppositeOf 2 (some .int) 0 0 [.ref (q 0), .int v1] (kW G q zp ze zf zg zn aG aW aR aN aF lC lS lP lX ++ fr) (some (.int z)) (kW G q zp ze zf zg zn aG aW aR aN aF lC lS lP lX ++ fr) := by
  refine Ct.of (by decide) (Nat.le_of_ble_eq_true rfl) trivial ?_
  intro p e s m args below meth c Q A ls F hw hA hE hl
  have hx := F.x
  have hb := F.b
  unfold f_X0_oppositeOf at h
  obtain ⟨H, hH⟩ : ∃ H, H = s.heap := ⟨_, rfl⟩
  obtain ⟨locs, hlo⟩ : ∃ locs : List Loc, locs = [] := ⟨_, rfl⟩
  rw [← hH, ← hlo] at hw ⊢
  have hl : lv_has ls 2 [(0, .ref (q 0)), (1, .int v1)] := hl
  refine lv_iload_n hx hb dX0_oppositeOf_0 rfl (lv_at hl 1 rfl) ?_
  refine lv_aload_n hx hb dX0_oppositeOf_1 rfl (lv_at hl 0 rfl) ?_
  refine gf_0_44 F hw dX0_oppositeOf_2 ?_
  refine lv_iconst (v := 1) hx hb dX0_oppositeOf_5 (by decide) ?_
  refine lv_isub hx hb dX0_oppositeOf_6 ?_
  refine lv_iconst (v := 2) hx hb dX0_oppositeOf_7 (by decide) ?_
  refine lv_idiv hx hb dX0_oppositeOf_8 (by decide) ?_
  refine lv_iadd hx hb dX0_oppositeOf_9 ?_
  refine lv_aload_n hx hb dX0_oppositeOf_10 rfl (lv_at hl 0 rfl) ?_
  refine gf_0_48 F hw dX0_oppositeOf_11 ?_
  obtain ⟨g1, h⟩ := stD h
  refine lv_irem hx hb dX0_oppositeOf_14 g1 ?_
  obtain rfl := Option.some.inj h
  exact hE H locs _ ls hw dX0_oppositeOf_15
end
theorem dX4_factorIndex_0 : decode cX4_factorIndex 0 = .ok (.iload_n 0, 1) := by decide +kernel
theorem dX4_factorIndex_1 : decode cX4_factorIndex 1 = .ok (.bipush 12, 2) := by decide +kernel
theorem dX4_factorIndex_3 : decode cX4_factorIndex 3 = .ok (.imul, 1) := by decide +kernel
theorem dX4_factorIndex_4 : decode cX4_factorIndex 4 = .ok (.iload_n 1, 1) := by decide +kernel
theorem dX4_factorIndex_5 : decode cX4_factorIndex 5 = .ok (.iadd, 1) := by decide +kernel
theorem dX4_factorIndex_6 : decode cX4_factorIndex 6 = .ok (.bipush 12, 2) := by decide +kernel
theorem dX4_factorIndex_8 : decode cX4_factorIndex 8 = .ok (.imul, 1) := by decide +kernel
theorem dX4_factorIndex_9 : decode cX4_factorIndex 9 = .ok (.iload_n 2, 1) := by decide +kernel
theorem dX4_factorIndex_10 : decode cX4_factorIndex 10 = .ok (.iadd, 1) := by decide +kernel
theorem dX4_factorIndex_11 : decode cX4_factorIndex 11 = .ok (.ireturn, 1) := by decide +kernel
section
variable {p : Program} {l : Launch} {e : Env} {s : State} {m : MethodId} {args : Array Value} {below : List Frame} {meth : Method} {c : Code} {Q : State → Prop} {G : GG} {A : Nat → Prop} {q : Nat → Nat} {fr : va_W}
def f_X4_factorIndex (v0 : Int32) (v1 : Int32) (v2 : Int32) : Option (Int32) :=
  some ((((v0 * 12) + v1) * 12) + v2)
set_option maxHeartbeats 4000000 in
set_option maxRecDepth 100000 in
theorem k_X4_factorIndex {l : Launch} {G : GG} {fr : va_W}  {v0 : Int32} {v1 : Int32} {v2 : Int32} {z : Int32}  (h : f_X4_factorIndex v0 v1 v2 = some z) : Ct l G yX4_factorIndex cX4_factorIndex 3 (some .int) 0 0 [.int v0, .int v1, .int v2] fr (some (.int z)) fr := by
  refine Ct.of (by decide) (Nat.le_of_ble_eq_true rfl) trivial ?_
  intro p e s m args below meth c Q A ls F hw hA hE hl
  have hx := F.x
  have hb := F.b
  unfold f_X4_factorIndex at h
  obtain ⟨H, hH⟩ : ∃ H, H = s.heap := ⟨_, rfl⟩
  obtain ⟨locs, hlo⟩ : ∃ locs : List Loc, locs = [] := ⟨_, rfl⟩
  rw [← hH, ← hlo] at hw ⊢
  have hl : lv_has ls 3 [(0, .int v0), (1, .int v1), (2, .int v2)] := hl
  refine lv_iload_n hx hb dX4_factorIndex_0 rfl (lv_at hl 0 rfl) ?_
  refine lv_bipush (v := 12) hx hb dX4_factorIndex_1 (by decide) ?_
  refine lv_imul hx hb dX4_factorIndex_3 ?_
  refine lv_iload_n hx hb dX4_factorIndex_4 rfl (lv_at hl 1 rfl) ?_
  refine lv_iadd hx hb dX4_factorIndex_5 ?_
  refine lv_bipush (v := 12) hx hb dX4_factorIndex_6 (by decide) ?_
  refine lv_imul hx hb dX4_factorIndex_8 ?_
  refine lv_iload_n hx hb dX4_factorIndex_9 rfl (lv_at hl 2 rfl) ?_
  refine lv_iadd hx hb dX4_factorIndex_10 ?_
  obtain rfl := Option.some.inj h
  exact hE H locs _ ls hw dX4_factorIndex_11
end
theorem dX0_countMeetings_0 : decode cX0_countMeetings 0 = .ok (.iconst 1, 1) := by decide +kernel
theorem dX0_countMeetings_1 : decode cX0_countMeetings 1 = .ok (.istore_n 3, 1) := by decide +kernel
theorem dX0_countMeetings_2 : decode cX0_countMeetings 2 = .ok (.iload_n 3, 1) := by decide +kernel
theorem dX0_countMeetings_3 : decode cX0_countMeetings 3 = .ok (.aload_n 0, 1) := by decide +kernel
theorem dX0_countMeetings_4 : decode cX0_countMeetings 4 = .ok (.getfield 44, 3) := by decide +kernel
theorem dX0_countMeetings_7 : decode cX0_countMeetings 7 = .ok (.if_icmp .ge 62, 3) := by decide +kernel
theorem dX0_countMeetings_10 : decode cX0_countMeetings 10 = .ok (.iload_n 3, 1) := by decide +kernel
theorem dX0_countMeetings_11 : decode cX0_countMeetings 11 = .ok (.iload_n 1, 1) := by decide +kernel
theorem dX0_countMeetings_12 : decode cX0_countMeetings 12 = .ok (.if_icmp .ne 6, 3) := by decide +kernel
theorem dX0_countMeetings_15 : decode cX0_countMeetings 15 = .ok (.goto 48, 3) := by decide +kernel
theorem dX0_countMeetings_18 : decode cX0_countMeetings 18 = .ok (.iload_n 3, 1) := by decide +kernel
theorem dX0_countMeetings_19 : decode cX0_countMeetings 19 = .ok (.iload_n 1, 1) := by decide +kernel
theorem dX0_countMeetings_20 : decode cX0_countMeetings 20 = .ok (.if_icmp .ge 9, 3) := by decide +kernel
theorem dX0_countMeetings_23 : decode cX0_countMeetings 23 = .ok (.iload_n 1, 1) := by decide +kernel
theorem dX0_countMeetings_24 : decode cX0_countMeetings 24 = .ok (.iload_n 3, 1) := by decide +kernel
theorem dX0_countMeetings_25 : decode cX0_countMeetings 25 = .ok (.isub, 1) := by decide +kernel
theorem dX0_countMeetings_26 : decode cX0_countMeetings 26 = .ok (.goto 11, 3) := by decide +kernel
theorem dX0_countMeetings_29 : decode cX0_countMeetings 29 = .ok (.iload_n 1, 1) := by decide +kernel
theorem dX0_countMeetings_30 : decode cX0_countMeetings 30 = .ok (.iload_n 3, 1) := by decide +kernel
theorem dX0_countMeetings_31 : decode cX0_countMeetings 31 = .ok (.isub, 1) := by decide +kernel
theorem dX0_countMeetings_32 : decode cX0_countMeetings 32 = .ok (.aload_n 0, 1) := by decide +kernel
theorem dX0_countMeetings_33 : decode cX0_countMeetings 33 = .ok (.getfield 44, 3) := by decide +kernel
theorem dX0_countMeetings_36 : decode cX0_countMeetings 36 = .ok (.iadd, 1) := by decide +kernel
theorem dX0_countMeetings_37 : decode cX0_countMeetings 37 = .ok (.istore 4, 2) := by decide +kernel
theorem dX0_countMeetings_39 : decode cX0_countMeetings 39 = .ok (.aload_n 0, 1) := by decide +kernel
theorem dX0_countMeetings_40 : decode cX0_countMeetings 40 = .ok (.getfield 24, 3) := by decide +kernel
theorem dX0_countMeetings_43 : decode cX0_countMeetings 43 = .ok (.aload_n 0, 1) := by decide +kernel
theorem dX0_countMeetings_44 : decode cX0_countMeetings 44 = .ok (.iload_n 3, 1) := by decide +kernel
theorem dX0_countMeetings_45 : decode cX0_countMeetings 45 = .ok (.invokevirtual 86, 3) := by decide +kernel
theorem dX0_countMeetings_48 : decode cX0_countMeetings 48 = .ok (.aload_n 0, 1) := by decide +kernel
theorem dX0_countMeetings_49 : decode cX0_countMeetings 49 = .ok (.iload 4, 2) := by decide +kernel
theorem dX0_countMeetings_51 : decode cX0_countMeetings 51 = .ok (.invokevirtual 86, 3) := by decide +kernel
theorem dX0_countMeetings_54 : decode cX0_countMeetings 54 = .ok (.iload_n 2, 1) := by decide +kernel
theorem dX0_countMeetings_55 : decode cX0_countMeetings 55 = .ok (.invokestatic 93, 3) := by decide +kernel
theorem dX0_countMeetings_58 : decode cX0_countMeetings 58 = .ok (.dup2, 1) := by decide +kernel
theorem dX0_countMeetings_59 : decode cX0_countMeetings 59 = .ok (.iaload, 1) := by decide +kernel
theorem dX0_countMeetings_60 : decode cX0_countMeetings 60 = .ok (.iconst 1, 1) := by decide +kernel
theorem dX0_countMeetings_61 : decode cX0_countMeetings 61 = .ok (.iadd, 1) := by decide +kernel
theorem dX0_countMeetings_62 : decode cX0_countMeetings 62 = .ok (.iastore, 1) := by decide +kernel
theorem dX0_countMeetings_63 : decode cX0_countMeetings 63 = .ok (.iinc 3 1, 3) := by decide +kernel
theorem dX0_countMeetings_66 : decode cX0_countMeetings 66 = .ok (.goto (-64), 3) := by decide +kernel
theorem dX0_countMeetings_69 : decode cX0_countMeetings 69 = .ok (.return_, 1) := by decide +kernel
section
variable {p : Program} {l : Launch} {e : Env} {s : State} {m : MethodId} {args : Array Value} {below : List Frame} {meth : Method} {c : Code} {Q : State → Prop} {G : GG} {A : Nat → Prop} {q : Nat → Nat} {fr : va_W}
def f_X0_countMeetings_L2 (zp : Int32) (ze : Int32) (aW : Nat → Int32) (v1 : Int32) (v2 : Int32) : Nat → (Nat → Int32) → Int32 → Option ((Nat → Int32))
  | 0, _, _ => none
  | fu + 1, aF, v3 =>
    if zp ≤ v3 then
    some aF
    else
    if v3 = v1 then
    f_X0_countMeetings_L2 zp ze aW v1 v2 fu aF (v3 + 1)
    else
    if v1 ≤ v3 then
    (f_X0_classNumber ze aW v3).bind fun z4 =>
    (f_X0_classNumber ze aW ((v1 - v3) + zp)).bind fun z5 =>
    (f_X4_factorIndex z4 z5 v2).bind fun z6 =>
    if inb z6 1728 then
    if inb z6 1728 then
    f_X0_countMeetings_L2 zp ze aW v1 v2 fu (upd aF z6.toNatClampNeg ((aF z6.toNatClampNeg) + 1)) (v3 + 1)
    else none
    else none
    else
    (f_X0_classNumber ze aW v3).bind fun z9 =>
    (f_X0_classNumber ze aW (v1 - v3)).bind fun z10 =>
    (f_X4_factorIndex z9 z10 v2).bind fun z11 =>
    if inb z11 1728 then
    if inb z11 1728 then
    f_X0_countMeetings_L2 zp ze aW v1 v2 fu (upd aF z11.toNatClampNeg ((aF z11.toNatClampNeg) + 1)) (v3 + 1)
    else none
    else none
set_option maxHeartbeats 4000000 in
set_option maxRecDepth 100000 in
theorem w_X0_countMeetings_L2 {zp : Int32} {ze : Int32} {zf : Int32} {zg : Int32} {zn : Int32} {aG : Nat → Int32} {aW : Nat → Int32} {aR : Nat → Int32} {aN : Nat → Int32} {lC : Nat → Int64} {lS : Nat → Int64} {lP : Nat → Int64} {lX : Nat → Int64} {v1 : Int32} {v2 : Int32}  (F : Fx p s m args meth c cX0_countMeetings 5 RX0 none) (hA : ∀ q, s.heap.size ≤ q → A q)   : ∀ (fu : Nat) (aF : Nat → Int32) (v3 : Int32) (z : (Nat → Int32)), f_X0_countMeetings_L2 zp ze aW v1 v2 fu aF v3 = some z → Ends p l e (rmOf 1 22) s m args below meth c Q cX0_countMeetings G A none (none) (kW G q zp ze zf zg zn aG aW aR aN z lC lS lP lX ++ fr) → ∀ (H : Heap) (locs : List Loc) (ls : Array Slot), Wd G s A (kW G q zp ze zf zg zn aG aW aR aN aF lC lS lP lX ++ fr) H locs → lv_has ls 5 [(0, .ref (q 0)), (1, .int v1), (2, .int v2), (3, .int v3)] → W p l e (rmOf 1 22) s m args below meth c H locs 0 0 Q (F0 m 2 ls []) := by
  have hx := F.x
  have hb := F.b
  intro fu
  induction fu with
  | zero =>
    intro aF v3 z h
    cases (h : none = some z)
  | succ fu ih =>
    intro aF v3 z h hE H locs ls hw hl
    rw [f_X0_countMeetings_L2] at h
    refine lv_iload_n hx hb dX0_countMeetings_2 rfl (lv_at hl 3 rfl) ?_
    refine lv_aload_n hx hb dX0_countMeetings_3 rfl (lv_at hl 0 rfl) ?_
    refine gf_0_44 F hw dX0_countMeetings_4 ?_
    refine lv_icmp_ge (tgt := 69) hx hb dX0_countMeetings_7 (by decide) (fun c1 => ?_) (fun c1 => ?_)
    · replace h := stT c1 h
      obtain rfl := Option.some.inj h
      exact hE H locs _ ls hw dX0_countMeetings_69
    · replace h := stF c1 h
      refine lv_iload_n hx hb dX0_countMeetings_10 rfl (lv_at hl 3 rfl) ?_
      refine lv_iload_n hx hb dX0_countMeetings_11 rfl (lv_at hl 1 rfl) ?_
      refine lv_icmp_ne (tgt := 18) hx hb dX0_countMeetings_12 (by decide) (fun c2 => ?_) (fun c2 => ?_)
      · replace h := stF c2 h
        refine lv_iload_n hx hb dX0_countMeetings_18 rfl (lv_at hl 3 rfl) ?_
        refine lv_iload_n hx hb dX0_countMeetings_19 rfl (lv_at hl 1 rfl) ?_
        refine lv_icmp_ge (tgt := 29) hx hb dX0_countMeetings_20 (by decide) (fun c3 => ?_) (fun c3 => ?_)
        · replace h := stT c3 h
          refine lv_iload_n hx hb dX0_countMeetings_29 rfl (lv_at hl 1 rfl) ?_
          refine lv_iload_n hx hb dX0_countMeetings_30 rfl (lv_at hl 3 rfl) ?_
          refine lv_isub hx hb dX0_countMeetings_31 ?_
          refine lv_aload_n hx hb dX0_countMeetings_32 rfl (lv_at hl 0 rfl) ?_
          refine gf_0_44 F hw dX0_countMeetings_33 ?_
          refine lv_iadd hx hb dX0_countMeetings_36 ?_
          refine lv_istore (lv' := [(4, .int ((v1 - v3) + zp)), (0, .ref (q 0)), (1, .int v1), (2, .int v2), (3, .int v3)]) hx hb dX0_countMeetings_37 hl (by decide) rfl (fun ls hl => ?_)
          refine lv_aload_n hx hb dX0_countMeetings_39 rfl (lv_at hl 1 rfl) ?_
          refine gf_0_24 F hw dX0_countMeetings_40 ?_
          refine lv_aload_n hx hb dX0_countMeetings_43 rfl (lv_at hl 1 rfl) ?_
          refine lv_iload_n hx hb dX0_countMeetings_44 rfl (lv_at hl 4 rfl) ?_
          obtain ⟨z4, hz4, h⟩ := stB h
          refine ctV (av := [.int v3]) (st0 := ([.ref (q 5)] : List Value)) (st1 := ([.int z4, .ref (q 5)] : List Value)) F hw hA (k_X0_classNumber hz4) kl_0_86 kd_X0_classNumber rfl ⟨by decide, by decide⟩ 0 rfl rfl hl.1 rfl (Nat.le_of_ble_eq_true rfl) dX0_countMeetings_45 rfl (fun H locs hw => ?_)
          refine lv_aload_n hx hb dX0_countMeetings_48 rfl (lv_at hl 1 rfl) ?_
          refine lv_iload hx hb dX0_countMeetings_49 (lv_at hl 0 rfl) ?_
          obtain ⟨z5, hz5, h⟩ := stB h
          refine ctV (av := [.int ((v1 - v3) + zp)]) (st0 := ([.int z4, .ref (q 5)] : List Value)) (st1 := ([.int z5, .int z4, .ref (q 5)] : List Value)) F hw hA (k_X0_classNumber hz5) kl_0_86 kd_X0_classNumber rfl ⟨by decide, by decide⟩ 0 rfl rfl hl.1 rfl (Nat.le_of_ble_eq_true rfl) dX0_countMeetings_51 rfl (fun H locs hw => ?_)
          refine lv_iload_n hx hb dX0_countMeetings_54 rfl (lv_at hl 3 rfl) ?_
          obtain ⟨z6, hz6, h⟩ := stB h
          refine ctSN (av := [.int z4, .int z5, .int v2]) (st0 := ([.ref (q 5)] : List Value)) (st1 := ([.int z6, .ref (q 5)] : List Value)) (host := RX4) F hw hA (k_X4_factorIndex hz6) (by decide +kernel) kn_X4_factorIndex ki_4 ks_X4_factorIndex kd_X4_factorIndex rfl ⟨by decide, by decide⟩ hl.1 rfl (Nat.le_of_ble_eq_true rfl) dX0_countMeetings_55 rfl (fun H locs hw => ?_)
          refine lv_dup2_11 hx hb dX0_countMeetings_58 rfl rfl ?_
          obtain ⟨g7, h⟩ := stG h
          refine al_c5 F hw g7 dX0_countMeetings_59 ?_
          refine lv_iconst (v := 1) hx hb dX0_countMeetings_60 (by decide) ?_
          refine lv_iadd hx hb dX0_countMeetings_61 ?_
          obtain ⟨g8, h⟩ := stG h
          refine as_c5 F hw g8 dX0_countMeetings_62 (fun H locs hw => ?_)
          refine lv_iinc (v := (v3 + 1)) (lv' := [(3, .int (v3 + 1)), (4, .int ((v1 - v3) + zp)), (0, .ref (q 0)), (1, .int v1), (2, .int v2)]) hx hb dX0_countMeetings_63 hl (k := 4) rfl rfl (by decide) rfl (fun ls hl => ?_)
          refine lv_goto (tgt := 2) hx hb dX0_countMeetings_66 (by decide) ?_
          exact ih _ _ z h hE H locs ls hw (lv_sub hl [2, 3, 4, 0] rfl)
        · replace h := stF c3 h
          refine lv_iload_n hx hb dX0_countMeetings_23 rfl (lv_at hl 1 rfl) ?_
          refine lv_iload_n hx hb dX0_countMeetings_24 rfl (lv_at hl 3 rfl) ?_
          refine lv_isub hx hb dX0_countMeetings_25 ?_
          refine lv_goto (tgt := 37) hx hb dX0_countMeetings_26 (by decide) ?_
          refine lv_istore (lv' := [(4, .int (v1 - v3)), (0, .ref (q 0)), (1, .int v1), (2, .int v2), (3, .int v3)]) hx hb dX0_countMeetings_37 hl (by decide) rfl (fun ls hl => ?_)
          refine lv_aload_n hx hb dX0_countMeetings_39 rfl (lv_at hl 1 rfl) ?_
          refine gf_0_24 F hw dX0_countMeetings_40 ?_
          refine lv_aload_n hx hb dX0_countMeetings_43 rfl (lv_at hl 1 rfl) ?_
          refine lv_iload_n hx hb dX0_countMeetings_44 rfl (lv_at hl 4 rfl) ?_
          obtain ⟨z9, hz9, h⟩ := stB h
          refine ctV (av := [.int v3]) (st0 := ([.ref (q 5)] : List Value)) (st1 := ([.int z9, .ref (q 5)] : List Value)) F hw hA (k_X0_classNumber hz9) kl_0_86 kd_X0_classNumber rfl ⟨by decide, by decide⟩ 0 rfl rfl hl.1 rfl (Nat.le_of_ble_eq_true rfl) dX0_countMeetings_45 rfl (fun H locs hw => ?_)
          refine lv_aload_n hx hb dX0_countMeetings_48 rfl (lv_at hl 1 rfl) ?_
          refine lv_iload hx hb dX0_countMeetings_49 (lv_at hl 0 rfl) ?_
          obtain ⟨z10, hz10, h⟩ := stB h
          refine ctV (av := [.int (v1 - v3)]) (st0 := ([.int z9, .ref (q 5)] : List Value)) (st1 := ([.int z10, .int z9, .ref (q 5)] : List Value)) F hw hA (k_X0_classNumber hz10) kl_0_86 kd_X0_classNumber rfl ⟨by decide, by decide⟩ 0 rfl rfl hl.1 rfl (Nat.le_of_ble_eq_true rfl) dX0_countMeetings_51 rfl (fun H locs hw => ?_)
          refine lv_iload_n hx hb dX0_countMeetings_54 rfl (lv_at hl 3 rfl) ?_
          obtain ⟨z11, hz11, h⟩ := stB h
          refine ctSN (av := [.int z9, .int z10, .int v2]) (st0 := ([.ref (q 5)] : List Value)) (st1 := ([.int z11, .ref (q 5)] : List Value)) (host := RX4) F hw hA (k_X4_factorIndex hz11) (by decide +kernel) kn_X4_factorIndex ki_4 ks_X4_factorIndex kd_X4_factorIndex rfl ⟨by decide, by decide⟩ hl.1 rfl (Nat.le_of_ble_eq_true rfl) dX0_countMeetings_55 rfl (fun H locs hw => ?_)
          refine lv_dup2_11 hx hb dX0_countMeetings_58 rfl rfl ?_
          obtain ⟨g12, h⟩ := stG h
          refine al_c5 F hw g12 dX0_countMeetings_59 ?_
          refine lv_iconst (v := 1) hx hb dX0_countMeetings_60 (by decide) ?_
          refine lv_iadd hx hb dX0_countMeetings_61 ?_
          obtain ⟨g13, h⟩ := stG h
          refine as_c5 F hw g13 dX0_countMeetings_62 (fun H locs hw => ?_)
          refine lv_iinc (v := (v3 + 1)) (lv' := [(3, .int (v3 + 1)), (4, .int (v1 - v3)), (0, .ref (q 0)), (1, .int v1), (2, .int v2)]) hx hb dX0_countMeetings_63 hl (k := 4) rfl rfl (by decide) rfl (fun ls hl => ?_)
          refine lv_goto (tgt := 2) hx hb dX0_countMeetings_66 (by decide) ?_
          exact ih _ _ z h hE H locs ls hw (lv_sub hl [2, 3, 4, 0] rfl)
      · replace h := stT c2 h
        refine lv_goto (tgt := 63) hx hb dX0_countMeetings_15 (by decide) ?_
        refine lv_iinc (v := (v3 + 1)) (lv' := [(3, .int (v3 + 1)), (0, .ref (q 0)), (1, .int v1), (2, .int v2)]) hx hb dX0_countMeetings_63 hl (k := 3) rfl rfl (by decide) rfl (fun ls hl => ?_)
        refine lv_goto (tgt := 2) hx hb dX0_countMeetings_66 (by decide) ?_
        exact ih _ _ z h hE H locs ls hw (lv_sub hl [1, 2, 3, 0] rfl)
def f_X0_countMeetings (zp : Int32) (ze : Int32) (aW : Nat → Int32) (aF : Nat → Int32) (v1 : Int32) (v2 : Int32) : Option ((Nat → Int32)) :=
  f_X0_countMeetings_L2 zp ze aW v1 v2 FU aF 1
set_option maxHeartbeats 4000000 in
set_option maxRecDepth 100000 in
theorem k_X0_countMeetings {l : Launch} {G : GG} {q : Nat → Nat} {fr : va_W} {zp : Int32} {ze : Int32} {zf : Int32} {zg : Int32} {zn : Int32} {aG : Nat → Int32} {aW : Nat → Int32} {aR : Nat → Int32} {aN : Nat → Int32} {aF : Nat → Int32} {lC : Nat → Int64} {lS : Nat → Int64} {lP : Nat → Int64} {lX : Nat → Int64} {v1 : Int32} {v2 : Int32} {z : (Nat → Int32)}  (h : f_X0_countMeetings zp ze aW aF v1 v2 = some z) : Ct l G yX0_countMeetings cX0_countMeetings 5 none 1 22 [.ref (q 0), .int v1, .int v2] (kW G q zp ze zf zg zn aG aW aR aN aF lC lS lP lX ++ fr) (none) (kW G q zp ze zf zg zn aG aW aR aN z lC lS lP lX ++ fr) := by
  refine Ct.of (by decide) (Nat.le_of_ble_eq_true rfl) trivial ?_
  intro p e s m args below meth c Q A ls F hw hA hE hl
  have hx := F.x
  have hb := F.b
  unfold f_X0_countMeetings at h
  obtain ⟨H, hH⟩ : ∃ H, H = s.heap := ⟨_, rfl⟩
  obtain ⟨locs, hlo⟩ : ∃ locs : List Loc, locs = [] := ⟨_, rfl⟩
  rw [← hH, ← hlo] at hw ⊢
  have hl : lv_has ls 5 [(0, .ref (q 0)), (1, .int v1), (2, .int v2)] := hl
  refine lv_iconst (v := 1) hx hb dX0_countMeetings_0 (by decide) ?_
  refine lv_istore_n (lv' := [(3, .int 1), (0, .ref (q 0)), (1, .int v1), (2, .int v2)]) hx hb dX0_countMeetings_1 rfl hl (by decide) rfl (fun ls hl => ?_)
  exact w_X0_countMeetings_L2 F hA  FU _ _ z h hE H locs ls hw (lv_sub hl [1, 2, 3, 0] rfl)
end
theorem dX0_findFactors_0 : decode cX0_findFactors 0 = .ok (.iconst 0, 1) := by decide +kernel
theorem dX0_findFactors_1 : decode cX0_findFactors 1 = .ok (.istore_n 1, 1) := by decide +kernel
theorem dX0_findFactors_2 : decode cX0_findFactors 2 = .ok (.iload_n 1, 1) := by decide +kernel
theorem dX0_findFactors_3 : decode cX0_findFactors 3 = .ok (.aload_n 0, 1) := by decide +kernel
theorem dX0_findFactors_4 : decode cX0_findFactors 4 = .ok (.getfield 48, 3) := by decide +kernel
theorem dX0_findFactors_7 : decode cX0_findFactors 7 = .ok (.if_icmp .ge 75, 3) := by decide +kernel
theorem dX0_findFactors_10 : decode cX0_findFactors 10 = .ok (.iconst 0, 1) := by decide +kernel
theorem dX0_findFactors_11 : decode cX0_findFactors 11 = .ok (.istore_n 2, 1) := by decide +kernel
theorem dX0_findFactors_12 : decode cX0_findFactors 12 = .ok (.iload_n 2, 1) := by decide +kernel
theorem dX0_findFactors_13 : decode cX0_findFactors 13 = .ok (.aload_n 0, 1) := by decide +kernel
theorem dX0_findFactors_14 : decode cX0_findFactors 14 = .ok (.getfield 48, 3) := by decide +kernel
theorem dX0_findFactors_17 : decode cX0_findFactors 17 = .ok (.if_icmp .ge 59, 3) := by decide +kernel
theorem dX0_findFactors_20 : decode cX0_findFactors 20 = .ok (.aload_n 0, 1) := by decide +kernel
theorem dX0_findFactors_21 : decode cX0_findFactors 21 = .ok (.iload_n 1, 1) := by decide +kernel
theorem dX0_findFactors_22 : decode cX0_findFactors 22 = .ok (.invokevirtual 90, 3) := by decide +kernel
theorem dX0_findFactors_25 : decode cX0_findFactors 25 = .ok (.iload_n 2, 1) := by decide +kernel
theorem dX0_findFactors_26 : decode cX0_findFactors 26 = .ok (.if_icmp .ne 11, 3) := by decide +kernel
theorem dX0_findFactors_29 : decode cX0_findFactors 29 = .ok (.aload_n 0, 1) := by decide +kernel
theorem dX0_findFactors_30 : decode cX0_findFactors 30 = .ok (.getfield 51, 3) := by decide +kernel
theorem dX0_findFactors_33 : decode cX0_findFactors 33 = .ok (.ineg, 1) := by decide +kernel
theorem dX0_findFactors_34 : decode cX0_findFactors 34 = .ok (.goto 4, 3) := by decide +kernel
theorem dX0_findFactors_37 : decode cX0_findFactors 37 = .ok (.iconst 0, 1) := by decide +kernel
theorem dX0_findFactors_38 : decode cX0_findFactors 38 = .ok (.istore_n 3, 1) := by decide +kernel
theorem dX0_findFactors_39 : decode cX0_findFactors 39 = .ok (.iconst 0, 1) := by decide +kernel
theorem dX0_findFactors_40 : decode cX0_findFactors 40 = .ok (.istore 4, 2) := by decide +kernel
theorem dX0_findFactors_42 : decode cX0_findFactors 42 = .ok (.iload 4, 2) := by decide +kernel
theorem dX0_findFactors_44 : decode cX0_findFactors 44 = .ok (.aload_n 0, 1) := by decide +kernel
theorem dX0_findFactors_45 : decode cX0_findFactors 45 = .ok (.getfield 48, 3) := by decide +kernel
theorem dX0_findFactors_48 : decode cX0_findFactors 48 = .ok (.if_icmp .ge 22, 3) := by decide +kernel
theorem dX0_findFactors_51 : decode cX0_findFactors 51 = .ok (.aload_n 0, 1) := by decide +kernel
theorem dX0_findFactors_52 : decode cX0_findFactors 52 = .ok (.getfield 24, 3) := by decide +kernel
theorem dX0_findFactors_55 : decode cX0_findFactors 55 = .ok (.iload_n 1, 1) := by decide +kernel
theorem dX0_findFactors_56 : decode cX0_findFactors 56 = .ok (.iload_n 2, 1) := by decide +kernel
theorem dX0_findFactors_57 : decode cX0_findFactors 57 = .ok (.iload 4, 2) := by decide +kernel
theorem dX0_findFactors_59 : decode cX0_findFactors 59 = .ok (.invokestatic 93, 3) := by decide +kernel
theorem dX0_findFactors_62 : decode cX0_findFactors 62 = .ok (.iload_n 3, 1) := by decide +kernel
theorem dX0_findFactors_63 : decode cX0_findFactors 63 = .ok (.iastore, 1) := by decide +kernel
theorem dX0_findFactors_64 : decode cX0_findFactors 64 = .ok (.iinc 4 1, 3) := by decide +kernel
theorem dX0_findFactors_67 : decode cX0_findFactors 67 = .ok (.goto (-25), 3) := by decide +kernel
theorem dX0_findFactors_70 : decode cX0_findFactors 70 = .ok (.iinc 2 1, 3) := by decide +kernel
theorem dX0_findFactors_73 : decode cX0_findFactors 73 = .ok (.goto (-61), 3) := by decide +kernel
theorem dX0_findFactors_76 : decode cX0_findFactors 76 = .ok (.iinc 1 1, 3) := by decide +kernel
theorem dX0_findFactors_79 : decode cX0_findFactors 79 = .ok (.goto (-77), 3) := by decide +kernel
theorem dX0_findFactors_82 : decode cX0_findFactors 82 = .ok (.iconst 1, 1) := by decide +kernel
theorem dX0_findFactors_83 : decode cX0_findFactors 83 = .ok (.istore_n 1, 1) := by decide +kernel
theorem dX0_findFactors_84 : decode cX0_findFactors 84 = .ok (.iconst 0, 1) := by decide +kernel
theorem dX0_findFactors_85 : decode cX0_findFactors 85 = .ok (.istore_n 2, 1) := by decide +kernel
theorem dX0_findFactors_86 : decode cX0_findFactors 86 = .ok (.iload_n 2, 1) := by decide +kernel
theorem dX0_findFactors_87 : decode cX0_findFactors 87 = .ok (.aload_n 0, 1) := by decide +kernel
theorem dX0_findFactors_88 : decode cX0_findFactors 88 = .ok (.getfield 48, 3) := by decide +kernel
theorem dX0_findFactors_91 : decode cX0_findFactors 91 = .ok (.if_icmp .ge 27, 3) := by decide +kernel
theorem dX0_findFactors_94 : decode cX0_findFactors 94 = .ok (.aload_n 0, 1) := by decide +kernel
theorem dX0_findFactors_95 : decode cX0_findFactors 95 = .ok (.iload_n 1, 1) := by decide +kernel
theorem dX0_findFactors_96 : decode cX0_findFactors 96 = .ok (.iload_n 2, 1) := by decide +kernel
theorem dX0_findFactors_97 : decode cX0_findFactors 97 = .ok (.invokevirtual 97, 3) := by decide +kernel
theorem dX0_findFactors_100 : decode cX0_findFactors 100 = .ok (.iload_n 1, 1) := by decide +kernel
theorem dX0_findFactors_101 : decode cX0_findFactors 101 = .ok (.aload_n 0, 1) := by decide +kernel
theorem dX0_findFactors_102 : decode cX0_findFactors 102 = .ok (.getfield 67, 3) := by decide +kernel
theorem dX0_findFactors_105 : decode cX0_findFactors 105 = .ok (.imul, 1) := by decide +kernel
theorem dX0_findFactors_106 : decode cX0_findFactors 106 = .ok (.aload_n 0, 1) := by decide +kernel
theorem dX0_findFactors_107 : decode cX0_findFactors 107 = .ok (.getfield 44, 3) := by decide +kernel
theorem dX0_findFactors_110 : decode cX0_findFactors 110 = .ok (.irem, 1) := by decide +kernel
theorem dX0_findFactors_111 : decode cX0_findFactors 111 = .ok (.istore_n 1, 1) := by decide +kernel
theorem dX0_findFactors_112 : decode cX0_findFactors 112 = .ok (.iinc 2 1, 3) := by decide +kernel
theorem dX0_findFactors_115 : decode cX0_findFactors 115 = .ok (.goto (-29), 3) := by decide +kernel
theorem dX0_findFactors_118 : decode cX0_findFactors 118 = .ok (.return_, 1) := by decide +kernel
section
variable {p : Program} {l : Launch} {e : Env} {s : State} {m : MethodId} {args : Array Value} {below : List Frame} {meth : Method} {c : Code} {Q : State → Prop} {G : GG} {A : Nat → Prop} {q : Nat → Nat} {fr : va_W}
def f_X0_findFactors_L86 (zp : Int32) (ze : Int32) (zf : Int32) (zg : Int32) (aW : Nat → Int32) : Nat → (Nat → Int32) → Int32 → Int32 → Option ((Nat → Int32))
  | 0, _, _, _ => none
  | fu + 1, aF, v1, v2 =>
    if ze ≤ v2 then
    some aF
    else
    (f_X0_countMeetings zp ze aW aF v1 v2).bind fun z2 =>
    if zp = 0 then none else
    f_X0_findFactors_L86 zp ze zf zg aW fu z2 ((v1 * zg) - (v1 * zg) / zp * zp) (v2 + 1)
set_option maxHeartbeats 4000000 in
set_option maxRecDepth 100000 in
theorem w_X0_findFactors_L86 {zp : Int32} {ze : Int32} {zf : Int32} {zg : Int32} {zn : Int32} {aG : Nat → Int32} {aW : Nat → Int32} {aR : Nat → Int32} {aN : Nat → Int32} {lC : Nat → Int64} {lS : Nat → Int64} {lP : Nat → Int64} {lX : Nat → Int64}   (F : Fx p s m args meth c cX0_findFactors 5 RX0 none) (hA : ∀ q, s.heap.size ≤ q → A q)   : ∀ (fu : Nat) (aF : Nat → Int32) (v1 : Int32) (v2 : Int32) (z : (Nat → Int32)), f_X0_findFactors_L86 zp ze zf zg aW fu aF v1 v2 = some z → Ends p l e (rmOf 2 46) s m args below meth c Q cX0_findFactors G A none (none) (kW G q zp ze zf zg zn aG aW aR aN z lC lS lP lX ++ fr) → ∀ (H : Heap) (locs : List Loc) (ls : Array Slot), Wd G s A (kW G q zp ze zf zg zn aG aW aR aN aF lC lS lP lX ++ fr) H locs → lv_has ls 5 [(0, .ref (q 0)), (1, .int v1), (2, .int v2)] → W p l e (rmOf 2 46) s m args below meth c H locs 0 0 Q (F0 m 86 ls []) := by
  have hx := F.x
  have hb := F.b
  intro fu
  induction fu with
  | zero =>
    intro aF v1 v2 z h
    cases (h : none = some z)
  | succ fu ih =>
    intro aF v1 v2 z h hE H locs ls hw hl
    rw [f_X0_findFactors_L86] at h
    refine lv_iload_n hx hb dX0_findFactors_86 rfl (lv_at hl 2 rfl) ?_
    refine lv_aload_n hx hb dX0_findFactors_87 rfl (lv_at hl 0 rfl) ?_
    refine gf_0_48 F hw dX0_findFactors_88 ?_
    refine lv_icmp_ge (tgt := 118) hx hb dX0_findFactors_91 (by decide) (fun c1 => ?_) (fun c1 => ?_)
    · replace h := stT c1 h
      obtain rfl := Option.some.inj h
      exact hE H locs _ ls hw dX0_findFactors_118
    · replace h := stF c1 h
      refine lv_aload_n hx hb dX0_findFactors_94 rfl (lv_at hl 0 rfl) ?_
      refine lv_iload_n hx hb dX0_findFactors_95 rfl (lv_at hl 1 rfl) ?_
      refine lv_iload_n hx hb dX0_findFactors_96 rfl (lv_at hl 2 rfl) ?_
      obtain ⟨z2, hz2, h⟩ := stB h
      refine ctV (av := [.int v1, .int v2]) (st0 := ([] : List Value)) (st1 := ([] : List Value)) F hw hA (k_X0_countMeetings hz2) kl_0_97 kd_X0_countMeetings rfl ⟨by decide, by decide⟩ 0 rfl rfl hl.1 rfl (Nat.le_of_ble_eq_true rfl) dX0_findFactors_97 rfl (fun H locs hw => ?_)
      refine lv_iload_n hx hb dX0_findFactors_100 rfl (lv_at hl 1 rfl) ?_
      refine lv_aload_n hx hb dX0_findFactors_101 rfl (lv_at hl 0 rfl) ?_
      refine gf_0_67 F hw dX0_findFactors_102 ?_
      refine lv_imul hx hb dX0_findFactors_105 ?_
      refine lv_aload_n hx hb dX0_findFactors_106 rfl (lv_at hl 0 rfl) ?_
      refine gf_0_44 F hw dX0_findFactors_107 ?_
      obtain ⟨g3, h⟩ := stD h
      refine lv_irem hx hb dX0_findFactors_110 g3 ?_
      refine lv_istore_n (lv' := [(1, .int ((v1 * zg) - (v1 * zg) / zp * zp)), (0, .ref (q 0)), (2, .int v2)]) hx hb dX0_findFactors_111 rfl hl (by decide) rfl (fun ls hl => ?_)
      refine lv_iinc (v := (v2 + 1)) (lv' := [(2, .int (v2 + 1)), (1, .int ((v1 * zg) - (v1 * zg) / zp * zp)), (0, .ref (q 0))]) hx hb dX0_findFactors_112 hl (k := 2) rfl rfl (by decide) rfl (fun ls hl => ?_)
      refine lv_goto (tgt := 86) hx hb dX0_findFactors_115 (by decide) ?_
      exact ih _ _ _ z h hE H locs ls hw (lv_sub hl [2, 1, 0] rfl)
def f_X0_findFactors_L42 (zp : Int32) (ze : Int32) (zf : Int32) (zg : Int32) (aW : Nat → Int32) (KK : (Nat → Int32) → Int32 → Int32 → Option ((Nat → Int32))) : Nat → (Nat → Int32) → Int32 → Int32 → Int32 → Int32 → Option ((Nat → Int32))
  | 0, _, _, _, _, _ => none
  | fu + 1, aF, v1, v2, v3, v4 =>
    if ze ≤ v4 then
    KK aF v1 (v2 + 1)
    else
    (f_X4_factorIndex v1 v2 v4).bind fun z2 =>
    if inb z2 1728 then
    f_X0_findFactors_L42 zp ze zf zg aW KK fu (upd aF z2.toNatClampNeg v3) v1 v2 v3 (v4 + 1)
    else none
set_option maxHeartbeats 4000000 in
set_option maxRecDepth 100000 in
theorem w_X0_findFactors_L42 {zp : Int32} {ze : Int32} {zf : Int32} {zg : Int32} {zn : Int32} {aG : Nat → Int32} {aW : Nat → Int32} {aR : Nat → Int32} {aN : Nat → Int32} {lC : Nat → Int64} {lS : Nat → Int64} {lP : Nat → Int64} {lX : Nat → Int64}  {KK : (Nat → Int32) → Int32 → Int32 → Option ((Nat → Int32))} (F : Fx p s m args meth c cX0_findFactors 5 RX0 none) (hA : ∀ q, s.heap.size ≤ q → A q)  (hK : ∀ (aF : Nat → Int32) (v1 : Int32) (v2 : Int32) (z : (Nat → Int32)), KK aF v1 v2 = some z → Ends p l e (rmOf 2 46) s m args below meth c Q cX0_findFactors G A none (none) (kW G q zp ze zf zg zn aG aW aR aN z lC lS lP lX ++ fr) → ∀ (H : Heap) (locs : List Loc) (ls : Array Slot), Wd G s A (kW G q zp ze zf zg zn aG aW aR aN aF lC lS lP lX ++ fr) H locs → lv_has ls 5 [(0, .ref (q 0)), (1, .int v1), (2, .int v2)] → W p l e (rmOf 2 46) s m args below meth c H locs 0 0 Q (F0 m 12 ls [])) : ∀ (fu : Nat) (aF : Nat → Int32) (v1 : Int32) (v2 : Int32) (v3 : Int32) (v4 : Int32) (z : (Nat → Int32)), f_X0_findFactors_L42 zp ze zf zg aW KK fu aF v1 v2 v3 v4 = some z → Ends p l e (rmOf 2 46) s m args below meth c Q cX0_findFactors G A none (none) (kW G q zp ze zf zg zn aG aW aR aN z lC lS lP lX ++ fr) → ∀ (H : Heap) (locs : List Loc) (ls : Array Slot), Wd G s A (kW G q zp ze zf zg zn aG aW aR aN aF lC lS lP lX ++ fr) H locs → lv_has ls 5 [(0, .ref (q 0)), (1, .int v1), (2, .int v2), (3, .int v3), (4, .int v4)] → W p l e (rmOf 2 46) s m args below meth c H locs 0 0 Q (F0 m 42 ls []) := by
  have hx := F.x
  have hb := F.b
  intro fu
  induction fu with
  | zero =>
    intro aF v1 v2 v3 v4 z h
    cases (h : none = some z)
  | succ fu ih =>
    intro aF v1 v2 v3 v4 z h hE H locs ls hw hl
    rw [f_X0_findFactors_L42] at h
    refine lv_iload hx hb dX0_findFactors_42 (lv_at hl 4 rfl) ?_
    refine lv_aload_n hx hb dX0_findFactors_44 rfl (lv_at hl 0 rfl) ?_
    refine gf_0_48 F hw dX0_findFactors_45 ?_
    refine lv_icmp_ge (tgt := 70) hx hb dX0_findFactors_48 (by decide) (fun c1 => ?_) (fun c1 => ?_)
    · replace h := stT c1 h
      refine lv_iinc (v := (v2 + 1)) (lv' := [(2, .int (v2 + 1)), (0, .ref (q 0)), (1, .int v1), (3, .int v3), (4, .int v4)]) hx hb dX0_findFactors_70 hl (k := 2) rfl rfl (by decide) rfl (fun ls hl => ?_)
      refine lv_goto (tgt := 12) hx hb dX0_findFactors_73 (by decide) ?_
      exact hK _ _ _ z h hE H locs ls hw (lv_sub hl [1, 2, 0] rfl)
    · replace h := stF c1 h
      refine lv_aload_n hx hb dX0_findFactors_51 rfl (lv_at hl 0 rfl) ?_
      refine gf_0_24 F hw dX0_findFactors_52 ?_
      refine lv_iload_n hx hb dX0_findFactors_55 rfl (lv_at hl 1 rfl) ?_
      refine lv_iload_n hx hb dX0_findFactors_56 rfl (lv_at hl 2 rfl) ?_
      refine lv_iload hx hb dX0_findFactors_57 (lv_at hl 4 rfl) ?_
      obtain ⟨z2, hz2, h⟩ := stB h
      refine ctSN (av := [.int v1, .int v2, .int v4]) (st0 := ([.ref (q 5)] : List Value)) (st1 := ([.int z2, .ref (q 5)] : List Value)) (host := RX4) F hw hA (k_X4_factorIndex hz2) (by decide +kernel) kn_X4_factorIndex ki_4 ks_X4_factorIndex kd_X4_factorIndex rfl ⟨by decide, by decide⟩ hl.1 rfl (Nat.le_of_ble_eq_true rfl) dX0_findFactors_59 rfl (fun H locs hw => ?_)
      refine lv_iload_n hx hb dX0_findFactors_62 rfl (lv_at hl 3 rfl) ?_
      obtain ⟨g3, h⟩ := stG h
      refine as_c5 F hw g3 dX0_findFactors_63 (fun H locs hw => ?_)
      refine lv_iinc (v := (v4 + 1)) (lv' := [(4, .int (v4 + 1)), (0, .ref (q 0)), (1, .int v1), (2, .int v2), (3, .int v3)]) hx hb dX0_findFactors_64 hl (k := 4) rfl rfl (by decide) rfl (fun ls hl => ?_)
      refine lv_goto (tgt := 42) hx hb dX0_findFactors_67 (by decide) ?_
      exact ih _ _ _ _ _ z h hE H locs ls hw (lv_sub hl [1, 2, 3, 4, 0] rfl)
def f_X0_findFactors_L12 (zp : Int32) (ze : Int32) (zf : Int32) (zg : Int32) (aW : Nat → Int32) (KK : (Nat → Int32) → Int32 → Option ((Nat → Int32))) : Nat → (Nat → Int32) → Int32 → Int32 → Option ((Nat → Int32))
  | 0, _, _, _ => none
  | fu + 1, aF, v1, v2 =>
    if ze ≤ v2 then
    KK aF (v1 + 1)
    else
    (f_X0_oppositeOf zp ze v1).bind fun z2 =>
    if z2 = v2 then
    f_X0_findFactors_L42 zp ze zf zg aW (fun w0 w1 w2 => f_X0_findFactors_L12 zp ze zf zg aW KK fu w0 w1 w2) FU aF v1 v2 (-zf) 0
    else
    f_X0_findFactors_L42 zp ze zf zg aW (fun w0 w1 w2 => f_X0_findFactors_L12 zp ze zf zg aW KK fu w0 w1 w2) FU aF v1 v2 0 0
set_option maxHeartbeats 4000000 in
set_option maxRecDepth 100000 in
theorem w_X0_findFactors_L12 {zp : Int32} {ze : Int32} {zf : Int32} {zg : Int32} {zn : Int32} {aG : Nat → Int32} {aW : Nat → Int32} {aR : Nat → Int32} {aN : Nat → Int32} {lC : Nat → Int64} {lS : Nat → Int64} {lP : Nat → Int64} {lX : Nat → Int64}  {KK : (Nat → Int32) → Int32 → Option ((Nat → Int32))} (F : Fx p s m args meth c cX0_findFactors 5 RX0 none) (hA : ∀ q, s.heap.size ≤ q → A q)  (hK : ∀ (aF : Nat → Int32) (v1 : Int32) (z : (Nat → Int32)), KK aF v1 = some z → Ends p l e (rmOf 2 46) s m args below meth c Q cX0_findFactors G A none (none) (kW G q zp ze zf zg zn aG aW aR aN z lC lS lP lX ++ fr) → ∀ (H : Heap) (locs : List Loc) (ls : Array Slot), Wd G s A (kW G q zp ze zf zg zn aG aW aR aN aF lC lS lP lX ++ fr) H locs → lv_has ls 5 [(0, .ref (q 0)), (1, .int v1)] → W p l e (rmOf 2 46) s m args below meth c H locs 0 0 Q (F0 m 2 ls [])) : ∀ (fu : Nat) (aF : Nat → Int32) (v1 : Int32) (v2 : Int32) (z : (Nat → Int32)), f_X0_findFactors_L12 zp ze zf zg aW KK fu aF v1 v2 = some z → Ends p l e (rmOf 2 46) s m args below meth c Q cX0_findFactors G A none (none) (kW G q zp ze zf zg zn aG aW aR aN z lC lS lP lX ++ fr) → ∀ (H : Heap) (locs : List Loc) (ls : Array Slot), Wd G s A (kW G q zp ze zf zg zn aG aW aR aN aF lC lS lP lX ++ fr) H locs → lv_has ls 5 [(0, .ref (q 0)), (1, .int v1), (2, .int v2)] → W p l e (rmOf 2 46) s m args below meth c H locs 0 0 Q (F0 m 12 ls []) := by
  have hx := F.x
  have hb := F.b
  intro fu
  induction fu with
  | zero =>
    intro aF v1 v2 z h
    cases (h : none = some z)
  | succ fu ih =>
    intro aF v1 v2 z h hE H locs ls hw hl
    rw [f_X0_findFactors_L12] at h
    refine lv_iload_n hx hb dX0_findFactors_12 rfl (lv_at hl 2 rfl) ?_
    refine lv_aload_n hx hb dX0_findFactors_13 rfl (lv_at hl 0 rfl) ?_
    refine gf_0_48 F hw dX0_findFactors_14 ?_
    refine lv_icmp_ge (tgt := 76) hx hb dX0_findFactors_17 (by decide) (fun c1 => ?_) (fun c1 => ?_)
    · replace h := stT c1 h
      refine lv_iinc (v := (v1 + 1)) (lv' := [(1, .int (v1 + 1)), (0, .ref (q 0)), (2, .int v2)]) hx hb dX0_findFactors_76 hl (k := 1) rfl rfl (by decide) rfl (fun ls hl => ?_)
      refine lv_goto (tgt := 2) hx hb dX0_findFactors_79 (by decide) ?_
      exact hK _ _ z h hE H locs ls hw (lv_sub hl [1, 0] rfl)
    · replace h := stF c1 h
      refine lv_aload_n hx hb dX0_findFactors_20 rfl (lv_at hl 0 rfl) ?_
      refine lv_iload_n hx hb dX0_findFactors_21 rfl (lv_at hl 1 rfl) ?_
      obtain ⟨z2, hz2, h⟩ := stB h
      refine ctV (av := [.int v1]) (st0 := ([] : List Value)) (st1 := ([.int z2] : List Value)) F hw hA (k_X0_oppositeOf hz2) kl_0_90 kd_X0_oppositeOf rfl ⟨by decide, by decide⟩ 0 rfl rfl hl.1 rfl (Nat.le_of_ble_eq_true rfl) dX0_findFactors_22 rfl (fun H locs hw => ?_)
      refine lv_iload_n hx hb dX0_findFactors_25 rfl (lv_at hl 2 rfl) ?_
      refine lv_icmp_ne (tgt := 37) hx hb dX0_findFactors_26 (by decide) (fun c3 => ?_) (fun c3 => ?_)
      · replace h := stF c3 h
        refine lv_iconst (v := 0) hx hb dX0_findFactors_37 (by decide) ?_
        refine lv_istore_n (lv' := [(3, .int 0), (0, .ref (q 0)), (1, .int v1), (2, .int v2)]) hx hb dX0_findFactors_38 rfl hl (by decide) rfl (fun ls hl => ?_)
        refine lv_iconst (v := 0) hx hb dX0_findFactors_39 (by decide) ?_
        refine lv_istore (lv' := [(4, .int 0), (3, .int 0), (0, .ref (q 0)), (1, .int v1), (2, .int v2)]) hx hb dX0_findFactors_40 hl (by decide) rfl (fun ls hl => ?_)
        exact w_X0_findFactors_L42 F hA  (fun w0 w1 w2 z h hE H locs ls hw hl => ih w0 w1 w2 z h hE H locs ls hw hl) FU _ _ _ _ _ z h hE H locs ls hw (lv_sub hl [2, 3, 4, 1, 0] rfl)
      · replace h := stT c3 h
        refine lv_aload_n hx hb dX0_findFactors_29 rfl (lv_at hl 0 rfl) ?_
        refine gf_0_51 F hw dX0_findFactors_30 ?_
        refine lv_ineg hx hb dX0_findFactors_33 ?_
        refine lv_goto (tgt := 38) hx hb dX0_findFactors_34 (by decide) ?_
        refine lv_istore_n (lv' := [(3, .int (-zf)), (0, .ref (q 0)), (1, .int v1), (2, .int v2)]) hx hb dX0_findFactors_38 rfl hl (by decide) rfl (fun ls hl => ?_)
        refine lv_iconst (v := 0) hx hb dX0_findFactors_39 (by decide) ?_
        refine lv_istore (lv' := [(4, .int 0), (3, .int (-zf)), (0, .ref (q 0)), (1, .int v1), (2, .int v2)]) hx hb dX0_findFactors_40 hl (by decide) rfl (fun ls hl => ?_)
        exact w_X0_findFactors_L42 F hA  (fun w0 w1 w2 z h hE H locs ls hw hl => ih w0 w1 w2 z h hE H locs ls hw hl) FU _ _ _ _ _ z h hE H locs ls hw (lv_sub hl [2, 3, 4, 1, 0] rfl)
def f_X0_findFactors_L2 (zp : Int32) (ze : Int32) (zf : Int32) (zg : Int32) (aW : Nat → Int32) : Nat → (Nat → Int32) → Int32 → Option ((Nat → Int32))
  | 0, _, _ => none
  | fu + 1, aF, v1 =>
    if ze ≤ v1 then
    f_X0_findFactors_L86 zp ze zf zg aW FU aF 1 0
    else
    f_X0_findFactors_L12 zp ze zf zg aW (fun w0 w1 => f_X0_findFactors_L2 zp ze zf zg aW fu w0 w1) FU aF v1 0
set_option maxHeartbeats 4000000 in
set_option maxRecDepth 100000 in
theorem w_X0_findFactors_L2 {zp : Int32} {ze : Int32} {zf : Int32} {zg : Int32} {zn : Int32} {aG : Nat → Int32} {aW : Nat → Int32} {aR : Nat → Int32} {aN : Nat → Int32} {lC : Nat → Int64} {lS : Nat → Int64} {lP : Nat → Int64} {lX : Nat → Int64}   (F : Fx p s m args meth c cX0_findFactors 5 RX0 none) (hA : ∀ q, s.heap.size ≤ q → A q)   : ∀ (fu : Nat) (aF : Nat → Int32) (v1 : Int32) (z : (Nat → Int32)), f_X0_findFactors_L2 zp ze zf zg aW fu aF v1 = some z → Ends p l e (rmOf 2 46) s m args below meth c Q cX0_findFactors G A none (none) (kW G q zp ze zf zg zn aG aW aR aN z lC lS lP lX ++ fr) → ∀ (H : Heap) (locs : List Loc) (ls : Array Slot), Wd G s A (kW G q zp ze zf zg zn aG aW aR aN aF lC lS lP lX ++ fr) H locs → lv_has ls 5 [(0, .ref (q 0)), (1, .int v1)] → W p l e (rmOf 2 46) s m args below meth c H locs 0 0 Q (F0 m 2 ls []) := by
  have hx := F.x
  have hb := F.b
  intro fu
  induction fu with
  | zero =>
    intro aF v1 z h
    cases (h : none = some z)
  | succ fu ih =>
    intro aF v1 z h hE H locs ls hw hl
    rw [f_X0_findFactors_L2] at h
    refine lv_iload_n hx hb dX0_findFactors_2 rfl (lv_at hl 1 rfl) ?_
    refine lv_aload_n hx hb dX0_findFactors_3 rfl (lv_at hl 0 rfl) ?_
    refine gf_0_48 F hw dX0_findFactors_4 ?_
    refine lv_icmp_ge (tgt := 82) hx hb dX0_findFactors_7 (by decide) (fun c1 => ?_) (fun c1 => ?_)
    · replace h := stT c1 h
      refine lv_iconst (v := 1) hx hb dX0_findFactors_82 (by decide) ?_
      refine lv_istore_n (lv' := [(1, .int 1), (0, .ref (q 0))]) hx hb dX0_findFactors_83 rfl hl (by decide) rfl (fun ls hl => ?_)
      refine lv_iconst (v := 0) hx hb dX0_findFactors_84 (by decide) ?_
      refine lv_istore_n (lv' := [(2, .int 0), (1, .int 1), (0, .ref (q 0))]) hx hb dX0_findFactors_85 rfl hl (by decide) rfl (fun ls hl => ?_)
      exact w_X0_findFactors_L86 F hA  FU _ _ _ z h hE H locs ls hw (lv_sub hl [2, 1, 0] rfl)
    · replace h := stF c1 h
      refine lv_iconst (v := 0) hx hb dX0_findFactors_10 (by decide) ?_
      refine lv_istore_n (lv' := [(2, .int 0), (0, .ref (q 0)), (1, .int v1)]) hx hb dX0_findFactors_11 rfl hl (by decide) rfl (fun ls hl => ?_)
      exact w_X0_findFactors_L12 F hA  (fun w0 w1 z h hE H locs ls hw hl => ih w0 w1 z h hE H locs ls hw hl) FU _ _ _ z h hE H locs ls hw (lv_sub hl [1, 2, 0] rfl)
def f_X0_findFactors (zp : Int32) (ze : Int32) (zf : Int32) (zg : Int32) (aW : Nat → Int32) (aF : Nat → Int32) : Option ((Nat → Int32)) :=
  f_X0_findFactors_L2 zp ze zf zg aW FU aF 0
set_option maxHeartbeats 4000000 in
set_option maxRecDepth 100000 in
theorem k_X0_findFactors {l : Launch} {G : GG} {q : Nat → Nat} {fr : va_W} {zp : Int32} {ze : Int32} {zf : Int32} {zg : Int32} {zn : Int32} {aG : Nat → Int32} {aW : Nat → Int32} {aR : Nat → Int32} {aN : Nat → Int32} {aF : Nat → Int32} {lC : Nat → Int64} {lS : Nat → Int64} {lP : Nat → Int64} {lX : Nat → Int64}  {z : (Nat → Int32)}  (h : f_X0_findFactors zp ze zf zg aW aF = some z) : Ct l G yX0_findFactors cX0_findFactors 5 none 2 46 [.ref (q 0)] (kW G q zp ze zf zg zn aG aW aR aN aF lC lS lP lX ++ fr) (none) (kW G q zp ze zf zg zn aG aW aR aN z lC lS lP lX ++ fr) := by
  refine Ct.of (by decide) (Nat.le_of_ble_eq_true rfl) trivial ?_
  intro p e s m args below meth c Q A ls F hw hA hE hl
  have hx := F.x
  have hb := F.b
  unfold f_X0_findFactors at h
  obtain ⟨H, hH⟩ : ∃ H, H = s.heap := ⟨_, rfl⟩
  obtain ⟨locs, hlo⟩ : ∃ locs : List Loc, locs = [] := ⟨_, rfl⟩
  rw [← hH, ← hlo] at hw ⊢
  have hl : lv_has ls 5 [(0, .ref (q 0))] := hl
  refine lv_iconst (v := 0) hx hb dX0_findFactors_0 (by decide) ?_
  refine lv_istore_n (lv' := [(1, .int 0), (0, .ref (q 0))]) hx hb dX0_findFactors_1 rfl hl (by decide) rfl (fun ls hl => ?_)
  exact w_X0_findFactors_L2 F hA  FU _ _ z h hE H locs ls hw (lv_sub hl [1, 0] rfl)
end
theorem dX0_takeGenerator_0 : decode cX0_takeGenerator 0 = .ok (.aload_n 0, 1) := by decide +kernel
theorem dX0_takeGenerator_1 : decode cX0_takeGenerator 1 = .ok (.iload_n 1, 1) := by decide +kernel
theorem dX0_takeGenerator_2 : decode cX0_takeGenerator 2 = .ok (.putfield 67, 3) := by decide +kernel
theorem dX0_takeGenerator_5 : decode cX0_takeGenerator 5 = .ok (.aload_n 0, 1) := by decide +kernel
theorem dX0_takeGenerator_6 : decode cX0_takeGenerator 6 = .ok (.invokevirtual 70, 3) := by decide +kernel
theorem dX0_takeGenerator_9 : decode cX0_takeGenerator 9 = .ok (.aload_n 0, 1) := by decide +kernel
theorem dX0_takeGenerator_10 : decode cX0_takeGenerator 10 = .ok (.invokevirtual 73, 3) := by decide +kernel
theorem dX0_takeGenerator_13 : decode cX0_takeGenerator 13 = .ok (.aload_n 0, 1) := by decide +kernel
theorem dX0_takeGenerator_14 : decode cX0_takeGenerator 14 = .ok (.invokevirtual 76, 3) := by decide +kernel
theorem dX0_takeGenerator_17 : decode cX0_takeGenerator 17 = .ok (.return_, 1) := by decide +kernel
section
variable {p : Program} {l : Launch} {e : Env} {s : State} {m : MethodId} {args : Array Value} {below : List Frame} {meth : Method} {c : Code} {Q : State → Prop} {G : GG} {A : Nat → Prop} {q : Nat → Nat} {fr : va_W}
def f_X0_takeGenerator (zp : Int32) (ze : Int32) (zf : Int32) (zg : Int32) (aW : Nat → Int32) (aN : Nat → Int32) (aF : Nat → Int32) (v1 : Int32) : Option (Int32 × (Nat → Int32) × (Nat → Int32) × (Nat → Int32)) :=
  (f_X0_findPowers zp v1 aW).bind fun z1 =>
  (f_X0_findNeighbours zp ze z1 aN).bind fun z2 =>
  (f_X0_findFactors zp ze zf v1 z1 aF).bind fun z3 =>
  some (v1, z1, z2, z3)
set_option maxHeartbeats 4000000 in
set_option maxRecDepth 100000 in
theorem k_X0_takeGenerator {l : Launch} {G : GG} {q : Nat → Nat} {fr : va_W} {zp : Int32} {ze : Int32} {zf : Int32} {zg : Int32} {zn : Int32} {aG : Nat → Int32} {aW : Nat → Int32} {aR : Nat → Int32} {aN : Nat → Int32} {aF : Nat → Int32} {lC : Nat → Int64} {lS : Nat → Int64} {lP : Nat → Int64} {lX : Nat → Int64} {v1 : Int32} {z : Int32 × (Nat → Int32) × (Nat → Int32) × (Nat → Int32)}  (h : f_X0_takeGenerator zp ze zf zg aW aN aF v1 = some z) : Ct l G yX0_takeGenerator cX0_takeGenerator 2 none 3 70 [.ref (q 0), .int v1] (kW G q zp ze zf zg zn aG aW aR aN aF lC lS lP lX ++ fr) (none) (kW G q zp ze zf z.1 zn aG z.2.1 aR z.2.2.1 z.2.2.2 lC lS lP lX ++ fr) := by
  refine Ct.of (by decide) (Nat.le_of_ble_eq_true rfl) trivial ?_
  intro p e s m args below meth c Q A ls F hw hA hE hl
  have hx := F.x
  have hb := F.b
  unfold f_X0_takeGenerator at h
  obtain ⟨H, hH⟩ : ∃ H, H = s.heap := ⟨_, rfl⟩
  obtain ⟨locs, hlo⟩ : ∃ locs : List Loc, locs = [] := ⟨_, rfl⟩
  rw [← hH, ← hlo] at hw ⊢
  have hl : lv_has ls 2 [(0, .ref (q 0)), (1, .int v1)] := hl
  refine lv_aload_n hx hb dX0_takeGenerator_0 rfl (lv_at hl 0 rfl) ?_
  refine lv_iload_n hx hb dX0_takeGenerator_1 rfl (lv_at hl 1 rfl) ?_
  refine pf_0_67 F hw dX0_takeGenerator_2 (fun H locs hw => ?_)
  refine lv_aload_n hx hb dX0_takeGenerator_5 rfl (lv_at hl 0 rfl) ?_
  obtain ⟨z1, hz1, h⟩ := stB h
  refine ctV (av := []) (st0 := ([] : List Value)) (st1 := ([] : List Value)) F hw hA (k_X0_findPowers hz1) kl_0_70 kd_X0_findPowers rfl ⟨by decide, by decide⟩ 0 rfl rfl hl.1 rfl (Nat.le_of_ble_eq_true rfl) dX0_takeGenerator_6 rfl (fun H locs hw => ?_)
  refine lv_aload_n hx hb dX0_takeGenerator_9 rfl (lv_at hl 0 rfl) ?_
  obtain ⟨z2, hz2, h⟩ := stB h
  refine ctV (av := []) (st0 := ([] : List Value)) (st1 := ([] : List Value)) F hw hA (k_X0_findNeighbours hz2) kl_0_73 kd_X0_findNeighbours rfl ⟨by decide, by decide⟩ 0 rfl rfl hl.1 rfl (Nat.le_of_ble_eq_true rfl) dX0_takeGenerator_10 rfl (fun H locs hw => ?_)
  refine lv_aload_n hx hb dX0_takeGenerator_13 rfl (lv_at hl 0 rfl) ?_
  obtain ⟨z3, hz3, h⟩ := stB h
  refine ctV (av := []) (st0 := ([] : List Value)) (st1 := ([] : List Value)) F hw hA (k_X0_findFactors hz3) kl_0_76 kd_X0_findFactors rfl ⟨by decide, by decide⟩ 0 rfl rfl hl.1 rfl (Nat.le_of_ble_eq_true rfl) dX0_takeGenerator_14 rfl (fun H locs hw => ?_)
  obtain rfl := Option.some.inj h
  exact hE H locs _ ls hw dX0_takeGenerator_17
end
end
section
/-! printed by wip/whole/mk.py: the functions that mirror the bytecode, and the contracts over them -/
theorem dX5_in_0 : decode cX5_in 0 = .ok (.lload_n 0, 1) := by decide +kernel
theorem dX5_in_1 : decode cX5_in 1 = .ok (.lload_n 2, 1) := by decide +kernel
theorem dX5_in_2 : decode cX5_in 2 = .ok (.lcmp, 1) := by decide +kernel
theorem dX5_in_3 : decode cX5_in 3 = .ok (.ifCond .lt 14, 3) := by decide +kernel
theorem dX5_in_6 : decode cX5_in 6 = .ok (.lload_n 0, 1) := by decide +kernel
theorem dX5_in_7 : decode cX5_in 7 = .ok (.lload 4, 2) := by decide +kernel
theorem dX5_in_9 : decode cX5_in 9 = .ok (.lcmp, 1) := by decide +kernel
theorem dX5_in_10 : decode cX5_in 10 = .ok (.ifCond .gt 7, 3) := by decide +kernel
theorem dX5_in_13 : decode cX5_in 13 = .ok (.iconst 1, 1) := by decide +kernel
theorem dX5_in_14 : decode cX5_in 14 = .ok (.goto 4, 3) := by decide +kernel
theorem dX5_in_17 : decode cX5_in 17 = .ok (.iconst 0, 1) := by decide +kernel
theorem dX5_in_18 : decode cX5_in 18 = .ok (.ireturn, 1) := by decide +kernel
section
variable {p : Program} {l : Launch} {e : Env} {s : State} {m : MethodId} {args : Array Value} {below : List Frame} {meth : Method} {c : Code} {Q : State → Prop} {G : GG} {A : Nat → Prop} {q : Nat → Nat} {fr : va_W}
def f_X5_in (v0 : Int64) (v2 : Int64) (v4 : Int64) : Option (Int32) :=
  if (lg_cmp v0 v2) < 0 then
  some 0
  else
  if 0 < (lg_cmp v0 v4) then
  some 0
  else
  some 1
set_option maxHeartbeats 4000000 in
set_option maxRecDepth 100000 in
theorem k_X5_in {l : Launch} {G : GG} {fr : va_W}  {v0 : Int64} {v2 : Int64} {v4 : Int64} {z : Int32}  (h : f_X5_in v0 v2 v4 = some z) : Ct l G yX5_in cX5_in 6 (some .boolean) 0 0 [.long v0, .long v2, .long v4] fr (some (.int z)) fr := by
  refine Ct.of (by decide) (Nat.le_of_ble_eq_true rfl) trivial ?_
  intro p e s m args below meth c Q A ls F hw hA hE hl
  have hx := F.x
  have hb := F.b
  unfold f_X5_in at h
  obtain ⟨H, hH⟩ : ∃ H, H = s.heap := ⟨_, rfl⟩
  obtain ⟨locs, hlo⟩ : ∃ locs : List Loc, locs = [] := ⟨_, rfl⟩
  rw [← hH, ← hlo] at hw ⊢
  have hl : lv_has ls 6 [(0, .long v0), (2, .long v2), (4, .long v4)] := hl
  refine lv_lload_n hx hb dX5_in_0 rfl (lv_at hl 0 rfl) ?_
  refine lv_lload_n hx hb dX5_in_1 rfl (lv_at hl 1 rfl) ?_
  refine W.lcmp hx hb dX5_in_2 ?_
  refine lv_if_lt (tgt := 17) hx hb dX5_in_3 (by decide) (fun c1 => ?_) (fun c1 => ?_)
  · replace h := stT c1 h
    refine lv_iconst (v := 0) hx hb dX5_in_17 (by decide) ?_
    obtain rfl := Option.some.inj h
    exact hE H locs _ ls hw (by decide) dX5_in_18
  · replace h := stF c1 h
    refine lv_lload_n hx hb dX5_in_6 rfl (lv_at hl 0 rfl) ?_
    refine lv_lload hx hb dX5_in_7 (lv_at hl 2 rfl) ?_
    refine W.lcmp hx hb dX5_in_9 ?_
    refine lv_if_gt (tgt := 17) hx hb dX5_in_10 (by decide) (fun c2 => ?_) (fun c2 => ?_)
    · replace h := stT c2 h
      refine lv_iconst (v := 0) hx hb dX5_in_17 (by decide) ?_
      obtain rfl := Option.some.inj h
      exact hE H locs _ ls hw (by decide) dX5_in_18
    · replace h := stF c2 h
      refine lv_iconst (v := 1) hx hb dX5_in_13 (by decide) ?_
      refine lv_goto (tgt := 18) hx hb dX5_in_14 (by decide) ?_
      obtain rfl := Option.some.inj h
      exact hE H locs _ ls hw (by decide) dX5_in_18
end
theorem dX5_bit_0 : decode cX5_bit 0 = .ok (.iload_n 0, 1) := by decide +kernel
theorem dX5_bit_1 : decode cX5_bit 1 = .ok (.ifCond .eq 7, 3) := by decide +kernel
theorem dX5_bit_4 : decode cX5_bit 4 = .ok (.iconst 1, 1) := by decide +kernel
theorem dX5_bit_5 : decode cX5_bit 5 = .ok (.goto 4, 3) := by decide +kernel
theorem dX5_bit_8 : decode cX5_bit 8 = .ok (.iconst 0, 1) := by decide +kernel
theorem dX5_bit_9 : decode cX5_bit 9 = .ok (.ireturn, 1) := by decide +kernel
section
variable {p : Program} {l : Launch} {e : Env} {s : State} {m : MethodId} {args : Array Value} {below : List Frame} {meth : Method} {c : Code} {Q : State → Prop} {G : GG} {A : Nat → Prop} {q : Nat → Nat} {fr : va_W}
def f_X5_bit (v0 : Int32) : Option (Int32) :=
  if v0 = 0 then
  some 0
  else
  some 1
set_option maxHeartbeats 4000000 in
set_option maxRecDepth 100000 in
theorem k_X5_bit {l : Launch} {G : GG} {fr : va_W}  {v0 : Int32} {z : Int32}  (h : f_X5_bit v0 = some z) : Ct l G yX5_bit cX5_bit 1 (some .int) 0 0 [.int v0] fr (some (.int z)) fr := by
  refine Ct.of (by decide) (Nat.le_of_ble_eq_true rfl) trivial ?_
  intro p e s m args below meth c Q A ls F hw hA hE hl
  have hx := F.x
  have hb := F.b
  unfold f_X5_bit at h
  obtain ⟨H, hH⟩ : ∃ H, H = s.heap := ⟨_, rfl⟩
  obtain ⟨locs, hlo⟩ : ∃ locs : List Loc, locs = [] := ⟨_, rfl⟩
  rw [← hH, ← hlo] at hw ⊢
  have hl : lv_has ls 1 [(0, .int v0)] := hl
  refine lv_iload_n hx hb dX5_bit_0 rfl (lv_at hl 0 rfl) ?_
  refine lv_if_eq (tgt := 8) hx hb dX5_bit_1 (by decide) (fun c1 => ?_) (fun c1 => ?_)
  · replace h := stT c1 h
    refine lv_iconst (v := 0) hx hb dX5_bit_8 (by decide) ?_
    obtain rfl := Option.some.inj h
    exact hE H locs _ ls hw dX5_bit_9
  · replace h := stF c1 h
    refine lv_iconst (v := 1) hx hb dX5_bit_4 (by decide) ?_
    refine lv_goto (tgt := 9) hx hb dX5_bit_5 (by decide) ?_
    obtain rfl := Option.some.inj h
    exact hE H locs _ ls hw dX5_bit_9
end
theorem dX5_isPrime_0 : decode cX5_isPrime 0 = .ok (.iconst 2, 1) := by decide +kernel
theorem dX5_isPrime_1 : decode cX5_isPrime 1 = .ok (.istore_n 1, 1) := by decide +kernel
theorem dX5_isPrime_2 : decode cX5_isPrime 2 = .ok (.iload_n 1, 1) := by decide +kernel
theorem dX5_isPrime_3 : decode cX5_isPrime 3 = .ok (.iload_n 1, 1) := by decide +kernel
theorem dX5_isPrime_4 : decode cX5_isPrime 4 = .ok (.imul, 1) := by decide +kernel
theorem dX5_isPrime_5 : decode cX5_isPrime 5 = .ok (.iload_n 0, 1) := by decide +kernel
theorem dX5_isPrime_6 : decode cX5_isPrime 6 = .ok (.if_icmp .gt 17, 3) := by decide +kernel
theorem dX5_isPrime_9 : decode cX5_isPrime 9 = .ok (.iload_n 0, 1) := by decide +kernel
theorem dX5_isPrime_10 : decode cX5_isPrime 10 = .ok (.iload_n 1, 1) := by decide +kernel
theorem dX5_isPrime_11 : decode cX5_isPrime 11 = .ok (.irem, 1) := by decide +kernel
theorem dX5_isPrime_12 : decode cX5_isPrime 12 = .ok (.ifCond .ne 5, 3) := by decide +kernel
theorem dX5_isPrime_15 : decode cX5_isPrime 15 = .ok (.iconst 0, 1) := by decide +kernel
theorem dX5_isPrime_16 : decode cX5_isPrime 16 = .ok (.ireturn, 1) := by decide +kernel
theorem dX5_isPrime_17 : decode cX5_isPrime 17 = .ok (.iinc 1 1, 3) := by decide +kernel
theorem dX5_isPrime_20 : decode cX5_isPrime 20 = .ok (.goto (-18), 3) := by decide +kernel
theorem dX5_isPrime_23 : decode cX5_isPrime 23 = .ok (.iload_n 0, 1) := by decide +kernel
theorem dX5_isPrime_24 : decode cX5_isPrime 24 = .ok (.iconst 2, 1) := by decide +kernel
theorem dX5_isPrime_25 : decode cX5_isPrime 25 = .ok (.if_icmp .le 7, 3) := by decide +kernel
theorem dX5_isPrime_28 : decode cX5_isPrime 28 = .ok (.iconst 1, 1) := by decide +kernel
theorem dX5_isPrime_29 : decode cX5_isPrime 29 = .ok (.goto 4, 3) := by decide +kernel
theorem dX5_isPrime_32 : decode cX5_isPrime 32 = .ok (.iconst 0, 1) := by decide +kernel
theorem dX5_isPrime_33 : decode cX5_isPrime 33 = .ok (.ireturn, 1) := by decide +kernel
section
variable {p : Program} {l : Launch} {e : Env} {s : State} {m : MethodId} {args : Array Value} {below : List Frame} {meth : Method} {c : Code} {Q : State → Prop} {G : GG} {A : Nat → Prop} {q : Nat → Nat} {fr : va_W}
def f_X5_isPrime_L2 (v0 : Int32) : Nat → Int32 → Option (Int32)
  | 0, _ => none
  | fu + 1, v1 =>
    if v0 < (v1 * v1) then
    if v0 ≤ 2 then
    some 0
    else
    some 1
    else
    if v1 = 0 then none else
    if (v0 - v0 / v1 * v1) = 0 then
    some 0
    else
    f_X5_isPrime_L2 v0 fu (v1 + 1)
set_option maxHeartbeats 4000000 in
set_option maxRecDepth 100000 in
theorem w_X5_isPrime_L2  {v0 : Int32}  (F : Fx p s m args meth c cX5_isPrime 2 RX5 (some .boolean)) (hA : ∀ q, s.heap.size ≤ q → A q)   : ∀ (fu : Nat) (v1 : Int32) (z : Int32), f_X5_isPrime_L2 v0 fu v1 = some z → Ends p l e (rmOf 0 0) s m args below meth c Q cX5_isPrime G A (some .boolean) (some (.int z)) fr → ∀ (H : Heap) (locs : List Loc) (ls : Array Slot), Wd G s A fr H locs → lv_has ls 2 [(0, .int v0), (1, .int v1)] → W p l e (rmOf 0 0) s m args below meth c H locs 0 0 Q (F0 m 2 ls []) := by
  have hx := F.x
  have hb := F.b
  intro fu
  induction fu with
  | zero =>
    intro v1 z h
    cases (h : none = some z)
  | succ fu ih =>
    intro v1 z h hE H locs ls hw hl
    rw [f_X5_isPrime_L2] at h
    refine lv_iload_n hx hb dX5_isPrime_2 rfl (lv_at hl 1 rfl) ?_
    refine lv_iload_n hx hb dX5_isPrime_3 rfl (lv_at hl 1 rfl) ?_
    refine lv_imul hx hb dX5_isPrime_4 ?_
    refine lv_iload_n hx hb dX5_isPrime_5 rfl (lv_at hl 0 rfl) ?_
    refine lv_icmp_gt (tgt := 23) hx hb dX5_isPrime_6 (by decide) (fun c1 => ?_) (fun c1 => ?_)
    · replace h := stT c1 h
      refine lv_iload_n hx hb dX5_isPrime_23 rfl (lv_at hl 0 rfl) ?_
      refine lv_iconst (v := 2) hx hb dX5_isPrime_24 (by decide) ?_
      refine lv_icmp_le (tgt := 32) hx hb dX5_isPrime_25 (by decide) (fun c2 => ?_) (fun c2 => ?_)
      · replace h := stT c2 h
        refine lv_iconst (v := 0) hx hb dX5_isPrime_32 (by decide) ?_
        obtain rfl := Option.some.inj h
        exact hE H locs _ ls hw (by decide) dX5_isPrime_33
      · replace h := stF c2 h
        refine lv_iconst (v := 1) hx hb dX5_isPrime_28 (by decide) ?_
        refine lv_goto (tgt := 33) hx hb dX5_isPrime_29 (by decide) ?_
        obtain rfl := Option.some.inj h
        exact hE H locs _ ls hw (by decide) dX5_isPrime_33
    · replace h := stF c1 h
      refine lv_iload_n hx hb dX5_isPrime_9 rfl (lv_at hl 0 rfl) ?_
      refine lv_iload_n hx hb dX5_isPrime_10 rfl (lv_at hl 1 rfl) ?_
      obtain ⟨g3, h⟩ := stD h
      refine lv_irem hx hb dX5_isPrime_11 g3 ?_
      refine lv_if_ne (tgt := 17) hx hb dX5_isPrime_12 (by decide) (fun c4 => ?_) (fun c4 => ?_)
      · replace h := stF c4 h
        refine lv_iinc (v := (v1 + 1)) (lv' := [(1, .int (v1 + 1)), (0, .int v0)]) hx hb dX5_isPrime_17 hl (k := 1) rfl rfl (by decide) rfl (fun ls hl => ?_)
        refine lv_goto (tgt := 2) hx hb dX5_isPrime_20 (by decide) ?_
        exact ih _ z h hE H locs ls hw (lv_sub hl [1, 0] rfl)
      · replace h := stT c4 h
        refine lv_iconst (v := 0) hx hb dX5_isPrime_15 (by decide) ?_
        obtain rfl := Option.some.inj h
        exact hE H locs _ ls hw (by decide) dX5_isPrime_16
def f_X5_isPrime (v0 : Int32) : Option (Int32) :=
  f_X5_isPrime_L2 v0 FU 2
set_option maxHeartbeats 4000000 in
set_option maxRecDepth 100000 in
theorem k_X5_isPrime {l : Launch} {G : GG} {fr : va_W}  {v0 : Int32} {z : Int32}  (h : f_X5_isPrime v0 = some z) : Ct l G yX5_isPrime cX5_isPrime 2 (some .boolean) 0 0 [.int v0] fr (some (.int z)) fr := by
  refine Ct.of (by decide) (Nat.le_of_ble_eq_true rfl) trivial ?_
  intro p e s m args below meth c Q A ls F hw hA hE hl
  have hx := F.x
  have hb := F.b
  unfold f_X5_isPrime at h
  obtain ⟨H, hH⟩ : ∃ H, H = s.heap := ⟨_, rfl⟩
  obtain ⟨locs, hlo⟩ : ∃ locs : List Loc, locs = [] := ⟨_, rfl⟩
  rw [← hH, ← hlo] at hw ⊢
  have hl : lv_has ls 2 [(0, .int v0)] := hl
  refine lv_iconst (v := 2) hx hb dX5_isPrime_0 (by decide) ?_
  refine lv_istore_n (lv' := [(1, .int 2), (0, .int v0)]) hx hb dX5_isPrime_1 rfl hl (by decide) rfl (fun ls hl => ?_)
  exact w_X5_isPrime_L2 F hA  FU _ z h hE H locs ls hw (lv_sub hl [1, 0] rfl)
end
theorem dX5_isGenerator_0 : decode cX5_isGenerator 0 = .ok (.iconst 1, 1) := by decide +kernel
theorem dX5_isGenerator_1 : decode cX5_isGenerator 1 = .ok (.istore_n 2, 1) := by decide +kernel
theorem dX5_isGenerator_2 : decode cX5_isGenerator 2 = .ok (.iconst 0, 1) := by decide +kernel
theorem dX5_isGenerator_3 : decode cX5_isGenerator 3 = .ok (.istore_n 3, 1) := by decide +kernel
theorem dX5_isGenerator_4 : decode cX5_isGenerator 4 = .ok (.iload_n 2, 1) := by decide +kernel
theorem dX5_isGenerator_5 : decode cX5_isGenerator 5 = .ok (.iload_n 1, 1) := by decide +kernel
theorem dX5_isGenerator_6 : decode cX5_isGenerator 6 = .ok (.imul, 1) := by decide +kernel
theorem dX5_isGenerator_7 : decode cX5_isGenerator 7 = .ok (.aload_n 0, 1) := by decide +kernel
theorem dX5_isGenerator_8 : decode cX5_isGenerator 8 = .ok (.getfield 62, 3) := by decide +kernel
theorem dX5_isGenerator_11 : decode cX5_isGenerator 11 = .ok (.irem, 1) := by decide +kernel
theorem dX5_isGenerator_12 : decode cX5_isGenerator 12 = .ok (.istore_n 2, 1) := by decide +kernel
theorem dX5_isGenerator_13 : decode cX5_isGenerator 13 = .ok (.iinc 3 1, 3) := by decide +kernel
theorem dX5_isGenerator_16 : decode cX5_isGenerator 16 = .ok (.iload_n 2, 1) := by decide +kernel
theorem dX5_isGenerator_17 : decode cX5_isGenerator 17 = .ok (.iconst 1, 1) := by decide +kernel
theorem dX5_isGenerator_18 : decode cX5_isGenerator 18 = .ok (.if_icmp .le 11, 3) := by decide +kernel
theorem dX5_isGenerator_21 : decode cX5_isGenerator 21 = .ok (.iload_n 3, 1) := by decide +kernel
theorem dX5_isGenerator_22 : decode cX5_isGenerator 22 = .ok (.aload_n 0, 1) := by decide +kernel
theorem dX5_isGenerator_23 : decode cX5_isGenerator 23 = .ok (.getfield 62, 3) := by decide +kernel
theorem dX5_isGenerator_26 : decode cX5_isGenerator 26 = .ok (.if_icmp .lt (-22), 3) := by decide +kernel
theorem dX5_isGenerator_29 : decode cX5_isGenerator 29 = .ok (.iload_n 2, 1) := by decide +kernel
theorem dX5_isGenerator_30 : decode cX5_isGenerator 30 = .ok (.iconst 1, 1) := by decide +kernel
theorem dX5_isGenerator_31 : decode cX5_isGenerator 31 = .ok (.if_icmp .ne 17, 3) := by decide +kernel
theorem dX5_isGenerator_34 : decode cX5_isGenerator 34 = .ok (.iload_n 3, 1) := by decide +kernel
theorem dX5_isGenerator_35 : decode cX5_isGenerator 35 = .ok (.aload_n 0, 1) := by decide +kernel
theorem dX5_isGenerator_36 : decode cX5_isGenerator 36 = .ok (.getfield 62, 3) := by decide +kernel
theorem dX5_isGenerator_39 : decode cX5_isGenerator 39 = .ok (.iconst 1, 1) := by decide +kernel
theorem dX5_isGenerator_40 : decode cX5_isGenerator 40 = .ok (.isub, 1) := by decide +kernel
theorem dX5_isGenerator_41 : decode cX5_isGenerator 41 = .ok (.if_icmp .ne 7, 3) := by decide +kernel
theorem dX5_isGenerator_44 : decode cX5_isGenerator 44 = .ok (.iconst 1, 1) := by decide +kernel
theorem dX5_isGenerator_45 : decode cX5_isGenerator 45 = .ok (.goto 4, 3) := by decide +kernel
theorem dX5_isGenerator_48 : decode cX5_isGenerator 48 = .ok (.iconst 0, 1) := by decide +kernel
theorem dX5_isGenerator_49 : decode cX5_isGenerator 49 = .ok (.ireturn, 1) := by decide +kernel
section
variable {p : Program} {l : Launch} {e : Env} {s : State} {m : MethodId} {args : Array Value} {below : List Frame} {meth : Method} {c : Code} {Q : State → Prop} {G : GG} {A : Nat → Prop} {q : Nat → Nat} {fr : va_W}
def f_X5_isGenerator_L4 (yp : Int32) (v1 : Int32) : Nat → Int32 → Int32 → Option (Int32)
  | 0, _, _ => none
  | fu + 1, v2, v3 =>
    if yp = 0 then none else
    if ((v2 * v1) - (v2 * v1) / yp * yp) ≤ 1 then
    if ((v2 * v1) - (v2 * v1) / yp * yp) = 1 then
    if (v3 + 1) = (yp - 1) then
    some 1
    else
    some 0
    else
    some 0
    else
    if (v3 + 1) < yp then
    f_X5_isGenerator_L4 yp v1 fu ((v2 * v1) - (v2 * v1) / yp * yp) (v3 + 1)
    else
    if ((v2 * v1) - (v2 * v1) / yp * yp) = 1 then
    if (v3 + 1) = (yp - 1) then
    some 1
    else
    some 0
    else
    some 0
set_option maxHeartbeats 4000000 in
set_option maxRecDepth 100000 in
theorem w_X5_isGenerator_L4 {yp : Int32} {ye : Int32} {yg : Int32} {bPo : Nat → Int32} {bTb : Nat → Int32} {wSh : Nat → Int64} {wTe : Nat → Int64} {wNx : Nat → Int64} {bOs : Nat → Int32} {bOn : Nat → Int32} {yop : Int32} {bSo : Nat → Int32} {bNu : Nat → Int32} {ytr : Int32} {yiw : Int32} {wMa : Nat → Int64} {wPr : Nat → Int64} {bTp : Nat → Int32} {yln : Int32} {ypl : Int32} {yfa : Int32} {wLi : Nat → Int64} {bSi : Nat → Int32} {yhp : Int32} {yhe : Int32} {yhg : Int32} {wHs : Nat → Int64} {yhi : Int32} {v1 : Int32}  (F : Fx p s m args meth c cX5_isGenerator 4 RX5 (some .boolean)) (hA : ∀ q, s.heap.size ≤ q → A q)   : ∀ (fu : Nat) (v2 : Int32) (v3 : Int32) (z : Int32), f_X5_isGenerator_L4 yp v1 fu v2 v3 = some z → Ends p l e (rmOf 0 0) s m args below meth c Q cX5_isGenerator G A (some .boolean) (some (.int z)) (mW G q yp ye yg bPo bTb wSh wTe wNx bOs bOn yop bSo bNu ytr yiw wMa wPr bTp yln ypl yfa wLi bSi yhp yhe yhg wHs yhi ++ fr) → ∀ (H : Heap) (locs : List Loc) (ls : Array Slot), Wd G s A (mW G q yp ye yg bPo bTb wSh wTe wNx bOs bOn yop bSo bNu ytr yiw wMa wPr bTp yln ypl yfa wLi bSi yhp yhe yhg wHs yhi ++ fr) H locs → lv_has ls 4 [(0, .ref (q 0)), (1, .int v1), (2, .int v2), (3, .int v3)] → W p l e (rmOf 0 0) s m args below meth c H locs 0 0 Q (F0 m 4 ls []) := by
  have hx := F.x
  have hb := F.b
  intro fu
  induction fu with
  | zero =>
    intro v2 v3 z h
    cases (h : none = some z)
  | succ fu ih =>
    intro v2 v3 z h hE H locs ls hw hl
    rw [f_X5_isGenerator_L4] at h
    refine lv_iload_n hx hb dX5_isGenerator_4 rfl (lv_at hl 2 rfl) ?_
    refine lv_iload_n hx hb dX5_isGenerator_5 rfl (lv_at hl 1 rfl) ?_
    refine lv_imul hx hb dX5_isGenerator_6 ?_
    refine lv_aload_n hx hb dX5_isGenerator_7 rfl (lv_at hl 0 rfl) ?_
    refine gf_5_62 F hw dX5_isGenerator_8 ?_
    obtain ⟨g1, h⟩ := stD h
    refine lv_irem hx hb dX5_isGenerator_11 g1 ?_
    refine lv_istore_n (lv' := [(2, .int ((v2 * v1) - (v2 * v1) / yp * yp)), (0, .ref (q 0)), (1, .int v1), (3, .int v3)]) hx hb dX5_isGenerator_12 rfl hl (by decide) rfl (fun ls hl => ?_)
    refine lv_iinc (v := (v3 + 1)) (lv' := [(3, .int (v3 + 1)), (2, .int ((v2 * v1) - (v2 * v1) / yp * yp)), (0, .ref (q 0)), (1, .int v1)]) hx hb dX5_isGenerator_13 hl (k := 3) rfl rfl (by decide) rfl (fun ls hl => ?_)
    refine lv_iload_n hx hb dX5_isGenerator_16 rfl (lv_at hl 1 rfl) ?_
    refine lv_iconst (v := 1) hx hb dX5_isGenerator_17 (by decide) ?_
    refine lv_icmp_le (tgt := 29) hx hb dX5_isGenerator_18 (by decide) (fun c2 => ?_) (fun c2 => ?_)
    · replace h := stT c2 h
      refine lv_iload_n hx hb dX5_isGenerator_29 rfl (lv_at hl 1 rfl) ?_
      refine lv_iconst (v := 1) hx hb dX5_isGenerator_30 (by decide) ?_
      refine lv_icmp_ne (tgt := 48) hx hb dX5_isGenerator_31 (by decide) (fun c3 => ?_) (fun c3 => ?_)
      · replace h := stF c3 h
        refine lv_iconst (v := 0) hx hb dX5_isGenerator_48 (by decide) ?_
        obtain rfl := Option.some.inj h
        exact hE H locs _ ls hw (by decide) dX5_isGenerator_49
      · replace h := stT c3 h
        refine lv_iload_n hx hb dX5_isGenerator_34 rfl (lv_at hl 0 rfl) ?_
        refine lv_aload_n hx hb dX5_isGenerator_35 rfl (lv_at hl 2 rfl) ?_
        refine gf_5_62 F hw dX5_isGenerator_36 ?_
        refine lv_iconst (v := 1) hx hb dX5_isGenerator_39 (by decide) ?_
        refine lv_isub hx hb dX5_isGenerator_40 ?_
        refine lv_icmp_ne (tgt := 48) hx hb dX5_isGenerator_41 (by decide) (fun c4 => ?_) (fun c4 => ?_)
        · replace h := stF c4 h
          refine lv_iconst (v := 0) hx hb dX5_isGenerator_48 (by decide) ?_
          obtain rfl := Option.some.inj h
          exact hE H locs _ ls hw (by decide) dX5_isGenerator_49
        · replace h := stT c4 h
          refine lv_iconst (v := 1) hx hb dX5_isGenerator_44 (by decide) ?_
          refine lv_goto (tgt := 49) hx hb dX5_isGenerator_45 (by decide) ?_
          obtain rfl := Option.some.inj h
          exact hE H locs _ ls hw (by decide) dX5_isGenerator_49
    · replace h := stF c2 h
      refine lv_iload_n hx hb dX5_isGenerator_21 rfl (lv_at hl 0 rfl) ?_
      refine lv_aload_n hx hb dX5_isGenerator_22 rfl (lv_at hl 2 rfl) ?_
      refine gf_5_62 F hw dX5_isGenerator_23 ?_
      refine lv_icmp_lt (tgt := 4) hx hb dX5_isGenerator_26 (by decide) (fun c5 => ?_) (fun c5 => ?_)
      · replace h := stT c5 h
        exact ih _ _ z h hE H locs ls hw (lv_sub hl [2, 3, 1, 0] rfl)
      · replace h := stF c5 h
        refine lv_iload_n hx hb dX5_isGenerator_29 rfl (lv_at hl 1 rfl) ?_
        refine lv_iconst (v := 1) hx hb dX5_isGenerator_30 (by decide) ?_
        refine lv_icmp_ne (tgt := 48) hx hb dX5_isGenerator_31 (by decide) (fun c6 => ?_) (fun c6 => ?_)
        · replace h := stF c6 h
          refine lv_iconst (v := 0) hx hb dX5_isGenerator_48 (by decide) ?_
          obtain rfl := Option.some.inj h
          exact hE H locs _ ls hw (by decide) dX5_isGenerator_49
        · replace h := stT c6 h
          refine lv_iload_n hx hb dX5_isGenerator_34 rfl (lv_at hl 0 rfl) ?_
          refine lv_aload_n hx hb dX5_isGenerator_35 rfl (lv_at hl 2 rfl) ?_
          refine gf_5_62 F hw dX5_isGenerator_36 ?_
          refine lv_iconst (v := 1) hx hb dX5_isGenerator_39 (by decide) ?_
          refine lv_isub hx hb dX5_isGenerator_40 ?_
          refine lv_icmp_ne (tgt := 48) hx hb dX5_isGenerator_41 (by decide) (fun c7 => ?_) (fun c7 => ?_)
          · replace h := stF c7 h
            refine lv_iconst (v := 0) hx hb dX5_isGenerator_48 (by decide) ?_
            obtain rfl := Option.some.inj h
            exact hE H locs _ ls hw (by decide) dX5_isGenerator_49
          · replace h := stT c7 h
            refine lv_iconst (v := 1) hx hb dX5_isGenerator_44 (by decide) ?_
            refine lv_goto (tgt := 49) hx hb dX5_isGenerator_45 (by decide) ?_
            obtain rfl := Option.some.inj h
            exact hE H locs _ ls hw (by decide) dX5_isGenerator_49
def f_X5_isGenerator (yp : Int32) (v1 : Int32) : Option (Int32) :=
  f_X5_isGenerator_L4 yp v1 FU 1 0
set_option maxHeartbeats 4000000 in
set_option maxRecDepth 100000 in
theorem k_X5_isGenerator {l : Launch} {G : GG} {q : Nat → Nat} {fr : va_W} {yp : Int32} {ye : Int32} {yg : Int32} {bPo : Nat → Int32} {bTb : Nat → Int32} {wSh : Nat → Int64} {wTe : Nat → Int64} {wNx : Nat → Int64} {bOs : Nat → Int32} {bOn : Nat → Int32} {yop : Int32} {bSo : Nat → Int32} {bNu : Nat → Int32} {ytr : Int32} {yiw : Int32} {wMa : Nat → Int64} {wPr : Nat → Int64} {bTp : Nat → Int32} {yln : Int32} {ypl : Int32} {yfa : Int32} {wLi : Nat → Int64} {bSi : Nat → Int32} {yhp : Int32} {yhe : Int32} {yhg : Int32} {wHs : Nat → Int64} {yhi : Int32} {v1 : Int32} {z : Int32}  (h : f_X5_isGenerator yp v1 = some z) : Ct l G yX5_isGenerator cX5_isGenerator 4 (some .boolean) 0 0 [.ref (q 0), .int v1] (mW G q yp ye yg bPo bTb wSh wTe wNx bOs bOn yop bSo bNu ytr yiw wMa wPr bTp yln ypl yfa wLi bSi yhp yhe yhg wHs yhi ++ fr) (some (.int z)) (mW G q yp ye yg bPo bTb wSh wTe wNx bOs bOn yop bSo bNu ytr yiw wMa wPr bTp yln ypl yfa wLi bSi yhp yhe yhg wHs yhi ++ fr) := by
  refine Ct.of (by decide) (Nat.le_of_ble_eq_true rfl) trivial ?_
  intro p e s m args below meth c Q A ls F hw hA hE hl
  have hx := F.x
  have hb := F.b
  unfold f_X5_isGenerator at h
  obtain ⟨H, hH⟩ : ∃ H, H = s.heap := ⟨_, rfl⟩
  obtain ⟨locs, hlo⟩ : ∃ locs : List Loc, locs = [] := ⟨_, rfl⟩
  rw [← hH, ← hlo] at hw ⊢
  have hl : lv_has ls 4 [(0, .ref (q 0)), (1, .int v1)] := hl
  refine lv_iconst (v := 1) hx hb dX5_isGenerator_0 (by decide) ?_
  refine lv_istore_n (lv' := [(2, .int 1), (0, .ref (q 0)), (1, .int v1)]) hx hb dX5_isGenerator_1 rfl hl (by decide) rfl (fun ls hl => ?_)
  refine lv_iconst (v := 0) hx hb dX5_isGenerator_2 (by decide) ?_
  refine lv_istore_n (lv' := [(3, .int 0), (2, .int 1), (0, .ref (q 0)), (1, .int v1)]) hx hb dX5_isGenerator_3 rfl hl (by decide) rfl (fun ls hl => ?_)
  exact w_X5_isGenerator_L4 F hA  FU _ _ z h hE H locs ls hw (lv_sub hl [2, 3, 1, 0] rfl)
end
theorem dX5_classAt_0 : decode cX5_classAt 0 = .ok (.aload_n 0, 1) := by decide +kernel
theorem dX5_classAt_1 : decode cX5_classAt 1 = .ok (.getfield 11, 3) := by decide +kernel
theorem dX5_classAt_4 : decode cX5_classAt 4 = .ok (.iload_n 1, 1) := by decide +kernel
theorem dX5_classAt_5 : decode cX5_classAt 5 = .ok (.iaload, 1) := by decide +kernel
theorem dX5_classAt_6 : decode cX5_classAt 6 = .ok (.aload_n 0, 1) := by decide +kernel
theorem dX5_classAt_7 : decode cX5_classAt 7 = .ok (.getfield 66, 3) := by decide +kernel
theorem dX5_classAt_10 : decode cX5_classAt 10 = .ok (.irem, 1) := by decide +kernel
theorem dX5_classAt_11 : decode cX5_classAt 11 = .ok (.ireturn, 1) := by decide +kernel
section
variable {p : Program} {l : Launch} {e : Env} {s : State} {m : MethodId} {args : Array Value} {below : List Frame} {meth : Method} {c : Code} {Q : State → Prop} {G : GG} {A : Nat → Prop} {q : Nat → Nat} {fr : va_W}
def f_X5_classAt (ye : Int32) (bPo : Nat → Int32) (v1 : Int32) : Option (Int32) :=
  if inb v1 62 then
  if ye = 0 then none else
  some ((bPo v1.toNatClampNeg) - (bPo v1.toNatClampNeg) / ye * ye)
  else none
set_option maxHeartbeats 4000000 in
set_option maxRecDepth 100000 in
theorem k_X5_classAt {l : Launch} {G : GG} {q : Nat → Nat} {fr : va_W} {yp : Int32} {ye : Int32} {yg : Int32} {bPo : Nat → Int32} {bTb : Nat → Int32} {wSh : Nat → Int64} {wTe : Nat → Int64} {wNx : Nat → Int64} {bOs : Nat → Int32} {bOn : Nat → Int32} {yop : Int32} {bSo : Nat → Int32} {bNu : Nat → Int32} {ytr : Int32} {yiw : Int32} {wMa : Nat → Int64} {wPr : Nat → Int64} {bTp : Nat → Int32} {yln : Int32} {ypl : Int32} {yfa : Int32} {wLi : Nat → Int64} {bSi : Nat → Int32} {yhp : Int32} {yhe : Int32} {yhg : Int32} {wHs : Nat → Int64} {yhi : Int32} {v1 : Int32} {z : Int32}  (h : f_X5_classAt ye bPo v1 = some z) : Ct l G yX5_classAt cX5_classAt 2 (some .int) 0 0 [.ref (q 0), .int v1] (mW G q yp ye yg bPo bTb wSh wTe wNx bOs bOn yop bSo bNu ytr yiw wMa wPr bTp yln ypl yfa wLi bSi yhp yhe yhg wHs yhi ++ fr) (some (.int z)) (mW G q yp ye yg bPo bTb wSh wTe wNx bOs bOn yop bSo bNu ytr yiw wMa wPr bTp yln ypl yfa wLi bSi yhp yhe yhg wHs yhi ++ fr) := by
  refine Ct.of (by decide) (Nat.le_of_ble_eq_true rfl) trivial ?_
  intro p e s m args below meth c Q A ls F hw hA hE hl
  have hx := F.x
  have hb := F.b
  unfold f_X5_classAt at h
  obtain ⟨H, hH⟩ : ∃ H, H = s.heap := ⟨_, rfl⟩
  obtain ⟨locs, hlo⟩ : ∃ locs : List Loc, locs = [] := ⟨_, rfl⟩
  rw [← hH, ← hlo] at hw ⊢
  have hl : lv_has ls 2 [(0, .ref (q 0)), (1, .int v1)] := hl
  refine lv_aload_n hx hb dX5_classAt_0 rfl (lv_at hl 0 rfl) ?_
  refine gf_5_11 F hw dX5_classAt_1 ?_
  refine lv_iload_n hx hb dX5_classAt_4 rfl (lv_at hl 1 rfl) ?_
  obtain ⟨g1, h⟩ := stG h
  refine al_m1 F hw g1 dX5_classAt_5 ?_
  refine lv_aload_n hx hb dX5_classAt_6 rfl (lv_at hl 0 rfl) ?_
  refine gf_5_66 F hw dX5_classAt_7 ?_
  obtain ⟨g2, h⟩ := stD h
  refine lv_irem hx hb dX5_classAt_10 g2 ?_
  obtain rfl := Option.some.inj h
  exact hE H locs _ ls hw dX5_classAt_11
end
theorem dX5_firstOf_0 : decode cX5_firstOf 0 = .ok (.iconst 1, 1) := by decide +kernel
theorem dX5_firstOf_1 : decode cX5_firstOf 1 = .ok (.istore_n 2, 1) := by decide +kernel
theorem dX5_firstOf_2 : decode cX5_firstOf 2 = .ok (.aload_n 0, 1) := by decide +kernel
theorem dX5_firstOf_3 : decode cX5_firstOf 3 = .ok (.iload_n 2, 1) := by decide +kernel
theorem dX5_firstOf_4 : decode cX5_firstOf 4 = .ok (.invokevirtual 83, 3) := by decide +kernel
theorem dX5_firstOf_7 : decode cX5_firstOf 7 = .ok (.iload_n 1, 1) := by decide +kernel
theorem dX5_firstOf_8 : decode cX5_firstOf 8 = .ok (.if_icmp .eq 9, 3) := by decide +kernel
theorem dX5_firstOf_11 : decode cX5_firstOf 11 = .ok (.iinc 2 1, 3) := by decide +kernel
theorem dX5_firstOf_14 : decode cX5_firstOf 14 = .ok (.goto (-12), 3) := by decide +kernel
theorem dX5_firstOf_17 : decode cX5_firstOf 17 = .ok (.iload_n 2, 1) := by decide +kernel
theorem dX5_firstOf_18 : decode cX5_firstOf 18 = .ok (.ireturn, 1) := by decide +kernel
section
variable {p : Program} {l : Launch} {e : Env} {s : State} {m : MethodId} {args : Array Value} {below : List Frame} {meth : Method} {c : Code} {Q : State → Prop} {G : GG} {A : Nat → Prop} {q : Nat → Nat} {fr : va_W}
def f_X5_firstOf_L2 (ye : Int32) (bPo : Nat → Int32) (v1 : Int32) : Nat → Int32 → Option (Int32)
  | 0, _ => none
  | fu + 1, v2 =>
    (f_X5_classAt ye bPo v2).bind fun z1 =>
    if z1 = v1 then
    some v2
    else
    f_X5_firstOf_L2 ye bPo v1 fu (v2 + 1)
set_option maxHeartbeats 4000000 in
set_option maxRecDepth 100000 in
theorem w_X5_firstOf_L2 {yp : Int32} {ye : Int32} {yg : Int32} {bPo : Nat → Int32} {bTb : Nat → Int32} {wSh : Nat → Int64} {wTe : Nat → Int64} {wNx : Nat → Int64} {bOs : Nat → Int32} {bOn : Nat → Int32} {yop : Int32} {bSo : Nat → Int32} {bNu : Nat → Int32} {ytr : Int32} {yiw : Int32} {wMa : Nat → Int64} {wPr : Nat → Int64} {bTp : Nat → Int32} {yln : Int32} {ypl : Int32} {yfa : Int32} {wLi : Nat → Int64} {bSi : Nat → Int32} {yhp : Int32} {yhe : Int32} {yhg : Int32} {wHs : Nat → Int64} {yhi : Int32} {v1 : Int32}  (F : Fx p s m args meth c cX5_firstOf 3 RX5 (some .int)) (hA : ∀ q, s.heap.size ≤ q → A q)   : ∀ (fu : Nat) (v2 : Int32) (z : Int32), f_X5_firstOf_L2 ye bPo v1 fu v2 = some z → Ends p l e (rmOf 1 21) s m args below meth c Q cX5_firstOf G A (some .int) (some (.int z)) (mW G q yp ye yg bPo bTb wSh wTe wNx bOs bOn yop bSo bNu ytr yiw wMa wPr bTp yln ypl yfa wLi bSi yhp yhe yhg wHs yhi ++ fr) → ∀ (H : Heap) (locs : List Loc) (ls : Array Slot), Wd G s A (mW G q yp ye yg bPo bTb wSh wTe wNx bOs bOn yop bSo bNu ytr yiw wMa wPr bTp yln ypl yfa wLi bSi yhp yhe yhg wHs yhi ++ fr) H locs → lv_has ls 3 [(0, .ref (q 0)), (1, .int v1), (2, .int v2)] → W p l e (rmOf 1 21) s m args below meth c H locs 0 0 Q (F0 m 2 ls []) := by
  have hx := F.x
  have hb := F.b
  intro fu
  induction fu with
  | zero =>
    intro v2 z h
    cases (h : none = some z)
  | succ fu ih =>
    intro v2 z h hE H locs ls hw hl
    rw [f_X5_firstOf_L2] at h
    refine lv_aload_n hx hb dX5_firstOf_2 rfl (lv_at hl 0 rfl) ?_
    refine lv_iload_n hx hb dX5_firstOf_3 rfl (lv_at hl 2 rfl) ?_
    obtain ⟨z1, hz1, h⟩ := stB h
    refine ctV (av := [.int v2]) (st0 := ([] : List Value)) (st1 := ([.int z1] : List Value)) F hw hA (k_X5_classAt hz1) kl_5_83 kd_X5_classAt rfl ⟨by decide, by decide⟩ 0 rfl rfl hl.1 rfl (Nat.le_of_ble_eq_true rfl) dX5_firstOf_4 rfl (fun H locs hw => ?_)
    refine lv_iload_n hx hb dX5_firstOf_7 rfl (lv_at hl 1 rfl) ?_
    refine lv_icmp_eq (tgt := 17) hx hb dX5_firstOf_8 (by decide) (fun c2 => ?_) (fun c2 => ?_)
    · replace h := stT c2 h
      refine lv_iload_n hx hb dX5_firstOf_17 rfl (lv_at hl 2 rfl) ?_
      obtain rfl := Option.some.inj h
      exact hE H locs _ ls hw dX5_firstOf_18
    · replace h := stF c2 h
      refine lv_iinc (v := (v2 + 1)) (lv' := [(2, .int (v2 + 1)), (0, .ref (q 0)), (1, .int v1)]) hx hb dX5_firstOf_11 hl (k := 2) rfl rfl (by decide) rfl (fun ls hl => ?_)
      refine lv_goto (tgt := 2) hx hb dX5_firstOf_14 (by decide) ?_
      exact ih _ z h hE H locs ls hw (lv_sub hl [1, 2, 0] rfl)
def f_X5_firstOf (ye : Int32) (bPo : Nat → Int32) (v1 : Int32) : Option (Int32) :=
  f_X5_firstOf_L2 ye bPo v1 FU 1
set_option maxHeartbeats 4000000 in
set_option maxRecDepth 100000 in
theorem k_X5_firstOf {l : Launch} {G : GG} {q : Nat → Nat} {fr : va_W} {yp : Int32} {ye : Int32} {yg : Int32} {bPo : Nat → Int32} {bTb : Nat → Int32} {wSh : Nat → Int64} {wTe : Nat → Int64} {wNx : Nat → Int64} {bOs : Nat → Int32} {bOn : Nat → Int32} {yop : Int32} {bSo : Nat → Int32} {bNu : Nat → Int32} {ytr : Int32} {yiw : Int32} {wMa : Nat → Int64} {wPr : Nat → Int64} {bTp : Nat → Int32} {yln : Int32} {ypl : Int32} {yfa : Int32} {wLi : Nat → Int64} {bSi : Nat → Int32} {yhp : Int32} {yhe : Int32} {yhg : Int32} {wHs : Nat → Int64} {yhi : Int32} {v1 : Int32} {z : Int32}  (h : f_X5_firstOf ye bPo v1 = some z) : Ct l G yX5_firstOf cX5_firstOf 3 (some .int) 1 21 [.ref (q 0), .int v1] (mW G q yp ye yg bPo bTb wSh wTe wNx bOs bOn yop bSo bNu ytr yiw wMa wPr bTp yln ypl yfa wLi bSi yhp yhe yhg wHs yhi ++ fr) (some (.int z)) (mW G q yp ye yg bPo bTb wSh wTe wNx bOs bOn yop bSo bNu ytr yiw wMa wPr bTp yln ypl yfa wLi bSi yhp yhe yhg wHs yhi ++ fr) := by
  refine Ct.of (by decide) (Nat.le_of_ble_eq_true rfl) trivial ?_
  intro p e s m args below meth c Q A ls F hw hA hE hl
  have hx := F.x
  have hb := F.b
  unfold f_X5_firstOf at h
  obtain ⟨H, hH⟩ : ∃ H, H = s.heap := ⟨_, rfl⟩
  obtain ⟨locs, hlo⟩ : ∃ locs : List Loc, locs = [] := ⟨_, rfl⟩
  rw [← hH, ← hlo] at hw ⊢
  have hl : lv_has ls 3 [(0, .ref (q 0)), (1, .int v1)] := hl
  refine lv_iconst (v := 1) hx hb dX5_firstOf_0 (by decide) ?_
  refine lv_istore_n (lv' := [(2, .int 1), (0, .ref (q 0)), (1, .int v1)]) hx hb dX5_firstOf_1 rfl hl (by decide) rfl (fun ls hl => ?_)
  exact w_X5_firstOf_L2 F hA  FU _ z h hE H locs ls hw (lv_sub hl [1, 2, 0] rfl)
end
theorem dX5_at_0 : decode cX5_at 0 = .ok (.sipush 144, 3) := by decide +kernel
theorem dX5_at_3 : decode cX5_at 3 = .ok (.iload_n 0, 1) := by decide +kernel
theorem dX5_at_4 : decode cX5_at 4 = .ok (.imul, 1) := by decide +kernel
theorem dX5_at_5 : decode cX5_at 5 = .ok (.bipush 12, 2) := by decide +kernel
theorem dX5_at_7 : decode cX5_at 7 = .ok (.iload_n 1, 1) := by decide +kernel
theorem dX5_at_8 : decode cX5_at 8 = .ok (.imul, 1) := by decide +kernel
theorem dX5_at_9 : decode cX5_at 9 = .ok (.iadd, 1) := by decide +kernel
theorem dX5_at_10 : decode cX5_at 10 = .ok (.iload_n 2, 1) := by decide +kernel
theorem dX5_at_11 : decode cX5_at 11 = .ok (.iadd, 1) := by decide +kernel
theorem dX5_at_12 : decode cX5_at 12 = .ok (.ireturn, 1) := by decide +kernel
section
variable {p : Program} {l : Launch} {e : Env} {s : State} {m : MethodId} {args : Array Value} {below : List Frame} {meth : Method} {c : Code} {Q : State → Prop} {G : GG} {A : Nat → Prop} {q : Nat → Nat} {fr : va_W}
def f_X5_at (v0 : Int32) (v1 : Int32) (v2 : Int32) : Option (Int32) :=
  some (((144 * v0) + (12 * v1)) + v2)
set_option maxHeartbeats 4000000 in
set_option maxRecDepth 100000 in
theorem k_X5_at {l : Launch} {G : GG} {fr : va_W}  {v0 : Int32} {v1 : Int32} {v2 : Int32} {z : Int32}  (h : f_X5_at v0 v1 v2 = some z) : Ct l G yX5_at cX5_at 3 (some .int) 0 0 [.int v0, .int v1, .int v2] fr (some (.int z)) fr := by
  refine Ct.of (by decide) (Nat.le_of_ble_eq_true rfl) trivial ?_
  intro p e s m args below meth c Q A ls F hw hA hE hl
  have hx := F.x
  have hb := F.b
  unfold f_X5_at at h
  obtain ⟨H, hH⟩ : ∃ H, H = s.heap := ⟨_, rfl⟩
  obtain ⟨locs, hlo⟩ : ∃ locs : List Loc, locs = [] := ⟨_, rfl⟩
  rw [← hH, ← hlo] at hw ⊢
  have hl : lv_has ls 3 [(0, .int v0), (1, .int v1), (2, .int v2)] := hl
  refine lv_sipush (v := 144) hx hb dX5_at_0 (by decide) ?_
  refine lv_iload_n hx hb dX5_at_3 rfl (lv_at hl 0 rfl) ?_
  refine lv_imul hx hb dX5_at_4 ?_
  refine lv_bipush (v := 12) hx hb dX5_at_5 (by decide) ?_
  refine lv_iload_n hx hb dX5_at_7 rfl (lv_at hl 1 rfl) ?_
  refine lv_imul hx hb dX5_at_8 ?_
  refine lv_iadd hx hb dX5_at_9 ?_
  refine lv_iload_n hx hb dX5_at_10 rfl (lv_at hl 2 rfl) ?_
  refine lv_iadd hx hb dX5_at_11 ?_
  obtain rfl := Option.some.inj h
  exact hE H locs _ ls hw dX5_at_12
end
theorem dX5_findsClasses_0 : decode cX5_findsClasses 0 = .ok (.iconst 1, 1) := by decide +kernel
theorem dX5_findsClasses_1 : decode cX5_findsClasses 1 = .ok (.istore_n 1, 1) := by decide +kernel
theorem dX5_findsClasses_2 : decode cX5_findsClasses 2 = .ok (.iconst 0, 1) := by decide +kernel
theorem dX5_findsClasses_3 : decode cX5_findsClasses 3 = .ok (.istore_n 2, 1) := by decide +kernel
theorem dX5_findsClasses_4 : decode cX5_findsClasses 4 = .ok (.iload_n 2, 1) := by decide +kernel
theorem dX5_findsClasses_5 : decode cX5_findsClasses 5 = .ok (.aload_n 0, 1) := by decide +kernel
theorem dX5_findsClasses_6 : decode cX5_findsClasses 6 = .ok (.getfield 62, 3) := by decide +kernel
theorem dX5_findsClasses_9 : decode cX5_findsClasses 9 = .ok (.iconst 1, 1) := by decide +kernel
theorem dX5_findsClasses_10 : decode cX5_findsClasses 10 = .ok (.isub, 1) := by decide +kernel
theorem dX5_findsClasses_11 : decode cX5_findsClasses 11 = .ok (.if_icmp .ge 28, 3) := by decide +kernel
theorem dX5_findsClasses_14 : decode cX5_findsClasses 14 = .ok (.aload_n 0, 1) := by decide +kernel
theorem dX5_findsClasses_15 : decode cX5_findsClasses 15 = .ok (.getfield 11, 3) := by decide +kernel
theorem dX5_findsClasses_18 : decode cX5_findsClasses 18 = .ok (.iload_n 1, 1) := by decide +kernel
theorem dX5_findsClasses_19 : decode cX5_findsClasses 19 = .ok (.iload_n 2, 1) := by decide +kernel
theorem dX5_findsClasses_20 : decode cX5_findsClasses 20 = .ok (.iastore, 1) := by decide +kernel
theorem dX5_findsClasses_21 : decode cX5_findsClasses 21 = .ok (.iload_n 1, 1) := by decide +kernel
theorem dX5_findsClasses_22 : decode cX5_findsClasses 22 = .ok (.aload_n 0, 1) := by decide +kernel
theorem dX5_findsClasses_23 : decode cX5_findsClasses 23 = .ok (.getfield 69, 3) := by decide +kernel
theorem dX5_findsClasses_26 : decode cX5_findsClasses 26 = .ok (.imul, 1) := by decide +kernel
theorem dX5_findsClasses_27 : decode cX5_findsClasses 27 = .ok (.aload_n 0, 1) := by decide +kernel
theorem dX5_findsClasses_28 : decode cX5_findsClasses 28 = .ok (.getfield 62, 3) := by decide +kernel
theorem dX5_findsClasses_31 : decode cX5_findsClasses 31 = .ok (.irem, 1) := by decide +kernel
theorem dX5_findsClasses_32 : decode cX5_findsClasses 32 = .ok (.istore_n 1, 1) := by decide +kernel
theorem dX5_findsClasses_33 : decode cX5_findsClasses 33 = .ok (.iinc 2 1, 3) := by decide +kernel
theorem dX5_findsClasses_36 : decode cX5_findsClasses 36 = .ok (.goto (-32), 3) := by decide +kernel
theorem dX5_findsClasses_39 : decode cX5_findsClasses 39 = .ok (.iconst 0, 1) := by decide +kernel
theorem dX5_findsClasses_40 : decode cX5_findsClasses 40 = .ok (.istore_n 2, 1) := by decide +kernel
theorem dX5_findsClasses_41 : decode cX5_findsClasses 41 = .ok (.iload_n 2, 1) := by decide +kernel
theorem dX5_findsClasses_42 : decode cX5_findsClasses 42 = .ok (.sipush 1728, 3) := by decide +kernel
theorem dX5_findsClasses_45 : decode cX5_findsClasses 45 = .ok (.if_icmp .ge 16, 3) := by decide +kernel
theorem dX5_findsClasses_48 : decode cX5_findsClasses 48 = .ok (.aload_n 0, 1) := by decide +kernel
theorem dX5_findsClasses_49 : decode cX5_findsClasses 49 = .ok (.getfield 15, 3) := by decide +kernel
theorem dX5_findsClasses_52 : decode cX5_findsClasses 52 = .ok (.iload_n 2, 1) := by decide +kernel
theorem dX5_findsClasses_53 : decode cX5_findsClasses 53 = .ok (.iconst 0, 1) := by decide +kernel
theorem dX5_findsClasses_54 : decode cX5_findsClasses 54 = .ok (.iastore, 1) := by decide +kernel
theorem dX5_findsClasses_55 : decode cX5_findsClasses 55 = .ok (.iinc 2 1, 3) := by decide +kernel
theorem dX5_findsClasses_58 : decode cX5_findsClasses 58 = .ok (.goto (-17), 3) := by decide +kernel
theorem dX5_findsClasses_61 : decode cX5_findsClasses 61 = .ok (.iconst 0, 1) := by decide +kernel
theorem dX5_findsClasses_62 : decode cX5_findsClasses 62 = .ok (.istore_n 2, 1) := by decide +kernel
theorem dX5_findsClasses_63 : decode cX5_findsClasses 63 = .ok (.iload_n 2, 1) := by decide +kernel
theorem dX5_findsClasses_64 : decode cX5_findsClasses 64 = .ok (.aload_n 0, 1) := by decide +kernel
theorem dX5_findsClasses_65 : decode cX5_findsClasses 65 = .ok (.getfield 66, 3) := by decide +kernel
theorem dX5_findsClasses_68 : decode cX5_findsClasses 68 = .ok (.if_icmp .ge 79, 3) := by decide +kernel
theorem dX5_findsClasses_71 : decode cX5_findsClasses 71 = .ok (.aload_n 0, 1) := by decide +kernel
theorem dX5_findsClasses_72 : decode cX5_findsClasses 72 = .ok (.iload_n 2, 1) := by decide +kernel
theorem dX5_findsClasses_73 : decode cX5_findsClasses 73 = .ok (.invokevirtual 79, 3) := by decide +kernel
theorem dX5_findsClasses_76 : decode cX5_findsClasses 76 = .ok (.istore_n 3, 1) := by decide +kernel
theorem dX5_findsClasses_77 : decode cX5_findsClasses 77 = .ok (.iconst 1, 1) := by decide +kernel
theorem dX5_findsClasses_78 : decode cX5_findsClasses 78 = .ok (.istore 4, 2) := by decide +kernel
theorem dX5_findsClasses_80 : decode cX5_findsClasses 80 = .ok (.iload 4, 2) := by decide +kernel
theorem dX5_findsClasses_82 : decode cX5_findsClasses 82 = .ok (.aload_n 0, 1) := by decide +kernel
theorem dX5_findsClasses_83 : decode cX5_findsClasses 83 = .ok (.getfield 62, 3) := by decide +kernel
theorem dX5_findsClasses_86 : decode cX5_findsClasses 86 = .ok (.if_icmp .ge 55, 3) := by decide +kernel
theorem dX5_findsClasses_89 : decode cX5_findsClasses 89 = .ok (.iload_n 3, 1) := by decide +kernel
theorem dX5_findsClasses_90 : decode cX5_findsClasses 90 = .ok (.iload 4, 2) := by decide +kernel
theorem dX5_findsClasses_92 : decode cX5_findsClasses 92 = .ok (.isub, 1) := by decide +kernel
theorem dX5_findsClasses_93 : decode cX5_findsClasses 93 = .ok (.aload_n 0, 1) := by decide +kernel
theorem dX5_findsClasses_94 : decode cX5_findsClasses 94 = .ok (.getfield 62, 3) := by decide +kernel
theorem dX5_findsClasses_97 : decode cX5_findsClasses 97 = .ok (.iadd, 1) := by decide +kernel
theorem dX5_findsClasses_98 : decode cX5_findsClasses 98 = .ok (.aload_n 0, 1) := by decide +kernel
theorem dX5_findsClasses_99 : decode cX5_findsClasses 99 = .ok (.getfield 62, 3) := by decide +kernel
theorem dX5_findsClasses_102 : decode cX5_findsClasses 102 = .ok (.irem, 1) := by decide +kernel
theorem dX5_findsClasses_103 : decode cX5_findsClasses 103 = .ok (.istore 5, 2) := by decide +kernel
theorem dX5_findsClasses_105 : decode cX5_findsClasses 105 = .ok (.iload 5, 2) := by decide +kernel
theorem dX5_findsClasses_107 : decode cX5_findsClasses 107 = .ok (.ifCond .le 28, 3) := by decide +kernel
theorem dX5_findsClasses_110 : decode cX5_findsClasses 110 = .ok (.aload_n 0, 1) := by decide +kernel
theorem dX5_findsClasses_111 : decode cX5_findsClasses 111 = .ok (.getfield 15, 3) := by decide +kernel
theorem dX5_findsClasses_114 : decode cX5_findsClasses 114 = .ok (.aload_n 0, 1) := by decide +kernel
theorem dX5_findsClasses_115 : decode cX5_findsClasses 115 = .ok (.iload 4, 2) := by decide +kernel
theorem dX5_findsClasses_117 : decode cX5_findsClasses 117 = .ok (.invokevirtual 83, 3) := by decide +kernel
theorem dX5_findsClasses_120 : decode cX5_findsClasses 120 = .ok (.aload_n 0, 1) := by decide +kernel
theorem dX5_findsClasses_121 : decode cX5_findsClasses 121 = .ok (.iload 5, 2) := by decide +kernel
theorem dX5_findsClasses_123 : decode cX5_findsClasses 123 = .ok (.invokevirtual 83, 3) := by decide +kernel
theorem dX5_findsClasses_126 : decode cX5_findsClasses 126 = .ok (.iload_n 2, 1) := by decide +kernel
theorem dX5_findsClasses_127 : decode cX5_findsClasses 127 = .ok (.invokestatic 86, 3) := by decide +kernel
theorem dX5_findsClasses_130 : decode cX5_findsClasses 130 = .ok (.dup2, 1) := by decide +kernel
theorem dX5_findsClasses_131 : decode cX5_findsClasses 131 = .ok (.iaload, 1) := by decide +kernel
theorem dX5_findsClasses_132 : decode cX5_findsClasses 132 = .ok (.iconst 1, 1) := by decide +kernel
theorem dX5_findsClasses_133 : decode cX5_findsClasses 133 = .ok (.iadd, 1) := by decide +kernel
theorem dX5_findsClasses_134 : decode cX5_findsClasses 134 = .ok (.iastore, 1) := by decide +kernel
theorem dX5_findsClasses_135 : decode cX5_findsClasses 135 = .ok (.iinc 4 1, 3) := by decide +kernel
theorem dX5_findsClasses_138 : decode cX5_findsClasses 138 = .ok (.goto (-58), 3) := by decide +kernel
theorem dX5_findsClasses_141 : decode cX5_findsClasses 141 = .ok (.iinc 2 1, 3) := by decide +kernel
theorem dX5_findsClasses_144 : decode cX5_findsClasses 144 = .ok (.goto (-81), 3) := by decide +kernel
theorem dX5_findsClasses_147 : decode cX5_findsClasses 147 = .ok (.return_, 1) := by decide +kernel
section
variable {p : Program} {l : Launch} {e : Env} {s : State} {m : MethodId} {args : Array Value} {below : List Frame} {meth : Method} {c : Code} {Q : State → Prop} {G : GG} {A : Nat → Prop} {q : Nat → Nat} {fr : va_W}
def f_X5_findsClasses_L80 (yp : Int32) (ye : Int32) (yg : Int32) (KK : (Nat → Int32) → (Nat → Int32) → Int32 → Option ((Nat → Int32) × (Nat → Int32))) : Nat → (Nat → Int32) → (Nat → Int32) → Int32 → Int32 → Int32 → Option ((Nat → Int32) × (Nat → Int32))
  | 0, _, _, _, _, _ => none
  | fu + 1, bPo, bTb, v2, v3, v4 =>
    if yp ≤ v4 then
    KK bPo bTb (v2 + 1)
    else
    if yp = 0 then none else
    if (((v3 - v4) + yp) - ((v3 - v4) + yp) / yp * yp) ≤ 0 then
    f_X5_findsClasses_L80 yp ye yg KK fu bPo bTb v2 v3 (v4 + 1)
    else
    (f_X5_classAt ye bPo v4).bind fun z4 =>
    (f_X5_classAt ye bPo (((v3 - v4) + yp) - ((v3 - v4) + yp) / yp * yp)).bind fun z5 =>
    (f_X5_at z4 z5 v2).bind fun z6 =>
    if inb z6 1728 then
    if inb z6 1728 then
    f_X5_findsClasses_L80 yp ye yg KK fu bPo (upd bTb z6.toNatClampNeg ((bTb z6.toNatClampNeg) + 1)) v2 v3 (v4 + 1)
    else none
    else none
set_option maxHeartbeats 4000000 in
set_option maxRecDepth 100000 in
theorem w_X5_findsClasses_L80 {yp : Int32} {ye : Int32} {yg : Int32} {wSh : Nat → Int64} {wTe : Nat → Int64} {wNx : Nat → Int64} {bOs : Nat → Int32} {bOn : Nat → Int32} {yop : Int32} {bSo : Nat → Int32} {bNu : Nat → Int32} {ytr : Int32} {yiw : Int32} {wMa : Nat → Int64} {wPr : Nat → Int64} {bTp : Nat → Int32} {yln : Int32} {ypl : Int32} {yfa : Int32} {wLi : Nat → Int64} {bSi : Nat → Int32} {yhp : Int32} {yhe : Int32} {yhg : Int32} {wHs : Nat → Int64} {yhi : Int32}  {KK : (Nat → Int32) → (Nat → Int32) → Int32 → Option ((Nat → Int32) × (Nat → Int32))} (F : Fx p s m args meth c cX5_findsClasses 6 RX5 none) (hA : ∀ q, s.heap.size ≤ q → A q)  (hK : ∀ (bPo : Nat → Int32) (bTb : Nat → Int32) (v2 : Int32) (z : (Nat → Int32) × (Nat → Int32)), KK bPo bTb v2 = some z → Ends p l e (rmOf 2 43) s m args below meth c Q cX5_findsClasses G A none (none) (mW G q yp ye yg z.1 z.2 wSh wTe wNx bOs bOn yop bSo bNu ytr yiw wMa wPr bTp yln ypl yfa wLi bSi yhp yhe yhg wHs yhi ++ fr) → ∀ (H : Heap) (locs : List Loc) (ls : Array Slot), Wd G s A (mW G q yp ye yg bPo bTb wSh wTe wNx bOs bOn yop bSo bNu ytr yiw wMa wPr bTp yln ypl yfa wLi bSi yhp yhe yhg wHs yhi ++ fr) H locs → lv_has ls 6 [(0, .ref (q 0)), (2, .int v2)] → W p l e (rmOf 2 43) s m args below meth c H locs 0 0 Q (F0 m 63 ls [])) : ∀ (fu : Nat) (bPo : Nat → Int32) (bTb : Nat → Int32) (v2 : Int32) (v3 : Int32) (v4 : Int32) (z : (Nat → Int32) × (Nat → Int32)), f_X5_findsClasses_L80 yp ye yg KK fu bPo bTb v2 v3 v4 = some z → Ends p l e (rmOf 2 43) s m args below meth c Q cX5_findsClasses G A none (none) (mW G q yp ye yg z.1 z.2 wSh wTe wNx bOs bOn yop bSo bNu ytr yiw wMa wPr bTp yln ypl yfa wLi bSi yhp yhe yhg wHs yhi ++ fr) → ∀ (H : Heap) (locs : List Loc) (ls : Array Slot), Wd G s A (mW G q yp ye yg bPo bTb wSh wTe wNx bOs bOn yop bSo bNu ytr yiw wMa wPr bTp yln ypl yfa wLi bSi yhp yhe yhg wHs yhi ++ fr) H locs → lv_has ls 6 [(0, .ref (q 0)), (2, .int v2), (3, .int v3), (4, .int v4)] → W p l e (rmOf 2 43) s m args below meth c H locs 0 0 Q (F0 m 80 ls []) := by
  have hx := F.x
  have hb := F.b
  intro fu
  induction fu with
  | zero =>
    intro bPo bTb v2 v3 v4 z h
    cases (h : none = some z)
  | succ fu ih =>
    intro bPo bTb v2 v3 v4 z h hE H locs ls hw hl
    rw [f_X5_findsClasses_L80] at h
    refine lv_iload hx hb dX5_findsClasses_80 (lv_at hl 3 rfl) ?_
    refine lv_aload_n hx hb dX5_findsClasses_82 rfl (lv_at hl 0 rfl) ?_
    refine gf_5_62 F hw dX5_findsClasses_83 ?_
    refine lv_icmp_ge (tgt := 141) hx hb dX5_findsClasses_86 (by decide) (fun c1 => ?_) (fun c1 => ?_)
    · replace h := stT c1 h
      refine lv_iinc (v := (v2 + 1)) (lv' := [(2, .int (v2 + 1)), (0, .ref (q 0)), (3, .int v3), (4, .int v4)]) hx hb dX5_findsClasses_141 hl (k := 1) rfl rfl (by decide) rfl (fun ls hl => ?_)
      refine lv_goto (tgt := 63) hx hb dX5_findsClasses_144 (by decide) ?_
      exact hK _ _ _ z h hE H locs ls hw (lv_sub hl [1, 0] rfl)
    · replace h := stF c1 h
      refine lv_iload_n hx hb dX5_findsClasses_89 rfl (lv_at hl 2 rfl) ?_
      refine lv_iload hx hb dX5_findsClasses_90 (lv_at hl 3 rfl) ?_
      refine lv_isub hx hb dX5_findsClasses_92 ?_
      refine lv_aload_n hx hb dX5_findsClasses_93 rfl (lv_at hl 0 rfl) ?_
      refine gf_5_62 F hw dX5_findsClasses_94 ?_
      refine lv_iadd hx hb dX5_findsClasses_97 ?_
      refine lv_aload_n hx hb dX5_findsClasses_98 rfl (lv_at hl 0 rfl) ?_
      refine gf_5_62 F hw dX5_findsClasses_99 ?_
      obtain ⟨g2, h⟩ := stD h
      refine lv_irem hx hb dX5_findsClasses_102 g2 ?_
      refine lv_istore (lv' := [(5, .int (((v3 - v4) + yp) - ((v3 - v4) + yp) / yp * yp)), (0, .ref (q 0)), (2, .int v2), (3, .int v3), (4, .int v4)]) hx hb dX5_findsClasses_103 hl (by decide) rfl (fun ls hl => ?_)
      refine lv_iload hx hb dX5_findsClasses_105 (lv_at hl 0 rfl) ?_
      refine lv_if_le (tgt := 135) hx hb dX5_findsClasses_107 (by decide) (fun c3 => ?_) (fun c3 => ?_)
      · replace h := stT c3 h
        refine lv_iinc (v := (v4 + 1)) (lv' := [(4, .int (v4 + 1)), (5, .int (((v3 - v4) + yp) - ((v3 - v4) + yp) / yp * yp)), (0, .ref (q 0)), (2, .int v2), (3, .int v3)]) hx hb dX5_findsClasses_135 hl (k := 4) rfl rfl (by decide) rfl (fun ls hl => ?_)
        refine lv_goto (tgt := 80) hx hb dX5_findsClasses_138 (by decide) ?_
        exact ih _ _ _ _ _ z h hE H locs ls hw (lv_sub hl [2, 3, 4, 0] rfl)
      · replace h := stF c3 h
        refine lv_aload_n hx hb dX5_findsClasses_110 rfl (lv_at hl 1 rfl) ?_
        refine gf_5_15 F hw dX5_findsClasses_111 ?_
        refine lv_aload_n hx hb dX5_findsClasses_114 rfl (lv_at hl 1 rfl) ?_
        refine lv_iload hx hb dX5_findsClasses_115 (lv_at hl 4 rfl) ?_
        obtain ⟨z4, hz4, h⟩ := stB h
        refine ctV (av := [.int v4]) (st0 := ([.ref (q 2)] : List Value)) (st1 := ([.int z4, .ref (q 2)] : List Value)) F hw hA (k_X5_classAt hz4) kl_5_83 kd_X5_classAt rfl ⟨by decide, by decide⟩ 0 rfl rfl hl.1 rfl (Nat.le_of_ble_eq_true rfl) dX5_findsClasses_117 rfl (fun H locs hw => ?_)
        refine lv_aload_n hx hb dX5_findsClasses_120 rfl (lv_at hl 1 rfl) ?_
        refine lv_iload hx hb dX5_findsClasses_121 (lv_at hl 0 rfl) ?_
        obtain ⟨z5, hz5, h⟩ := stB h
        refine ctV (av := [.int (((v3 - v4) + yp) - ((v3 - v4) + yp) / yp * yp)]) (st0 := ([.int z4, .ref (q 2)] : List Value)) (st1 := ([.int z5, .int z4, .ref (q 2)] : List Value)) F hw hA (k_X5_classAt hz5) kl_5_83 kd_X5_classAt rfl ⟨by decide, by decide⟩ 0 rfl rfl hl.1 rfl (Nat.le_of_ble_eq_true rfl) dX5_findsClasses_123 rfl (fun H locs hw => ?_)
        refine lv_iload_n hx hb dX5_findsClasses_126 rfl (lv_at hl 2 rfl) ?_
        obtain ⟨z6, hz6, h⟩ := stB h
        refine ctS (av := [.int z4, .int z5, .int v2]) (st0 := ([.ref (q 2)] : List Value)) (st1 := ([.int z6, .ref (q 2)] : List Value)) F hw hA (k_X5_at hz6) kl_5_86 kd_X5_at rfl ⟨by decide, by decide⟩ hl.1 rfl (Nat.le_of_ble_eq_true rfl) dX5_findsClasses_127 rfl (fun H locs hw => ?_)
        refine lv_dup2_11 hx hb dX5_findsClasses_130 rfl rfl ?_
        obtain ⟨g7, h⟩ := stG h
        refine al_m2 F hw g7 dX5_findsClasses_131 ?_
        refine lv_iconst (v := 1) hx hb dX5_findsClasses_132 (by decide) ?_
        refine lv_iadd hx hb dX5_findsClasses_133 ?_
        obtain ⟨g8, h⟩ := stG h
        refine as_m2 F hw g8 dX5_findsClasses_134 (fun H locs hw => ?_)
        refine lv_iinc (v := (v4 + 1)) (lv' := [(4, .int (v4 + 1)), (5, .int (((v3 - v4) + yp) - ((v3 - v4) + yp) / yp * yp)), (0, .ref (q 0)), (2, .int v2), (3, .int v3)]) hx hb dX5_findsClasses_135 hl (k := 4) rfl rfl (by decide) rfl (fun ls hl => ?_)
        refine lv_goto (tgt := 80) hx hb dX5_findsClasses_138 (by decide) ?_
        exact ih _ _ _ _ _ z h hE H locs ls hw (lv_sub hl [2, 3, 4, 0] rfl)
def f_X5_findsClasses_L63 (yp : Int32) (ye : Int32) (yg : Int32) : Nat → (Nat → Int32) → (Nat → Int32) → Int32 → Option ((Nat → Int32) × (Nat → Int32))
  | 0, _, _, _ => none
  | fu + 1, bPo, bTb, v2 =>
    if ye ≤ v2 then
    some (bPo, bTb)
    else
    (f_X5_firstOf ye bPo v2).bind fun z2 =>
    f_X5_findsClasses_L80 yp ye yg (fun w0 w1 w2 => f_X5_findsClasses_L63 yp ye yg fu w0 w1 w2) FU bPo bTb v2 z2 1
set_option maxHeartbeats 4000000 in
set_option maxRecDepth 100000 in
theorem w_X5_findsClasses_L63 {yp : Int32} {ye : Int32} {yg : Int32} {wSh : Nat → Int64} {wTe : Nat → Int64} {wNx : Nat → Int64} {bOs : Nat → Int32} {bOn : Nat → Int32} {yop : Int32} {bSo : Nat → Int32} {bNu : Nat → Int32} {ytr : Int32} {yiw : Int32} {wMa : Nat → Int64} {wPr : Nat → Int64} {bTp : Nat → Int32} {yln : Int32} {ypl : Int32} {yfa : Int32} {wLi : Nat → Int64} {bSi : Nat → Int32} {yhp : Int32} {yhe : Int32} {yhg : Int32} {wHs : Nat → Int64} {yhi : Int32}   (F : Fx p s m args meth c cX5_findsClasses 6 RX5 none) (hA : ∀ q, s.heap.size ≤ q → A q)   : ∀ (fu : Nat) (bPo : Nat → Int32) (bTb : Nat → Int32) (v2 : Int32) (z : (Nat → Int32) × (Nat → Int32)), f_X5_findsClasses_L63 yp ye yg fu bPo bTb v2 = some z → Ends p l e (rmOf 2 43) s m args below meth c Q cX5_findsClasses G A none (none) (mW G q yp ye yg z.1 z.2 wSh wTe wNx bOs bOn yop bSo bNu ytr yiw wMa wPr bTp yln ypl yfa wLi bSi yhp yhe yhg wHs yhi ++ fr) → ∀ (H : Heap) (locs : List Loc) (ls : Array Slot), Wd G s A (mW G q yp ye yg bPo bTb wSh wTe wNx bOs bOn yop bSo bNu ytr yiw wMa wPr bTp yln ypl yfa wLi bSi yhp yhe yhg wHs yhi ++ fr) H locs → lv_has ls 6 [(0, .ref (q 0)), (2, .int v2)] → W p l e (rmOf 2 43) s m args below meth c H locs 0 0 Q (F0 m 63 ls []) := by
  have hx := F.x
  have hb := F.b
  intro fu
  induction fu with
  | zero =>
    intro bPo bTb v2 z h
    cases (h : none = some z)
  | succ fu ih =>
    intro bPo bTb v2 z h hE H locs ls hw hl
    rw [f_X5_findsClasses_L63] at h
    refine lv_iload_n hx hb dX5_findsClasses_63 rfl (lv_at hl 1 rfl) ?_
    refine lv_aload_n hx hb dX5_findsClasses_64 rfl (lv_at hl 0 rfl) ?_
    refine gf_5_66 F hw dX5_findsClasses_65 ?_
    refine lv_icmp_ge (tgt := 147) hx hb dX5_findsClasses_68 (by decide) (fun c1 => ?_) (fun c1 => ?_)
    · replace h := stT c1 h
      obtain rfl := Option.some.inj h
      exact hE H locs _ ls hw dX5_findsClasses_147
    · replace h := stF c1 h
      refine lv_aload_n hx hb dX5_findsClasses_71 rfl (lv_at hl 0 rfl) ?_
      refine lv_iload_n hx hb dX5_findsClasses_72 rfl (lv_at hl 1 rfl) ?_
      obtain ⟨z2, hz2, h⟩ := stB h
      refine ctV (av := [.int v2]) (st0 := ([] : List Value)) (st1 := ([.int z2] : List Value)) F hw hA (k_X5_firstOf hz2) kl_5_79 kd_X5_firstOf rfl ⟨by decide, by decide⟩ 0 rfl rfl hl.1 rfl (Nat.le_of_ble_eq_true rfl) dX5_findsClasses_73 rfl (fun H locs hw => ?_)
      refine lv_istore_n (lv' := [(3, .int z2), (0, .ref (q 0)), (2, .int v2)]) hx hb dX5_findsClasses_76 rfl hl (by decide) rfl (fun ls hl => ?_)
      refine lv_iconst (v := 1) hx hb dX5_findsClasses_77 (by decide) ?_
      refine lv_istore (lv' := [(4, .int 1), (3, .int z2), (0, .ref (q 0)), (2, .int v2)]) hx hb dX5_findsClasses_78 hl (by decide) rfl (fun ls hl => ?_)
      exact w_X5_findsClasses_L80 F hA  (fun w0 w1 w2 z h hE H locs ls hw hl => ih w0 w1 w2 z h hE H locs ls hw hl) FU _ _ _ _ _ z h hE H locs ls hw (lv_sub hl [2, 3, 1, 0] rfl)
def f_X5_findsClasses_L41 (yp : Int32) (ye : Int32) (yg : Int32) : Nat → (Nat → Int32) → (Nat → Int32) → Int32 → Option ((Nat → Int32) × (Nat → Int32))
  | 0, _, _, _ => none
  | fu + 1, bPo, bTb, v2 =>
    if 1728 ≤ v2 then
    f_X5_findsClasses_L63 yp ye yg FU bPo bTb 0
    else
    if inb v2 1728 then
    f_X5_findsClasses_L41 yp ye yg fu bPo (upd bTb v2.toNatClampNeg 0) (v2 + 1)
    else none
set_option maxHeartbeats 4000000 in
set_option maxRecDepth 100000 in
theorem w_X5_findsClasses_L41 {yp : Int32} {ye : Int32} {yg : Int32} {wSh : Nat → Int64} {wTe : Nat → Int64} {wNx : Nat → Int64} {bOs : Nat → Int32} {bOn : Nat → Int32} {yop : Int32} {bSo : Nat → Int32} {bNu : Nat → Int32} {ytr : Int32} {yiw : Int32} {wMa : Nat → Int64} {wPr : Nat → Int64} {bTp : Nat → Int32} {yln : Int32} {ypl : Int32} {yfa : Int32} {wLi : Nat → Int64} {bSi : Nat → Int32} {yhp : Int32} {yhe : Int32} {yhg : Int32} {wHs : Nat → Int64} {yhi : Int32}   (F : Fx p s m args meth c cX5_findsClasses 6 RX5 none) (hA : ∀ q, s.heap.size ≤ q → A q)   : ∀ (fu : Nat) (bPo : Nat → Int32) (bTb : Nat → Int32) (v2 : Int32) (z : (Nat → Int32) × (Nat → Int32)), f_X5_findsClasses_L41 yp ye yg fu bPo bTb v2 = some z → Ends p l e (rmOf 2 43) s m args below meth c Q cX5_findsClasses G A none (none) (mW G q yp ye yg z.1 z.2 wSh wTe wNx bOs bOn yop bSo bNu ytr yiw wMa wPr bTp yln ypl yfa wLi bSi yhp yhe yhg wHs yhi ++ fr) → ∀ (H : Heap) (locs : List Loc) (ls : Array Slot), Wd G s A (mW G q yp ye yg bPo bTb wSh wTe wNx bOs bOn yop bSo bNu ytr yiw wMa wPr bTp yln ypl yfa wLi bSi yhp yhe yhg wHs yhi ++ fr) H locs → lv_has ls 6 [(0, .ref (q 0)), (2, .int v2)] → W p l e (rmOf 2 43) s m args below meth c H locs 0 0 Q (F0 m 41 ls []) := by
  have hx := F.x
  have hb := F.b
  intro fu
  induction fu with
  | zero =>
    intro bPo bTb v2 z h
    cases (h : none = some z)
  | succ fu ih =>
    intro bPo bTb v2 z h hE H locs ls hw hl
    rw [f_X5_findsClasses_L41] at h
    refine lv_iload_n hx hb dX5_findsClasses_41 rfl (lv_at hl 1 rfl) ?_
    refine lv_sipush (v := 1728) hx hb dX5_findsClasses_42 (by decide) ?_
    refine lv_icmp_ge (tgt := 61) hx hb dX5_findsClasses_45 (by decide) (fun c1 => ?_) (fun c1 => ?_)
    · replace h := stT c1 h
      refine lv_iconst (v := 0) hx hb dX5_findsClasses_61 (by decide) ?_
      refine lv_istore_n (lv' := [(2, .int 0), (0, .ref (q 0))]) hx hb dX5_findsClasses_62 rfl hl (by decide) rfl (fun ls hl => ?_)
      exact w_X5_findsClasses_L63 F hA  FU _ _ _ z h hE H locs ls hw (lv_sub hl [1, 0] rfl)
    · replace h := stF c1 h
      refine lv_aload_n hx hb dX5_findsClasses_48 rfl (lv_at hl 0 rfl) ?_
      refine gf_5_15 F hw dX5_findsClasses_49 ?_
      refine lv_iload_n hx hb dX5_findsClasses_52 rfl (lv_at hl 1 rfl) ?_
      refine lv_iconst (v := 0) hx hb dX5_findsClasses_53 (by decide) ?_
      obtain ⟨g2, h⟩ := stG h
      refine as_m2 F hw g2 dX5_findsClasses_54 (fun H locs hw => ?_)
      refine lv_iinc (v := (v2 + 1)) (lv' := [(2, .int (v2 + 1)), (0, .ref (q 0))]) hx hb dX5_findsClasses_55 hl (k := 1) rfl rfl (by decide) rfl (fun ls hl => ?_)
      refine lv_goto (tgt := 41) hx hb dX5_findsClasses_58 (by decide) ?_
      exact ih _ _ _ z h hE H locs ls hw (lv_sub hl [1, 0] rfl)
def f_X5_findsClasses_L4 (yp : Int32) (ye : Int32) (yg : Int32) : Nat → (Nat → Int32) → (Nat → Int32) → Int32 → Int32 → Option ((Nat → Int32) × (Nat → Int32))
  | 0, _, _, _, _ => none
  | fu + 1, bPo, bTb, v1, v2 =>
    if (yp - 1) ≤ v2 then
    f_X5_findsClasses_L41 yp ye yg FU bPo bTb 0
    else
    if inb v1 62 then
    if yp = 0 then none else
    f_X5_findsClasses_L4 yp ye yg fu (upd bPo v1.toNatClampNeg v2) bTb ((v1 * yg) - (v1 * yg) / yp * yp) (v2 + 1)
    else none
set_option maxHeartbeats 4000000 in
set_option maxRecDepth 100000 in
theorem w_X5_findsClasses_L4 {yp : Int32} {ye : Int32} {yg : Int32} {wSh : Nat → Int64} {wTe : Nat → Int64} {wNx : Nat → Int64} {bOs : Nat → Int32} {bOn : Nat → Int32} {yop : Int32} {bSo : Nat → Int32} {bNu : Nat → Int32} {ytr : Int32} {yiw : Int32} {wMa : Nat → Int64} {wPr : Nat → Int64} {bTp : Nat → Int32} {yln : Int32} {ypl : Int32} {yfa : Int32} {wLi : Nat → Int64} {bSi : Nat → Int32} {yhp : Int32} {yhe : Int32} {yhg : Int32} {wHs : Nat → Int64} {yhi : Int32}   (F : Fx p s m args meth c cX5_findsClasses 6 RX5 none) (hA : ∀ q, s.heap.size ≤ q → A q)   : ∀ (fu : Nat) (bPo : Nat → Int32) (bTb : Nat → Int32) (v1 : Int32) (v2 : Int32) (z : (Nat → Int32) × (Nat → Int32)), f_X5_findsClasses_L4 yp ye yg fu bPo bTb v1 v2 = some z → Ends p l e (rmOf 2 43) s m args below meth c Q cX5_findsClasses G A none (none) (mW G q yp ye yg z.1 z.2 wSh wTe wNx bOs bOn yop bSo bNu ytr yiw wMa wPr bTp yln ypl yfa wLi bSi yhp yhe yhg wHs yhi ++ fr) → ∀ (H : Heap) (locs : List Loc) (ls : Array Slot), Wd G s A (mW G q yp ye yg bPo bTb wSh wTe wNx bOs bOn yop bSo bNu ytr yiw wMa wPr bTp yln ypl yfa wLi bSi yhp yhe yhg wHs yhi ++ fr) H locs → lv_has ls 6 [(0, .ref (q 0)), (1, .int v1), (2, .int v2)] → W p l e (rmOf 2 43) s m args below meth c H locs 0 0 Q (F0 m 4 ls []) := by
  have hx := F.x
  have hb := F.b
  intro fu
  induction fu with
  | zero =>
    intro bPo bTb v1 v2 z h
    cases (h : none = some z)
  | succ fu ih =>
    intro bPo bTb v1 v2 z h hE H locs ls hw hl
    rw [f_X5_findsClasses_L4] at h
    refine lv_iload_n hx hb dX5_findsClasses_4 rfl (lv_at hl 2 rfl) ?_
    refine lv_aload_n hx hb dX5_findsClasses_5 rfl (lv_at hl 0 rfl) ?_
    refine gf_5_62 F hw dX5_findsClasses_6 ?_
    refine lv_iconst (v := 1) hx hb dX5_findsClasses_9 (by decide) ?_
    refine lv_isub hx hb dX5_findsClasses_10 ?_
    refine lv_icmp_ge (tgt := 39) hx hb dX5_findsClasses_11 (by decide) (fun c1 => ?_) (fun c1 => ?_)
    · replace h := stT c1 h
      refine lv_iconst (v := 0) hx hb dX5_findsClasses_39 (by decide) ?_
      refine lv_istore_n (lv' := [(2, .int 0), (0, .ref (q 0)), (1, .int v1)]) hx hb dX5_findsClasses_40 rfl hl (by decide) rfl (fun ls hl => ?_)
      exact w_X5_findsClasses_L41 F hA  FU _ _ _ z h hE H locs ls hw (lv_sub hl [1, 0] rfl)
    · replace h := stF c1 h
      refine lv_aload_n hx hb dX5_findsClasses_14 rfl (lv_at hl 0 rfl) ?_
      refine gf_5_11 F hw dX5_findsClasses_15 ?_
      refine lv_iload_n hx hb dX5_findsClasses_18 rfl (lv_at hl 1 rfl) ?_
      refine lv_iload_n hx hb dX5_findsClasses_19 rfl (lv_at hl 2 rfl) ?_
      obtain ⟨g2, h⟩ := stG h
      refine as_m1 F hw g2 dX5_findsClasses_20 (fun H locs hw => ?_)
      refine lv_iload_n hx hb dX5_findsClasses_21 rfl (lv_at hl 1 rfl) ?_
      refine lv_aload_n hx hb dX5_findsClasses_22 rfl (lv_at hl 0 rfl) ?_
      refine gf_5_69 F hw dX5_findsClasses_23 ?_
      refine lv_imul hx hb dX5_findsClasses_26 ?_
      refine lv_aload_n hx hb dX5_findsClasses_27 rfl (lv_at hl 0 rfl) ?_
      refine gf_5_62 F hw dX5_findsClasses_28 ?_
      obtain ⟨g3, h⟩ := stD h
      refine lv_irem hx hb dX5_findsClasses_31 g3 ?_
      refine lv_istore_n (lv' := [(1, .int ((v1 * yg) - (v1 * yg) / yp * yp)), (0, .ref (q 0)), (2, .int v2)]) hx hb dX5_findsClasses_32 rfl hl (by decide) rfl (fun ls hl => ?_)
      refine lv_iinc (v := (v2 + 1)) (lv' := [(2, .int (v2 + 1)), (1, .int ((v1 * yg) - (v1 * yg) / yp * yp)), (0, .ref (q 0))]) hx hb dX5_findsClasses_33 hl (k := 2) rfl rfl (by decide) rfl (fun ls hl => ?_)
      refine lv_goto (tgt := 4) hx hb dX5_findsClasses_36 (by decide) ?_
      exact ih _ _ _ _ z h hE H locs ls hw (lv_sub hl [2, 1, 0] rfl)
def f_X5_findsClasses (yp : Int32) (ye : Int32) (yg : Int32) (bPo : Nat → Int32) (bTb : Nat → Int32) : Option ((Nat → Int32) × (Nat → Int32)) :=
  f_X5_findsClasses_L4 yp ye yg FU bPo bTb 1 0
set_option maxHeartbeats 4000000 in
set_option maxRecDepth 100000 in
theorem k_X5_findsClasses {l : Launch} {G : GG} {q : Nat → Nat} {fr : va_W} {yp : Int32} {ye : Int32} {yg : Int32} {bPo : Nat → Int32} {bTb : Nat → Int32} {wSh : Nat → Int64} {wTe : Nat → Int64} {wNx : Nat → Int64} {bOs : Nat → Int32} {bOn : Nat → Int32} {yop : Int32} {bSo : Nat → Int32} {bNu : Nat → Int32} {ytr : Int32} {yiw : Int32} {wMa : Nat → Int64} {wPr : Nat → Int64} {bTp : Nat → Int32} {yln : Int32} {ypl : Int32} {yfa : Int32} {wLi : Nat → Int64} {bSi : Nat → Int32} {yhp : Int32} {yhe : Int32} {yhg : Int32} {wHs : Nat → Int64} {yhi : Int32}  {z : (Nat → Int32) × (Nat → Int32)}  (h : f_X5_findsClasses yp ye yg bPo bTb = some z) : Ct l G yX5_findsClasses cX5_findsClasses 6 none 2 43 [.ref (q 0)] (mW G q yp ye yg bPo bTb wSh wTe wNx bOs bOn yop bSo bNu ytr yiw wMa wPr bTp yln ypl yfa wLi bSi yhp yhe yhg wHs yhi ++ fr) (none) (mW G q yp ye yg z.1 z.2 wSh wTe wNx bOs bOn yop bSo bNu ytr yiw wMa wPr bTp yln ypl yfa wLi bSi yhp yhe yhg wHs yhi ++ fr) := by
  refine Ct.of (by decide) (Nat.le_of_ble_eq_true rfl) trivial ?_
  intro p e s m args below meth c Q A ls F hw hA hE hl
  have hx := F.x
  have hb := F.b
  unfold f_X5_findsClasses at h
  obtain ⟨H, hH⟩ : ∃ H, H = s.heap := ⟨_, rfl⟩
  obtain ⟨locs, hlo⟩ : ∃ locs : List Loc, locs = [] := ⟨_, rfl⟩
  rw [← hH, ← hlo] at hw ⊢
  have hl : lv_has ls 6 [(0, .ref (q 0))] := hl
  refine lv_iconst (v := 1) hx hb dX5_findsClasses_0 (by decide) ?_
  refine lv_istore_n (lv' := [(1, .int 1), (0, .ref (q 0))]) hx hb dX5_findsClasses_1 rfl hl (by decide) rfl (fun ls hl => ?_)
  refine lv_iconst (v := 0) hx hb dX5_findsClasses_2 (by decide) ?_
  refine lv_istore_n (lv' := [(2, .int 0), (1, .int 1), (0, .ref (q 0))]) hx hb dX5_findsClasses_3 rfl hl (by decide) rfl (fun ls hl => ?_)
  exact w_X5_findsClasses_L4 F hA  FU _ _ _ _ z h hE H locs ls hw (lv_sub hl [2, 1, 0] rfl)
end
theorem dX5_begins_0 : decode cX5_begins 0 = .ok (.aload_n 0, 1) := by decide +kernel
theorem dX5_begins_1 : decode cX5_begins 1 = .ok (.iload_n 1, 1) := by decide +kernel
theorem dX5_begins_2 : decode cX5_begins 2 = .ok (.putfield 62, 3) := by decide +kernel
theorem dX5_begins_5 : decode cX5_begins 5 = .ok (.aload_n 0, 1) := by decide +kernel
theorem dX5_begins_6 : decode cX5_begins 6 = .ok (.iload_n 2, 1) := by decide +kernel
theorem dX5_begins_7 : decode cX5_begins 7 = .ok (.putfield 66, 3) := by decide +kernel
theorem dX5_begins_10 : decode cX5_begins 10 = .ok (.aload_n 0, 1) := by decide +kernel
theorem dX5_begins_11 : decode cX5_begins 11 = .ok (.iconst 1, 1) := by decide +kernel
theorem dX5_begins_12 : decode cX5_begins 12 = .ok (.putfield 69, 3) := by decide +kernel
theorem dX5_begins_15 : decode cX5_begins 15 = .ok (.aload_n 0, 1) := by decide +kernel
theorem dX5_begins_16 : decode cX5_begins 16 = .ok (.aload_n 0, 1) := by decide +kernel
theorem dX5_begins_17 : decode cX5_begins 17 = .ok (.getfield 69, 3) := by decide +kernel
theorem dX5_begins_20 : decode cX5_begins 20 = .ok (.invokevirtual 72, 3) := by decide +kernel
theorem dX5_begins_23 : decode cX5_begins 23 = .ok (.ifCond .ne 16, 3) := by decide +kernel
theorem dX5_begins_26 : decode cX5_begins 26 = .ok (.aload_n 0, 1) := by decide +kernel
theorem dX5_begins_27 : decode cX5_begins 27 = .ok (.dup, 1) := by decide +kernel
theorem dX5_begins_28 : decode cX5_begins 28 = .ok (.getfield 69, 3) := by decide +kernel
theorem dX5_begins_31 : decode cX5_begins 31 = .ok (.iconst 1, 1) := by decide +kernel
theorem dX5_begins_32 : decode cX5_begins 32 = .ok (.iadd, 1) := by decide +kernel
theorem dX5_begins_33 : decode cX5_begins 33 = .ok (.putfield 69, 3) := by decide +kernel
theorem dX5_begins_36 : decode cX5_begins 36 = .ok (.goto (-21), 3) := by decide +kernel
theorem dX5_begins_39 : decode cX5_begins 39 = .ok (.iconst 0, 1) := by decide +kernel
theorem dX5_begins_40 : decode cX5_begins 40 = .ok (.istore_n 3, 1) := by decide +kernel
theorem dX5_begins_41 : decode cX5_begins 41 = .ok (.iload_n 3, 1) := by decide +kernel
theorem dX5_begins_42 : decode cX5_begins 42 = .ok (.bipush 48, 2) := by decide +kernel
theorem dX5_begins_44 : decode cX5_begins 44 = .ok (.if_icmp .ge 16, 3) := by decide +kernel
theorem dX5_begins_47 : decode cX5_begins 47 = .ok (.aload_n 0, 1) := by decide +kernel
theorem dX5_begins_48 : decode cX5_begins 48 = .ok (.getfield 18, 3) := by decide +kernel
theorem dX5_begins_51 : decode cX5_begins 51 = .ok (.iload_n 3, 1) := by decide +kernel
theorem dX5_begins_52 : decode cX5_begins 52 = .ok (.lconst 0, 1) := by decide +kernel
theorem dX5_begins_53 : decode cX5_begins 53 = .ok (.lastore, 1) := by decide +kernel
theorem dX5_begins_54 : decode cX5_begins 54 = .ok (.iinc 3 1, 3) := by decide +kernel
theorem dX5_begins_57 : decode cX5_begins 57 = .ok (.goto (-16), 3) := by decide +kernel
theorem dX5_begins_60 : decode cX5_begins 60 = .ok (.aload_n 0, 1) := by decide +kernel
theorem dX5_begins_61 : decode cX5_begins 61 = .ok (.invokevirtual 76, 3) := by decide +kernel
theorem dX5_begins_64 : decode cX5_begins 64 = .ok (.return_, 1) := by decide +kernel
section
variable {p : Program} {l : Launch} {e : Env} {s : State} {m : MethodId} {args : Array Value} {below : List Frame} {meth : Method} {c : Code} {Q : State → Prop} {G : GG} {A : Nat → Prop} {q : Nat → Nat} {fr : va_W}
def f_X5_begins_L41 (v1 : Int32) (v2 : Int32) : Nat → Int32 → Int32 → Int32 → (Nat → Int32) → (Nat → Int32) → (Nat → Int64) → Int32 → Option (Int32 × Int32 × Int32 × (Nat → Int32) × (Nat → Int32) × (Nat → Int64))
  | 0, _, _, _, _, _, _, _ => none
  | fu + 1, yp, ye, yg, bPo, bTb, wSh, v3 =>
    if 48 ≤ v3 then
    (f_X5_findsClasses yp ye yg bPo bTb).bind fun z2 =>
    some (yp, ye, yg, z2.1, z2.2, wSh)
    else
    if inb v3 48 then
    f_X5_begins_L41 v1 v2 fu yp ye yg bPo bTb (vp_updL wSh v3.toNatClampNeg 0) (v3 + 1)
    else none
set_option maxHeartbeats 4000000 in
set_option maxRecDepth 100000 in
theorem w_X5_begins_L41 {wTe : Nat → Int64} {wNx : Nat → Int64} {bOs : Nat → Int32} {bOn : Nat → Int32} {yop : Int32} {bSo : Nat → Int32} {bNu : Nat → Int32} {ytr : Int32} {yiw : Int32} {wMa : Nat → Int64} {wPr : Nat → Int64} {bTp : Nat → Int32} {yln : Int32} {ypl : Int32} {yfa : Int32} {wLi : Nat → Int64} {bSi : Nat → Int32} {yhp : Int32} {yhe : Int32} {yhg : Int32} {wHs : Nat → Int64} {yhi : Int32} {v1 : Int32} {v2 : Int32}  (F : Fx p s m args meth c cX5_begins 4 RX5 none) (hA : ∀ q, s.heap.size ≤ q → A q)   : ∀ (fu : Nat) (yp : Int32) (ye : Int32) (yg : Int32) (bPo : Nat → Int32) (bTb : Nat → Int32) (wSh : Nat → Int64) (v3 : Int32) (z : Int32 × Int32 × Int32 × (Nat → Int32) × (Nat → Int32) × (Nat → Int64)), f_X5_begins_L41 v1 v2 fu yp ye yg bPo bTb wSh v3 = some z → Ends p l e (rmOf 3 68) s m args below meth c Q cX5_begins G A none (none) (mW G q z.1 z.2.1 z.2.2.1 z.2.2.2.1 z.2.2.2.2.1 z.2.2.2.2.2 wTe wNx bOs bOn yop bSo bNu ytr yiw wMa wPr bTp yln ypl yfa wLi bSi yhp yhe yhg wHs yhi ++ fr) → ∀ (H : Heap) (locs : List Loc) (ls : Array Slot), Wd G s A (mW G q yp ye yg bPo bTb wSh wTe wNx bOs bOn yop bSo bNu ytr yiw wMa wPr bTp yln ypl yfa wLi bSi yhp yhe yhg wHs yhi ++ fr) H locs → lv_has ls 4 [(0, .ref (q 0)), (3, .int v3)] → W p l e (rmOf 3 68) s m args below meth c H locs 0 0 Q (F0 m 41 ls []) := by
  have hx := F.x
  have hb := F.b
  intro fu
  induction fu with
  | zero =>
    intro yp ye yg bPo bTb wSh v3 z h
    cases (h : none = some z)
  | succ fu ih =>
    intro yp ye yg bPo bTb wSh v3 z h hE H locs ls hw hl
    rw [f_X5_begins_L41] at h
    refine lv_iload_n hx hb dX5_begins_41 rfl (lv_at hl 1 rfl) ?_
    refine lv_bipush (v := 48) hx hb dX5_begins_42 (by decide) ?_
    refine lv_icmp_ge (tgt := 60) hx hb dX5_begins_44 (by decide) (fun c1 => ?_) (fun c1 => ?_)
    · replace h := stT c1 h
      refine lv_aload_n hx hb dX5_begins_60 rfl (lv_at hl 0 rfl) ?_
      obtain ⟨z2, hz2, h⟩ := stB h
      refine ctV (av := []) (st0 := ([] : List Value)) (st1 := ([] : List Value)) F hw hA (k_X5_findsClasses hz2) kl_5_76 kd_X5_findsClasses rfl ⟨by decide, by decide⟩ 0 rfl rfl hl.1 rfl (Nat.le_of_ble_eq_true rfl) dX5_begins_61 rfl (fun H locs hw => ?_)
      obtain rfl := Option.some.inj h
      exact hE H locs _ ls hw dX5_begins_64
    · replace h := stF c1 h
      refine lv_aload_n hx hb dX5_begins_47 rfl (lv_at hl 0 rfl) ?_
      refine gf_5_18 F hw dX5_begins_48 ?_
      refine lv_iload_n hx hb dX5_begins_51 rfl (lv_at hl 1 rfl) ?_
      refine lv_lconst (v := 0) hx hb dX5_begins_52 (by decide) ?_
      obtain ⟨g3, h⟩ := stG h
      refine as_m3 F hw g3 dX5_begins_53 (fun H locs hw => ?_)
      refine lv_iinc (v := (v3 + 1)) (lv' := [(3, .int (v3 + 1)), (0, .ref (q 0))]) hx hb dX5_begins_54 hl (k := 1) rfl rfl (by decide) rfl (fun ls hl => ?_)
      refine lv_goto (tgt := 41) hx hb dX5_begins_57 (by decide) ?_
      exact ih _ _ _ _ _ _ _ z h hE H locs ls hw (lv_sub hl [1, 0] rfl)
def f_X5_begins_L15 (v1 : Int32) (v2 : Int32) : Nat → Int32 → Int32 → Int32 → (Nat → Int32) → (Nat → Int32) → (Nat → Int64) → Option (Int32 × Int32 × Int32 × (Nat → Int32) × (Nat → Int32) × (Nat → Int64))
  | 0, _, _, _, _, _, _ => none
  | fu + 1, yp, ye, yg, bPo, bTb, wSh =>
    (f_X5_isGenerator yp yg).bind fun z1 =>
    if z1 = 0 then
    f_X5_begins_L15 v1 v2 fu yp ye (yg + 1) bPo bTb wSh
    else
    f_X5_begins_L41 v1 v2 FU yp ye yg bPo bTb wSh 0
set_option maxHeartbeats 4000000 in
set_option maxRecDepth 100000 in
theorem w_X5_begins_L15 {wTe : Nat → Int64} {wNx : Nat → Int64} {bOs : Nat → Int32} {bOn : Nat → Int32} {yop : Int32} {bSo : Nat → Int32} {bNu : Nat → Int32} {ytr : Int32} {yiw : Int32} {wMa : Nat → Int64} {wPr : Nat → Int64} {bTp : Nat → Int32} {yln : Int32} {ypl : Int32} {yfa : Int32} {wLi : Nat → Int64} {bSi : Nat → Int32} {yhp : Int32} {yhe : Int32} {yhg : Int32} {wHs : Nat → Int64} {yhi : Int32} {v1 : Int32} {v2 : Int32}  (F : Fx p s m args meth c cX5_begins 4 RX5 none) (hA : ∀ q, s.heap.size ≤ q → A q)   : ∀ (fu : Nat) (yp : Int32) (ye : Int32) (yg : Int32) (bPo : Nat → Int32) (bTb : Nat → Int32) (wSh : Nat → Int64) (z : Int32 × Int32 × Int32 × (Nat → Int32) × (Nat → Int32) × (Nat → Int64)), f_X5_begins_L15 v1 v2 fu yp ye yg bPo bTb wSh = some z → Ends p l e (rmOf 3 68) s m args below meth c Q cX5_begins G A none (none) (mW G q z.1 z.2.1 z.2.2.1 z.2.2.2.1 z.2.2.2.2.1 z.2.2.2.2.2 wTe wNx bOs bOn yop bSo bNu ytr yiw wMa wPr bTp yln ypl yfa wLi bSi yhp yhe yhg wHs yhi ++ fr) → ∀ (H : Heap) (locs : List Loc) (ls : Array Slot), Wd G s A (mW G q yp ye yg bPo bTb wSh wTe wNx bOs bOn yop bSo bNu ytr yiw wMa wPr bTp yln ypl yfa wLi bSi yhp yhe yhg wHs yhi ++ fr) H locs → lv_has ls 4 [(0, .ref (q 0))] → W p l e (rmOf 3 68) s m args below meth c H locs 0 0 Q (F0 m 15 ls []) := by
  have hx := F.x
  have hb := F.b
  intro fu
  induction fu with
  | zero =>
    intro yp ye yg bPo bTb wSh z h
    cases (h : none = some z)
  | succ fu ih =>
    intro yp ye yg bPo bTb wSh z h hE H locs ls hw hl
    rw [f_X5_begins_L15] at h
    refine lv_aload_n hx hb dX5_begins_15 rfl (lv_at hl 0 rfl) ?_
    refine lv_aload_n hx hb dX5_begins_16 rfl (lv_at hl 0 rfl) ?_
    refine gf_5_69 F hw dX5_begins_17 ?_
    obtain ⟨z1, hz1, h⟩ := stB h
    refine ctV (av := [.int yg]) (st0 := ([] : List Value)) (st1 := ([.int z1] : List Value)) F hw hA (k_X5_isGenerator hz1) kl_5_72 kd_X5_isGenerator rfl ⟨by decide, by decide⟩ 0 rfl rfl hl.1 rfl (Nat.le_of_ble_eq_true rfl) dX5_begins_20 rfl (fun H locs hw => ?_)
    refine lv_if_ne (tgt := 39) hx hb dX5_begins_23 (by decide) (fun c2 => ?_) (fun c2 => ?_)
    · replace h := stF c2 h
      refine lv_iconst (v := 0) hx hb dX5_begins_39 (by decide) ?_
      refine lv_istore_n (lv' := [(3, .int 0), (0, .ref (q 0))]) hx hb dX5_begins_40 rfl hl (by decide) rfl (fun ls hl => ?_)
      exact w_X5_begins_L41 F hA  FU _ _ _ _ _ _ _ z h hE H locs ls hw (lv_sub hl [1, 0] rfl)
    · replace h := stT c2 h
      refine lv_aload_n hx hb dX5_begins_26 rfl (lv_at hl 0 rfl) ?_
      refine lv_dup hx hb dX5_begins_27 rfl ?_
      refine gf_5_69 F hw dX5_begins_28 ?_
      refine lv_iconst (v := 1) hx hb dX5_begins_31 (by decide) ?_
      refine lv_iadd hx hb dX5_begins_32 ?_
      refine pf_5_69 F hw dX5_begins_33 (fun H locs hw => ?_)
      refine lv_goto (tgt := 15) hx hb dX5_begins_36 (by decide) ?_
      exact ih _ _ _ _ _ _ z h hE H locs ls hw (lv_sub hl [0] rfl)
def f_X5_begins (yp : Int32) (ye : Int32) (yg : Int32) (bPo : Nat → Int32) (bTb : Nat → Int32) (wSh : Nat → Int64) (v1 : Int32) (v2 : Int32) : Option (Int32 × Int32 × Int32 × (Nat → Int32) × (Nat → Int32) × (Nat → Int64)) :=
  f_X5_begins_L15 v1 v2 FU v1 v2 1 bPo bTb wSh
set_option maxHeartbeats 4000000 in
set_option maxRecDepth 100000 in
theorem k_X5_begins {l : Launch} {G : GG} {q : Nat → Nat} {fr : va_W} {yp : Int32} {ye : Int32} {yg : Int32} {bPo : Nat → Int32} {bTb : Nat → Int32} {wSh : Nat → Int64} {wTe : Nat → Int64} {wNx : Nat → Int64} {bOs : Nat → Int32} {bOn : Nat → Int32} {yop : Int32} {bSo : Nat → Int32} {bNu : Nat → Int32} {ytr : Int32} {yiw : Int32} {wMa : Nat → Int64} {wPr : Nat → Int64} {bTp : Nat → Int32} {yln : Int32} {ypl : Int32} {yfa : Int32} {wLi : Nat → Int64} {bSi : Nat → Int32} {yhp : Int32} {yhe : Int32} {yhg : Int32} {wHs : Nat → Int64} {yhi : Int32} {v1 : Int32} {v2 : Int32} {z : Int32 × Int32 × Int32 × (Nat → Int32) × (Nat → Int32) × (Nat → Int64)}  (h : f_X5_begins yp ye yg bPo bTb wSh v1 v2 = some z) : Ct l G yX5_begins cX5_begins 4 none 3 68 [.ref (q 0), .int v1, .int v2] (mW G q yp ye yg bPo bTb wSh wTe wNx bOs bOn yop bSo bNu ytr yiw wMa wPr bTp yln ypl yfa wLi bSi yhp yhe yhg wHs yhi ++ fr) (none) (mW G q z.1 z.2.1 z.2.2.1 z.2.2.2.1 z.2.2.2.2.1 z.2.2.2.2.2 wTe wNx bOs bOn yop bSo bNu ytr yiw wMa wPr bTp yln ypl yfa wLi bSi yhp yhe yhg wHs yhi ++ fr) := by
  refine Ct.of (by decide) (Nat.le_of_ble_eq_true rfl) trivial ?_
  intro p e s m args below meth c Q A ls F hw hA hE hl
  have hx := F.x
  have hb := F.b
  unfold f_X5_begins at h
  obtain ⟨H, hH⟩ : ∃ H, H = s.heap := ⟨_, rfl⟩
  obtain ⟨locs, hlo⟩ : ∃ locs : List Loc, locs = [] := ⟨_, rfl⟩
  rw [← hH, ← hlo] at hw ⊢
  have hl : lv_has ls 4 [(0, .ref (q 0)), (1, .int v1), (2, .int v2)] := hl
  refine lv_aload_n hx hb dX5_begins_0 rfl (lv_at hl 0 rfl) ?_
  refine lv_iload_n hx hb dX5_begins_1 rfl (lv_at hl 1 rfl) ?_
  refine pf_5_62 F hw dX5_begins_2 (fun H locs hw => ?_)
  refine lv_aload_n hx hb dX5_begins_5 rfl (lv_at hl 0 rfl) ?_
  refine lv_iload_n hx hb dX5_begins_6 rfl (lv_at hl 2 rfl) ?_
  refine pf_5_66 F hw dX5_begins_7 (fun H locs hw => ?_)
  refine lv_aload_n hx hb dX5_begins_10 rfl (lv_at hl 0 rfl) ?_
  refine lv_iconst (v := 1) hx hb dX5_begins_11 (by decide) ?_
  refine pf_5_69 F hw dX5_begins_12 (fun H locs hw => ?_)
  exact w_X5_begins_L15 F hA  FU _ _ _ _ _ _ z h hE H locs ls hw (lv_sub hl [0] rfl)
end
theorem dX5_isClass_0 : decode cX5_isClass 0 = .ok (.iload_n 1, 1) := by decide +kernel
theorem dX5_isClass_1 : decode cX5_isClass 1 = .ok (.i2l, 1) := by decide +kernel
theorem dX5_isClass_2 : decode cX5_isClass 2 = .ok (.lconst 0, 1) := by decide +kernel
theorem dX5_isClass_3 : decode cX5_isClass 3 = .ok (.aload_n 0, 1) := by decide +kernel
theorem dX5_isClass_4 : decode cX5_isClass 4 = .ok (.getfield 66, 3) := by decide +kernel
theorem dX5_isClass_7 : decode cX5_isClass 7 = .ok (.iconst 1, 1) := by decide +kernel
theorem dX5_isClass_8 : decode cX5_isClass 8 = .ok (.isub, 1) := by decide +kernel
theorem dX5_isClass_9 : decode cX5_isClass 9 = .ok (.i2l, 1) := by decide +kernel
theorem dX5_isClass_10 : decode cX5_isClass 10 = .ok (.invokestatic 90, 3) := by decide +kernel
theorem dX5_isClass_13 : decode cX5_isClass 13 = .ok (.ireturn, 1) := by decide +kernel
section
variable {p : Program} {l : Launch} {e : Env} {s : State} {m : MethodId} {args : Array Value} {below : List Frame} {meth : Method} {c : Code} {Q : State → Prop} {G : GG} {A : Nat → Prop} {q : Nat → Nat} {fr : va_W}
def f_X5_isClass (ye : Int32) (v1 : Int32) : Option (Int32) :=
  (f_X5_in v1.toInt64 0 ((ye - 1).toInt64)).bind fun z1 =>
  if z1 = 0 ∨ z1 = 1 then
  some z1
  else none
set_option maxHeartbeats 4000000 in
set_option maxRecDepth 100000 in
theorem k_X5_isClass {l : Launch} {G : GG} {q : Nat → Nat} {fr : va_W} {yp : Int32} {ye : Int32} {yg : Int32} {bPo : Nat → Int32} {bTb : Nat → Int32} {wSh : Nat → Int64} {wTe : Nat → Int64} {wNx : Nat → Int64} {bOs : Nat → Int32} {bOn : Nat → Int32} {yop : Int32} {bSo : Nat → Int32} {bNu : Nat → Int32} {ytr : Int32} {yiw : Int32} {wMa : Nat → Int64} {wPr : Nat → Int64} {bTp : Nat → Int32} {yln : Int32} {ypl : Int32} {yfa : Int32} {wLi : Nat → Int64} {bSi : Nat → Int32} {yhp : Int32} {yhe : Int32} {yhg : Int32} {wHs : Nat → Int64} {yhi : Int32} {v1 : Int32} {z : Int32}  (h : f_X5_isClass ye v1 = some z) : Ct l G yX5_isClass cX5_isClass 2 (some .boolean) 1 25 [.ref (q 0), .int v1] (mW G q yp ye yg bPo bTb wSh wTe wNx bOs bOn yop bSo bNu ytr yiw wMa wPr bTp yln ypl yfa wLi bSi yhp yhe yhg wHs yhi ++ fr) (some (.int z)) (mW G q yp ye yg bPo bTb wSh wTe wNx bOs bOn yop bSo bNu ytr yiw wMa wPr bTp yln ypl yfa wLi bSi yhp yhe yhg wHs yhi ++ fr) := by
  refine Ct.of (by decide) (Nat.le_of_ble_eq_true rfl) trivial ?_
  intro p e s m args below meth c Q A ls F hw hA hE hl
  have hx := F.x
  have hb := F.b
  unfold f_X5_isClass at h
  obtain ⟨H, hH⟩ : ∃ H, H = s.heap := ⟨_, rfl⟩
  obtain ⟨locs, hlo⟩ : ∃ locs : List Loc, locs = [] := ⟨_, rfl⟩
  rw [← hH, ← hlo] at hw ⊢
  have hl : lv_has ls 2 [(0, .ref (q 0)), (1, .int v1)] := hl
  refine lv_iload_n hx hb dX5_isClass_0 rfl (lv_at hl 1 rfl) ?_
  refine lv_i2l (v := v1.toInt64) hx hb dX5_isClass_1 rfl ?_
  refine lv_lconst (v := 0) hx hb dX5_isClass_2 (by decide) ?_
  refine lv_aload_n hx hb dX5_isClass_3 rfl (lv_at hl 0 rfl) ?_
  refine gf_5_66 F hw dX5_isClass_4 ?_
  refine lv_iconst (v := 1) hx hb dX5_isClass_7 (by decide) ?_
  refine lv_isub hx hb dX5_isClass_8 ?_
  refine lv_i2l (v := (ye - 1).toInt64) hx hb dX5_isClass_9 rfl ?_
  obtain ⟨z1, hz1, h⟩ := stB h
  refine ctS (av := [.long v1.toInt64, .long 0, .long ((ye - 1).toInt64)]) (st0 := ([] : List Value)) (st1 := ([.int z1] : List Value)) F hw hA (k_X5_in hz1) kl_5_90 kd_X5_in rfl ⟨by decide, by decide⟩ hl.1 rfl (Nat.le_of_ble_eq_true rfl) dX5_isClass_10 rfl (fun H locs hw => ?_)
  obtain ⟨g2, h⟩ := stG h
  obtain rfl := Option.some.inj h
  exact hE H locs _ ls hw g2 dX5_isClass_13
end
theorem dX5_isNumber_0 : decode cX5_isNumber 0 = .ok (.iload_n 1, 1) := by decide +kernel
theorem dX5_isNumber_1 : decode cX5_isNumber 1 = .ok (.i2l, 1) := by decide +kernel
theorem dX5_isNumber_2 : decode cX5_isNumber 2 = .ok (.lconst 1, 1) := by decide +kernel
theorem dX5_isNumber_3 : decode cX5_isNumber 3 = .ok (.aload_n 0, 1) := by decide +kernel
theorem dX5_isNumber_4 : decode cX5_isNumber 4 = .ok (.getfield 62, 3) := by decide +kernel
theorem dX5_isNumber_7 : decode cX5_isNumber 7 = .ok (.iconst 1, 1) := by decide +kernel
theorem dX5_isNumber_8 : decode cX5_isNumber 8 = .ok (.isub, 1) := by decide +kernel
theorem dX5_isNumber_9 : decode cX5_isNumber 9 = .ok (.i2l, 1) := by decide +kernel
theorem dX5_isNumber_10 : decode cX5_isNumber 10 = .ok (.invokestatic 90, 3) := by decide +kernel
theorem dX5_isNumber_13 : decode cX5_isNumber 13 = .ok (.ireturn, 1) := by decide +kernel
section
variable {p : Program} {l : Launch} {e : Env} {s : State} {m : MethodId} {args : Array Value} {below : List Frame} {meth : Method} {c : Code} {Q : State → Prop} {G : GG} {A : Nat → Prop} {q : Nat → Nat} {fr : va_W}
def f_X5_isNumber (yp : Int32) (v1 : Int32) : Option (Int32) :=
  (f_X5_in v1.toInt64 1 ((yp - 1).toInt64)).bind fun z1 =>
  if z1 = 0 ∨ z1 = 1 then
  some z1
  else none
set_option maxHeartbeats 4000000 in
set_option maxRecDepth 100000 in
theorem k_X5_isNumber {l : Launch} {G : GG} {q : Nat → Nat} {fr : va_W} {yp : Int32} {ye : Int32} {yg : Int32} {bPo : Nat → Int32} {bTb : Nat → Int32} {wSh : Nat → Int64} {wTe : Nat → Int64} {wNx : Nat → Int64} {bOs : Nat → Int32} {bOn : Nat → Int32} {yop : Int32} {bSo : Nat → Int32} {bNu : Nat → Int32} {ytr : Int32} {yiw : Int32} {wMa : Nat → Int64} {wPr : Nat → Int64} {bTp : Nat → Int32} {yln : Int32} {ypl : Int32} {yfa : Int32} {wLi : Nat → Int64} {bSi : Nat → Int32} {yhp : Int32} {yhe : Int32} {yhg : Int32} {wHs : Nat → Int64} {yhi : Int32} {v1 : Int32} {z : Int32}  (h : f_X5_isNumber yp v1 = some z) : Ct l G yX5_isNumber cX5_isNumber 2 (some .boolean) 1 25 [.ref (q 0), .int v1] (mW G q yp ye yg bPo bTb wSh wTe wNx bOs bOn yop bSo bNu ytr yiw wMa wPr bTp yln ypl yfa wLi bSi yhp yhe yhg wHs yhi ++ fr) (some (.int z)) (mW G q yp ye yg bPo bTb wSh wTe wNx bOs bOn yop bSo bNu ytr yiw wMa wPr bTp yln ypl yfa wLi bSi yhp yhe yhg wHs yhi ++ fr) := by
  refine Ct.of (by decide) (Nat.le_of_ble_eq_true rfl) trivial ?_
  intro p e s m args below meth c Q A ls F hw hA hE hl
  have hx := F.x
  have hb := F.b
  unfold f_X5_isNumber at h
  obtain ⟨H, hH⟩ : ∃ H, H = s.heap := ⟨_, rfl⟩
  obtain ⟨locs, hlo⟩ : ∃ locs : List Loc, locs = [] := ⟨_, rfl⟩
  rw [← hH, ← hlo] at hw ⊢
  have hl : lv_has ls 2 [(0, .ref (q 0)), (1, .int v1)] := hl
  refine lv_iload_n hx hb dX5_isNumber_0 rfl (lv_at hl 1 rfl) ?_
  refine lv_i2l (v := v1.toInt64) hx hb dX5_isNumber_1 rfl ?_
  refine lv_lconst (v := 1) hx hb dX5_isNumber_2 (by decide) ?_
  refine lv_aload_n hx hb dX5_isNumber_3 rfl (lv_at hl 0 rfl) ?_
  refine gf_5_62 F hw dX5_isNumber_4 ?_
  refine lv_iconst (v := 1) hx hb dX5_isNumber_7 (by decide) ?_
  refine lv_isub hx hb dX5_isNumber_8 ?_
  refine lv_i2l (v := (yp - 1).toInt64) hx hb dX5_isNumber_9 rfl ?_
  obtain ⟨z1, hz1, h⟩ := stB h
  refine ctS (av := [.long v1.toInt64, .long 1, .long ((yp - 1).toInt64)]) (st0 := ([] : List Value)) (st1 := ([.int z1] : List Value)) F hw hA (k_X5_in hz1) kl_5_90 kd_X5_in rfl ⟨by decide, by decide⟩ hl.1 rfl (Nat.le_of_ble_eq_true rfl) dX5_isNumber_10 rfl (fun H locs hw => ?_)
  obtain ⟨g2, h⟩ := stG h
  obtain rfl := Option.some.inj h
  exact hE H locs _ ls hw g2 dX5_isNumber_13
end
theorem dX5_field_0 : decode cX5_field 0 = .ok (.iload_n 1, 1) := by decide +kernel
theorem dX5_field_1 : decode cX5_field 1 = .ok (.i2l, 1) := by decide +kernel
theorem dX5_field_2 : decode cX5_field 2 = .ok (.ldc2_w 94, 3) := by decide +kernel
theorem dX5_field_5 : decode cX5_field 5 = .ok (.ldc2_w 96, 3) := by decide +kernel
theorem dX5_field_8 : decode cX5_field 8 = .ok (.invokestatic 90, 3) := by decide +kernel
theorem dX5_field_11 : decode cX5_field 11 = .ok (.ifCond .eq 10, 3) := by decide +kernel
theorem dX5_field_14 : decode cX5_field 14 = .ok (.iload_n 1, 1) := by decide +kernel
theorem dX5_field_15 : decode cX5_field 15 = .ok (.invokestatic 98, 3) := by decide +kernel
theorem dX5_field_18 : decode cX5_field 18 = .ok (.ifCond .ne 6, 3) := by decide +kernel
theorem dX5_field_21 : decode cX5_field 21 = .ok (.bipush (-2), 2) := by decide +kernel
theorem dX5_field_23 : decode cX5_field 23 = .ok (.ireturn, 1) := by decide +kernel
theorem dX5_field_24 : decode cX5_field 24 = .ok (.iload_n 2, 1) := by decide +kernel
theorem dX5_field_25 : decode cX5_field 25 = .ok (.i2l, 1) := by decide +kernel
theorem dX5_field_26 : decode cX5_field 26 = .ok (.lconst 1, 1) := by decide +kernel
theorem dX5_field_27 : decode cX5_field 27 = .ok (.ldc2_w 101, 3) := by decide +kernel
theorem dX5_field_30 : decode cX5_field 30 = .ok (.invokestatic 90, 3) := by decide +kernel
theorem dX5_field_33 : decode cX5_field 33 = .ok (.ifCond .eq 11, 3) := by decide +kernel
theorem dX5_field_36 : decode cX5_field 36 = .ok (.iload_n 1, 1) := by decide +kernel
theorem dX5_field_37 : decode cX5_field 37 = .ok (.iconst 1, 1) := by decide +kernel
theorem dX5_field_38 : decode cX5_field 38 = .ok (.isub, 1) := by decide +kernel
theorem dX5_field_39 : decode cX5_field 39 = .ok (.iload_n 2, 1) := by decide +kernel
theorem dX5_field_40 : decode cX5_field 40 = .ok (.irem, 1) := by decide +kernel
theorem dX5_field_41 : decode cX5_field 41 = .ok (.ifCond .eq 6, 3) := by decide +kernel
theorem dX5_field_44 : decode cX5_field 44 = .ok (.bipush (-3), 2) := by decide +kernel
theorem dX5_field_46 : decode cX5_field 46 = .ok (.ireturn, 1) := by decide +kernel
theorem dX5_field_47 : decode cX5_field 47 = .ok (.aload_n 0, 1) := by decide +kernel
theorem dX5_field_48 : decode cX5_field 48 = .ok (.getfield 62, 3) := by decide +kernel
theorem dX5_field_51 : decode cX5_field 51 = .ok (.istore_n 3, 1) := by decide +kernel
theorem dX5_field_52 : decode cX5_field 52 = .ok (.aload_n 0, 1) := by decide +kernel
theorem dX5_field_53 : decode cX5_field 53 = .ok (.iload_n 1, 1) := by decide +kernel
theorem dX5_field_54 : decode cX5_field 54 = .ok (.iload_n 2, 1) := by decide +kernel
theorem dX5_field_55 : decode cX5_field 55 = .ok (.invokevirtual 58, 3) := by decide +kernel
theorem dX5_field_58 : decode cX5_field 58 = .ok (.iload_n 3, 1) := by decide +kernel
theorem dX5_field_59 : decode cX5_field 59 = .ok (.ireturn, 1) := by decide +kernel
section
variable {p : Program} {l : Launch} {e : Env} {s : State} {m : MethodId} {args : Array Value} {below : List Frame} {meth : Method} {c : Code} {Q : State → Prop} {G : GG} {A : Nat → Prop} {q : Nat → Nat} {fr : va_W}
def f_X5_field (yp : Int32) (ye : Int32) (yg : Int32) (bPo : Nat → Int32) (bTb : Nat → Int32) (wSh : Nat → Int64) (v1 : Int32) (v2 : Int32) : Option (Int32 × Int32 × Int32 × Int32 × (Nat → Int32) × (Nat → Int32) × (Nat → Int64)) :=
  (f_X5_in v1.toInt64 3 61).bind fun z1 =>
  if z1 = 0 then
  some ((-2), yp, ye, yg, bPo, bTb, wSh)
  else
  (f_X5_isPrime v1).bind fun z3 =>
  if z3 = 0 then
  some ((-2), yp, ye, yg, bPo, bTb, wSh)
  else
  (f_X5_in v2.toInt64 1 12).bind fun z5 =>
  if z5 = 0 then
  some ((-3), yp, ye, yg, bPo, bTb, wSh)
  else
  if v2 = 0 then none else
  if ((v1 - 1) - (v1 - 1) / v2 * v2) = 0 then
  (f_X5_begins yp ye yg bPo bTb wSh v1 v2).bind fun z9 =>
  some (yp, z9.1, z9.2.1, z9.2.2.1, z9.2.2.2.1, z9.2.2.2.2.1, z9.2.2.2.2.2)
  else
  some ((-3), yp, ye, yg, bPo, bTb, wSh)
set_option maxHeartbeats 4000000 in
set_option maxRecDepth 100000 in
theorem k_X5_field {l : Launch} {G : GG} {q : Nat → Nat} {fr : va_W} {yp : Int32} {ye : Int32} {yg : Int32} {bPo : Nat → Int32} {bTb : Nat → Int32} {wSh : Nat → Int64} {wTe : Nat → Int64} {wNx : Nat → Int64} {bOs : Nat → Int32} {bOn : Nat → Int32} {yop : Int32} {bSo : Nat → Int32} {bNu : Nat → Int32} {ytr : Int32} {yiw : Int32} {wMa : Nat → Int64} {wPr : Nat → Int64} {bTp : Nat → Int32} {yln : Int32} {ypl : Int32} {yfa : Int32} {wLi : Nat → Int64} {bSi : Nat → Int32} {yhp : Int32} {yhe : Int32} {yhg : Int32} {wHs : Nat → Int64} {yhi : Int32} {v1 : Int32} {v2 : Int32} {z : Int32 × Int32 × Int32 × Int32 × (Nat → Int32) × (Nat → Int32) × (Nat → Int64)}  (h : f_X5_field yp ye yg bPo bTb wSh v1 v2 = some z) : Ct l G yX5_field cX5_field 4 (some .int) 4 91 [.ref (q 0), .int v1, .int v2] (mW G q yp ye yg bPo bTb wSh wTe wNx bOs bOn yop bSo bNu ytr yiw wMa wPr bTp yln ypl yfa wLi bSi yhp yhe yhg wHs yhi ++ fr) (some (.int z.1)) (mW G q z.2.1 z.2.2.1 z.2.2.2.1 z.2.2.2.2.1 z.2.2.2.2.2.1 z.2.2.2.2.2.2 wTe wNx bOs bOn yop bSo bNu ytr yiw wMa wPr bTp yln ypl yfa wLi bSi yhp yhe yhg wHs yhi ++ fr) := by
  refine Ct.of (by decide) (Nat.le_of_ble_eq_true rfl) trivial ?_
  intro p e s m args below meth c Q A ls F hw hA hE hl
  have hx := F.x
  have hb := F.b
  unfold f_X5_field at h
  obtain ⟨H, hH⟩ : ∃ H, H = s.heap := ⟨_, rfl⟩
  obtain ⟨locs, hlo⟩ : ∃ locs : List Loc, locs = [] := ⟨_, rfl⟩
  rw [← hH, ← hlo] at hw ⊢
  have hl : lv_has ls 4 [(0, .ref (q 0)), (1, .int v1), (2, .int v2)] := hl
  refine lv_iload_n hx hb dX5_field_0 rfl (lv_at hl 1 rfl) ?_
  refine lv_i2l (v := v1.toInt64) hx hb dX5_field_1 rfl ?_
  refine lv_ldc2 (v := 3) hx hb F.ow (F.ts _ kc_5_94) dX5_field_2 ?_
  refine lv_ldc2 (v := 61) hx hb F.ow (F.ts _ kc_5_96) dX5_field_5 ?_
  obtain ⟨z1, hz1, h⟩ := stB h
  refine ctS (av := [.long v1.toInt64, .long 3, .long 61]) (st0 := ([] : List Value)) (st1 := ([.int z1] : List Value)) F hw hA (k_X5_in hz1) kl_5_90 kd_X5_in rfl ⟨by decide, by decide⟩ hl.1 rfl (Nat.le_of_ble_eq_true rfl) dX5_field_8 rfl (fun H locs hw => ?_)
  refine lv_if_eq (tgt := 21) hx hb dX5_field_11 (by decide) (fun c2 => ?_) (fun c2 => ?_)
  · replace h := stT c2 h
    refine lv_bipush (v := -2) hx hb dX5_field_21 (by decide) ?_
    obtain rfl := Option.some.inj h
    exact hE H locs _ ls hw dX5_field_23
  · replace h := stF c2 h
    refine lv_iload_n hx hb dX5_field_14 rfl (lv_at hl 1 rfl) ?_
    obtain ⟨z3, hz3, h⟩ := stB h
    refine ctS (av := [.int v1]) (st0 := ([] : List Value)) (st1 := ([.int z3] : List Value)) F hw hA (k_X5_isPrime hz3) kl_5_98 kd_X5_isPrime rfl ⟨by decide, by decide⟩ hl.1 rfl (Nat.le_of_ble_eq_true rfl) dX5_field_15 rfl (fun H locs hw => ?_)
    refine lv_if_ne (tgt := 24) hx hb dX5_field_18 (by decide) (fun c4 => ?_) (fun c4 => ?_)
    · replace h := stF c4 h
      refine lv_iload_n hx hb dX5_field_24 rfl (lv_at hl 2 rfl) ?_
      refine lv_i2l (v := v2.toInt64) hx hb dX5_field_25 rfl ?_
      refine lv_lconst (v := 1) hx hb dX5_field_26 (by decide) ?_
      refine lv_ldc2 (v := 12) hx hb F.ow (F.ts _ kc_5_101) dX5_field_27 ?_
      obtain ⟨z5, hz5, h⟩ := stB h
      refine ctS (av := [.long v2.toInt64, .long 1, .long 12]) (st0 := ([] : List Value)) (st1 := ([.int z5] : List Value)) F hw hA (k_X5_in hz5) kl_5_90 kd_X5_in rfl ⟨by decide, by decide⟩ hl.1 rfl (Nat.le_of_ble_eq_true rfl) dX5_field_30 rfl (fun H locs hw => ?_)
      refine lv_if_eq (tgt := 44) hx hb dX5_field_33 (by decide) (fun c6 => ?_) (fun c6 => ?_)
      · replace h := stT c6 h
        refine lv_bipush (v := -3) hx hb dX5_field_44 (by decide) ?_
        obtain rfl := Option.some.inj h
        exact hE H locs _ ls hw dX5_field_46
      · replace h := stF c6 h
        refine lv_iload_n hx hb dX5_field_36 rfl (lv_at hl 1 rfl) ?_
        refine lv_iconst (v := 1) hx hb dX5_field_37 (by decide) ?_
        refine lv_isub hx hb dX5_field_38 ?_
        refine lv_iload_n hx hb dX5_field_39 rfl (lv_at hl 2 rfl) ?_
        obtain ⟨g7, h⟩ := stD h
        refine lv_irem hx hb dX5_field_40 g7 ?_
        refine lv_if_eq (tgt := 47) hx hb dX5_field_41 (by decide) (fun c8 => ?_) (fun c8 => ?_)
        · replace h := stT c8 h
          refine lv_aload_n hx hb dX5_field_47 rfl (lv_at hl 0 rfl) ?_
          refine gf_5_62 F hw dX5_field_48 ?_
          refine lv_istore_n (lv' := [(3, .int yp), (0, .ref (q 0)), (1, .int v1), (2, .int v2)]) hx hb dX5_field_51 rfl hl (by decide) rfl (fun ls hl => ?_)
          refine lv_aload_n hx hb dX5_field_52 rfl (lv_at hl 1 rfl) ?_
          refine lv_iload_n hx hb dX5_field_53 rfl (lv_at hl 2 rfl) ?_
          refine lv_iload_n hx hb dX5_field_54 rfl (lv_at hl 3 rfl) ?_
          obtain ⟨z9, hz9, h⟩ := stB h
          refine ctV (av := [.int v1, .int v2]) (st0 := ([] : List Value)) (st1 := ([] : List Value)) F hw hA (k_X5_begins hz9) kl_5_58 kd_X5_begins rfl ⟨by decide, by decide⟩ 0 rfl rfl hl.1 rfl (Nat.le_of_ble_eq_true rfl) dX5_field_55 rfl (fun H locs hw => ?_)
          refine lv_iload_n hx hb dX5_field_58 rfl (lv_at hl 0 rfl) ?_
          obtain rfl := Option.some.inj h
          exact hE H locs _ ls hw dX5_field_59
        · replace h := stF c8 h
          refine lv_bipush (v := -3) hx hb dX5_field_44 (by decide) ?_
          obtain rfl := Option.some.inj h
          exact hE H locs _ ls hw dX5_field_46
    · replace h := stT c4 h
      refine lv_bipush (v := -2) hx hb dX5_field_21 (by decide) ?_
      obtain rfl := Option.some.inj h
      exact hE H locs _ ls hw dX5_field_23
end
theorem dX5_generators_0 : decode cX5_generators 0 = .ok (.iconst 0, 1) := by decide +kernel
theorem dX5_generators_1 : decode cX5_generators 1 = .ok (.istore_n 1, 1) := by decide +kernel
theorem dX5_generators_2 : decode cX5_generators 2 = .ok (.iconst 1, 1) := by decide +kernel
theorem dX5_generators_3 : decode cX5_generators 3 = .ok (.istore_n 2, 1) := by decide +kernel
theorem dX5_generators_4 : decode cX5_generators 4 = .ok (.iload_n 2, 1) := by decide +kernel
theorem dX5_generators_5 : decode cX5_generators 5 = .ok (.aload_n 0, 1) := by decide +kernel
theorem dX5_generators_6 : decode cX5_generators 6 = .ok (.getfield 62, 3) := by decide +kernel
theorem dX5_generators_9 : decode cX5_generators 9 = .ok (.if_icmp .ge 20, 3) := by decide +kernel
theorem dX5_generators_12 : decode cX5_generators 12 = .ok (.iload_n 1, 1) := by decide +kernel
theorem dX5_generators_13 : decode cX5_generators 13 = .ok (.aload_n 0, 1) := by decide +kernel
theorem dX5_generators_14 : decode cX5_generators 14 = .ok (.iload_n 2, 1) := by decide +kernel
theorem dX5_generators_15 : decode cX5_generators 15 = .ok (.invokevirtual 72, 3) := by decide +kernel
theorem dX5_generators_18 : decode cX5_generators 18 = .ok (.invokestatic 103, 3) := by decide +kernel
theorem dX5_generators_21 : decode cX5_generators 21 = .ok (.iadd, 1) := by decide +kernel
theorem dX5_generators_22 : decode cX5_generators 22 = .ok (.istore_n 1, 1) := by decide +kernel
theorem dX5_generators_23 : decode cX5_generators 23 = .ok (.iinc 2 1, 3) := by decide +kernel
theorem dX5_generators_26 : decode cX5_generators 26 = .ok (.goto (-22), 3) := by decide +kernel
theorem dX5_generators_29 : decode cX5_generators 29 = .ok (.iload_n 1, 1) := by decide +kernel
theorem dX5_generators_30 : decode cX5_generators 30 = .ok (.ireturn, 1) := by decide +kernel
section
variable {p : Program} {l : Launch} {e : Env} {s : State} {m : MethodId} {args : Array Value} {below : List Frame} {meth : Method} {c : Code} {Q : State → Prop} {G : GG} {A : Nat → Prop} {q : Nat → Nat} {fr : va_W}
def f_X5_generators_L4 (yp : Int32) : Nat → Int32 → Int32 → Option (Int32)
  | 0, _, _ => none
  | fu + 1, v1, v2 =>
    if yp ≤ v2 then
    some v1
    else
    (f_X5_isGenerator yp v2).bind fun z2 =>
    (f_X5_bit z2).bind fun z3 =>
    f_X5_generators_L4 yp fu (v1 + z3) (v2 + 1)
set_option maxHeartbeats 4000000 in
set_option maxRecDepth 100000 in
theorem w_X5_generators_L4 {yp : Int32} {ye : Int32} {yg : Int32} {bPo : Nat → Int32} {bTb : Nat → Int32} {wSh : Nat → Int64} {wTe : Nat → Int64} {wNx : Nat → Int64} {bOs : Nat → Int32} {bOn : Nat → Int32} {yop : Int32} {bSo : Nat → Int32} {bNu : Nat → Int32} {ytr : Int32} {yiw : Int32} {wMa : Nat → Int64} {wPr : Nat → Int64} {bTp : Nat → Int32} {yln : Int32} {ypl : Int32} {yfa : Int32} {wLi : Nat → Int64} {bSi : Nat → Int32} {yhp : Int32} {yhe : Int32} {yhg : Int32} {wHs : Nat → Int64} {yhi : Int32}   (F : Fx p s m args meth c cX5_generators 3 RX5 (some .int)) (hA : ∀ q, s.heap.size ≤ q → A q)   : ∀ (fu : Nat) (v1 : Int32) (v2 : Int32) (z : Int32), f_X5_generators_L4 yp fu v1 v2 = some z → Ends p l e (rmOf 1 23) s m args below meth c Q cX5_generators G A (some .int) (some (.int z)) (mW G q yp ye yg bPo bTb wSh wTe wNx bOs bOn yop bSo bNu ytr yiw wMa wPr bTp yln ypl yfa wLi bSi yhp yhe yhg wHs yhi ++ fr) → ∀ (H : Heap) (locs : List Loc) (ls : Array Slot), Wd G s A (mW G q yp ye yg bPo bTb wSh wTe wNx bOs bOn yop bSo bNu ytr yiw wMa wPr bTp yln ypl yfa wLi bSi yhp yhe yhg wHs yhi ++ fr) H locs → lv_has ls 3 [(0, .ref (q 0)), (1, .int v1), (2, .int v2)] → W p l e (rmOf 1 23) s m args below meth c H locs 0 0 Q (F0 m 4 ls []) := by
  have hx := F.x
  have hb := F.b
  intro fu
  induction fu with
  | zero =>
    intro v1 v2 z h
    cases (h : none = some z)
  | succ fu ih =>
    intro v1 v2 z h hE H locs ls hw hl
    rw [f_X5_generators_L4] at h
    refine lv_iload_n hx hb dX5_generators_4 rfl (lv_at hl 2 rfl) ?_
    refine lv_aload_n hx hb dX5_generators_5 rfl (lv_at hl 0 rfl) ?_
    refine gf_5_62 F hw dX5_generators_6 ?_
    refine lv_icmp_ge (tgt := 29) hx hb dX5_generators_9 (by decide) (fun c1 => ?_) (fun c1 => ?_)
    · replace h := stT c1 h
      refine lv_iload_n hx hb dX5_generators_29 rfl (lv_at hl 1 rfl) ?_
      obtain rfl := Option.some.inj h
      exact hE H locs _ ls hw dX5_generators_30
    · replace h := stF c1 h
      refine lv_iload_n hx hb dX5_generators_12 rfl (lv_at hl 1 rfl) ?_
      refine lv_aload_n hx hb dX5_generators_13 rfl (lv_at hl 0 rfl) ?_
      refine lv_iload_n hx hb dX5_generators_14 rfl (lv_at hl 2 rfl) ?_
      obtain ⟨z2, hz2, h⟩ := stB h
      refine ctV (av := [.int v2]) (st0 := ([.int v1] : List Value)) (st1 := ([.int z2, .int v1] : List Value)) F hw hA (k_X5_isGenerator hz2) kl_5_72 kd_X5_isGenerator rfl ⟨by decide, by decide⟩ 0 rfl rfl hl.1 rfl (Nat.le_of_ble_eq_true rfl) dX5_generators_15 rfl (fun H locs hw => ?_)
      obtain ⟨z3, hz3, h⟩ := stB h
      refine ctS (av := [.int z2]) (st0 := ([.int v1] : List Value)) (st1 := ([.int z3, .int v1] : List Value)) F hw hA (k_X5_bit hz3) kl_5_103 kd_X5_bit rfl ⟨by decide, by decide⟩ hl.1 rfl (Nat.le_of_ble_eq_true rfl) dX5_generators_18 rfl (fun H locs hw => ?_)
      refine lv_iadd hx hb dX5_generators_21 ?_
      refine lv_istore_n (lv' := [(1, .int (v1 + z3)), (0, .ref (q 0)), (2, .int v2)]) hx hb dX5_generators_22 rfl hl (by decide) rfl (fun ls hl => ?_)
      refine lv_iinc (v := (v2 + 1)) (lv' := [(2, .int (v2 + 1)), (1, .int (v1 + z3)), (0, .ref (q 0))]) hx hb dX5_generators_23 hl (k := 2) rfl rfl (by decide) rfl (fun ls hl => ?_)
      refine lv_goto (tgt := 4) hx hb dX5_generators_26 (by decide) ?_
      exact ih _ _ z h hE H locs ls hw (lv_sub hl [2, 1, 0] rfl)
def f_X5_generators (yp : Int32) : Option (Int32) :=
  f_X5_generators_L4 yp FU 0 1
set_option maxHeartbeats 4000000 in
set_option maxRecDepth 100000 in
theorem k_X5_generators {l : Launch} {G : GG} {q : Nat → Nat} {fr : va_W} {yp : Int32} {ye : Int32} {yg : Int32} {bPo : Nat → Int32} {bTb : Nat → Int32} {wSh : Nat → Int64} {wTe : Nat → Int64} {wNx : Nat → Int64} {bOs : Nat → Int32} {bOn : Nat → Int32} {yop : Int32} {bSo : Nat → Int32} {bNu : Nat → Int32} {ytr : Int32} {yiw : Int32} {wMa : Nat → Int64} {wPr : Nat → Int64} {bTp : Nat → Int32} {yln : Int32} {ypl : Int32} {yfa : Int32} {wLi : Nat → Int64} {bSi : Nat → Int32} {yhp : Int32} {yhe : Int32} {yhg : Int32} {wHs : Nat → Int64} {yhi : Int32}  {z : Int32}  (h : f_X5_generators yp = some z) : Ct l G yX5_generators cX5_generators 3 (some .int) 1 23 [.ref (q 0)] (mW G q yp ye yg bPo bTb wSh wTe wNx bOs bOn yop bSo bNu ytr yiw wMa wPr bTp yln ypl yfa wLi bSi yhp yhe yhg wHs yhi ++ fr) (some (.int z)) (mW G q yp ye yg bPo bTb wSh wTe wNx bOs bOn yop bSo bNu ytr yiw wMa wPr bTp yln ypl yfa wLi bSi yhp yhe yhg wHs yhi ++ fr) := by
  refine Ct.of (by decide) (Nat.le_of_ble_eq_true rfl) trivial ?_
  intro p e s m args below meth c Q A ls F hw hA hE hl
  have hx := F.x
  have hb := F.b
  unfold f_X5_generators at h
  obtain ⟨H, hH⟩ : ∃ H, H = s.heap := ⟨_, rfl⟩
  obtain ⟨locs, hlo⟩ : ∃ locs : List Loc, locs = [] := ⟨_, rfl⟩
  rw [← hH, ← hlo] at hw ⊢
  have hl : lv_has ls 3 [(0, .ref (q 0))] := hl
  refine lv_iconst (v := 0) hx hb dX5_generators_0 (by decide) ?_
  refine lv_istore_n (lv' := [(1, .int 0), (0, .ref (q 0))]) hx hb dX5_generators_1 rfl hl (by decide) rfl (fun ls hl => ?_)
  refine lv_iconst (v := 1) hx hb dX5_generators_2 (by decide) ?_
  refine lv_istore_n (lv' := [(2, .int 1), (1, .int 0), (0, .ref (q 0))]) hx hb dX5_generators_3 rfl hl (by decide) rfl (fun ls hl => ?_)
  exact w_X5_generators_L4 F hA  FU _ _ z h hE H locs ls hw (lv_sub hl [2, 1, 0] rfl)
end
theorem dX5_told_0 : decode cX5_told 0 = .ok (.iload_n 1, 1) := by decide +kernel
theorem dX5_told_1 : decode cX5_told 1 = .ok (.tableswitch 67 0 4 #[35, 40, 45, 57, 62], 35) := by decide +kernel
theorem dX5_told_36 : decode cX5_told 36 = .ok (.aload_n 0, 1) := by decide +kernel
theorem dX5_told_37 : decode cX5_told 37 = .ok (.getfield 62, 3) := by decide +kernel
theorem dX5_told_40 : decode cX5_told 40 = .ok (.ireturn, 1) := by decide +kernel
theorem dX5_told_41 : decode cX5_told 41 = .ok (.aload_n 0, 1) := by decide +kernel
theorem dX5_told_42 : decode cX5_told 42 = .ok (.getfield 66, 3) := by decide +kernel
theorem dX5_told_45 : decode cX5_told 45 = .ok (.ireturn, 1) := by decide +kernel
theorem dX5_told_46 : decode cX5_told 46 = .ok (.aload_n 0, 1) := by decide +kernel
theorem dX5_told_47 : decode cX5_told 47 = .ok (.getfield 62, 3) := by decide +kernel
theorem dX5_told_50 : decode cX5_told 50 = .ok (.iconst 1, 1) := by decide +kernel
theorem dX5_told_51 : decode cX5_told 51 = .ok (.isub, 1) := by decide +kernel
theorem dX5_told_52 : decode cX5_told 52 = .ok (.aload_n 0, 1) := by decide +kernel
theorem dX5_told_53 : decode cX5_told 53 = .ok (.getfield 66, 3) := by decide +kernel
theorem dX5_told_56 : decode cX5_told 56 = .ok (.idiv, 1) := by decide +kernel
theorem dX5_told_57 : decode cX5_told 57 = .ok (.ireturn, 1) := by decide +kernel
theorem dX5_told_58 : decode cX5_told 58 = .ok (.aload_n 0, 1) := by decide +kernel
theorem dX5_told_59 : decode cX5_told 59 = .ok (.getfield 69, 3) := by decide +kernel
theorem dX5_told_62 : decode cX5_told 62 = .ok (.ireturn, 1) := by decide +kernel
theorem dX5_told_63 : decode cX5_told 63 = .ok (.aload_n 0, 1) := by decide +kernel
theorem dX5_told_64 : decode cX5_told 64 = .ok (.invokevirtual 107, 3) := by decide +kernel
theorem dX5_told_67 : decode cX5_told 67 = .ok (.ireturn, 1) := by decide +kernel
theorem dX5_told_68 : decode cX5_told 68 = .ok (.iconst (-1), 1) := by decide +kernel
theorem dX5_told_69 : decode cX5_told 69 = .ok (.ireturn, 1) := by decide +kernel
section
variable {p : Program} {l : Launch} {e : Env} {s : State} {m : MethodId} {args : Array Value} {below : List Frame} {meth : Method} {c : Code} {Q : State → Prop} {G : GG} {A : Nat → Prop} {q : Nat → Nat} {fr : va_W}
def f_X5_told (yp : Int32) (ye : Int32) (yg : Int32) (v1 : Int32) : Option (Int32) :=
  if v1 = 0 then
  some yp
  else
  if v1 = 1 then
  some ye
  else
  if v1 = 2 then
  if ye = 0 then none else
  some ((yp - 1) / ye)
  else
  if v1 = 3 then
  some yg
  else
  if v1 = 4 then
  (f_X5_generators yp).bind fun z7 =>
  some z7
  else
  some (-1)
set_option maxHeartbeats 4000000 in
set_option maxRecDepth 100000 in
theorem k_X5_told {l : Launch} {G : GG} {q : Nat → Nat} {fr : va_W} {yp : Int32} {ye : Int32} {yg : Int32} {bPo : Nat → Int32} {bTb : Nat → Int32} {wSh : Nat → Int64} {wTe : Nat → Int64} {wNx : Nat → Int64} {bOs : Nat → Int32} {bOn : Nat → Int32} {yop : Int32} {bSo : Nat → Int32} {bNu : Nat → Int32} {ytr : Int32} {yiw : Int32} {wMa : Nat → Int64} {wPr : Nat → Int64} {bTp : Nat → Int32} {yln : Int32} {ypl : Int32} {yfa : Int32} {wLi : Nat → Int64} {bSi : Nat → Int32} {yhp : Int32} {yhe : Int32} {yhg : Int32} {wHs : Nat → Int64} {yhi : Int32} {v1 : Int32} {z : Int32}  (h : f_X5_told yp ye yg v1 = some z) : Ct l G yX5_told cX5_told 2 (some .int) 2 45 [.ref (q 0), .int v1] (mW G q yp ye yg bPo bTb wSh wTe wNx bOs bOn yop bSo bNu ytr yiw wMa wPr bTp yln ypl yfa wLi bSi yhp yhe yhg wHs yhi ++ fr) (some (.int z)) (mW G q yp ye yg bPo bTb wSh wTe wNx bOs bOn yop bSo bNu ytr yiw wMa wPr bTp yln ypl yfa wLi bSi yhp yhe yhg wHs yhi ++ fr) := by
  refine Ct.of (by decide) (Nat.le_of_ble_eq_true rfl) trivial ?_
  intro p e s m args below meth c Q A ls F hw hA hE hl
  have hx := F.x
  have hb := F.b
  unfold f_X5_told at h
  obtain ⟨H, hH⟩ : ∃ H, H = s.heap := ⟨_, rfl⟩
  obtain ⟨locs, hlo⟩ : ∃ locs : List Loc, locs = [] := ⟨_, rfl⟩
  rw [← hH, ← hlo] at hw ⊢
  have hl : lv_has ls 2 [(0, .ref (q 0)), (1, .int v1)] := hl
  refine lv_iload_n hx hb dX5_told_0 rfl (lv_at hl 1 rfl) ?_
  by_cases c1 : v1 = 0
  · replace h := stT c1 h
    refine lv_tableIn (off := 35) (tgt := 36) hx hb dX5_told_1 (by rw [c1]; decide) (by rw [c1]; decide) (by rw [c1]; rfl) (by decide) ?_
    refine lv_aload_n hx hb dX5_told_36 rfl (lv_at hl 0 rfl) ?_
    refine gf_5_62 F hw dX5_told_37 ?_
    obtain rfl := Option.some.inj h
    exact hE H locs _ ls hw dX5_told_40
  replace h := stF c1 h
  by_cases c2 : v1 = 1
  · replace h := stT c2 h
    refine lv_tableIn (off := 40) (tgt := 41) hx hb dX5_told_1 (by rw [c2]; decide) (by rw [c2]; decide) (by rw [c2]; rfl) (by decide) ?_
    refine lv_aload_n hx hb dX5_told_41 rfl (lv_at hl 0 rfl) ?_
    refine gf_5_66 F hw dX5_told_42 ?_
    obtain rfl := Option.some.inj h
    exact hE H locs _ ls hw dX5_told_45
  replace h := stF c2 h
  by_cases c3 : v1 = 2
  · replace h := stT c3 h
    refine lv_tableIn (off := 45) (tgt := 46) hx hb dX5_told_1 (by rw [c3]; decide) (by rw [c3]; decide) (by rw [c3]; rfl) (by decide) ?_
    refine lv_aload_n hx hb dX5_told_46 rfl (lv_at hl 0 rfl) ?_
    refine gf_5_62 F hw dX5_told_47 ?_
    refine lv_iconst (v := 1) hx hb dX5_told_50 (by decide) ?_
    refine lv_isub hx hb dX5_told_51 ?_
    refine lv_aload_n hx hb dX5_told_52 rfl (lv_at hl 0 rfl) ?_
    refine gf_5_66 F hw dX5_told_53 ?_
    obtain ⟨g4, h⟩ := stD h
    refine lv_idiv hx hb dX5_told_56 g4 ?_
    obtain rfl := Option.some.inj h
    exact hE H locs _ ls hw dX5_told_57
  replace h := stF c3 h
  by_cases c5 : v1 = 3
  · replace h := stT c5 h
    refine lv_tableIn (off := 57) (tgt := 58) hx hb dX5_told_1 (by rw [c5]; decide) (by rw [c5]; decide) (by rw [c5]; rfl) (by decide) ?_
    refine lv_aload_n hx hb dX5_told_58 rfl (lv_at hl 0 rfl) ?_
    refine gf_5_69 F hw dX5_told_59 ?_
    obtain rfl := Option.some.inj h
    exact hE H locs _ ls hw dX5_told_62
  replace h := stF c5 h
  by_cases c6 : v1 = 4
  · replace h := stT c6 h
    refine lv_tableIn (off := 62) (tgt := 63) hx hb dX5_told_1 (by rw [c6]; decide) (by rw [c6]; decide) (by rw [c6]; rfl) (by decide) ?_
    refine lv_aload_n hx hb dX5_told_63 rfl (lv_at hl 0 rfl) ?_
    obtain ⟨z7, hz7, h⟩ := stB h
    refine ctV (av := []) (st0 := ([] : List Value)) (st1 := ([.int z7] : List Value)) F hw hA (k_X5_generators hz7) kl_5_107 kd_X5_generators rfl ⟨by decide, by decide⟩ 0 rfl rfl hl.1 rfl (Nat.le_of_ble_eq_true rfl) dX5_told_64 rfl (fun H locs hw => ?_)
    obtain rfl := Option.some.inj h
    exact hE H locs _ ls hw dX5_told_67
  replace h := stF c6 h
  refine lv_tableOut (tgt := 68) hx hb dX5_told_1 (tsw5 c1 c2 c3 c5 c6) (by decide) ?_
  refine lv_iconst (v := -1) hx hb dX5_told_68 (by decide) ?_
  obtain rfl := Option.some.inj h
  exact hE H locs _ ls hw dX5_told_69
end
theorem dX5_generator_0 : decode cX5_generator 0 = .ok (.iconst 0, 1) := by decide +kernel
theorem dX5_generator_1 : decode cX5_generator 1 = .ok (.istore_n 2, 1) := by decide +kernel
theorem dX5_generator_2 : decode cX5_generator 2 = .ok (.iconst 1, 1) := by decide +kernel
theorem dX5_generator_3 : decode cX5_generator 3 = .ok (.istore_n 3, 1) := by decide +kernel
theorem dX5_generator_4 : decode cX5_generator 4 = .ok (.iload_n 3, 1) := by decide +kernel
theorem dX5_generator_5 : decode cX5_generator 5 = .ok (.aload_n 0, 1) := by decide +kernel
theorem dX5_generator_6 : decode cX5_generator 6 = .ok (.getfield 62, 3) := by decide +kernel
theorem dX5_generator_9 : decode cX5_generator 9 = .ok (.if_icmp .ge 27, 3) := by decide +kernel
theorem dX5_generator_12 : decode cX5_generator 12 = .ok (.aload_n 0, 1) := by decide +kernel
theorem dX5_generator_13 : decode cX5_generator 13 = .ok (.iload_n 3, 1) := by decide +kernel
theorem dX5_generator_14 : decode cX5_generator 14 = .ok (.invokevirtual 72, 3) := by decide +kernel
theorem dX5_generator_17 : decode cX5_generator 17 = .ok (.ifCond .eq 13, 3) := by decide +kernel
theorem dX5_generator_20 : decode cX5_generator 20 = .ok (.iload_n 2, 1) := by decide +kernel
theorem dX5_generator_21 : decode cX5_generator 21 = .ok (.iload_n 1, 1) := by decide +kernel
theorem dX5_generator_22 : decode cX5_generator 22 = .ok (.if_icmp .ne 5, 3) := by decide +kernel
theorem dX5_generator_25 : decode cX5_generator 25 = .ok (.iload_n 3, 1) := by decide +kernel
theorem dX5_generator_26 : decode cX5_generator 26 = .ok (.ireturn, 1) := by decide +kernel
theorem dX5_generator_27 : decode cX5_generator 27 = .ok (.iinc 2 1, 3) := by decide +kernel
theorem dX5_generator_30 : decode cX5_generator 30 = .ok (.iinc 3 1, 3) := by decide +kernel
theorem dX5_generator_33 : decode cX5_generator 33 = .ok (.goto (-29), 3) := by decide +kernel
theorem dX5_generator_36 : decode cX5_generator 36 = .ok (.iconst (-1), 1) := by decide +kernel
theorem dX5_generator_37 : decode cX5_generator 37 = .ok (.ireturn, 1) := by decide +kernel
section
variable {p : Program} {l : Launch} {e : Env} {s : State} {m : MethodId} {args : Array Value} {below : List Frame} {meth : Method} {c : Code} {Q : State → Prop} {G : GG} {A : Nat → Prop} {q : Nat → Nat} {fr : va_W}
def f_X5_generator_L4 (yp : Int32) (v1 : Int32) : Nat → Int32 → Int32 → Option (Int32)
  | 0, _, _ => none
  | fu + 1, v2, v3 =>
    if yp ≤ v3 then
    some (-1)
    else
    (f_X5_isGenerator yp v3).bind fun z2 =>
    if z2 = 0 then
    f_X5_generator_L4 yp v1 fu v2 (v3 + 1)
    else
    if v2 = v1 then
    some v3
    else
    f_X5_generator_L4 yp v1 fu (v2 + 1) (v3 + 1)
set_option maxHeartbeats 4000000 in
set_option maxRecDepth 100000 in
theorem w_X5_generator_L4 {yp : Int32} {ye : Int32} {yg : Int32} {bPo : Nat → Int32} {bTb : Nat → Int32} {wSh : Nat → Int64} {wTe : Nat → Int64} {wNx : Nat → Int64} {bOs : Nat → Int32} {bOn : Nat → Int32} {yop : Int32} {bSo : Nat → Int32} {bNu : Nat → Int32} {ytr : Int32} {yiw : Int32} {wMa : Nat → Int64} {wPr : Nat → Int64} {bTp : Nat → Int32} {yln : Int32} {ypl : Int32} {yfa : Int32} {wLi : Nat → Int64} {bSi : Nat → Int32} {yhp : Int32} {yhe : Int32} {yhg : Int32} {wHs : Nat → Int64} {yhi : Int32} {v1 : Int32}  (F : Fx p s m args meth c cX5_generator 4 RX5 (some .int)) (hA : ∀ q, s.heap.size ≤ q → A q)   : ∀ (fu : Nat) (v2 : Int32) (v3 : Int32) (z : Int32), f_X5_generator_L4 yp v1 fu v2 v3 = some z → Ends p l e (rmOf 1 23) s m args below meth c Q cX5_generator G A (some .int) (some (.int z)) (mW G q yp ye yg bPo bTb wSh wTe wNx bOs bOn yop bSo bNu ytr yiw wMa wPr bTp yln ypl yfa wLi bSi yhp yhe yhg wHs yhi ++ fr) → ∀ (H : Heap) (locs : List Loc) (ls : Array Slot), Wd G s A (mW G q yp ye yg bPo bTb wSh wTe wNx bOs bOn yop bSo bNu ytr yiw wMa wPr bTp yln ypl yfa wLi bSi yhp yhe yhg wHs yhi ++ fr) H locs → lv_has ls 4 [(0, .ref (q 0)), (1, .int v1), (2, .int v2), (3, .int v3)] → W p l e (rmOf 1 23) s m args below meth c H locs 0 0 Q (F0 m 4 ls []) := by
  have hx := F.x
  have hb := F.b
  intro fu
  induction fu with
  | zero =>
    intro v2 v3 z h
    cases (h : none = some z)
  | succ fu ih =>
    intro v2 v3 z h hE H locs ls hw hl
    rw [f_X5_generator_L4] at h
    refine lv_iload_n hx hb dX5_generator_4 rfl (lv_at hl 3 rfl) ?_
    refine lv_aload_n hx hb dX5_generator_5 rfl (lv_at hl 0 rfl) ?_
    refine gf_5_62 F hw dX5_generator_6 ?_
    refine lv_icmp_ge (tgt := 36) hx hb dX5_generator_9 (by decide) (fun c1 => ?_) (fun c1 => ?_)
    · replace h := stT c1 h
      refine lv_iconst (v := -1) hx hb dX5_generator_36 (by decide) ?_
      obtain rfl := Option.some.inj h
      exact hE H locs _ ls hw dX5_generator_37
    · replace h := stF c1 h
      refine lv_aload_n hx hb dX5_generator_12 rfl (lv_at hl 0 rfl) ?_
      refine lv_iload_n hx hb dX5_generator_13 rfl (lv_at hl 3 rfl) ?_
      obtain ⟨z2, hz2, h⟩ := stB h
      refine ctV (av := [.int v3]) (st0 := ([] : List Value)) (st1 := ([.int z2] : List Value)) F hw hA (k_X5_isGenerator hz2) kl_5_72 kd_X5_isGenerator rfl ⟨by decide, by decide⟩ 0 rfl rfl hl.1 rfl (Nat.le_of_ble_eq_true rfl) dX5_generator_14 rfl (fun H locs hw => ?_)
      refine lv_if_eq (tgt := 30) hx hb dX5_generator_17 (by decide) (fun c3 => ?_) (fun c3 => ?_)
      · replace h := stT c3 h
        refine lv_iinc (v := (v3 + 1)) (lv' := [(3, .int (v3 + 1)), (0, .ref (q 0)), (1, .int v1), (2, .int v2)]) hx hb dX5_generator_30 hl (k := 3) rfl rfl (by decide) rfl (fun ls hl => ?_)
        refine lv_goto (tgt := 4) hx hb dX5_generator_33 (by decide) ?_
        exact ih _ _ z h hE H locs ls hw (lv_sub hl [1, 2, 3, 0] rfl)
      · replace h := stF c3 h
        refine lv_iload_n hx hb dX5_generator_20 rfl (lv_at hl 2 rfl) ?_
        refine lv_iload_n hx hb dX5_generator_21 rfl (lv_at hl 1 rfl) ?_
        refine lv_icmp_ne (tgt := 27) hx hb dX5_generator_22 (by decide) (fun c4 => ?_) (fun c4 => ?_)
        · replace h := stF c4 h
          refine lv_iinc (v := (v2 + 1)) (lv' := [(2, .int (v2 + 1)), (0, .ref (q 0)), (1, .int v1), (3, .int v3)]) hx hb dX5_generator_27 hl (k := 2) rfl rfl (by decide) rfl (fun ls hl => ?_)
          refine lv_iinc (v := (v3 + 1)) (lv' := [(3, .int (v3 + 1)), (2, .int (v2 + 1)), (0, .ref (q 0)), (1, .int v1)]) hx hb dX5_generator_30 hl (k := 3) rfl rfl (by decide) rfl (fun ls hl => ?_)
          refine lv_goto (tgt := 4) hx hb dX5_generator_33 (by decide) ?_
          exact ih _ _ z h hE H locs ls hw (lv_sub hl [2, 3, 1, 0] rfl)
        · replace h := stT c4 h
          refine lv_iload_n hx hb dX5_generator_25 rfl (lv_at hl 3 rfl) ?_
          obtain rfl := Option.some.inj h
          exact hE H locs _ ls hw dX5_generator_26
def f_X5_generator (yp : Int32) (v1 : Int32) : Option (Int32) :=
  f_X5_generator_L4 yp v1 FU 0 1
set_option maxHeartbeats 4000000 in
set_option maxRecDepth 100000 in
theorem k_X5_generator {l : Launch} {G : GG} {q : Nat → Nat} {fr : va_W} {yp : Int32} {ye : Int32} {yg : Int32} {bPo : Nat → Int32} {bTb : Nat → Int32} {wSh : Nat → Int64} {wTe : Nat → Int64} {wNx : Nat → Int64} {bOs : Nat → Int32} {bOn : Nat → Int32} {yop : Int32} {bSo : Nat → Int32} {bNu : Nat → Int32} {ytr : Int32} {yiw : Int32} {wMa : Nat → Int64} {wPr : Nat → Int64} {bTp : Nat → Int32} {yln : Int32} {ypl : Int32} {yfa : Int32} {wLi : Nat → Int64} {bSi : Nat → Int32} {yhp : Int32} {yhe : Int32} {yhg : Int32} {wHs : Nat → Int64} {yhi : Int32} {v1 : Int32} {z : Int32}  (h : f_X5_generator yp v1 = some z) : Ct l G yX5_generator cX5_generator 4 (some .int) 1 23 [.ref (q 0), .int v1] (mW G q yp ye yg bPo bTb wSh wTe wNx bOs bOn yop bSo bNu ytr yiw wMa wPr bTp yln ypl yfa wLi bSi yhp yhe yhg wHs yhi ++ fr) (some (.int z)) (mW G q yp ye yg bPo bTb wSh wTe wNx bOs bOn yop bSo bNu ytr yiw wMa wPr bTp yln ypl yfa wLi bSi yhp yhe yhg wHs yhi ++ fr) := by
  refine Ct.of (by decide) (Nat.le_of_ble_eq_true rfl) trivial ?_
  intro p e s m args below meth c Q A ls F hw hA hE hl
  have hx := F.x
  have hb := F.b
  unfold f_X5_generator at h
  obtain ⟨H, hH⟩ : ∃ H, H = s.heap := ⟨_, rfl⟩
  obtain ⟨locs, hlo⟩ : ∃ locs : List Loc, locs = [] := ⟨_, rfl⟩
  rw [← hH, ← hlo] at hw ⊢
  have hl : lv_has ls 4 [(0, .ref (q 0)), (1, .int v1)] := hl
  refine lv_iconst (v := 0) hx hb dX5_generator_0 (by decide) ?_
  refine lv_istore_n (lv' := [(2, .int 0), (0, .ref (q 0)), (1, .int v1)]) hx hb dX5_generator_1 rfl hl (by decide) rfl (fun ls hl => ?_)
  refine lv_iconst (v := 1) hx hb dX5_generator_2 (by decide) ?_
  refine lv_istore_n (lv' := [(3, .int 1), (2, .int 0), (0, .ref (q 0)), (1, .int v1)]) hx hb dX5_generator_3 rfl hl (by decide) rfl (fun ls hl => ?_)
  exact w_X5_generator_L4 F hA  FU _ _ z h hE H locs ls hw (lv_sub hl [2, 3, 1, 0] rfl)
end
theorem dX5_use_0 : decode cX5_use 0 = .ok (.aload_n 0, 1) := by decide +kernel
theorem dX5_use_1 : decode cX5_use 1 = .ok (.iload_n 1, 1) := by decide +kernel
theorem dX5_use_2 : decode cX5_use 2 = .ok (.invokevirtual 111, 3) := by decide +kernel
theorem dX5_use_5 : decode cX5_use 5 = .ok (.ifCond .eq 11, 3) := by decide +kernel
theorem dX5_use_8 : decode cX5_use 8 = .ok (.aload_n 0, 1) := by decide +kernel
theorem dX5_use_9 : decode cX5_use 9 = .ok (.iload_n 1, 1) := by decide +kernel
theorem dX5_use_10 : decode cX5_use 10 = .ok (.invokevirtual 72, 3) := by decide +kernel
theorem dX5_use_13 : decode cX5_use 13 = .ok (.ifCond .ne 6, 3) := by decide +kernel
theorem dX5_use_16 : decode cX5_use 16 = .ok (.bipush (-2), 2) := by decide +kernel
theorem dX5_use_18 : decode cX5_use 18 = .ok (.ireturn, 1) := by decide +kernel
theorem dX5_use_19 : decode cX5_use 19 = .ok (.aload_n 0, 1) := by decide +kernel
theorem dX5_use_20 : decode cX5_use 20 = .ok (.getfield 69, 3) := by decide +kernel
theorem dX5_use_23 : decode cX5_use 23 = .ok (.istore_n 2, 1) := by decide +kernel
theorem dX5_use_24 : decode cX5_use 24 = .ok (.aload_n 0, 1) := by decide +kernel
theorem dX5_use_25 : decode cX5_use 25 = .ok (.iload_n 1, 1) := by decide +kernel
theorem dX5_use_26 : decode cX5_use 26 = .ok (.putfield 69, 3) := by decide +kernel
theorem dX5_use_29 : decode cX5_use 29 = .ok (.aload_n 0, 1) := by decide +kernel
theorem dX5_use_30 : decode cX5_use 30 = .ok (.invokevirtual 76, 3) := by decide +kernel
theorem dX5_use_33 : decode cX5_use 33 = .ok (.iload_n 2, 1) := by decide +kernel
theorem dX5_use_34 : decode cX5_use 34 = .ok (.ireturn, 1) := by decide +kernel
section
variable {p : Program} {l : Launch} {e : Env} {s : State} {m : MethodId} {args : Array Value} {below : List Frame} {meth : Method} {c : Code} {Q : State → Prop} {G : GG} {A : Nat → Prop} {q : Nat → Nat} {fr : va_W}
def f_X5_use (yp : Int32) (ye : Int32) (yg : Int32) (bPo : Nat → Int32) (bTb : Nat → Int32) (v1 : Int32) : Option (Int32 × Int32 × (Nat → Int32) × (Nat → Int32)) :=
  (f_X5_isNumber yp v1).bind fun z1 =>
  if z1 = 0 then
  some ((-2), yg, bPo, bTb)
  else
  (f_X5_isGenerator yp v1).bind fun z3 =>
  if z3 = 0 then
  some ((-2), yg, bPo, bTb)
  else
  (f_X5_findsClasses yp ye v1 bPo bTb).bind fun z5 =>
  some (yg, v1, z5.1, z5.2)
set_option maxHeartbeats 4000000 in
set_option maxRecDepth 100000 in
theorem k_X5_use {l : Launch} {G : GG} {q : Nat → Nat} {fr : va_W} {yp : Int32} {ye : Int32} {yg : Int32} {bPo : Nat → Int32} {bTb : Nat → Int32} {wSh : Nat → Int64} {wTe : Nat → Int64} {wNx : Nat → Int64} {bOs : Nat → Int32} {bOn : Nat → Int32} {yop : Int32} {bSo : Nat → Int32} {bNu : Nat → Int32} {ytr : Int32} {yiw : Int32} {wMa : Nat → Int64} {wPr : Nat → Int64} {bTp : Nat → Int32} {yln : Int32} {ypl : Int32} {yfa : Int32} {wLi : Nat → Int64} {bSi : Nat → Int32} {yhp : Int32} {yhe : Int32} {yhg : Int32} {wHs : Nat → Int64} {yhi : Int32} {v1 : Int32} {z : Int32 × Int32 × (Nat → Int32) × (Nat → Int32)}  (h : f_X5_use yp ye yg bPo bTb v1 = some z) : Ct l G yX5_use cX5_use 3 (some .int) 3 68 [.ref (q 0), .int v1] (mW G q yp ye yg bPo bTb wSh wTe wNx bOs bOn yop bSo bNu ytr yiw wMa wPr bTp yln ypl yfa wLi bSi yhp yhe yhg wHs yhi ++ fr) (some (.int z.1)) (mW G q yp ye z.2.1 z.2.2.1 z.2.2.2 wSh wTe wNx bOs bOn yop bSo bNu ytr yiw wMa wPr bTp yln ypl yfa wLi bSi yhp yhe yhg wHs yhi ++ fr) := by
  refine Ct.of (by decide) (Nat.le_of_ble_eq_true rfl) trivial ?_
  intro p e s m args below meth c Q A ls F hw hA hE hl
  have hx := F.x
  have hb := F.b
  unfold f_X5_use at h
  obtain ⟨H, hH⟩ : ∃ H, H = s.heap := ⟨_, rfl⟩
  obtain ⟨locs, hlo⟩ : ∃ locs : List Loc, locs = [] := ⟨_, rfl⟩
  rw [← hH, ← hlo] at hw ⊢
  have hl : lv_has ls 3 [(0, .ref (q 0)), (1, .int v1)] := hl
  refine lv_aload_n hx hb dX5_use_0 rfl (lv_at hl 0 rfl) ?_
  refine lv_iload_n hx hb dX5_use_1 rfl (lv_at hl 1 rfl) ?_
  obtain ⟨z1, hz1, h⟩ := stB h
  refine ctV (av := [.int v1]) (st0 := ([] : List Value)) (st1 := ([.int z1] : List Value)) F hw hA (k_X5_isNumber hz1) kl_5_111 kd_X5_isNumber rfl ⟨by decide, by decide⟩ 0 rfl rfl hl.1 rfl (Nat.le_of_ble_eq_true rfl) dX5_use_2 rfl (fun H locs hw => ?_)
  refine lv_if_eq (tgt := 16) hx hb dX5_use_5 (by decide) (fun c2 => ?_) (fun c2 => ?_)
  · replace h := stT c2 h
    refine lv_bipush (v := -2) hx hb dX5_use_16 (by decide) ?_
    obtain rfl := Option.some.inj h
    exact hE H locs _ ls hw dX5_use_18
  · replace h := stF c2 h
    refine lv_aload_n hx hb dX5_use_8 rfl (lv_at hl 0 rfl) ?_
    refine lv_iload_n hx hb dX5_use_9 rfl (lv_at hl 1 rfl) ?_
    obtain ⟨z3, hz3, h⟩ := stB h
    refine ctV (av := [.int v1]) (st0 := ([] : List Value)) (st1 := ([.int z3] : List Value)) F hw hA (k_X5_isGenerator hz3) kl_5_72 kd_X5_isGenerator rfl ⟨by decide, by decide⟩ 0 rfl rfl hl.1 rfl (Nat.le_of_ble_eq_true rfl) dX5_use_10 rfl (fun H locs hw => ?_)
    refine lv_if_ne (tgt := 19) hx hb dX5_use_13 (by decide) (fun c4 => ?_) (fun c4 => ?_)
    · replace h := stF c4 h
      refine lv_aload_n hx hb dX5_use_19 rfl (lv_at hl 0 rfl) ?_
      refine gf_5_69 F hw dX5_use_20 ?_
      refine lv_istore_n (lv' := [(2, .int yg), (0, .ref (q 0)), (1, .int v1)]) hx hb dX5_use_23 rfl hl (by decide) rfl (fun ls hl => ?_)
      refine lv_aload_n hx hb dX5_use_24 rfl (lv_at hl 1 rfl) ?_
      refine lv_iload_n hx hb dX5_use_25 rfl (lv_at hl 2 rfl) ?_
      refine pf_5_69 F hw dX5_use_26 (fun H locs hw => ?_)
      refine lv_aload_n hx hb dX5_use_29 rfl (lv_at hl 1 rfl) ?_
      obtain ⟨z5, hz5, h⟩ := stB h
      refine ctV (av := []) (st0 := ([] : List Value)) (st1 := ([] : List Value)) F hw hA (k_X5_findsClasses hz5) kl_5_76 kd_X5_findsClasses rfl ⟨by decide, by decide⟩ 0 rfl rfl hl.1 rfl (Nat.le_of_ble_eq_true rfl) dX5_use_30 rfl (fun H locs hw => ?_)
      refine lv_iload_n hx hb dX5_use_33 rfl (lv_at hl 0 rfl) ?_
      obtain rfl := Option.some.inj h
      exact hE H locs _ ls hw dX5_use_34
    · replace h := stT c4 h
      refine lv_bipush (v := -2) hx hb dX5_use_16 (by decide) ?_
      obtain rfl := Option.some.inj h
      exact hE H locs _ ls hw dX5_use_18
end
theorem dX5_power_0 : decode cX5_power 0 = .ok (.aload_n 0, 1) := by decide +kernel
theorem dX5_power_1 : decode cX5_power 1 = .ok (.iload_n 1, 1) := by decide +kernel
theorem dX5_power_2 : decode cX5_power 2 = .ok (.invokevirtual 111, 3) := by decide +kernel
theorem dX5_power_5 : decode cX5_power 5 = .ok (.ifCond .eq 12, 3) := by decide +kernel
theorem dX5_power_8 : decode cX5_power 8 = .ok (.aload_n 0, 1) := by decide +kernel
theorem dX5_power_9 : decode cX5_power 9 = .ok (.getfield 11, 3) := by decide +kernel
theorem dX5_power_12 : decode cX5_power 12 = .ok (.iload_n 1, 1) := by decide +kernel
theorem dX5_power_13 : decode cX5_power 13 = .ok (.iaload, 1) := by decide +kernel
theorem dX5_power_14 : decode cX5_power 14 = .ok (.goto 4, 3) := by decide +kernel
theorem dX5_power_17 : decode cX5_power 17 = .ok (.iconst (-1), 1) := by decide +kernel
theorem dX5_power_18 : decode cX5_power 18 = .ok (.ireturn, 1) := by decide +kernel
section
variable {p : Program} {l : Launch} {e : Env} {s : State} {m : MethodId} {args : Array Value} {below : List Frame} {meth : Method} {c : Code} {Q : State → Prop} {G : GG} {A : Nat → Prop} {q : Nat → Nat} {fr : va_W}
def f_X5_power (yp : Int32) (bPo : Nat → Int32) (v1 : Int32) : Option (Int32) :=
  (f_X5_isNumber yp v1).bind fun z1 =>
  if z1 = 0 then
  some (-1)
  else
  if inb v1 62 then
  some (bPo v1.toNatClampNeg)
  else none
set_option maxHeartbeats 4000000 in
set_option maxRecDepth 100000 in
theorem k_X5_power {l : Launch} {G : GG} {q : Nat → Nat} {fr : va_W} {yp : Int32} {ye : Int32} {yg : Int32} {bPo : Nat → Int32} {bTb : Nat → Int32} {wSh : Nat → Int64} {wTe : Nat → Int64} {wNx : Nat → Int64} {bOs : Nat → Int32} {bOn : Nat → Int32} {yop : Int32} {bSo : Nat → Int32} {bNu : Nat → Int32} {ytr : Int32} {yiw : Int32} {wMa : Nat → Int64} {wPr : Nat → Int64} {bTp : Nat → Int32} {yln : Int32} {ypl : Int32} {yfa : Int32} {wLi : Nat → Int64} {bSi : Nat → Int32} {yhp : Int32} {yhe : Int32} {yhg : Int32} {wHs : Nat → Int64} {yhi : Int32} {v1 : Int32} {z : Int32}  (h : f_X5_power yp bPo v1 = some z) : Ct l G yX5_power cX5_power 2 (some .int) 2 46 [.ref (q 0), .int v1] (mW G q yp ye yg bPo bTb wSh wTe wNx bOs bOn yop bSo bNu ytr yiw wMa wPr bTp yln ypl yfa wLi bSi yhp yhe yhg wHs yhi ++ fr) (some (.int z)) (mW G q yp ye yg bPo bTb wSh wTe wNx bOs bOn yop bSo bNu ytr yiw wMa wPr bTp yln ypl yfa wLi bSi yhp yhe yhg wHs yhi ++ fr) := by
  refine Ct.of (by decide) (Nat.le_of_ble_eq_true rfl) trivial ?_
  intro p e s m args below meth c Q A ls F hw hA hE hl
  have hx := F.x
  have hb := F.b
  unfold f_X5_power at h
  obtain ⟨H, hH⟩ : ∃ H, H = s.heap := ⟨_, rfl⟩
  obtain ⟨locs, hlo⟩ : ∃ locs : List Loc, locs = [] := ⟨_, rfl⟩
  rw [← hH, ← hlo] at hw ⊢
  have hl : lv_has ls 2 [(0, .ref (q 0)), (1, .int v1)] := hl
  refine lv_aload_n hx hb dX5_power_0 rfl (lv_at hl 0 rfl) ?_
  refine lv_iload_n hx hb dX5_power_1 rfl (lv_at hl 1 rfl) ?_
  obtain ⟨z1, hz1, h⟩ := stB h
  refine ctV (av := [.int v1]) (st0 := ([] : List Value)) (st1 := ([.int z1] : List Value)) F hw hA (k_X5_isNumber hz1) kl_5_111 kd_X5_isNumber rfl ⟨by decide, by decide⟩ 0 rfl rfl hl.1 rfl (Nat.le_of_ble_eq_true rfl) dX5_power_2 rfl (fun H locs hw => ?_)
  refine lv_if_eq (tgt := 17) hx hb dX5_power_5 (by decide) (fun c2 => ?_) (fun c2 => ?_)
  · replace h := stT c2 h
    refine lv_iconst (v := -1) hx hb dX5_power_17 (by decide) ?_
    obtain rfl := Option.some.inj h
    exact hE H locs _ ls hw dX5_power_18
  · replace h := stF c2 h
    refine lv_aload_n hx hb dX5_power_8 rfl (lv_at hl 0 rfl) ?_
    refine gf_5_11 F hw dX5_power_9 ?_
    refine lv_iload_n hx hb dX5_power_12 rfl (lv_at hl 1 rfl) ?_
    obtain ⟨g3, h⟩ := stG h
    refine al_m1 F hw g3 dX5_power_13 ?_
    refine lv_goto (tgt := 18) hx hb dX5_power_14 (by decide) ?_
    obtain rfl := Option.some.inj h
    exact hE H locs _ ls hw dX5_power_18
end
theorem dX5_classOf_0 : decode cX5_classOf 0 = .ok (.aload_n 0, 1) := by decide +kernel
theorem dX5_classOf_1 : decode cX5_classOf 1 = .ok (.iload_n 1, 1) := by decide +kernel
theorem dX5_classOf_2 : decode cX5_classOf 2 = .ok (.invokevirtual 111, 3) := by decide +kernel
theorem dX5_classOf_5 : decode cX5_classOf 5 = .ok (.ifCond .eq 11, 3) := by decide +kernel
theorem dX5_classOf_8 : decode cX5_classOf 8 = .ok (.aload_n 0, 1) := by decide +kernel
theorem dX5_classOf_9 : decode cX5_classOf 9 = .ok (.iload_n 1, 1) := by decide +kernel
theorem dX5_classOf_10 : decode cX5_classOf 10 = .ok (.invokevirtual 83, 3) := by decide +kernel
theorem dX5_classOf_13 : decode cX5_classOf 13 = .ok (.goto 4, 3) := by decide +kernel
theorem dX5_classOf_16 : decode cX5_classOf 16 = .ok (.iconst (-1), 1) := by decide +kernel
theorem dX5_classOf_17 : decode cX5_classOf 17 = .ok (.ireturn, 1) := by decide +kernel
section
variable {p : Program} {l : Launch} {e : Env} {s : State} {m : MethodId} {args : Array Value} {below : List Frame} {meth : Method} {c : Code} {Q : State → Prop} {G : GG} {A : Nat → Prop} {q : Nat → Nat} {fr : va_W}
def f_X5_classOf (yp : Int32) (ye : Int32) (bPo : Nat → Int32) (v1 : Int32) : Option (Int32) :=
  (f_X5_isNumber yp v1).bind fun z1 =>
  if z1 = 0 then
  some (-1)
  else
  (f_X5_classAt ye bPo v1).bind fun z3 =>
  some z3
set_option maxHeartbeats 4000000 in
set_option maxRecDepth 100000 in
theorem k_X5_classOf {l : Launch} {G : GG} {q : Nat → Nat} {fr : va_W} {yp : Int32} {ye : Int32} {yg : Int32} {bPo : Nat → Int32} {bTb : Nat → Int32} {wSh : Nat → Int64} {wTe : Nat → Int64} {wNx : Nat → Int64} {bOs : Nat → Int32} {bOn : Nat → Int32} {yop : Int32} {bSo : Nat → Int32} {bNu : Nat → Int32} {ytr : Int32} {yiw : Int32} {wMa : Nat → Int64} {wPr : Nat → Int64} {bTp : Nat → Int32} {yln : Int32} {ypl : Int32} {yfa : Int32} {wLi : Nat → Int64} {bSi : Nat → Int32} {yhp : Int32} {yhe : Int32} {yhg : Int32} {wHs : Nat → Int64} {yhi : Int32} {v1 : Int32} {z : Int32}  (h : f_X5_classOf yp ye bPo v1 = some z) : Ct l G yX5_classOf cX5_classOf 2 (some .int) 2 46 [.ref (q 0), .int v1] (mW G q yp ye yg bPo bTb wSh wTe wNx bOs bOn yop bSo bNu ytr yiw wMa wPr bTp yln ypl yfa wLi bSi yhp yhe yhg wHs yhi ++ fr) (some (.int z)) (mW G q yp ye yg bPo bTb wSh wTe wNx bOs bOn yop bSo bNu ytr yiw wMa wPr bTp yln ypl yfa wLi bSi yhp yhe yhg wHs yhi ++ fr) := by
  refine Ct.of (by decide) (Nat.le_of_ble_eq_true rfl) trivial ?_
  intro p e s m args below meth c Q A ls F hw hA hE hl
  have hx := F.x
  have hb := F.b
  unfold f_X5_classOf at h
  obtain ⟨H, hH⟩ : ∃ H, H = s.heap := ⟨_, rfl⟩
  obtain ⟨locs, hlo⟩ : ∃ locs : List Loc, locs = [] := ⟨_, rfl⟩
  rw [← hH, ← hlo] at hw ⊢
  have hl : lv_has ls 2 [(0, .ref (q 0)), (1, .int v1)] := hl
  refine lv_aload_n hx hb dX5_classOf_0 rfl (lv_at hl 0 rfl) ?_
  refine lv_iload_n hx hb dX5_classOf_1 rfl (lv_at hl 1 rfl) ?_
  obtain ⟨z1, hz1, h⟩ := stB h
  refine ctV (av := [.int v1]) (st0 := ([] : List Value)) (st1 := ([.int z1] : List Value)) F hw hA (k_X5_isNumber hz1) kl_5_111 kd_X5_isNumber rfl ⟨by decide, by decide⟩ 0 rfl rfl hl.1 rfl (Nat.le_of_ble_eq_true rfl) dX5_classOf_2 rfl (fun H locs hw => ?_)
  refine lv_if_eq (tgt := 16) hx hb dX5_classOf_5 (by decide) (fun c2 => ?_) (fun c2 => ?_)
  · replace h := stT c2 h
    refine lv_iconst (v := -1) hx hb dX5_classOf_16 (by decide) ?_
    obtain rfl := Option.some.inj h
    exact hE H locs _ ls hw dX5_classOf_17
  · replace h := stF c2 h
    refine lv_aload_n hx hb dX5_classOf_8 rfl (lv_at hl 0 rfl) ?_
    refine lv_iload_n hx hb dX5_classOf_9 rfl (lv_at hl 1 rfl) ?_
    obtain ⟨z3, hz3, h⟩ := stB h
    refine ctV (av := [.int v1]) (st0 := ([] : List Value)) (st1 := ([.int z3] : List Value)) F hw hA (k_X5_classAt hz3) kl_5_83 kd_X5_classAt rfl ⟨by decide, by decide⟩ 0 rfl rfl hl.1 rfl (Nat.le_of_ble_eq_true rfl) dX5_classOf_10 rfl (fun H locs hw => ?_)
    refine lv_goto (tgt := 17) hx hb dX5_classOf_13 (by decide) ?_
    obtain rfl := Option.some.inj h
    exact hE H locs _ ls hw dX5_classOf_17
end
theorem dX5_member_0 : decode cX5_member 0 = .ok (.aload_n 0, 1) := by decide +kernel
theorem dX5_member_1 : decode cX5_member 1 = .ok (.iload_n 1, 1) := by decide +kernel
theorem dX5_member_2 : decode cX5_member 2 = .ok (.invokevirtual 114, 3) := by decide +kernel
theorem dX5_member_5 : decode cX5_member 5 = .ok (.ifCond .ne 5, 3) := by decide +kernel
theorem dX5_member_8 : decode cX5_member 8 = .ok (.iconst (-1), 1) := by decide +kernel
theorem dX5_member_9 : decode cX5_member 9 = .ok (.ireturn, 1) := by decide +kernel
theorem dX5_member_10 : decode cX5_member 10 = .ok (.iconst 0, 1) := by decide +kernel
theorem dX5_member_11 : decode cX5_member 11 = .ok (.istore_n 3, 1) := by decide +kernel
theorem dX5_member_12 : decode cX5_member 12 = .ok (.iconst 1, 1) := by decide +kernel
theorem dX5_member_13 : decode cX5_member 13 = .ok (.istore 4, 2) := by decide +kernel
theorem dX5_member_15 : decode cX5_member 15 = .ok (.iload 4, 2) := by decide +kernel
theorem dX5_member_17 : decode cX5_member 17 = .ok (.aload_n 0, 1) := by decide +kernel
theorem dX5_member_18 : decode cX5_member 18 = .ok (.getfield 62, 3) := by decide +kernel
theorem dX5_member_21 : decode cX5_member 21 = .ok (.if_icmp .ge 30, 3) := by decide +kernel
theorem dX5_member_24 : decode cX5_member 24 = .ok (.aload_n 0, 1) := by decide +kernel
theorem dX5_member_25 : decode cX5_member 25 = .ok (.iload 4, 2) := by decide +kernel
theorem dX5_member_27 : decode cX5_member 27 = .ok (.invokevirtual 83, 3) := by decide +kernel
theorem dX5_member_30 : decode cX5_member 30 = .ok (.iload_n 1, 1) := by decide +kernel
theorem dX5_member_31 : decode cX5_member 31 = .ok (.if_icmp .ne 14, 3) := by decide +kernel
theorem dX5_member_34 : decode cX5_member 34 = .ok (.iload_n 3, 1) := by decide +kernel
theorem dX5_member_35 : decode cX5_member 35 = .ok (.iload_n 2, 1) := by decide +kernel
theorem dX5_member_36 : decode cX5_member 36 = .ok (.if_icmp .ne 6, 3) := by decide +kernel
theorem dX5_member_39 : decode cX5_member 39 = .ok (.iload 4, 2) := by decide +kernel
theorem dX5_member_41 : decode cX5_member 41 = .ok (.ireturn, 1) := by decide +kernel
theorem dX5_member_42 : decode cX5_member 42 = .ok (.iinc 3 1, 3) := by decide +kernel
theorem dX5_member_45 : decode cX5_member 45 = .ok (.iinc 4 1, 3) := by decide +kernel
theorem dX5_member_48 : decode cX5_member 48 = .ok (.goto (-33), 3) := by decide +kernel
theorem dX5_member_51 : decode cX5_member 51 = .ok (.iconst (-1), 1) := by decide +kernel
theorem dX5_member_52 : decode cX5_member 52 = .ok (.ireturn, 1) := by decide +kernel
section
variable {p : Program} {l : Launch} {e : Env} {s : State} {m : MethodId} {args : Array Value} {below : List Frame} {meth : Method} {c : Code} {Q : State → Prop} {G : GG} {A : Nat → Prop} {q : Nat → Nat} {fr : va_W}
def f_X5_member_L15 (yp : Int32) (ye : Int32) (bPo : Nat → Int32) (v1 : Int32) (v2 : Int32) : Nat → Int32 → Int32 → Option (Int32)
  | 0, _, _ => none
  | fu + 1, v3, v4 =>
    if yp ≤ v4 then
    some (-1)
    else
    (f_X5_classAt ye bPo v4).bind fun z2 =>
    if z2 = v1 then
    if v3 = v2 then
    some v4
    else
    f_X5_member_L15 yp ye bPo v1 v2 fu (v3 + 1) (v4 + 1)
    else
    f_X5_member_L15 yp ye bPo v1 v2 fu v3 (v4 + 1)
set_option maxHeartbeats 4000000 in
set_option maxRecDepth 100000 in
theorem w_X5_member_L15 {yp : Int32} {ye : Int32} {yg : Int32} {bPo : Nat → Int32} {bTb : Nat → Int32} {wSh : Nat → Int64} {wTe : Nat → Int64} {wNx : Nat → Int64} {bOs : Nat → Int32} {bOn : Nat → Int32} {yop : Int32} {bSo : Nat → Int32} {bNu : Nat → Int32} {ytr : Int32} {yiw : Int32} {wMa : Nat → Int64} {wPr : Nat → Int64} {bTp : Nat → Int32} {yln : Int32} {ypl : Int32} {yfa : Int32} {wLi : Nat → Int64} {bSi : Nat → Int32} {yhp : Int32} {yhe : Int32} {yhg : Int32} {wHs : Nat → Int64} {yhi : Int32} {v1 : Int32} {v2 : Int32}  (F : Fx p s m args meth c cX5_member 5 RX5 (some .int)) (hA : ∀ q, s.heap.size ≤ q → A q)   : ∀ (fu : Nat) (v3 : Int32) (v4 : Int32) (z : Int32), f_X5_member_L15 yp ye bPo v1 v2 fu v3 v4 = some z → Ends p l e (rmOf 2 46) s m args below meth c Q cX5_member G A (some .int) (some (.int z)) (mW G q yp ye yg bPo bTb wSh wTe wNx bOs bOn yop bSo bNu ytr yiw wMa wPr bTp yln ypl yfa wLi bSi yhp yhe yhg wHs yhi ++ fr) → ∀ (H : Heap) (locs : List Loc) (ls : Array Slot), Wd G s A (mW G q yp ye yg bPo bTb wSh wTe wNx bOs bOn yop bSo bNu ytr yiw wMa wPr bTp yln ypl yfa wLi bSi yhp yhe yhg wHs yhi ++ fr) H locs → lv_has ls 5 [(0, .ref (q 0)), (1, .int v1), (2, .int v2), (3, .int v3), (4, .int v4)] → W p l e (rmOf 2 46) s m args below meth c H locs 0 0 Q (F0 m 15 ls []) := by
  have hx := F.x
  have hb := F.b
  intro fu
  induction fu with
  | zero =>
    intro v3 v4 z h
    cases (h : none = some z)
  | succ fu ih =>
    intro v3 v4 z h hE H locs ls hw hl
    rw [f_X5_member_L15] at h
    refine lv_iload hx hb dX5_member_15 (lv_at hl 4 rfl) ?_
    refine lv_aload_n hx hb dX5_member_17 rfl (lv_at hl 0 rfl) ?_
    refine gf_5_62 F hw dX5_member_18 ?_
    refine lv_icmp_ge (tgt := 51) hx hb dX5_member_21 (by decide) (fun c1 => ?_) (fun c1 => ?_)
    · replace h := stT c1 h
      refine lv_iconst (v := -1) hx hb dX5_member_51 (by decide) ?_
      obtain rfl := Option.some.inj h
      exact hE H locs _ ls hw dX5_member_52
    · replace h := stF c1 h
      refine lv_aload_n hx hb dX5_member_24 rfl (lv_at hl 0 rfl) ?_
      refine lv_iload hx hb dX5_member_25 (lv_at hl 4 rfl) ?_
      obtain ⟨z2, hz2, h⟩ := stB h
      refine ctV (av := [.int v4]) (st0 := ([] : List Value)) (st1 := ([.int z2] : List Value)) F hw hA (k_X5_classAt hz2) kl_5_83 kd_X5_classAt rfl ⟨by decide, by decide⟩ 0 rfl rfl hl.1 rfl (Nat.le_of_ble_eq_true rfl) dX5_member_27 rfl (fun H locs hw => ?_)
      refine lv_iload_n hx hb dX5_member_30 rfl (lv_at hl 1 rfl) ?_
      refine lv_icmp_ne (tgt := 45) hx hb dX5_member_31 (by decide) (fun c3 => ?_) (fun c3 => ?_)
      · replace h := stF c3 h
        refine lv_iinc (v := (v4 + 1)) (lv' := [(4, .int (v4 + 1)), (0, .ref (q 0)), (1, .int v1), (2, .int v2), (3, .int v3)]) hx hb dX5_member_45 hl (k := 4) rfl rfl (by decide) rfl (fun ls hl => ?_)
        refine lv_goto (tgt := 15) hx hb dX5_member_48 (by decide) ?_
        exact ih _ _ z h hE H locs ls hw (lv_sub hl [1, 2, 3, 4, 0] rfl)
      · replace h := stT c3 h
        refine lv_iload_n hx hb dX5_member_34 rfl (lv_at hl 3 rfl) ?_
        refine lv_iload_n hx hb dX5_member_35 rfl (lv_at hl 2 rfl) ?_
        refine lv_icmp_ne (tgt := 42) hx hb dX5_member_36 (by decide) (fun c4 => ?_) (fun c4 => ?_)
        · replace h := stF c4 h
          refine lv_iinc (v := (v3 + 1)) (lv' := [(3, .int (v3 + 1)), (0, .ref (q 0)), (1, .int v1), (2, .int v2), (4, .int v4)]) hx hb dX5_member_42 hl (k := 3) rfl rfl (by decide) rfl (fun ls hl => ?_)
          refine lv_iinc (v := (v4 + 1)) (lv' := [(4, .int (v4 + 1)), (3, .int (v3 + 1)), (0, .ref (q 0)), (1, .int v1), (2, .int v2)]) hx hb dX5_member_45 hl (k := 4) rfl rfl (by decide) rfl (fun ls hl => ?_)
          refine lv_goto (tgt := 15) hx hb dX5_member_48 (by decide) ?_
          exact ih _ _ z h hE H locs ls hw (lv_sub hl [2, 3, 4, 1, 0] rfl)
        · replace h := stT c4 h
          refine lv_iload hx hb dX5_member_39 (lv_at hl 4 rfl) ?_
          obtain rfl := Option.some.inj h
          exact hE H locs _ ls hw dX5_member_41
def f_X5_member (yp : Int32) (ye : Int32) (bPo : Nat → Int32) (v1 : Int32) (v2 : Int32) : Option (Int32) :=
  (f_X5_isClass ye v1).bind fun z1 =>
  if z1 = 0 then
  some (-1)
  else
  f_X5_member_L15 yp ye bPo v1 v2 FU 0 1
set_option maxHeartbeats 4000000 in
set_option maxRecDepth 100000 in
theorem k_X5_member {l : Launch} {G : GG} {q : Nat → Nat} {fr : va_W} {yp : Int32} {ye : Int32} {yg : Int32} {bPo : Nat → Int32} {bTb : Nat → Int32} {wSh : Nat → Int64} {wTe : Nat → Int64} {wNx : Nat → Int64} {bOs : Nat → Int32} {bOn : Nat → Int32} {yop : Int32} {bSo : Nat → Int32} {bNu : Nat → Int32} {ytr : Int32} {yiw : Int32} {wMa : Nat → Int64} {wPr : Nat → Int64} {bTp : Nat → Int32} {yln : Int32} {ypl : Int32} {yfa : Int32} {wLi : Nat → Int64} {bSi : Nat → Int32} {yhp : Int32} {yhe : Int32} {yhg : Int32} {wHs : Nat → Int64} {yhi : Int32} {v1 : Int32} {v2 : Int32} {z : Int32}  (h : f_X5_member yp ye bPo v1 v2 = some z) : Ct l G yX5_member cX5_member 5 (some .int) 2 46 [.ref (q 0), .int v1, .int v2] (mW G q yp ye yg bPo bTb wSh wTe wNx bOs bOn yop bSo bNu ytr yiw wMa wPr bTp yln ypl yfa wLi bSi yhp yhe yhg wHs yhi ++ fr) (some (.int z)) (mW G q yp ye yg bPo bTb wSh wTe wNx bOs bOn yop bSo bNu ytr yiw wMa wPr bTp yln ypl yfa wLi bSi yhp yhe yhg wHs yhi ++ fr) := by
  refine Ct.of (by decide) (Nat.le_of_ble_eq_true rfl) trivial ?_
  intro p e s m args below meth c Q A ls F hw hA hE hl
  have hx := F.x
  have hb := F.b
  unfold f_X5_member at h
  obtain ⟨H, hH⟩ : ∃ H, H = s.heap := ⟨_, rfl⟩
  obtain ⟨locs, hlo⟩ : ∃ locs : List Loc, locs = [] := ⟨_, rfl⟩
  rw [← hH, ← hlo] at hw ⊢
  have hl : lv_has ls 5 [(0, .ref (q 0)), (1, .int v1), (2, .int v2)] := hl
  refine lv_aload_n hx hb dX5_member_0 rfl (lv_at hl 0 rfl) ?_
  refine lv_iload_n hx hb dX5_member_1 rfl (lv_at hl 1 rfl) ?_
  obtain ⟨z1, hz1, h⟩ := stB h
  refine ctV (av := [.int v1]) (st0 := ([] : List Value)) (st1 := ([.int z1] : List Value)) F hw hA (k_X5_isClass hz1) kl_5_114 kd_X5_isClass rfl ⟨by decide, by decide⟩ 0 rfl rfl hl.1 rfl (Nat.le_of_ble_eq_true rfl) dX5_member_2 rfl (fun H locs hw => ?_)
  refine lv_if_ne (tgt := 10) hx hb dX5_member_5 (by decide) (fun c2 => ?_) (fun c2 => ?_)
  · replace h := stF c2 h
    refine lv_iconst (v := 0) hx hb dX5_member_10 (by decide) ?_
    refine lv_istore_n (lv' := [(3, .int 0), (0, .ref (q 0)), (1, .int v1), (2, .int v2)]) hx hb dX5_member_11 rfl hl (by decide) rfl (fun ls hl => ?_)
    refine lv_iconst (v := 1) hx hb dX5_member_12 (by decide) ?_
    refine lv_istore (lv' := [(4, .int 1), (3, .int 0), (0, .ref (q 0)), (1, .int v1), (2, .int v2)]) hx hb dX5_member_13 hl (by decide) rfl (fun ls hl => ?_)
    exact w_X5_member_L15 F hA  FU _ _ z h hE H locs ls hw (lv_sub hl [2, 3, 4, 1, 0] rfl)
  · replace h := stT c2 h
    refine lv_iconst (v := -1) hx hb dX5_member_8 (by decide) ?_
    obtain rfl := Option.some.inj h
    exact hE H locs _ ls hw dX5_member_9
end
theorem dX5_besideOf_0 : decode cX5_besideOf 0 = .ok (.iconst 0, 1) := by decide +kernel
theorem dX5_besideOf_1 : decode cX5_besideOf 1 = .ok (.istore_n 3, 1) := by decide +kernel
theorem dX5_besideOf_2 : decode cX5_besideOf 2 = .ok (.iconst 1, 1) := by decide +kernel
theorem dX5_besideOf_3 : decode cX5_besideOf 3 = .ok (.istore 4, 2) := by decide +kernel
theorem dX5_besideOf_5 : decode cX5_besideOf 5 = .ok (.iload 4, 2) := by decide +kernel
theorem dX5_besideOf_7 : decode cX5_besideOf 7 = .ok (.iconst 1, 1) := by decide +kernel
theorem dX5_besideOf_8 : decode cX5_besideOf 8 = .ok (.iadd, 1) := by decide +kernel
theorem dX5_besideOf_9 : decode cX5_besideOf 9 = .ok (.aload_n 0, 1) := by decide +kernel
theorem dX5_besideOf_10 : decode cX5_besideOf 10 = .ok (.getfield 62, 3) := by decide +kernel
theorem dX5_besideOf_13 : decode cX5_besideOf 13 = .ok (.if_icmp .ge 42, 3) := by decide +kernel
theorem dX5_besideOf_16 : decode cX5_besideOf 16 = .ok (.iload_n 3, 1) := by decide +kernel
theorem dX5_besideOf_17 : decode cX5_besideOf 17 = .ok (.aload_n 0, 1) := by decide +kernel
theorem dX5_besideOf_18 : decode cX5_besideOf 18 = .ok (.iload 4, 2) := by decide +kernel
theorem dX5_besideOf_20 : decode cX5_besideOf 20 = .ok (.invokevirtual 83, 3) := by decide +kernel
theorem dX5_besideOf_23 : decode cX5_besideOf 23 = .ok (.iload_n 1, 1) := by decide +kernel
theorem dX5_besideOf_24 : decode cX5_besideOf 24 = .ok (.if_icmp .ne 19, 3) := by decide +kernel
theorem dX5_besideOf_27 : decode cX5_besideOf 27 = .ok (.aload_n 0, 1) := by decide +kernel
theorem dX5_besideOf_28 : decode cX5_besideOf 28 = .ok (.iload 4, 2) := by decide +kernel
theorem dX5_besideOf_30 : decode cX5_besideOf 30 = .ok (.iconst 1, 1) := by decide +kernel
theorem dX5_besideOf_31 : decode cX5_besideOf 31 = .ok (.iadd, 1) := by decide +kernel
theorem dX5_besideOf_32 : decode cX5_besideOf 32 = .ok (.invokevirtual 83, 3) := by decide +kernel
theorem dX5_besideOf_35 : decode cX5_besideOf 35 = .ok (.iload_n 2, 1) := by decide +kernel
theorem dX5_besideOf_36 : decode cX5_besideOf 36 = .ok (.if_icmp .ne 7, 3) := by decide +kernel
theorem dX5_besideOf_39 : decode cX5_besideOf 39 = .ok (.iconst 1, 1) := by decide +kernel
theorem dX5_besideOf_40 : decode cX5_besideOf 40 = .ok (.goto 4, 3) := by decide +kernel
theorem dX5_besideOf_43 : decode cX5_besideOf 43 = .ok (.iconst 0, 1) := by decide +kernel
theorem dX5_besideOf_44 : decode cX5_besideOf 44 = .ok (.invokestatic 103, 3) := by decide +kernel
theorem dX5_besideOf_47 : decode cX5_besideOf 47 = .ok (.iadd, 1) := by decide +kernel
theorem dX5_besideOf_48 : decode cX5_besideOf 48 = .ok (.istore_n 3, 1) := by decide +kernel
theorem dX5_besideOf_49 : decode cX5_besideOf 49 = .ok (.iinc 4 1, 3) := by decide +kernel
theorem dX5_besideOf_52 : decode cX5_besideOf 52 = .ok (.goto (-47), 3) := by decide +kernel
theorem dX5_besideOf_55 : decode cX5_besideOf 55 = .ok (.iload_n 3, 1) := by decide +kernel
theorem dX5_besideOf_56 : decode cX5_besideOf 56 = .ok (.ireturn, 1) := by decide +kernel
section
variable {p : Program} {l : Launch} {e : Env} {s : State} {m : MethodId} {args : Array Value} {below : List Frame} {meth : Method} {c : Code} {Q : State → Prop} {G : GG} {A : Nat → Prop} {q : Nat → Nat} {fr : va_W}
def f_X5_besideOf_L5 (yp : Int32) (ye : Int32) (bPo : Nat → Int32) (v1 : Int32) (v2 : Int32) : Nat → Int32 → Int32 → Option (Int32)
  | 0, _, _ => none
  | fu + 1, v3, v4 =>
    if yp ≤ (v4 + 1) then
    some v3
    else
    (f_X5_classAt ye bPo v4).bind fun z2 =>
    if z2 = v1 then
    (f_X5_classAt ye bPo (v4 + 1)).bind fun z5 =>
    if z5 = v2 then
    (f_X5_bit 1).bind fun z8 =>
    f_X5_besideOf_L5 yp ye bPo v1 v2 fu (v3 + z8) (v4 + 1)
    else
    (f_X5_bit 0).bind fun z7 =>
    f_X5_besideOf_L5 yp ye bPo v1 v2 fu (v3 + z7) (v4 + 1)
    else
    (f_X5_bit 0).bind fun z4 =>
    f_X5_besideOf_L5 yp ye bPo v1 v2 fu (v3 + z4) (v4 + 1)
set_option maxHeartbeats 4000000 in
set_option maxRecDepth 100000 in
theorem w_X5_besideOf_L5 {yp : Int32} {ye : Int32} {yg : Int32} {bPo : Nat → Int32} {bTb : Nat → Int32} {wSh : Nat → Int64} {wTe : Nat → Int64} {wNx : Nat → Int64} {bOs : Nat → Int32} {bOn : Nat → Int32} {yop : Int32} {bSo : Nat → Int32} {bNu : Nat → Int32} {ytr : Int32} {yiw : Int32} {wMa : Nat → Int64} {wPr : Nat → Int64} {bTp : Nat → Int32} {yln : Int32} {ypl : Int32} {yfa : Int32} {wLi : Nat → Int64} {bSi : Nat → Int32} {yhp : Int32} {yhe : Int32} {yhg : Int32} {wHs : Nat → Int64} {yhi : Int32} {v1 : Int32} {v2 : Int32}  (F : Fx p s m args meth c cX5_besideOf 5 RX5 (some .int)) (hA : ∀ q, s.heap.size ≤ q → A q)   : ∀ (fu : Nat) (v3 : Int32) (v4 : Int32) (z : Int32), f_X5_besideOf_L5 yp ye bPo v1 v2 fu v3 v4 = some z → Ends p l e (rmOf 1 21) s m args below meth c Q cX5_besideOf G A (some .int) (some (.int z)) (mW G q yp ye yg bPo bTb wSh wTe wNx bOs bOn yop bSo bNu ytr yiw wMa wPr bTp yln ypl yfa wLi bSi yhp yhe yhg wHs yhi ++ fr) → ∀ (H : Heap) (locs : List Loc) (ls : Array Slot), Wd G s A (mW G q yp ye yg bPo bTb wSh wTe wNx bOs bOn yop bSo bNu ytr yiw wMa wPr bTp yln ypl yfa wLi bSi yhp yhe yhg wHs yhi ++ fr) H locs → lv_has ls 5 [(0, .ref (q 0)), (1, .int v1), (2, .int v2), (3, .int v3), (4, .int v4)] → W p l e (rmOf 1 21) s m args below meth c H locs 0 0 Q (F0 m 5 ls []) := by
  have hx := F.x
  have hb := F.b
  intro fu
  induction fu with
  | zero =>
    intro v3 v4 z h
    cases (h : none = some z)
  | succ fu ih =>
    intro v3 v4 z h hE H locs ls hw hl
    rw [f_X5_besideOf_L5] at h
    refine lv_iload hx hb dX5_besideOf_5 (lv_at hl 4 rfl) ?_
    refine lv_iconst (v := 1) hx hb dX5_besideOf_7 (by decide) ?_
    refine lv_iadd hx hb dX5_besideOf_8 ?_
    refine lv_aload_n hx hb dX5_besideOf_9 rfl (lv_at hl 0 rfl) ?_
    refine gf_5_62 F hw dX5_besideOf_10 ?_
    refine lv_icmp_ge (tgt := 55) hx hb dX5_besideOf_13 (by decide) (fun c1 => ?_) (fun c1 => ?_)
    · replace h := stT c1 h
      refine lv_iload_n hx hb dX5_besideOf_55 rfl (lv_at hl 3 rfl) ?_
      obtain rfl := Option.some.inj h
      exact hE H locs _ ls hw dX5_besideOf_56
    · replace h := stF c1 h
      refine lv_iload_n hx hb dX5_besideOf_16 rfl (lv_at hl 3 rfl) ?_
      refine lv_aload_n hx hb dX5_besideOf_17 rfl (lv_at hl 0 rfl) ?_
      refine lv_iload hx hb dX5_besideOf_18 (lv_at hl 4 rfl) ?_
      obtain ⟨z2, hz2, h⟩ := stB h
      refine ctV (av := [.int v4]) (st0 := ([.int v3] : List Value)) (st1 := ([.int z2, .int v3] : List Value)) F hw hA (k_X5_classAt hz2) kl_5_83 kd_X5_classAt rfl ⟨by decide, by decide⟩ 0 rfl rfl hl.1 rfl (Nat.le_of_ble_eq_true rfl) dX5_besideOf_20 rfl (fun H locs hw => ?_)
      refine lv_iload_n hx hb dX5_besideOf_23 rfl (lv_at hl 1 rfl) ?_
      refine lv_icmp_ne (tgt := 43) hx hb dX5_besideOf_24 (by decide) (fun c3 => ?_) (fun c3 => ?_)
      · replace h := stF c3 h
        refine lv_iconst (v := 0) hx hb dX5_besideOf_43 (by decide) ?_
        obtain ⟨z4, hz4, h⟩ := stB h
        refine ctS (av := [.int 0]) (st0 := ([.int v3] : List Value)) (st1 := ([.int z4, .int v3] : List Value)) F hw hA (k_X5_bit hz4) kl_5_103 kd_X5_bit rfl ⟨by decide, by decide⟩ hl.1 rfl (Nat.le_of_ble_eq_true rfl) dX5_besideOf_44 rfl (fun H locs hw => ?_)
        refine lv_iadd hx hb dX5_besideOf_47 ?_
        refine lv_istore_n (lv' := [(3, .int (v3 + z4)), (0, .ref (q 0)), (1, .int v1), (2, .int v2), (4, .int v4)]) hx hb dX5_besideOf_48 rfl hl (by decide) rfl (fun ls hl => ?_)
        refine lv_iinc (v := (v4 + 1)) (lv' := [(4, .int (v4 + 1)), (3, .int (v3 + z4)), (0, .ref (q 0)), (1, .int v1), (2, .int v2)]) hx hb dX5_besideOf_49 hl (k := 4) rfl rfl (by decide) rfl (fun ls hl => ?_)
        refine lv_goto (tgt := 5) hx hb dX5_besideOf_52 (by decide) ?_
        exact ih _ _ z h hE H locs ls hw (lv_sub hl [2, 3, 4, 1, 0] rfl)
      · replace h := stT c3 h
        refine lv_aload_n hx hb dX5_besideOf_27 rfl (lv_at hl 0 rfl) ?_
        refine lv_iload hx hb dX5_besideOf_28 (lv_at hl 4 rfl) ?_
        refine lv_iconst (v := 1) hx hb dX5_besideOf_30 (by decide) ?_
        refine lv_iadd hx hb dX5_besideOf_31 ?_
        obtain ⟨z5, hz5, h⟩ := stB h
        refine ctV (av := [.int (v4 + 1)]) (st0 := ([.int v3] : List Value)) (st1 := ([.int z5, .int v3] : List Value)) F hw hA (k_X5_classAt hz5) kl_5_83 kd_X5_classAt rfl ⟨by decide, by decide⟩ 0 rfl rfl hl.1 rfl (Nat.le_of_ble_eq_true rfl) dX5_besideOf_32 rfl (fun H locs hw => ?_)
        refine lv_iload_n hx hb dX5_besideOf_35 rfl (lv_at hl 2 rfl) ?_
        refine lv_icmp_ne (tgt := 43) hx hb dX5_besideOf_36 (by decide) (fun c6 => ?_) (fun c6 => ?_)
        · replace h := stF c6 h
          refine lv_iconst (v := 0) hx hb dX5_besideOf_43 (by decide) ?_
          obtain ⟨z7, hz7, h⟩ := stB h
          refine ctS (av := [.int 0]) (st0 := ([.int v3] : List Value)) (st1 := ([.int z7, .int v3] : List Value)) F hw hA (k_X5_bit hz7) kl_5_103 kd_X5_bit rfl ⟨by decide, by decide⟩ hl.1 rfl (Nat.le_of_ble_eq_true rfl) dX5_besideOf_44 rfl (fun H locs hw => ?_)
          refine lv_iadd hx hb dX5_besideOf_47 ?_
          refine lv_istore_n (lv' := [(3, .int (v3 + z7)), (0, .ref (q 0)), (1, .int v1), (2, .int v2), (4, .int v4)]) hx hb dX5_besideOf_48 rfl hl (by decide) rfl (fun ls hl => ?_)
          refine lv_iinc (v := (v4 + 1)) (lv' := [(4, .int (v4 + 1)), (3, .int (v3 + z7)), (0, .ref (q 0)), (1, .int v1), (2, .int v2)]) hx hb dX5_besideOf_49 hl (k := 4) rfl rfl (by decide) rfl (fun ls hl => ?_)
          refine lv_goto (tgt := 5) hx hb dX5_besideOf_52 (by decide) ?_
          exact ih _ _ z h hE H locs ls hw (lv_sub hl [2, 3, 4, 1, 0] rfl)
        · replace h := stT c6 h
          refine lv_iconst (v := 1) hx hb dX5_besideOf_39 (by decide) ?_
          refine lv_goto (tgt := 44) hx hb dX5_besideOf_40 (by decide) ?_
          obtain ⟨z8, hz8, h⟩ := stB h
          refine ctS (av := [.int 1]) (st0 := ([.int v3] : List Value)) (st1 := ([.int z8, .int v3] : List Value)) F hw hA (k_X5_bit hz8) kl_5_103 kd_X5_bit rfl ⟨by decide, by decide⟩ hl.1 rfl (Nat.le_of_ble_eq_true rfl) dX5_besideOf_44 rfl (fun H locs hw => ?_)
          refine lv_iadd hx hb dX5_besideOf_47 ?_
          refine lv_istore_n (lv' := [(3, .int (v3 + z8)), (0, .ref (q 0)), (1, .int v1), (2, .int v2), (4, .int v4)]) hx hb dX5_besideOf_48 rfl hl (by decide) rfl (fun ls hl => ?_)
          refine lv_iinc (v := (v4 + 1)) (lv' := [(4, .int (v4 + 1)), (3, .int (v3 + z8)), (0, .ref (q 0)), (1, .int v1), (2, .int v2)]) hx hb dX5_besideOf_49 hl (k := 4) rfl rfl (by decide) rfl (fun ls hl => ?_)
          refine lv_goto (tgt := 5) hx hb dX5_besideOf_52 (by decide) ?_
          exact ih _ _ z h hE H locs ls hw (lv_sub hl [2, 3, 4, 1, 0] rfl)
def f_X5_besideOf (yp : Int32) (ye : Int32) (bPo : Nat → Int32) (v1 : Int32) (v2 : Int32) : Option (Int32) :=
  f_X5_besideOf_L5 yp ye bPo v1 v2 FU 0 1
set_option maxHeartbeats 4000000 in
set_option maxRecDepth 100000 in
theorem k_X5_besideOf {l : Launch} {G : GG} {q : Nat → Nat} {fr : va_W} {yp : Int32} {ye : Int32} {yg : Int32} {bPo : Nat → Int32} {bTb : Nat → Int32} {wSh : Nat → Int64} {wTe : Nat → Int64} {wNx : Nat → Int64} {bOs : Nat → Int32} {bOn : Nat → Int32} {yop : Int32} {bSo : Nat → Int32} {bNu : Nat → Int32} {ytr : Int32} {yiw : Int32} {wMa : Nat → Int64} {wPr : Nat → Int64} {bTp : Nat → Int32} {yln : Int32} {ypl : Int32} {yfa : Int32} {wLi : Nat → Int64} {bSi : Nat → Int32} {yhp : Int32} {yhe : Int32} {yhg : Int32} {wHs : Nat → Int64} {yhi : Int32} {v1 : Int32} {v2 : Int32} {z : Int32}  (h : f_X5_besideOf yp ye bPo v1 v2 = some z) : Ct l G yX5_besideOf cX5_besideOf 5 (some .int) 1 21 [.ref (q 0), .int v1, .int v2] (mW G q yp ye yg bPo bTb wSh wTe wNx bOs bOn yop bSo bNu ytr yiw wMa wPr bTp yln ypl yfa wLi bSi yhp yhe yhg wHs yhi ++ fr) (some (.int z)) (mW G q yp ye yg bPo bTb wSh wTe wNx bOs bOn yop bSo bNu ytr yiw wMa wPr bTp yln ypl yfa wLi bSi yhp yhe yhg wHs yhi ++ fr) := by
  refine Ct.of (by decide) (Nat.le_of_ble_eq_true rfl) trivial ?_
  intro p e s m args below meth c Q A ls F hw hA hE hl
  have hx := F.x
  have hb := F.b
  unfold f_X5_besideOf at h
  obtain ⟨H, hH⟩ : ∃ H, H = s.heap := ⟨_, rfl⟩
  obtain ⟨locs, hlo⟩ : ∃ locs : List Loc, locs = [] := ⟨_, rfl⟩
  rw [← hH, ← hlo] at hw ⊢
  have hl : lv_has ls 5 [(0, .ref (q 0)), (1, .int v1), (2, .int v2)] := hl
  refine lv_iconst (v := 0) hx hb dX5_besideOf_0 (by decide) ?_
  refine lv_istore_n (lv' := [(3, .int 0), (0, .ref (q 0)), (1, .int v1), (2, .int v2)]) hx hb dX5_besideOf_1 rfl hl (by decide) rfl (fun ls hl => ?_)
  refine lv_iconst (v := 1) hx hb dX5_besideOf_2 (by decide) ?_
  refine lv_istore (lv' := [(4, .int 1), (3, .int 0), (0, .ref (q 0)), (1, .int v1), (2, .int v2)]) hx hb dX5_besideOf_3 hl (by decide) rfl (fun ls hl => ?_)
  exact w_X5_besideOf_L5 F hA  FU _ _ z h hE H locs ls hw (lv_sub hl [2, 3, 4, 1, 0] rfl)
end
theorem dX5_beside_0 : decode cX5_beside 0 = .ok (.aload_n 0, 1) := by decide +kernel
theorem dX5_beside_1 : decode cX5_beside 1 = .ok (.iload_n 1, 1) := by decide +kernel
theorem dX5_beside_2 : decode cX5_beside 2 = .ok (.invokevirtual 114, 3) := by decide +kernel
theorem dX5_beside_5 : decode cX5_beside 5 = .ok (.ifCond .eq 20, 3) := by decide +kernel
theorem dX5_beside_8 : decode cX5_beside 8 = .ok (.aload_n 0, 1) := by decide +kernel
theorem dX5_beside_9 : decode cX5_beside 9 = .ok (.iload_n 2, 1) := by decide +kernel
theorem dX5_beside_10 : decode cX5_beside 10 = .ok (.invokevirtual 114, 3) := by decide +kernel
theorem dX5_beside_13 : decode cX5_beside 13 = .ok (.ifCond .eq 12, 3) := by decide +kernel
theorem dX5_beside_16 : decode cX5_beside 16 = .ok (.aload_n 0, 1) := by decide +kernel
theorem dX5_beside_17 : decode cX5_beside 17 = .ok (.iload_n 1, 1) := by decide +kernel
theorem dX5_beside_18 : decode cX5_beside 18 = .ok (.iload_n 2, 1) := by decide +kernel
theorem dX5_beside_19 : decode cX5_beside 19 = .ok (.invokevirtual 117, 3) := by decide +kernel
theorem dX5_beside_22 : decode cX5_beside 22 = .ok (.goto 4, 3) := by decide +kernel
theorem dX5_beside_25 : decode cX5_beside 25 = .ok (.iconst (-1), 1) := by decide +kernel
theorem dX5_beside_26 : decode cX5_beside 26 = .ok (.ireturn, 1) := by decide +kernel
section
variable {p : Program} {l : Launch} {e : Env} {s : State} {m : MethodId} {args : Array Value} {below : List Frame} {meth : Method} {c : Code} {Q : State → Prop} {G : GG} {A : Nat → Prop} {q : Nat → Nat} {fr : va_W}
def f_X5_beside (yp : Int32) (ye : Int32) (bPo : Nat → Int32) (v1 : Int32) (v2 : Int32) : Option (Int32) :=
  (f_X5_isClass ye v1).bind fun z1 =>
  if z1 = 0 then
  some (-1)
  else
  (f_X5_isClass ye v2).bind fun z3 =>
  if z3 = 0 then
  some (-1)
  else
  (f_X5_besideOf yp ye bPo v1 v2).bind fun z5 =>
  some z5
set_option maxHeartbeats 4000000 in
set_option maxRecDepth 100000 in
theorem k_X5_beside {l : Launch} {G : GG} {q : Nat → Nat} {fr : va_W} {yp : Int32} {ye : Int32} {yg : Int32} {bPo : Nat → Int32} {bTb : Nat → Int32} {wSh : Nat → Int64} {wTe : Nat → Int64} {wNx : Nat → Int64} {bOs : Nat → Int32} {bOn : Nat → Int32} {yop : Int32} {bSo : Nat → Int32} {bNu : Nat → Int32} {ytr : Int32} {yiw : Int32} {wMa : Nat → Int64} {wPr : Nat → Int64} {bTp : Nat → Int32} {yln : Int32} {ypl : Int32} {yfa : Int32} {wLi : Nat → Int64} {bSi : Nat → Int32} {yhp : Int32} {yhe : Int32} {yhg : Int32} {wHs : Nat → Int64} {yhi : Int32} {v1 : Int32} {v2 : Int32} {z : Int32}  (h : f_X5_beside yp ye bPo v1 v2 = some z) : Ct l G yX5_beside cX5_beside 3 (some .int) 2 46 [.ref (q 0), .int v1, .int v2] (mW G q yp ye yg bPo bTb wSh wTe wNx bOs bOn yop bSo bNu ytr yiw wMa wPr bTp yln ypl yfa wLi bSi yhp yhe yhg wHs yhi ++ fr) (some (.int z)) (mW G q yp ye yg bPo bTb wSh wTe wNx bOs bOn yop bSo bNu ytr yiw wMa wPr bTp yln ypl yfa wLi bSi yhp yhe yhg wHs yhi ++ fr) := by
  refine Ct.of (by decide) (Nat.le_of_ble_eq_true rfl) trivial ?_
  intro p e s m args below meth c Q A ls F hw hA hE hl
  have hx := F.x
  have hb := F.b
  unfold f_X5_beside at h
  obtain ⟨H, hH⟩ : ∃ H, H = s.heap := ⟨_, rfl⟩
  obtain ⟨locs, hlo⟩ : ∃ locs : List Loc, locs = [] := ⟨_, rfl⟩
  rw [← hH, ← hlo] at hw ⊢
  have hl : lv_has ls 3 [(0, .ref (q 0)), (1, .int v1), (2, .int v2)] := hl
  refine lv_aload_n hx hb dX5_beside_0 rfl (lv_at hl 0 rfl) ?_
  refine lv_iload_n hx hb dX5_beside_1 rfl (lv_at hl 1 rfl) ?_
  obtain ⟨z1, hz1, h⟩ := stB h
  refine ctV (av := [.int v1]) (st0 := ([] : List Value)) (st1 := ([.int z1] : List Value)) F hw hA (k_X5_isClass hz1) kl_5_114 kd_X5_isClass rfl ⟨by decide, by decide⟩ 0 rfl rfl hl.1 rfl (Nat.le_of_ble_eq_true rfl) dX5_beside_2 rfl (fun H locs hw => ?_)
  refine lv_if_eq (tgt := 25) hx hb dX5_beside_5 (by decide) (fun c2 => ?_) (fun c2 => ?_)
  · replace h := stT c2 h
    refine lv_iconst (v := -1) hx hb dX5_beside_25 (by decide) ?_
    obtain rfl := Option.some.inj h
    exact hE H locs _ ls hw dX5_beside_26
  · replace h := stF c2 h
    refine lv_aload_n hx hb dX5_beside_8 rfl (lv_at hl 0 rfl) ?_
    refine lv_iload_n hx hb dX5_beside_9 rfl (lv_at hl 2 rfl) ?_
    obtain ⟨z3, hz3, h⟩ := stB h
    refine ctV (av := [.int v2]) (st0 := ([] : List Value)) (st1 := ([.int z3] : List Value)) F hw hA (k_X5_isClass hz3) kl_5_114 kd_X5_isClass rfl ⟨by decide, by decide⟩ 0 rfl rfl hl.1 rfl (Nat.le_of_ble_eq_true rfl) dX5_beside_10 rfl (fun H locs hw => ?_)
    refine lv_if_eq (tgt := 25) hx hb dX5_beside_13 (by decide) (fun c4 => ?_) (fun c4 => ?_)
    · replace h := stT c4 h
      refine lv_iconst (v := -1) hx hb dX5_beside_25 (by decide) ?_
      obtain rfl := Option.some.inj h
      exact hE H locs _ ls hw dX5_beside_26
    · replace h := stF c4 h
      refine lv_aload_n hx hb dX5_beside_16 rfl (lv_at hl 0 rfl) ?_
      refine lv_iload_n hx hb dX5_beside_17 rfl (lv_at hl 1 rfl) ?_
      refine lv_iload_n hx hb dX5_beside_18 rfl (lv_at hl 2 rfl) ?_
      obtain ⟨z5, hz5, h⟩ := stB h
      refine ctV (av := [.int v1, .int v2]) (st0 := ([] : List Value)) (st1 := ([.int z5] : List Value)) F hw hA (k_X5_besideOf hz5) kl_5_117 kd_X5_besideOf rfl ⟨by decide, by decide⟩ 0 rfl rfl hl.1 rfl (Nat.le_of_ble_eq_true rfl) dX5_beside_19 rfl (fun H locs hw => ?_)
      refine lv_goto (tgt := 26) hx hb dX5_beside_22 (by decide) ?_
      obtain rfl := Option.some.inj h
      exact hE H locs _ ls hw dX5_beside_26
end
theorem dX5_meets_0 : decode cX5_meets 0 = .ok (.aload_n 0, 1) := by decide +kernel
theorem dX5_meets_1 : decode cX5_meets 1 = .ok (.iload_n 1, 1) := by decide +kernel
theorem dX5_meets_2 : decode cX5_meets 2 = .ok (.invokevirtual 114, 3) := by decide +kernel
theorem dX5_meets_5 : decode cX5_meets 5 = .ok (.ifCond .eq 33, 3) := by decide +kernel
theorem dX5_meets_8 : decode cX5_meets 8 = .ok (.aload_n 0, 1) := by decide +kernel
theorem dX5_meets_9 : decode cX5_meets 9 = .ok (.iload_n 2, 1) := by decide +kernel
theorem dX5_meets_10 : decode cX5_meets 10 = .ok (.invokevirtual 114, 3) := by decide +kernel
theorem dX5_meets_13 : decode cX5_meets 13 = .ok (.ifCond .eq 25, 3) := by decide +kernel
theorem dX5_meets_16 : decode cX5_meets 16 = .ok (.aload_n 0, 1) := by decide +kernel
theorem dX5_meets_17 : decode cX5_meets 17 = .ok (.iload_n 3, 1) := by decide +kernel
theorem dX5_meets_18 : decode cX5_meets 18 = .ok (.invokevirtual 114, 3) := by decide +kernel
theorem dX5_meets_21 : decode cX5_meets 21 = .ok (.ifCond .eq 17, 3) := by decide +kernel
theorem dX5_meets_24 : decode cX5_meets 24 = .ok (.aload_n 0, 1) := by decide +kernel
theorem dX5_meets_25 : decode cX5_meets 25 = .ok (.getfield 15, 3) := by decide +kernel
theorem dX5_meets_28 : decode cX5_meets 28 = .ok (.iload_n 1, 1) := by decide +kernel
theorem dX5_meets_29 : decode cX5_meets 29 = .ok (.iload_n 2, 1) := by decide +kernel
theorem dX5_meets_30 : decode cX5_meets 30 = .ok (.iload_n 3, 1) := by decide +kernel
theorem dX5_meets_31 : decode cX5_meets 31 = .ok (.invokestatic 86, 3) := by decide +kernel
theorem dX5_meets_34 : decode cX5_meets 34 = .ok (.iaload, 1) := by decide +kernel
theorem dX5_meets_35 : decode cX5_meets 35 = .ok (.goto 4, 3) := by decide +kernel
theorem dX5_meets_38 : decode cX5_meets 38 = .ok (.iconst (-1), 1) := by decide +kernel
theorem dX5_meets_39 : decode cX5_meets 39 = .ok (.ireturn, 1) := by decide +kernel
section
variable {p : Program} {l : Launch} {e : Env} {s : State} {m : MethodId} {args : Array Value} {below : List Frame} {meth : Method} {c : Code} {Q : State → Prop} {G : GG} {A : Nat → Prop} {q : Nat → Nat} {fr : va_W}
def f_X5_meets (ye : Int32) (bTb : Nat → Int32) (v1 : Int32) (v2 : Int32) (v3 : Int32) : Option (Int32) :=
  (f_X5_isClass ye v1).bind fun z1 =>
  if z1 = 0 then
  some (-1)
  else
  (f_X5_isClass ye v2).bind fun z3 =>
  if z3 = 0 then
  some (-1)
  else
  (f_X5_isClass ye v3).bind fun z5 =>
  if z5 = 0 then
  some (-1)
  else
  (f_X5_at v1 v2 v3).bind fun z7 =>
  if inb z7 1728 then
  some (bTb z7.toNatClampNeg)
  else none
set_option maxHeartbeats 4000000 in
set_option maxRecDepth 100000 in
theorem k_X5_meets {l : Launch} {G : GG} {q : Nat → Nat} {fr : va_W} {yp : Int32} {ye : Int32} {yg : Int32} {bPo : Nat → Int32} {bTb : Nat → Int32} {wSh : Nat → Int64} {wTe : Nat → Int64} {wNx : Nat → Int64} {bOs : Nat → Int32} {bOn : Nat → Int32} {yop : Int32} {bSo : Nat → Int32} {bNu : Nat → Int32} {ytr : Int32} {yiw : Int32} {wMa : Nat → Int64} {wPr : Nat → Int64} {bTp : Nat → Int32} {yln : Int32} {ypl : Int32} {yfa : Int32} {wLi : Nat → Int64} {bSi : Nat → Int32} {yhp : Int32} {yhe : Int32} {yhg : Int32} {wHs : Nat → Int64} {yhi : Int32} {v1 : Int32} {v2 : Int32} {v3 : Int32} {z : Int32}  (h : f_X5_meets ye bTb v1 v2 v3 = some z) : Ct l G yX5_meets cX5_meets 4 (some .int) 2 46 [.ref (q 0), .int v1, .int v2, .int v3] (mW G q yp ye yg bPo bTb wSh wTe wNx bOs bOn yop bSo bNu ytr yiw wMa wPr bTp yln ypl yfa wLi bSi yhp yhe yhg wHs yhi ++ fr) (some (.int z)) (mW G q yp ye yg bPo bTb wSh wTe wNx bOs bOn yop bSo bNu ytr yiw wMa wPr bTp yln ypl yfa wLi bSi yhp yhe yhg wHs yhi ++ fr) := by
  refine Ct.of (by decide) (Nat.le_of_ble_eq_true rfl) trivial ?_
  intro p e s m args below meth c Q A ls F hw hA hE hl
  have hx := F.x
  have hb := F.b
  unfold f_X5_meets at h
  obtain ⟨H, hH⟩ : ∃ H, H = s.heap := ⟨_, rfl⟩
  obtain ⟨locs, hlo⟩ : ∃ locs : List Loc, locs = [] := ⟨_, rfl⟩
  rw [← hH, ← hlo] at hw ⊢
  have hl : lv_has ls 4 [(0, .ref (q 0)), (1, .int v1), (2, .int v2), (3, .int v3)] := hl
  refine lv_aload_n hx hb dX5_meets_0 rfl (lv_at hl 0 rfl) ?_
  refine lv_iload_n hx hb dX5_meets_1 rfl (lv_at hl 1 rfl) ?_
  obtain ⟨z1, hz1, h⟩ := stB h
  refine ctV (av := [.int v1]) (st0 := ([] : List Value)) (st1 := ([.int z1] : List Value)) F hw hA (k_X5_isClass hz1) kl_5_114 kd_X5_isClass rfl ⟨by decide, by decide⟩ 0 rfl rfl hl.1 rfl (Nat.le_of_ble_eq_true rfl) dX5_meets_2 rfl (fun H locs hw => ?_)
  refine lv_if_eq (tgt := 38) hx hb dX5_meets_5 (by decide) (fun c2 => ?_) (fun c2 => ?_)
  · replace h := stT c2 h
    refine lv_iconst (v := -1) hx hb dX5_meets_38 (by decide) ?_
    obtain rfl := Option.some.inj h
    exact hE H locs _ ls hw dX5_meets_39
  · replace h := stF c2 h
    refine lv_aload_n hx hb dX5_meets_8 rfl (lv_at hl 0 rfl) ?_
    refine lv_iload_n hx hb dX5_meets_9 rfl (lv_at hl 2 rfl) ?_
    obtain ⟨z3, hz3, h⟩ := stB h
    refine ctV (av := [.int v2]) (st0 := ([] : List Value)) (st1 := ([.int z3] : List Value)) F hw hA (k_X5_isClass hz3) kl_5_114 kd_X5_isClass rfl ⟨by decide, by decide⟩ 0 rfl rfl hl.1 rfl (Nat.le_of_ble_eq_true rfl) dX5_meets_10 rfl (fun H locs hw => ?_)
    refine lv_if_eq (tgt := 38) hx hb dX5_meets_13 (by decide) (fun c4 => ?_) (fun c4 => ?_)
    · replace h := stT c4 h
      refine lv_iconst (v := -1) hx hb dX5_meets_38 (by decide) ?_
      obtain rfl := Option.some.inj h
      exact hE H locs _ ls hw dX5_meets_39
    · replace h := stF c4 h
      refine lv_aload_n hx hb dX5_meets_16 rfl (lv_at hl 0 rfl) ?_
      refine lv_iload_n hx hb dX5_meets_17 rfl (lv_at hl 3 rfl) ?_
      obtain ⟨z5, hz5, h⟩ := stB h
      refine ctV (av := [.int v3]) (st0 := ([] : List Value)) (st1 := ([.int z5] : List Value)) F hw hA (k_X5_isClass hz5) kl_5_114 kd_X5_isClass rfl ⟨by decide, by decide⟩ 0 rfl rfl hl.1 rfl (Nat.le_of_ble_eq_true rfl) dX5_meets_18 rfl (fun H locs hw => ?_)
      refine lv_if_eq (tgt := 38) hx hb dX5_meets_21 (by decide) (fun c6 => ?_) (fun c6 => ?_)
      · replace h := stT c6 h
        refine lv_iconst (v := -1) hx hb dX5_meets_38 (by decide) ?_
        obtain rfl := Option.some.inj h
        exact hE H locs _ ls hw dX5_meets_39
      · replace h := stF c6 h
        refine lv_aload_n hx hb dX5_meets_24 rfl (lv_at hl 0 rfl) ?_
        refine gf_5_15 F hw dX5_meets_25 ?_
        refine lv_iload_n hx hb dX5_meets_28 rfl (lv_at hl 1 rfl) ?_
        refine lv_iload_n hx hb dX5_meets_29 rfl (lv_at hl 2 rfl) ?_
        refine lv_iload_n hx hb dX5_meets_30 rfl (lv_at hl 3 rfl) ?_
        obtain ⟨z7, hz7, h⟩ := stB h
        refine ctS (av := [.int v1, .int v2, .int v3]) (st0 := ([.ref (q 2)] : List Value)) (st1 := ([.int z7, .ref (q 2)] : List Value)) F hw hA (k_X5_at hz7) kl_5_86 kd_X5_at rfl ⟨by decide, by decide⟩ hl.1 rfl (Nat.le_of_ble_eq_true rfl) dX5_meets_31 rfl (fun H locs hw => ?_)
        obtain ⟨g8, h⟩ := stG h
        refine al_m2 F hw g8 dX5_meets_34 ?_
        refine lv_goto (tgt := 39) hx hb dX5_meets_35 (by decide) ?_
        obtain rfl := Option.some.inj h
        exact hE H locs _ ls hw dX5_meets_39
end
theorem dX5_oppositeOf_0 : decode cX5_oppositeOf 0 = .ok (.aload_n 0, 1) := by decide +kernel
theorem dX5_oppositeOf_1 : decode cX5_oppositeOf 1 = .ok (.aload_n 0, 1) := by decide +kernel
theorem dX5_oppositeOf_2 : decode cX5_oppositeOf 2 = .ok (.getfield 62, 3) := by decide +kernel
theorem dX5_oppositeOf_5 : decode cX5_oppositeOf 5 = .ok (.aload_n 0, 1) := by decide +kernel
theorem dX5_oppositeOf_6 : decode cX5_oppositeOf 6 = .ok (.iload_n 1, 1) := by decide +kernel
theorem dX5_oppositeOf_7 : decode cX5_oppositeOf 7 = .ok (.invokevirtual 79, 3) := by decide +kernel
theorem dX5_oppositeOf_10 : decode cX5_oppositeOf 10 = .ok (.isub, 1) := by decide +kernel
theorem dX5_oppositeOf_11 : decode cX5_oppositeOf 11 = .ok (.invokevirtual 83, 3) := by decide +kernel
theorem dX5_oppositeOf_14 : decode cX5_oppositeOf 14 = .ok (.ireturn, 1) := by decide +kernel
section
variable {p : Program} {l : Launch} {e : Env} {s : State} {m : MethodId} {args : Array Value} {below : List Frame} {meth : Method} {c : Code} {Q : State → Prop} {G : GG} {A : Nat → Prop} {q : Nat → Nat} {fr : va_W}
def f_X5_oppositeOf (yp : Int32) (ye : Int32) (bPo : Nat → Int32) (v1 : Int32) : Option (Int32) :=
  (f_X5_firstOf ye bPo v1).bind fun z1 =>
  (f_X5_classAt ye bPo (yp - z1)).bind fun z2 =>
  some z2
set_option maxHeartbeats 4000000 in
set_option maxRecDepth 100000 in
theorem k_X5_oppositeOf {l : Launch} {G : GG} {q : Nat → Nat} {fr : va_W} {yp : Int32} {ye : Int32} {yg : Int32} {bPo : Nat → Int32} {bTb : Nat → Int32} {wSh : Nat → Int64} {wTe : Nat → Int64} {wNx : Nat → Int64} {bOs : Nat → Int32} {bOn : Nat → Int32} {yop : Int32} {bSo : Nat → Int32} {bNu : Nat → Int32} {ytr : Int32} {yiw : Int32} {wMa : Nat → Int64} {wPr : Nat → Int64} {bTp : Nat → Int32} {yln : Int32} {ypl : Int32} {yfa : Int32} {wLi : Nat → Int64} {bSi : Nat → Int32} {yhp : Int32} {yhe : Int32} {yhg : Int32} {wHs : Nat → Int64} {yhi : Int32} {v1 : Int32} {z : Int32}  (h : f_X5_oppositeOf yp ye bPo v1 = some z) : Ct l G yX5_oppositeOf cX5_oppositeOf 2 (some .int) 2 43 [.ref (q 0), .int v1] (mW G q yp ye yg bPo bTb wSh wTe wNx bOs bOn yop bSo bNu ytr yiw wMa wPr bTp yln ypl yfa wLi bSi yhp yhe yhg wHs yhi ++ fr) (some (.int z)) (mW G q yp ye yg bPo bTb wSh wTe wNx bOs bOn yop bSo bNu ytr yiw wMa wPr bTp yln ypl yfa wLi bSi yhp yhe yhg wHs yhi ++ fr) := by
  refine Ct.of (by decide) (Nat.le_of_ble_eq_true rfl) trivial ?_
  intro p e s m args below meth c Q A ls F hw hA hE hl
  have hx := F.x
  have hb := F.b
  unfold f_X5_oppositeOf at h
  obtain ⟨H, hH⟩ : ∃ H, H = s.heap := ⟨_, rfl⟩
  obtain ⟨locs, hlo⟩ : ∃ locs : List Loc, locs = [] := ⟨_, rfl⟩
  rw [← hH, ← hlo] at hw ⊢
  have hl : lv_has ls 2 [(0, .ref (q 0)), (1, .int v1)] := hl
  refine lv_aload_n hx hb dX5_oppositeOf_0 rfl (lv_at hl 0 rfl) ?_
  refine lv_aload_n hx hb dX5_oppositeOf_1 rfl (lv_at hl 0 rfl) ?_
  refine gf_5_62 F hw dX5_oppositeOf_2 ?_
  refine lv_aload_n hx hb dX5_oppositeOf_5 rfl (lv_at hl 0 rfl) ?_
  refine lv_iload_n hx hb dX5_oppositeOf_6 rfl (lv_at hl 1 rfl) ?_
  obtain ⟨z1, hz1, h⟩ := stB h
  refine ctV (av := [.int v1]) (st0 := ([.int yp, .ref (q 0)] : List Value)) (st1 := ([.int z1, .int yp, .ref (q 0)] : List Value)) F hw hA (k_X5_firstOf hz1) kl_5_79 kd_X5_firstOf rfl ⟨by decide, by decide⟩ 0 rfl rfl hl.1 rfl (Nat.le_of_ble_eq_true rfl) dX5_oppositeOf_7 rfl (fun H locs hw => ?_)
  refine lv_isub hx hb dX5_oppositeOf_10 ?_
  obtain ⟨z2, hz2, h⟩ := stB h
  refine ctV (av := [.int (yp - z1)]) (st0 := ([] : List Value)) (st1 := ([.int z2] : List Value)) F hw hA (k_X5_classAt hz2) kl_5_83 kd_X5_classAt rfl ⟨by decide, by decide⟩ 0 rfl rfl hl.1 rfl (Nat.le_of_ble_eq_true rfl) dX5_oppositeOf_11 rfl (fun H locs hw => ?_)
  obtain rfl := Option.some.inj h
  exact hE H locs _ ls hw dX5_oppositeOf_14
end
theorem dX5_timesOf_0 : decode cX5_timesOf 0 = .ok (.aload_n 0, 1) := by decide +kernel
theorem dX5_timesOf_1 : decode cX5_timesOf 1 = .ok (.getfield 15, 3) := by decide +kernel
theorem dX5_timesOf_4 : decode cX5_timesOf 4 = .ok (.iload_n 1, 1) := by decide +kernel
theorem dX5_timesOf_5 : decode cX5_timesOf 5 = .ok (.iload_n 2, 1) := by decide +kernel
theorem dX5_timesOf_6 : decode cX5_timesOf 6 = .ok (.iload_n 3, 1) := by decide +kernel
theorem dX5_timesOf_7 : decode cX5_timesOf 7 = .ok (.invokestatic 86, 3) := by decide +kernel
theorem dX5_timesOf_10 : decode cX5_timesOf 10 = .ok (.iaload, 1) := by decide +kernel
theorem dX5_timesOf_11 : decode cX5_timesOf 11 = .ok (.iload_n 2, 1) := by decide +kernel
theorem dX5_timesOf_12 : decode cX5_timesOf 12 = .ok (.aload_n 0, 1) := by decide +kernel
theorem dX5_timesOf_13 : decode cX5_timesOf 13 = .ok (.iload_n 1, 1) := by decide +kernel
theorem dX5_timesOf_14 : decode cX5_timesOf 14 = .ok (.invokevirtual 121, 3) := by decide +kernel
theorem dX5_timesOf_17 : decode cX5_timesOf 17 = .ok (.if_icmp .ne 17, 3) := by decide +kernel
theorem dX5_timesOf_20 : decode cX5_timesOf 20 = .ok (.aload_n 0, 1) := by decide +kernel
theorem dX5_timesOf_21 : decode cX5_timesOf 21 = .ok (.getfield 62, 3) := by decide +kernel
theorem dX5_timesOf_24 : decode cX5_timesOf 24 = .ok (.iconst 1, 1) := by decide +kernel
theorem dX5_timesOf_25 : decode cX5_timesOf 25 = .ok (.isub, 1) := by decide +kernel
theorem dX5_timesOf_26 : decode cX5_timesOf 26 = .ok (.aload_n 0, 1) := by decide +kernel
theorem dX5_timesOf_27 : decode cX5_timesOf 27 = .ok (.getfield 66, 3) := by decide +kernel
theorem dX5_timesOf_30 : decode cX5_timesOf 30 = .ok (.idiv, 1) := by decide +kernel
theorem dX5_timesOf_31 : decode cX5_timesOf 31 = .ok (.goto 4, 3) := by decide +kernel
theorem dX5_timesOf_34 : decode cX5_timesOf 34 = .ok (.iconst 0, 1) := by decide +kernel
theorem dX5_timesOf_35 : decode cX5_timesOf 35 = .ok (.isub, 1) := by decide +kernel
theorem dX5_timesOf_36 : decode cX5_timesOf 36 = .ok (.ireturn, 1) := by decide +kernel
section
variable {p : Program} {l : Launch} {e : Env} {s : State} {m : MethodId} {args : Array Value} {below : List Frame} {meth : Method} {c : Code} {Q : State → Prop} {G : GG} {A : Nat → Prop} {q : Nat → Nat} {fr : va_W}
def f_X5_timesOf (yp : Int32) (ye : Int32) (bPo : Nat → Int32) (bTb : Nat → Int32) (v1 : Int32) (v2 : Int32) (v3 : Int32) : Option (Int32) :=
  (f_X5_at v1 v2 v3).bind fun z1 =>
  if inb z1 1728 then
  (f_X5_oppositeOf yp ye bPo v1).bind fun z3 =>
  if v2 = z3 then
  if ye = 0 then none else
  some ((bTb z1.toNatClampNeg) - ((yp - 1) / ye))
  else
  some ((bTb z1.toNatClampNeg) - 0)
  else none
set_option maxHeartbeats 4000000 in
set_option maxRecDepth 100000 in
theorem k_X5_timesOf {l : Launch} {G : GG} {q : Nat → Nat} {fr : va_W} {yp : Int32} {ye : Int32} {yg : Int32} {bPo : Nat → Int32} {bTb : Nat → Int32} {wSh : Nat → Int64} {wTe : Nat → Int64} {wNx : Nat → Int64} {bOs : Nat → Int32} {bOn : Nat → Int32} {yop : Int32} {bSo : Nat → Int32} {bNu : Nat → Int32} {ytr : Int32} {yiw : Int32} {wMa : Nat → Int64} {wPr : Nat → Int64} {bTp : Nat → Int32} {yln : Int32} {ypl : Int32} {yfa : Int32} {wLi : Nat → Int64} {bSi : Nat → Int32} {yhp : Int32} {yhe : Int32} {yhg : Int32} {wHs : Nat → Int64} {yhi : Int32} {v1 : Int32} {v2 : Int32} {v3 : Int32} {z : Int32}  (h : f_X5_timesOf yp ye bPo bTb v1 v2 v3 = some z) : Ct l G yX5_timesOf cX5_timesOf 4 (some .int) 3 64 [.ref (q 0), .int v1, .int v2, .int v3] (mW G q yp ye yg bPo bTb wSh wTe wNx bOs bOn yop bSo bNu ytr yiw wMa wPr bTp yln ypl yfa wLi bSi yhp yhe yhg wHs yhi ++ fr) (some (.int z)) (mW G q yp ye yg bPo bTb wSh wTe wNx bOs bOn yop bSo bNu ytr yiw wMa wPr bTp yln ypl yfa wLi bSi yhp yhe yhg wHs yhi ++ fr) := by
  refine Ct.of (by decide) (Nat.le_of_ble_eq_true rfl) trivial ?_
  intro p e s m args below meth c Q A ls F hw hA hE hl
  have hx := F.x
  have hb := F.b
  unfold f_X5_timesOf at h
  obtain ⟨H, hH⟩ : ∃ H, H = s.heap := ⟨_, rfl⟩
  obtain ⟨locs, hlo⟩ : ∃ locs : List Loc, locs = [] := ⟨_, rfl⟩
  rw [← hH, ← hlo] at hw ⊢
  have hl : lv_has ls 4 [(0, .ref (q 0)), (1, .int v1), (2, .int v2), (3, .int v3)] := hl
  refine lv_aload_n hx hb dX5_timesOf_0 rfl (lv_at hl 0 rfl) ?_
  refine gf_5_15 F hw dX5_timesOf_1 ?_
  refine lv_iload_n hx hb dX5_timesOf_4 rfl (lv_at hl 1 rfl) ?_
  refine lv_iload_n hx hb dX5_timesOf_5 rfl (lv_at hl 2 rfl) ?_
  refine lv_iload_n hx hb dX5_timesOf_6 rfl (lv_at hl 3 rfl) ?_
  obtain ⟨z1, hz1, h⟩ := stB h
  refine ctS (av := [.int v1, .int v2, .int v3]) (st0 := ([.ref (q 2)] : List Value)) (st1 := ([.int z1, .ref (q 2)] : List Value)) F hw hA (k_X5_at hz1) kl_5_86 kd_X5_at rfl ⟨by decide, by decide⟩ hl.1 rfl (Nat.le_of_ble_eq_true rfl) dX5_timesOf_7 rfl (fun H locs hw => ?_)
  obtain ⟨g2, h⟩ := stG h
  refine al_m2 F hw g2 dX5_timesOf_10 ?_
  refine lv_iload_n hx hb dX5_timesOf_11 rfl (lv_at hl 2 rfl) ?_
  refine lv_aload_n hx hb dX5_timesOf_12 rfl (lv_at hl 0 rfl) ?_
  refine lv_iload_n hx hb dX5_timesOf_13 rfl (lv_at hl 1 rfl) ?_
  obtain ⟨z3, hz3, h⟩ := stB h
  refine ctV (av := [.int v1]) (st0 := ([.int v2, .int (bTb z1.toNatClampNeg)] : List Value)) (st1 := ([.int z3, .int v2, .int (bTb z1.toNatClampNeg)] : List Value)) F hw hA (k_X5_oppositeOf hz3) kl_5_121 kd_X5_oppositeOf rfl ⟨by decide, by decide⟩ 0 rfl rfl hl.1 rfl (Nat.le_of_ble_eq_true rfl) dX5_timesOf_14 rfl (fun H locs hw => ?_)
  refine lv_icmp_ne (tgt := 34) hx hb dX5_timesOf_17 (by decide) (fun c4 => ?_) (fun c4 => ?_)
  · replace h := stF c4 h
    refine lv_iconst (v := 0) hx hb dX5_timesOf_34 (by decide) ?_
    refine lv_isub hx hb dX5_timesOf_35 ?_
    obtain rfl := Option.some.inj h
    exact hE H locs _ ls hw dX5_timesOf_36
  · replace h := stT c4 h
    refine lv_aload_n hx hb dX5_timesOf_20 rfl (lv_at hl 0 rfl) ?_
    refine gf_5_62 F hw dX5_timesOf_21 ?_
    refine lv_iconst (v := 1) hx hb dX5_timesOf_24 (by decide) ?_
    refine lv_isub hx hb dX5_timesOf_25 ?_
    refine lv_aload_n hx hb dX5_timesOf_26 rfl (lv_at hl 0 rfl) ?_
    refine gf_5_66 F hw dX5_timesOf_27 ?_
    obtain ⟨g5, h⟩ := stD h
    refine lv_idiv hx hb dX5_timesOf_30 g5 ?_
    refine lv_goto (tgt := 35) hx hb dX5_timesOf_31 (by decide) ?_
    refine lv_isub hx hb dX5_timesOf_35 ?_
    obtain rfl := Option.some.inj h
    exact hE H locs _ ls hw dX5_timesOf_36
end
theorem dX5_times_0 : decode cX5_times 0 = .ok (.aload_n 0, 1) := by decide +kernel
theorem dX5_times_1 : decode cX5_times 1 = .ok (.iload_n 1, 1) := by decide +kernel
theorem dX5_times_2 : decode cX5_times 2 = .ok (.invokevirtual 114, 3) := by decide +kernel
theorem dX5_times_5 : decode cX5_times 5 = .ok (.ifCond .eq 33, 3) := by decide +kernel
theorem dX5_times_8 : decode cX5_times 8 = .ok (.aload_n 0, 1) := by decide +kernel
theorem dX5_times_9 : decode cX5_times 9 = .ok (.iload_n 2, 1) := by decide +kernel
theorem dX5_times_10 : decode cX5_times 10 = .ok (.invokevirtual 114, 3) := by decide +kernel
theorem dX5_times_13 : decode cX5_times 13 = .ok (.ifCond .eq 25, 3) := by decide +kernel
theorem dX5_times_16 : decode cX5_times 16 = .ok (.aload_n 0, 1) := by decide +kernel
theorem dX5_times_17 : decode cX5_times 17 = .ok (.iload_n 3, 1) := by decide +kernel
theorem dX5_times_18 : decode cX5_times 18 = .ok (.invokevirtual 114, 3) := by decide +kernel
theorem dX5_times_21 : decode cX5_times 21 = .ok (.ifCond .eq 17, 3) := by decide +kernel
theorem dX5_times_24 : decode cX5_times 24 = .ok (.sipush 1000, 3) := by decide +kernel
theorem dX5_times_27 : decode cX5_times 27 = .ok (.aload_n 0, 1) := by decide +kernel
theorem dX5_times_28 : decode cX5_times 28 = .ok (.iload_n 1, 1) := by decide +kernel
theorem dX5_times_29 : decode cX5_times 29 = .ok (.iload_n 2, 1) := by decide +kernel
theorem dX5_times_30 : decode cX5_times 30 = .ok (.iload_n 3, 1) := by decide +kernel
theorem dX5_times_31 : decode cX5_times 31 = .ok (.invokevirtual 124, 3) := by decide +kernel
theorem dX5_times_34 : decode cX5_times 34 = .ok (.iadd, 1) := by decide +kernel
theorem dX5_times_35 : decode cX5_times 35 = .ok (.goto 4, 3) := by decide +kernel
theorem dX5_times_38 : decode cX5_times 38 = .ok (.iconst (-1), 1) := by decide +kernel
theorem dX5_times_39 : decode cX5_times 39 = .ok (.ireturn, 1) := by decide +kernel
section
variable {p : Program} {l : Launch} {e : Env} {s : State} {m : MethodId} {args : Array Value} {below : List Frame} {meth : Method} {c : Code} {Q : State → Prop} {G : GG} {A : Nat → Prop} {q : Nat → Nat} {fr : va_W}
def f_X5_times (yp : Int32) (ye : Int32) (bPo : Nat → Int32) (bTb : Nat → Int32) (v1 : Int32) (v2 : Int32) (v3 : Int32) : Option (Int32) :=
  (f_X5_isClass ye v1).bind fun z1 =>
  if z1 = 0 then
  some (-1)
  else
  (f_X5_isClass ye v2).bind fun z3 =>
  if z3 = 0 then
  some (-1)
  else
  (f_X5_isClass ye v3).bind fun z5 =>
  if z5 = 0 then
  some (-1)
  else
  (f_X5_timesOf yp ye bPo bTb v1 v2 v3).bind fun z7 =>
  some (1000 + z7)
set_option maxHeartbeats 4000000 in
set_option maxRecDepth 100000 in
theorem k_X5_times {l : Launch} {G : GG} {q : Nat → Nat} {fr : va_W} {yp : Int32} {ye : Int32} {yg : Int32} {bPo : Nat → Int32} {bTb : Nat → Int32} {wSh : Nat → Int64} {wTe : Nat → Int64} {wNx : Nat → Int64} {bOs : Nat → Int32} {bOn : Nat → Int32} {yop : Int32} {bSo : Nat → Int32} {bNu : Nat → Int32} {ytr : Int32} {yiw : Int32} {wMa : Nat → Int64} {wPr : Nat → Int64} {bTp : Nat → Int32} {yln : Int32} {ypl : Int32} {yfa : Int32} {wLi : Nat → Int64} {bSi : Nat → Int32} {yhp : Int32} {yhe : Int32} {yhg : Int32} {wHs : Nat → Int64} {yhi : Int32} {v1 : Int32} {v2 : Int32} {v3 : Int32} {z : Int32}  (h : f_X5_times yp ye bPo bTb v1 v2 v3 = some z) : Ct l G yX5_times cX5_times 4 (some .int) 4 87 [.ref (q 0), .int v1, .int v2, .int v3] (mW G q yp ye yg bPo bTb wSh wTe wNx bOs bOn yop bSo bNu ytr yiw wMa wPr bTp yln ypl yfa wLi bSi yhp yhe yhg wHs yhi ++ fr) (some (.int z)) (mW G q yp ye yg bPo bTb wSh wTe wNx bOs bOn yop bSo bNu ytr yiw wMa wPr bTp yln ypl yfa wLi bSi yhp yhe yhg wHs yhi ++ fr) := by
  refine Ct.of (by decide) (Nat.le_of_ble_eq_true rfl) trivial ?_
  intro p e s m args below meth c Q A ls F hw hA hE hl
  have hx := F.x
  have hb := F.b
  unfold f_X5_times at h
  obtain ⟨H, hH⟩ : ∃ H, H = s.heap := ⟨_, rfl⟩
  obtain ⟨locs, hlo⟩ : ∃ locs : List Loc, locs = [] := ⟨_, rfl⟩
  rw [← hH, ← hlo] at hw ⊢
  have hl : lv_has ls 4 [(0, .ref (q 0)), (1, .int v1), (2, .int v2), (3, .int v3)] := hl
  refine lv_aload_n hx hb dX5_times_0 rfl (lv_at hl 0 rfl) ?_
  refine lv_iload_n hx hb dX5_times_1 rfl (lv_at hl 1 rfl) ?_
  obtain ⟨z1, hz1, h⟩ := stB h
  refine ctV (av := [.int v1]) (st0 := ([] : List Value)) (st1 := ([.int z1] : List Value)) F hw hA (k_X5_isClass hz1) kl_5_114 kd_X5_isClass rfl ⟨by decide, by decide⟩ 0 rfl rfl hl.1 rfl (Nat.le_of_ble_eq_true rfl) dX5_times_2 rfl (fun H locs hw => ?_)
  refine lv_if_eq (tgt := 38) hx hb dX5_times_5 (by decide) (fun c2 => ?_) (fun c2 => ?_)
  · replace h := stT c2 h
    refine lv_iconst (v := -1) hx hb dX5_times_38 (by decide) ?_
    obtain rfl := Option.some.inj h
    exact hE H locs _ ls hw dX5_times_39
  · replace h := stF c2 h
    refine lv_aload_n hx hb dX5_times_8 rfl (lv_at hl 0 rfl) ?_
    refine lv_iload_n hx hb dX5_times_9 rfl (lv_at hl 2 rfl) ?_
    obtain ⟨z3, hz3, h⟩ := stB h
    refine ctV (av := [.int v2]) (st0 := ([] : List Value)) (st1 := ([.int z3] : List Value)) F hw hA (k_X5_isClass hz3) kl_5_114 kd_X5_isClass rfl ⟨by decide, by decide⟩ 0 rfl rfl hl.1 rfl (Nat.le_of_ble_eq_true rfl) dX5_times_10 rfl (fun H locs hw => ?_)
    refine lv_if_eq (tgt := 38) hx hb dX5_times_13 (by decide) (fun c4 => ?_) (fun c4 => ?_)
    · replace h := stT c4 h
      refine lv_iconst (v := -1) hx hb dX5_times_38 (by decide) ?_
      obtain rfl := Option.some.inj h
      exact hE H locs _ ls hw dX5_times_39
    · replace h := stF c4 h
      refine lv_aload_n hx hb dX5_times_16 rfl (lv_at hl 0 rfl) ?_
      refine lv_iload_n hx hb dX5_times_17 rfl (lv_at hl 3 rfl) ?_
      obtain ⟨z5, hz5, h⟩ := stB h
      refine ctV (av := [.int v3]) (st0 := ([] : List Value)) (st1 := ([.int z5] : List Value)) F hw hA (k_X5_isClass hz5) kl_5_114 kd_X5_isClass rfl ⟨by decide, by decide⟩ 0 rfl rfl hl.1 rfl (Nat.le_of_ble_eq_true rfl) dX5_times_18 rfl (fun H locs hw => ?_)
      refine lv_if_eq (tgt := 38) hx hb dX5_times_21 (by decide) (fun c6 => ?_) (fun c6 => ?_)
      · replace h := stT c6 h
        refine lv_iconst (v := -1) hx hb dX5_times_38 (by decide) ?_
        obtain rfl := Option.some.inj h
        exact hE H locs _ ls hw dX5_times_39
      · replace h := stF c6 h
        refine lv_sipush (v := 1000) hx hb dX5_times_24 (by decide) ?_
        refine lv_aload_n hx hb dX5_times_27 rfl (lv_at hl 0 rfl) ?_
        refine lv_iload_n hx hb dX5_times_28 rfl (lv_at hl 1 rfl) ?_
        refine lv_iload_n hx hb dX5_times_29 rfl (lv_at hl 2 rfl) ?_
        refine lv_iload_n hx hb dX5_times_30 rfl (lv_at hl 3 rfl) ?_
        obtain ⟨z7, hz7, h⟩ := stB h
        refine ctV (av := [.int v1, .int v2, .int v3]) (st0 := ([.int 1000] : List Value)) (st1 := ([.int z7, .int 1000] : List Value)) F hw hA (k_X5_timesOf hz7) kl_5_124 kd_X5_timesOf rfl ⟨by decide, by decide⟩ 0 rfl rfl hl.1 rfl (Nat.le_of_ble_eq_true rfl) dX5_times_31 rfl (fun H locs hw => ?_)
        refine lv_iadd hx hb dX5_times_34 ?_
        refine lv_goto (tgt := 39) hx hb dX5_times_35 (by decide) ?_
        obtain rfl := Option.some.inj h
        exact hE H locs _ ls hw dX5_times_39
end
theorem dX5_opposite_0 : decode cX5_opposite 0 = .ok (.aload_n 0, 1) := by decide +kernel
theorem dX5_opposite_1 : decode cX5_opposite 1 = .ok (.iload_n 1, 1) := by decide +kernel
theorem dX5_opposite_2 : decode cX5_opposite 2 = .ok (.invokevirtual 114, 3) := by decide +kernel
theorem dX5_opposite_5 : decode cX5_opposite 5 = .ok (.ifCond .eq 11, 3) := by decide +kernel
theorem dX5_opposite_8 : decode cX5_opposite 8 = .ok (.aload_n 0, 1) := by decide +kernel
theorem dX5_opposite_9 : decode cX5_opposite 9 = .ok (.iload_n 1, 1) := by decide +kernel
theorem dX5_opposite_10 : decode cX5_opposite 10 = .ok (.invokevirtual 121, 3) := by decide +kernel
theorem dX5_opposite_13 : decode cX5_opposite 13 = .ok (.goto 4, 3) := by decide +kernel
theorem dX5_opposite_16 : decode cX5_opposite 16 = .ok (.iconst (-1), 1) := by decide +kernel
theorem dX5_opposite_17 : decode cX5_opposite 17 = .ok (.ireturn, 1) := by decide +kernel
section
variable {p : Program} {l : Launch} {e : Env} {s : State} {m : MethodId} {args : Array Value} {below : List Frame} {meth : Method} {c : Code} {Q : State → Prop} {G : GG} {A : Nat → Prop} {q : Nat → Nat} {fr : va_W}
def f_X5_opposite (yp : Int32) (ye : Int32) (bPo : Nat → Int32) (v1 : Int32) : Option (Int32) :=
  (f_X5_isClass ye v1).bind fun z1 =>
  if z1 = 0 then
  some (-1)
  else
  (f_X5_oppositeOf yp ye bPo v1).bind fun z3 =>
  some z3
set_option maxHeartbeats 4000000 in
set_option maxRecDepth 100000 in
theorem k_X5_opposite {l : Launch} {G : GG} {q : Nat → Nat} {fr : va_W} {yp : Int32} {ye : Int32} {yg : Int32} {bPo : Nat → Int32} {bTb : Nat → Int32} {wSh : Nat → Int64} {wTe : Nat → Int64} {wNx : Nat → Int64} {bOs : Nat → Int32} {bOn : Nat → Int32} {yop : Int32} {bSo : Nat → Int32} {bNu : Nat → Int32} {ytr : Int32} {yiw : Int32} {wMa : Nat → Int64} {wPr : Nat → Int64} {bTp : Nat → Int32} {yln : Int32} {ypl : Int32} {yfa : Int32} {wLi : Nat → Int64} {bSi : Nat → Int32} {yhp : Int32} {yhe : Int32} {yhg : Int32} {wHs : Nat → Int64} {yhi : Int32} {v1 : Int32} {z : Int32}  (h : f_X5_opposite yp ye bPo v1 = some z) : Ct l G yX5_opposite cX5_opposite 2 (some .int) 3 64 [.ref (q 0), .int v1] (mW G q yp ye yg bPo bTb wSh wTe wNx bOs bOn yop bSo bNu ytr yiw wMa wPr bTp yln ypl yfa wLi bSi yhp yhe yhg wHs yhi ++ fr) (some (.int z)) (mW G q yp ye yg bPo bTb wSh wTe wNx bOs bOn yop bSo bNu ytr yiw wMa wPr bTp yln ypl yfa wLi bSi yhp yhe yhg wHs yhi ++ fr) := by
  refine Ct.of (by decide) (Nat.le_of_ble_eq_true rfl) trivial ?_
  intro p e s m args below meth c Q A ls F hw hA hE hl
  have hx := F.x
  have hb := F.b
  unfold f_X5_opposite at h
  obtain ⟨H, hH⟩ : ∃ H, H = s.heap := ⟨_, rfl⟩
  obtain ⟨locs, hlo⟩ : ∃ locs : List Loc, locs = [] := ⟨_, rfl⟩
  rw [← hH, ← hlo] at hw ⊢
  have hl : lv_has ls 2 [(0, .ref (q 0)), (1, .int v1)] := hl
  refine lv_aload_n hx hb dX5_opposite_0 rfl (lv_at hl 0 rfl) ?_
  refine lv_iload_n hx hb dX5_opposite_1 rfl (lv_at hl 1 rfl) ?_
  obtain ⟨z1, hz1, h⟩ := stB h
  refine ctV (av := [.int v1]) (st0 := ([] : List Value)) (st1 := ([.int z1] : List Value)) F hw hA (k_X5_isClass hz1) kl_5_114 kd_X5_isClass rfl ⟨by decide, by decide⟩ 0 rfl rfl hl.1 rfl (Nat.le_of_ble_eq_true rfl) dX5_opposite_2 rfl (fun H locs hw => ?_)
  refine lv_if_eq (tgt := 16) hx hb dX5_opposite_5 (by decide) (fun c2 => ?_) (fun c2 => ?_)
  · replace h := stT c2 h
    refine lv_iconst (v := -1) hx hb dX5_opposite_16 (by decide) ?_
    obtain rfl := Option.some.inj h
    exact hE H locs _ ls hw dX5_opposite_17
  · replace h := stF c2 h
    refine lv_aload_n hx hb dX5_opposite_8 rfl (lv_at hl 0 rfl) ?_
    refine lv_iload_n hx hb dX5_opposite_9 rfl (lv_at hl 1 rfl) ?_
    obtain ⟨z3, hz3, h⟩ := stB h
    refine ctV (av := [.int v1]) (st0 := ([] : List Value)) (st1 := ([.int z3] : List Value)) F hw hA (k_X5_oppositeOf hz3) kl_5_121 kd_X5_oppositeOf rfl ⟨by decide, by decide⟩ 0 rfl rfl hl.1 rfl (Nat.le_of_ble_eq_true rfl) dX5_opposite_10 rfl (fun H locs hw => ?_)
    refine lv_goto (tgt := 17) hx hb dX5_opposite_13 (by decide) ?_
    obtain rfl := Option.some.inj h
    exact hE H locs _ ls hw dX5_opposite_17
end
theorem dX5_around_0 : decode cX5_around 0 = .ok (.aload_n 0, 1) := by decide +kernel
theorem dX5_around_1 : decode cX5_around 1 = .ok (.iload_n 1, 1) := by decide +kernel
theorem dX5_around_2 : decode cX5_around 2 = .ok (.invokevirtual 114, 3) := by decide +kernel
theorem dX5_around_5 : decode cX5_around 5 = .ok (.ifCond .eq 13, 3) := by decide +kernel
theorem dX5_around_8 : decode cX5_around 8 = .ok (.iload_n 2, 1) := by decide +kernel
theorem dX5_around_9 : decode cX5_around 9 = .ok (.i2l, 1) := by decide +kernel
theorem dX5_around_10 : decode cX5_around 10 = .ok (.lconst 0, 1) := by decide +kernel
theorem dX5_around_11 : decode cX5_around 11 = .ok (.lconst 1, 1) := by decide +kernel
theorem dX5_around_12 : decode cX5_around 12 = .ok (.invokestatic 90, 3) := by decide +kernel
theorem dX5_around_15 : decode cX5_around 15 = .ok (.ifCond .ne 5, 3) := by decide +kernel
theorem dX5_around_18 : decode cX5_around 18 = .ok (.iconst (-1), 1) := by decide +kernel
theorem dX5_around_19 : decode cX5_around 19 = .ok (.ireturn, 1) := by decide +kernel
theorem dX5_around_20 : decode cX5_around 20 = .ok (.iconst 0, 1) := by decide +kernel
theorem dX5_around_21 : decode cX5_around 21 = .ok (.istore_n 3, 1) := by decide +kernel
theorem dX5_around_22 : decode cX5_around 22 = .ok (.iconst 0, 1) := by decide +kernel
theorem dX5_around_23 : decode cX5_around 23 = .ok (.istore 4, 2) := by decide +kernel
theorem dX5_around_25 : decode cX5_around 25 = .ok (.iload 4, 2) := by decide +kernel
theorem dX5_around_27 : decode cX5_around 27 = .ok (.aload_n 0, 1) := by decide +kernel
theorem dX5_around_28 : decode cX5_around 28 = .ok (.getfield 66, 3) := by decide +kernel
theorem dX5_around_31 : decode cX5_around 31 = .ok (.if_icmp .ge 33, 3) := by decide +kernel
theorem dX5_around_34 : decode cX5_around 34 = .ok (.iload_n 3, 1) := by decide +kernel
theorem dX5_around_35 : decode cX5_around 35 = .ok (.iload_n 2, 1) := by decide +kernel
theorem dX5_around_36 : decode cX5_around 36 = .ok (.ifCond .ne 13, 3) := by decide +kernel
theorem dX5_around_39 : decode cX5_around 39 = .ok (.aload_n 0, 1) := by decide +kernel
theorem dX5_around_40 : decode cX5_around 40 = .ok (.iload_n 1, 1) := by decide +kernel
theorem dX5_around_41 : decode cX5_around 41 = .ok (.iload 4, 2) := by decide +kernel
theorem dX5_around_43 : decode cX5_around 43 = .ok (.invokevirtual 117, 3) := by decide +kernel
theorem dX5_around_46 : decode cX5_around 46 = .ok (.goto 10, 3) := by decide +kernel
theorem dX5_around_49 : decode cX5_around 49 = .ok (.aload_n 0, 1) := by decide +kernel
theorem dX5_around_50 : decode cX5_around 50 = .ok (.iload 4, 2) := by decide +kernel
theorem dX5_around_52 : decode cX5_around 52 = .ok (.iload_n 1, 1) := by decide +kernel
theorem dX5_around_53 : decode cX5_around 53 = .ok (.invokevirtual 117, 3) := by decide +kernel
theorem dX5_around_56 : decode cX5_around 56 = .ok (.iadd, 1) := by decide +kernel
theorem dX5_around_57 : decode cX5_around 57 = .ok (.istore_n 3, 1) := by decide +kernel
theorem dX5_around_58 : decode cX5_around 58 = .ok (.iinc 4 1, 3) := by decide +kernel
theorem dX5_around_61 : decode cX5_around 61 = .ok (.goto (-36), 3) := by decide +kernel
theorem dX5_around_64 : decode cX5_around 64 = .ok (.iload_n 3, 1) := by decide +kernel
theorem dX5_around_65 : decode cX5_around 65 = .ok (.ireturn, 1) := by decide +kernel
section
variable {p : Program} {l : Launch} {e : Env} {s : State} {m : MethodId} {args : Array Value} {below : List Frame} {meth : Method} {c : Code} {Q : State → Prop} {G : GG} {A : Nat → Prop} {q : Nat → Nat} {fr : va_W}
def f_X5_around_L25 (yp : Int32) (ye : Int32) (bPo : Nat → Int32) (v1 : Int32) (v2 : Int32) : Nat → Int32 → Int32 → Option (Int32)
  | 0, _, _ => none
  | fu + 1, v3, v4 =>
    if ye ≤ v4 then
    some v3
    else
    if v2 = 0 then
    (f_X5_besideOf yp ye bPo v1 v4).bind fun z4 =>
    f_X5_around_L25 yp ye bPo v1 v2 fu (v3 + z4) (v4 + 1)
    else
    (f_X5_besideOf yp ye bPo v4 v1).bind fun z3 =>
    f_X5_around_L25 yp ye bPo v1 v2 fu (v3 + z3) (v4 + 1)
set_option maxHeartbeats 4000000 in
set_option maxRecDepth 100000 in
theorem w_X5_around_L25 {yp : Int32} {ye : Int32} {yg : Int32} {bPo : Nat → Int32} {bTb : Nat → Int32} {wSh : Nat → Int64} {wTe : Nat → Int64} {wNx : Nat → Int64} {bOs : Nat → Int32} {bOn : Nat → Int32} {yop : Int32} {bSo : Nat → Int32} {bNu : Nat → Int32} {ytr : Int32} {yiw : Int32} {wMa : Nat → Int64} {wPr : Nat → Int64} {bTp : Nat → Int32} {yln : Int32} {ypl : Int32} {yfa : Int32} {wLi : Nat → Int64} {bSi : Nat → Int32} {yhp : Int32} {yhe : Int32} {yhg : Int32} {wHs : Nat → Int64} {yhi : Int32} {v1 : Int32} {v2 : Int32}  (F : Fx p s m args meth c cX5_around 5 RX5 (some .int)) (hA : ∀ q, s.heap.size ≤ q → A q)   : ∀ (fu : Nat) (v3 : Int32) (v4 : Int32) (z : Int32), f_X5_around_L25 yp ye bPo v1 v2 fu v3 v4 = some z → Ends p l e (rmOf 2 46) s m args below meth c Q cX5_around G A (some .int) (some (.int z)) (mW G q yp ye yg bPo bTb wSh wTe wNx bOs bOn yop bSo bNu ytr yiw wMa wPr bTp yln ypl yfa wLi bSi yhp yhe yhg wHs yhi ++ fr) → ∀ (H : Heap) (locs : List Loc) (ls : Array Slot), Wd G s A (mW G q yp ye yg bPo bTb wSh wTe wNx bOs bOn yop bSo bNu ytr yiw wMa wPr bTp yln ypl yfa wLi bSi yhp yhe yhg wHs yhi ++ fr) H locs → lv_has ls 5 [(0, .ref (q 0)), (1, .int v1), (2, .int v2), (3, .int v3), (4, .int v4)] → W p l e (rmOf 2 46) s m args below meth c H locs 0 0 Q (F0 m 25 ls []) := by
  have hx := F.x
  have hb := F.b
  intro fu
  induction fu with
  | zero =>
    intro v3 v4 z h
    cases (h : none = some z)
  | succ fu ih =>
    intro v3 v4 z h hE H locs ls hw hl
    rw [f_X5_around_L25] at h
    refine lv_iload hx hb dX5_around_25 (lv_at hl 4 rfl) ?_
    refine lv_aload_n hx hb dX5_around_27 rfl (lv_at hl 0 rfl) ?_
    refine gf_5_66 F hw dX5_around_28 ?_
    refine lv_icmp_ge (tgt := 64) hx hb dX5_around_31 (by decide) (fun c1 => ?_) (fun c1 => ?_)
    · replace h := stT c1 h
      refine lv_iload_n hx hb dX5_around_64 rfl (lv_at hl 3 rfl) ?_
      obtain rfl := Option.some.inj h
      exact hE H locs _ ls hw dX5_around_65
    · replace h := stF c1 h
      refine lv_iload_n hx hb dX5_around_34 rfl (lv_at hl 3 rfl) ?_
      refine lv_iload_n hx hb dX5_around_35 rfl (lv_at hl 2 rfl) ?_
      refine lv_if_ne (tgt := 49) hx hb dX5_around_36 (by decide) (fun c2 => ?_) (fun c2 => ?_)
      · replace h := stF c2 h
        refine lv_aload_n hx hb dX5_around_49 rfl (lv_at hl 0 rfl) ?_
        refine lv_iload hx hb dX5_around_50 (lv_at hl 4 rfl) ?_
        refine lv_iload_n hx hb dX5_around_52 rfl (lv_at hl 1 rfl) ?_
        obtain ⟨z3, hz3, h⟩ := stB h
        refine ctV (av := [.int v4, .int v1]) (st0 := ([.int v3] : List Value)) (st1 := ([.int z3, .int v3] : List Value)) F hw hA (k_X5_besideOf hz3) kl_5_117 kd_X5_besideOf rfl ⟨by decide, by decide⟩ 0 rfl rfl hl.1 rfl (Nat.le_of_ble_eq_true rfl) dX5_around_53 rfl (fun H locs hw => ?_)
        refine lv_iadd hx hb dX5_around_56 ?_
        refine lv_istore_n (lv' := [(3, .int (v3 + z3)), (0, .ref (q 0)), (1, .int v1), (2, .int v2), (4, .int v4)]) hx hb dX5_around_57 rfl hl (by decide) rfl (fun ls hl => ?_)
        refine lv_iinc (v := (v4 + 1)) (lv' := [(4, .int (v4 + 1)), (3, .int (v3 + z3)), (0, .ref (q 0)), (1, .int v1), (2, .int v2)]) hx hb dX5_around_58 hl (k := 4) rfl rfl (by decide) rfl (fun ls hl => ?_)
        refine lv_goto (tgt := 25) hx hb dX5_around_61 (by decide) ?_
        exact ih _ _ z h hE H locs ls hw (lv_sub hl [2, 3, 4, 1, 0] rfl)
      · replace h := stT c2 h
        refine lv_aload_n hx hb dX5_around_39 rfl (lv_at hl 0 rfl) ?_
        refine lv_iload_n hx hb dX5_around_40 rfl (lv_at hl 1 rfl) ?_
        refine lv_iload hx hb dX5_around_41 (lv_at hl 4 rfl) ?_
        obtain ⟨z4, hz4, h⟩ := stB h
        refine ctV (av := [.int v1, .int v4]) (st0 := ([.int v3] : List Value)) (st1 := ([.int z4, .int v3] : List Value)) F hw hA (k_X5_besideOf hz4) kl_5_117 kd_X5_besideOf rfl ⟨by decide, by decide⟩ 0 rfl rfl hl.1 rfl (Nat.le_of_ble_eq_true rfl) dX5_around_43 rfl (fun H locs hw => ?_)
        refine lv_goto (tgt := 56) hx hb dX5_around_46 (by decide) ?_
        refine lv_iadd hx hb dX5_around_56 ?_
        refine lv_istore_n (lv' := [(3, .int (v3 + z4)), (0, .ref (q 0)), (1, .int v1), (2, .int v2), (4, .int v4)]) hx hb dX5_around_57 rfl hl (by decide) rfl (fun ls hl => ?_)
        refine lv_iinc (v := (v4 + 1)) (lv' := [(4, .int (v4 + 1)), (3, .int (v3 + z4)), (0, .ref (q 0)), (1, .int v1), (2, .int v2)]) hx hb dX5_around_58 hl (k := 4) rfl rfl (by decide) rfl (fun ls hl => ?_)
        refine lv_goto (tgt := 25) hx hb dX5_around_61 (by decide) ?_
        exact ih _ _ z h hE H locs ls hw (lv_sub hl [2, 3, 4, 1, 0] rfl)
def f_X5_around (yp : Int32) (ye : Int32) (bPo : Nat → Int32) (v1 : Int32) (v2 : Int32) : Option (Int32) :=
  (f_X5_isClass ye v1).bind fun z1 =>
  if z1 = 0 then
  some (-1)
  else
  (f_X5_in v2.toInt64 0 1).bind fun z3 =>
  if z3 = 0 then
  some (-1)
  else
  f_X5_around_L25 yp ye bPo v1 v2 FU 0 0
set_option maxHeartbeats 4000000 in
set_option maxRecDepth 100000 in
theorem k_X5_around {l : Launch} {G : GG} {q : Nat → Nat} {fr : va_W} {yp : Int32} {ye : Int32} {yg : Int32} {bPo : Nat → Int32} {bTb : Nat → Int32} {wSh : Nat → Int64} {wTe : Nat → Int64} {wNx : Nat → Int64} {bOs : Nat → Int32} {bOn : Nat → Int32} {yop : Int32} {bSo : Nat → Int32} {bNu : Nat → Int32} {ytr : Int32} {yiw : Int32} {wMa : Nat → Int64} {wPr : Nat → Int64} {bTp : Nat → Int32} {yln : Int32} {ypl : Int32} {yfa : Int32} {wLi : Nat → Int64} {bSi : Nat → Int32} {yhp : Int32} {yhe : Int32} {yhg : Int32} {wHs : Nat → Int64} {yhi : Int32} {v1 : Int32} {v2 : Int32} {z : Int32}  (h : f_X5_around yp ye bPo v1 v2 = some z) : Ct l G yX5_around cX5_around 5 (some .int) 2 46 [.ref (q 0), .int v1, .int v2] (mW G q yp ye yg bPo bTb wSh wTe wNx bOs bOn yop bSo bNu ytr yiw wMa wPr bTp yln ypl yfa wLi bSi yhp yhe yhg wHs yhi ++ fr) (some (.int z)) (mW G q yp ye yg bPo bTb wSh wTe wNx bOs bOn yop bSo bNu ytr yiw wMa wPr bTp yln ypl yfa wLi bSi yhp yhe yhg wHs yhi ++ fr) := by
  refine Ct.of (by decide) (Nat.le_of_ble_eq_true rfl) trivial ?_
  intro p e s m args below meth c Q A ls F hw hA hE hl
  have hx := F.x
  have hb := F.b
  unfold f_X5_around at h
  obtain ⟨H, hH⟩ : ∃ H, H = s.heap := ⟨_, rfl⟩
  obtain ⟨locs, hlo⟩ : ∃ locs : List Loc, locs = [] := ⟨_, rfl⟩
  rw [← hH, ← hlo] at hw ⊢
  have hl : lv_has ls 5 [(0, .ref (q 0)), (1, .int v1), (2, .int v2)] := hl
  refine lv_aload_n hx hb dX5_around_0 rfl (lv_at hl 0 rfl) ?_
  refine lv_iload_n hx hb dX5_around_1 rfl (lv_at hl 1 rfl) ?_
  obtain ⟨z1, hz1, h⟩ := stB h
  refine ctV (av := [.int v1]) (st0 := ([] : List Value)) (st1 := ([.int z1] : List Value)) F hw hA (k_X5_isClass hz1) kl_5_114 kd_X5_isClass rfl ⟨by decide, by decide⟩ 0 rfl rfl hl.1 rfl (Nat.le_of_ble_eq_true rfl) dX5_around_2 rfl (fun H locs hw => ?_)
  refine lv_if_eq (tgt := 18) hx hb dX5_around_5 (by decide) (fun c2 => ?_) (fun c2 => ?_)
  · replace h := stT c2 h
    refine lv_iconst (v := -1) hx hb dX5_around_18 (by decide) ?_
    obtain rfl := Option.some.inj h
    exact hE H locs _ ls hw dX5_around_19
  · replace h := stF c2 h
    refine lv_iload_n hx hb dX5_around_8 rfl (lv_at hl 2 rfl) ?_
    refine lv_i2l (v := v2.toInt64) hx hb dX5_around_9 rfl ?_
    refine lv_lconst (v := 0) hx hb dX5_around_10 (by decide) ?_
    refine lv_lconst (v := 1) hx hb dX5_around_11 (by decide) ?_
    obtain ⟨z3, hz3, h⟩ := stB h
    refine ctS (av := [.long v2.toInt64, .long 0, .long 1]) (st0 := ([] : List Value)) (st1 := ([.int z3] : List Value)) F hw hA (k_X5_in hz3) kl_5_90 kd_X5_in rfl ⟨by decide, by decide⟩ hl.1 rfl (Nat.le_of_ble_eq_true rfl) dX5_around_12 rfl (fun H locs hw => ?_)
    refine lv_if_ne (tgt := 20) hx hb dX5_around_15 (by decide) (fun c4 => ?_) (fun c4 => ?_)
    · replace h := stF c4 h
      refine lv_iconst (v := 0) hx hb dX5_around_20 (by decide) ?_
      refine lv_istore_n (lv' := [(3, .int 0), (0, .ref (q 0)), (1, .int v1), (2, .int v2)]) hx hb dX5_around_21 rfl hl (by decide) rfl (fun ls hl => ?_)
      refine lv_iconst (v := 0) hx hb dX5_around_22 (by decide) ?_
      refine lv_istore (lv' := [(4, .int 0), (3, .int 0), (0, .ref (q 0)), (1, .int v1), (2, .int v2)]) hx hb dX5_around_23 hl (by decide) rfl (fun ls hl => ?_)
      exact w_X5_around_L25 F hA  FU _ _ z h hE H locs ls hw (lv_sub hl [2, 3, 4, 1, 0] rfl)
    · replace h := stT c4 h
      refine lv_iconst (v := -1) hx hb dX5_around_18 (by decide) ?_
      obtain rfl := Option.some.inj h
      exact hE H locs _ ls hw dX5_around_19
end
theorem dX5_raisedModulo_0 : decode cX5_raisedModulo 0 = .ok (.iconst 1, 1) := by decide +kernel
theorem dX5_raisedModulo_1 : decode cX5_raisedModulo 1 = .ok (.istore_n 2, 1) := by decide +kernel
theorem dX5_raisedModulo_2 : decode cX5_raisedModulo 2 = .ok (.iconst 0, 1) := by decide +kernel
theorem dX5_raisedModulo_3 : decode cX5_raisedModulo 3 = .ok (.istore_n 3, 1) := by decide +kernel
theorem dX5_raisedModulo_4 : decode cX5_raisedModulo 4 = .ok (.iload_n 3, 1) := by decide +kernel
theorem dX5_raisedModulo_5 : decode cX5_raisedModulo 5 = .ok (.aload_n 0, 1) := by decide +kernel
theorem dX5_raisedModulo_6 : decode cX5_raisedModulo 6 = .ok (.getfield 66, 3) := by decide +kernel
theorem dX5_raisedModulo_9 : decode cX5_raisedModulo 9 = .ok (.if_icmp .ge 18, 3) := by decide +kernel
theorem dX5_raisedModulo_12 : decode cX5_raisedModulo 12 = .ok (.iload_n 2, 1) := by decide +kernel
theorem dX5_raisedModulo_13 : decode cX5_raisedModulo 13 = .ok (.iload_n 1, 1) := by decide +kernel
theorem dX5_raisedModulo_14 : decode cX5_raisedModulo 14 = .ok (.imul, 1) := by decide +kernel
theorem dX5_raisedModulo_15 : decode cX5_raisedModulo 15 = .ok (.aload_n 0, 1) := by decide +kernel
theorem dX5_raisedModulo_16 : decode cX5_raisedModulo 16 = .ok (.getfield 62, 3) := by decide +kernel
theorem dX5_raisedModulo_19 : decode cX5_raisedModulo 19 = .ok (.irem, 1) := by decide +kernel
theorem dX5_raisedModulo_20 : decode cX5_raisedModulo 20 = .ok (.istore_n 2, 1) := by decide +kernel
theorem dX5_raisedModulo_21 : decode cX5_raisedModulo 21 = .ok (.iinc 3 1, 3) := by decide +kernel
theorem dX5_raisedModulo_24 : decode cX5_raisedModulo 24 = .ok (.goto (-20), 3) := by decide +kernel
theorem dX5_raisedModulo_27 : decode cX5_raisedModulo 27 = .ok (.iload_n 2, 1) := by decide +kernel
theorem dX5_raisedModulo_28 : decode cX5_raisedModulo 28 = .ok (.ireturn, 1) := by decide +kernel
section
variable {p : Program} {l : Launch} {e : Env} {s : State} {m : MethodId} {args : Array Value} {below : List Frame} {meth : Method} {c : Code} {Q : State → Prop} {G : GG} {A : Nat → Prop} {q : Nat → Nat} {fr : va_W}
def f_X5_raisedModulo_L4 (yp : Int32) (ye : Int32) (v1 : Int32) : Nat → Int32 → Int32 → Option (Int32)
  | 0, _, _ => none
  | fu + 1, v2, v3 =>
    if ye ≤ v3 then
    some v2
    else
    if yp = 0 then none else
    f_X5_raisedModulo_L4 yp ye v1 fu ((v2 * v1) - (v2 * v1) / yp * yp) (v3 + 1)
set_option maxHeartbeats 4000000 in
set_option maxRecDepth 100000 in
theorem w_X5_raisedModulo_L4 {yp : Int32} {ye : Int32} {yg : Int32} {bPo : Nat → Int32} {bTb : Nat → Int32} {wSh : Nat → Int64} {wTe : Nat → Int64} {wNx : Nat → Int64} {bOs : Nat → Int32} {bOn : Nat → Int32} {yop : Int32} {bSo : Nat → Int32} {bNu : Nat → Int32} {ytr : Int32} {yiw : Int32} {wMa : Nat → Int64} {wPr : Nat → Int64} {bTp : Nat → Int32} {yln : Int32} {ypl : Int32} {yfa : Int32} {wLi : Nat → Int64} {bSi : Nat → Int32} {yhp : Int32} {yhe : Int32} {yhg : Int32} {wHs : Nat → Int64} {yhi : Int32} {v1 : Int32}  (F : Fx p s m args meth c cX5_raisedModulo 4 RX5 (some .int)) (hA : ∀ q, s.heap.size ≤ q → A q)   : ∀ (fu : Nat) (v2 : Int32) (v3 : Int32) (z : Int32), f_X5_raisedModulo_L4 yp ye v1 fu v2 v3 = some z → Ends p l e (rmOf 0 0) s m args below meth c Q cX5_raisedModulo G A (some .int) (some (.int z)) (mW G q yp ye yg bPo bTb wSh wTe wNx bOs bOn yop bSo bNu ytr yiw wMa wPr bTp yln ypl yfa wLi bSi yhp yhe yhg wHs yhi ++ fr) → ∀ (H : Heap) (locs : List Loc) (ls : Array Slot), Wd G s A (mW G q yp ye yg bPo bTb wSh wTe wNx bOs bOn yop bSo bNu ytr yiw wMa wPr bTp yln ypl yfa wLi bSi yhp yhe yhg wHs yhi ++ fr) H locs → lv_has ls 4 [(0, .ref (q 0)), (1, .int v1), (2, .int v2), (3, .int v3)] → W p l e (rmOf 0 0) s m args below meth c H locs 0 0 Q (F0 m 4 ls []) := by
  have hx := F.x
  have hb := F.b
  intro fu
  induction fu with
  | zero =>
    intro v2 v3 z h
    cases (h : none = some z)
  | succ fu ih =>
    intro v2 v3 z h hE H locs ls hw hl
    rw [f_X5_raisedModulo_L4] at h
    refine lv_iload_n hx hb dX5_raisedModulo_4 rfl (lv_at hl 3 rfl) ?_
    refine lv_aload_n hx hb dX5_raisedModulo_5 rfl (lv_at hl 0 rfl) ?_
    refine gf_5_66 F hw dX5_raisedModulo_6 ?_
    refine lv_icmp_ge (tgt := 27) hx hb dX5_raisedModulo_9 (by decide) (fun c1 => ?_) (fun c1 => ?_)
    · replace h := stT c1 h
      refine lv_iload_n hx hb dX5_raisedModulo_27 rfl (lv_at hl 2 rfl) ?_
      obtain rfl := Option.some.inj h
      exact hE H locs _ ls hw dX5_raisedModulo_28
    · replace h := stF c1 h
      refine lv_iload_n hx hb dX5_raisedModulo_12 rfl (lv_at hl 2 rfl) ?_
      refine lv_iload_n hx hb dX5_raisedModulo_13 rfl (lv_at hl 1 rfl) ?_
      refine lv_imul hx hb dX5_raisedModulo_14 ?_
      refine lv_aload_n hx hb dX5_raisedModulo_15 rfl (lv_at hl 0 rfl) ?_
      refine gf_5_62 F hw dX5_raisedModulo_16 ?_
      obtain ⟨g2, h⟩ := stD h
      refine lv_irem hx hb dX5_raisedModulo_19 g2 ?_
      refine lv_istore_n (lv' := [(2, .int ((v2 * v1) - (v2 * v1) / yp * yp)), (0, .ref (q 0)), (1, .int v1), (3, .int v3)]) hx hb dX5_raisedModulo_20 rfl hl (by decide) rfl (fun ls hl => ?_)
      refine lv_iinc (v := (v3 + 1)) (lv' := [(3, .int (v3 + 1)), (2, .int ((v2 * v1) - (v2 * v1) / yp * yp)), (0, .ref (q 0)), (1, .int v1)]) hx hb dX5_raisedModulo_21 hl (k := 3) rfl rfl (by decide) rfl (fun ls hl => ?_)
      refine lv_goto (tgt := 4) hx hb dX5_raisedModulo_24 (by decide) ?_
      exact ih _ _ z h hE H locs ls hw (lv_sub hl [2, 3, 1, 0] rfl)
def f_X5_raisedModulo (yp : Int32) (ye : Int32) (v1 : Int32) : Option (Int32) :=
  f_X5_raisedModulo_L4 yp ye v1 FU 1 0
set_option maxHeartbeats 4000000 in
set_option maxRecDepth 100000 in
theorem k_X5_raisedModulo {l : Launch} {G : GG} {q : Nat → Nat} {fr : va_W} {yp : Int32} {ye : Int32} {yg : Int32} {bPo : Nat → Int32} {bTb : Nat → Int32} {wSh : Nat → Int64} {wTe : Nat → Int64} {wNx : Nat → Int64} {bOs : Nat → Int32} {bOn : Nat → Int32} {yop : Int32} {bSo : Nat → Int32} {bNu : Nat → Int32} {ytr : Int32} {yiw : Int32} {wMa : Nat → Int64} {wPr : Nat → Int64} {bTp : Nat → Int32} {yln : Int32} {ypl : Int32} {yfa : Int32} {wLi : Nat → Int64} {bSi : Nat → Int32} {yhp : Int32} {yhe : Int32} {yhg : Int32} {wHs : Nat → Int64} {yhi : Int32} {v1 : Int32} {z : Int32}  (h : f_X5_raisedModulo yp ye v1 = some z) : Ct l G yX5_raisedModulo cX5_raisedModulo 4 (some .int) 0 0 [.ref (q 0), .int v1] (mW G q yp ye yg bPo bTb wSh wTe wNx bOs bOn yop bSo bNu ytr yiw wMa wPr bTp yln ypl yfa wLi bSi yhp yhe yhg wHs yhi ++ fr) (some (.int z)) (mW G q yp ye yg bPo bTb wSh wTe wNx bOs bOn yop bSo bNu ytr yiw wMa wPr bTp yln ypl yfa wLi bSi yhp yhe yhg wHs yhi ++ fr) := by
  refine Ct.of (by decide) (Nat.le_of_ble_eq_true rfl) trivial ?_
  intro p e s m args below meth c Q A ls F hw hA hE hl
  have hx := F.x
  have hb := F.b
  unfold f_X5_raisedModulo at h
  obtain ⟨H, hH⟩ : ∃ H, H = s.heap := ⟨_, rfl⟩
  obtain ⟨locs, hlo⟩ : ∃ locs : List Loc, locs = [] := ⟨_, rfl⟩
  rw [← hH, ← hlo] at hw ⊢
  have hl : lv_has ls 4 [(0, .ref (q 0)), (1, .int v1)] := hl
  refine lv_iconst (v := 1) hx hb dX5_raisedModulo_0 (by decide) ?_
  refine lv_istore_n (lv' := [(2, .int 1), (0, .ref (q 0)), (1, .int v1)]) hx hb dX5_raisedModulo_1 rfl hl (by decide) rfl (fun ls hl => ?_)
  refine lv_iconst (v := 0) hx hb dX5_raisedModulo_2 (by decide) ?_
  refine lv_istore_n (lv' := [(3, .int 0), (2, .int 1), (0, .ref (q 0)), (1, .int v1)]) hx hb dX5_raisedModulo_3 rfl hl (by decide) rfl (fun ls hl => ?_)
  exact w_X5_raisedModulo_L4 F hA  FU _ _ z h hE H locs ls hw (lv_sub hl [2, 3, 1, 0] rfl)
end
theorem dX5_solved_0 : decode cX5_solved 0 = .ok (.iload_n 1, 1) := by decide +kernel
theorem dX5_solved_1 : decode cX5_solved 1 = .ok (.i2l, 1) := by decide +kernel
theorem dX5_solved_2 : decode cX5_solved 2 = .ok (.lconst 0, 1) := by decide +kernel
theorem dX5_solved_3 : decode cX5_solved 3 = .ok (.aload_n 0, 1) := by decide +kernel
theorem dX5_solved_4 : decode cX5_solved 4 = .ok (.getfield 62, 3) := by decide +kernel
theorem dX5_solved_7 : decode cX5_solved 7 = .ok (.iconst 1, 1) := by decide +kernel
theorem dX5_solved_8 : decode cX5_solved 8 = .ok (.isub, 1) := by decide +kernel
theorem dX5_solved_9 : decode cX5_solved 9 = .ok (.i2l, 1) := by decide +kernel
theorem dX5_solved_10 : decode cX5_solved 10 = .ok (.invokestatic 90, 3) := by decide +kernel
theorem dX5_solved_13 : decode cX5_solved 13 = .ok (.ifCond .eq 35, 3) := by decide +kernel
theorem dX5_solved_16 : decode cX5_solved 16 = .ok (.iload_n 2, 1) := by decide +kernel
theorem dX5_solved_17 : decode cX5_solved 17 = .ok (.i2l, 1) := by decide +kernel
theorem dX5_solved_18 : decode cX5_solved 18 = .ok (.lconst 0, 1) := by decide +kernel
theorem dX5_solved_19 : decode cX5_solved 19 = .ok (.aload_n 0, 1) := by decide +kernel
theorem dX5_solved_20 : decode cX5_solved 20 = .ok (.getfield 62, 3) := by decide +kernel
theorem dX5_solved_23 : decode cX5_solved 23 = .ok (.iconst 1, 1) := by decide +kernel
theorem dX5_solved_24 : decode cX5_solved 24 = .ok (.isub, 1) := by decide +kernel
theorem dX5_solved_25 : decode cX5_solved 25 = .ok (.i2l, 1) := by decide +kernel
theorem dX5_solved_26 : decode cX5_solved 26 = .ok (.invokestatic 90, 3) := by decide +kernel
theorem dX5_solved_29 : decode cX5_solved 29 = .ok (.ifCond .eq 19, 3) := by decide +kernel
theorem dX5_solved_32 : decode cX5_solved 32 = .ok (.iload_n 3, 1) := by decide +kernel
theorem dX5_solved_33 : decode cX5_solved 33 = .ok (.i2l, 1) := by decide +kernel
theorem dX5_solved_34 : decode cX5_solved 34 = .ok (.lconst 0, 1) := by decide +kernel
theorem dX5_solved_35 : decode cX5_solved 35 = .ok (.aload_n 0, 1) := by decide +kernel
theorem dX5_solved_36 : decode cX5_solved 36 = .ok (.getfield 62, 3) := by decide +kernel
theorem dX5_solved_39 : decode cX5_solved 39 = .ok (.iconst 1, 1) := by decide +kernel
theorem dX5_solved_40 : decode cX5_solved 40 = .ok (.isub, 1) := by decide +kernel
theorem dX5_solved_41 : decode cX5_solved 41 = .ok (.i2l, 1) := by decide +kernel
theorem dX5_solved_42 : decode cX5_solved 42 = .ok (.invokestatic 90, 3) := by decide +kernel
theorem dX5_solved_45 : decode cX5_solved 45 = .ok (.ifCond .ne 5, 3) := by decide +kernel
theorem dX5_solved_48 : decode cX5_solved 48 = .ok (.iconst (-1), 1) := by decide +kernel
theorem dX5_solved_49 : decode cX5_solved 49 = .ok (.ireturn, 1) := by decide +kernel
theorem dX5_solved_50 : decode cX5_solved 50 = .ok (.iconst 0, 1) := by decide +kernel
theorem dX5_solved_51 : decode cX5_solved 51 = .ok (.istore 4, 2) := by decide +kernel
theorem dX5_solved_53 : decode cX5_solved 53 = .ok (.iconst 0, 1) := by decide +kernel
theorem dX5_solved_54 : decode cX5_solved 54 = .ok (.istore 5, 2) := by decide +kernel
theorem dX5_solved_56 : decode cX5_solved 56 = .ok (.iload 5, 2) := by decide +kernel
theorem dX5_solved_58 : decode cX5_solved 58 = .ok (.aload_n 0, 1) := by decide +kernel
theorem dX5_solved_59 : decode cX5_solved 59 = .ok (.getfield 62, 3) := by decide +kernel
theorem dX5_solved_62 : decode cX5_solved 62 = .ok (.if_icmp .ge 66, 3) := by decide +kernel
theorem dX5_solved_65 : decode cX5_solved 65 = .ok (.iconst 0, 1) := by decide +kernel
theorem dX5_solved_66 : decode cX5_solved 66 = .ok (.istore 6, 2) := by decide +kernel
theorem dX5_solved_68 : decode cX5_solved 68 = .ok (.iload 6, 2) := by decide +kernel
theorem dX5_solved_70 : decode cX5_solved 70 = .ok (.aload_n 0, 1) := by decide +kernel
theorem dX5_solved_71 : decode cX5_solved 71 = .ok (.getfield 62, 3) := by decide +kernel
theorem dX5_solved_74 : decode cX5_solved 74 = .ok (.if_icmp .ge 48, 3) := by decide +kernel
theorem dX5_solved_77 : decode cX5_solved 77 = .ok (.iload 4, 2) := by decide +kernel
theorem dX5_solved_79 : decode cX5_solved 79 = .ok (.iload_n 1, 1) := by decide +kernel
theorem dX5_solved_80 : decode cX5_solved 80 = .ok (.aload_n 0, 1) := by decide +kernel
theorem dX5_solved_81 : decode cX5_solved 81 = .ok (.iload 5, 2) := by decide +kernel
theorem dX5_solved_83 : decode cX5_solved 83 = .ok (.invokevirtual 127, 3) := by decide +kernel
theorem dX5_solved_86 : decode cX5_solved 86 = .ok (.imul, 1) := by decide +kernel
theorem dX5_solved_87 : decode cX5_solved 87 = .ok (.iload_n 2, 1) := by decide +kernel
theorem dX5_solved_88 : decode cX5_solved 88 = .ok (.aload_n 0, 1) := by decide +kernel
theorem dX5_solved_89 : decode cX5_solved 89 = .ok (.iload 6, 2) := by decide +kernel
theorem dX5_solved_91 : decode cX5_solved 91 = .ok (.invokevirtual 127, 3) := by decide +kernel
theorem dX5_solved_94 : decode cX5_solved 94 = .ok (.imul, 1) := by decide +kernel
theorem dX5_solved_95 : decode cX5_solved 95 = .ok (.iadd, 1) := by decide +kernel
theorem dX5_solved_96 : decode cX5_solved 96 = .ok (.aload_n 0, 1) := by decide +kernel
theorem dX5_solved_97 : decode cX5_solved 97 = .ok (.getfield 62, 3) := by decide +kernel
theorem dX5_solved_100 : decode cX5_solved 100 = .ok (.irem, 1) := by decide +kernel
theorem dX5_solved_101 : decode cX5_solved 101 = .ok (.iload_n 3, 1) := by decide +kernel
theorem dX5_solved_102 : decode cX5_solved 102 = .ok (.if_icmp .ne 7, 3) := by decide +kernel
theorem dX5_solved_105 : decode cX5_solved 105 = .ok (.iconst 1, 1) := by decide +kernel
theorem dX5_solved_106 : decode cX5_solved 106 = .ok (.goto 4, 3) := by decide +kernel
theorem dX5_solved_109 : decode cX5_solved 109 = .ok (.iconst 0, 1) := by decide +kernel
theorem dX5_solved_110 : decode cX5_solved 110 = .ok (.invokestatic 103, 3) := by decide +kernel
theorem dX5_solved_113 : decode cX5_solved 113 = .ok (.iadd, 1) := by decide +kernel
theorem dX5_solved_114 : decode cX5_solved 114 = .ok (.istore 4, 2) := by decide +kernel
theorem dX5_solved_116 : decode cX5_solved 116 = .ok (.iinc 6 1, 3) := by decide +kernel
theorem dX5_solved_119 : decode cX5_solved 119 = .ok (.goto (-51), 3) := by decide +kernel
theorem dX5_solved_122 : decode cX5_solved 122 = .ok (.iinc 5 1, 3) := by decide +kernel
theorem dX5_solved_125 : decode cX5_solved 125 = .ok (.goto (-69), 3) := by decide +kernel
theorem dX5_solved_128 : decode cX5_solved 128 = .ok (.iload 4, 2) := by decide +kernel
theorem dX5_solved_130 : decode cX5_solved 130 = .ok (.ireturn, 1) := by decide +kernel
section
variable {p : Program} {l : Launch} {e : Env} {s : State} {m : MethodId} {args : Array Value} {below : List Frame} {meth : Method} {c : Code} {Q : State → Prop} {G : GG} {A : Nat → Prop} {q : Nat → Nat} {fr : va_W}
def f_X5_solved_L68 (yp : Int32) (ye : Int32) (v1 : Int32) (v2 : Int32) (v3 : Int32) (KK : Int32 → Int32 → Option (Int32)) : Nat → Int32 → Int32 → Int32 → Option (Int32)
  | 0, _, _, _ => none
  | fu + 1, v4, v5, v6 =>
    if yp ≤ v6 then
    KK v4 (v5 + 1)
    else
    (f_X5_raisedModulo yp ye v5).bind fun z2 =>
    (f_X5_raisedModulo yp ye v6).bind fun z3 =>
    if yp = 0 then none else
    if (((v1 * z2) + (v2 * z3)) - ((v1 * z2) + (v2 * z3)) / yp * yp) = v3 then
    (f_X5_bit 1).bind fun z7 =>
    f_X5_solved_L68 yp ye v1 v2 v3 KK fu (v4 + z7) v5 (v6 + 1)
    else
    (f_X5_bit 0).bind fun z6 =>
    f_X5_solved_L68 yp ye v1 v2 v3 KK fu (v4 + z6) v5 (v6 + 1)
set_option maxHeartbeats 4000000 in
set_option maxRecDepth 100000 in
theorem w_X5_solved_L68 {yp : Int32} {ye : Int32} {yg : Int32} {bPo : Nat → Int32} {bTb : Nat → Int32} {wSh : Nat → Int64} {wTe : Nat → Int64} {wNx : Nat → Int64} {bOs : Nat → Int32} {bOn : Nat → Int32} {yop : Int32} {bSo : Nat → Int32} {bNu : Nat → Int32} {ytr : Int32} {yiw : Int32} {wMa : Nat → Int64} {wPr : Nat → Int64} {bTp : Nat → Int32} {yln : Int32} {ypl : Int32} {yfa : Int32} {wLi : Nat → Int64} {bSi : Nat → Int32} {yhp : Int32} {yhe : Int32} {yhg : Int32} {wHs : Nat → Int64} {yhi : Int32} {v1 : Int32} {v2 : Int32} {v3 : Int32} {KK : Int32 → Int32 → Option (Int32)} (F : Fx p s m args meth c cX5_solved 7 RX5 (some .int)) (hA : ∀ q, s.heap.size ≤ q → A q)  (hK : ∀ (v4 : Int32) (v5 : Int32) (z : Int32), KK v4 v5 = some z → Ends p l e (rmOf 1 25) s m args below meth c Q cX5_solved G A (some .int) (some (.int z)) (mW G q yp ye yg bPo bTb wSh wTe wNx bOs bOn yop bSo bNu ytr yiw wMa wPr bTp yln ypl yfa wLi bSi yhp yhe yhg wHs yhi ++ fr) → ∀ (H : Heap) (locs : List Loc) (ls : Array Slot), Wd G s A (mW G q yp ye yg bPo bTb wSh wTe wNx bOs bOn yop bSo bNu ytr yiw wMa wPr bTp yln ypl yfa wLi bSi yhp yhe yhg wHs yhi ++ fr) H locs → lv_has ls 7 [(0, .ref (q 0)), (1, .int v1), (2, .int v2), (3, .int v3), (4, .int v4), (5, .int v5)] → W p l e (rmOf 1 25) s m args below meth c H locs 0 0 Q (F0 m 56 ls [])) : ∀ (fu : Nat) (v4 : Int32) (v5 : Int32) (v6 : Int32) (z : Int32), f_X5_solved_L68 yp ye v1 v2 v3 KK fu v4 v5 v6 = some z → Ends p l e (rmOf 1 25) s m args below meth c Q cX5_solved G A (some .int) (some (.int z)) (mW G q yp ye yg bPo bTb wSh wTe wNx bOs bOn yop bSo bNu ytr yiw wMa wPr bTp yln ypl yfa wLi bSi yhp yhe yhg wHs yhi ++ fr) → ∀ (H : Heap) (locs : List Loc) (ls : Array Slot), Wd G s A (mW G q yp ye yg bPo bTb wSh wTe wNx bOs bOn yop bSo bNu ytr yiw wMa wPr bTp yln ypl yfa wLi bSi yhp yhe yhg wHs yhi ++ fr) H locs → lv_has ls 7 [(0, .ref (q 0)), (1, .int v1), (2, .int v2), (3, .int v3), (4, .int v4), (5, .int v5), (6, .int v6)] → W p l e (rmOf 1 25) s m args below meth c H locs 0 0 Q (F0 m 68 ls []) := by
  have hx := F.x
  have hb := F.b
  intro fu
  induction fu with
  | zero =>
    intro v4 v5 v6 z h
    cases (h : none = some z)
  | succ fu ih =>
    intro v4 v5 v6 z h hE H locs ls hw hl
    rw [f_X5_solved_L68] at h
    refine lv_iload hx hb dX5_solved_68 (lv_at hl 6 rfl) ?_
    refine lv_aload_n hx hb dX5_solved_70 rfl (lv_at hl 0 rfl) ?_
    refine gf_5_62 F hw dX5_solved_71 ?_
    refine lv_icmp_ge (tgt := 122) hx hb dX5_solved_74 (by decide) (fun c1 => ?_) (fun c1 => ?_)
    · replace h := stT c1 h
      refine lv_iinc (v := (v5 + 1)) (lv' := [(5, .int (v5 + 1)), (0, .ref (q 0)), (1, .int v1), (2, .int v2), (3, .int v3), (4, .int v4), (6, .int v6)]) hx hb dX5_solved_122 hl (k := 5) rfl rfl (by decide) rfl (fun ls hl => ?_)
      refine lv_goto (tgt := 56) hx hb dX5_solved_125 (by decide) ?_
      exact hK _ _ z h hE H locs ls hw (lv_sub hl [1, 2, 3, 4, 5, 0] rfl)
    · replace h := stF c1 h
      refine lv_iload hx hb dX5_solved_77 (lv_at hl 4 rfl) ?_
      refine lv_iload_n hx hb dX5_solved_79 rfl (lv_at hl 1 rfl) ?_
      refine lv_aload_n hx hb dX5_solved_80 rfl (lv_at hl 0 rfl) ?_
      refine lv_iload hx hb dX5_solved_81 (lv_at hl 5 rfl) ?_
      obtain ⟨z2, hz2, h⟩ := stB h
      refine ctV (av := [.int v5]) (st0 := ([.int v1, .int v4] : List Value)) (st1 := ([.int z2, .int v1, .int v4] : List Value)) F hw hA (k_X5_raisedModulo hz2) kl_5_127 kd_X5_raisedModulo rfl ⟨by decide, by decide⟩ 0 rfl rfl hl.1 rfl (Nat.le_of_ble_eq_true rfl) dX5_solved_83 rfl (fun H locs hw => ?_)
      refine lv_imul hx hb dX5_solved_86 ?_
      refine lv_iload_n hx hb dX5_solved_87 rfl (lv_at hl 2 rfl) ?_
      refine lv_aload_n hx hb dX5_solved_88 rfl (lv_at hl 0 rfl) ?_
      refine lv_iload hx hb dX5_solved_89 (lv_at hl 6 rfl) ?_
      obtain ⟨z3, hz3, h⟩ := stB h
      refine ctV (av := [.int v6]) (st0 := ([.int v2, .int (v1 * z2), .int v4] : List Value)) (st1 := ([.int z3, .int v2, .int (v1 * z2), .int v4] : List Value)) F hw hA (k_X5_raisedModulo hz3) kl_5_127 kd_X5_raisedModulo rfl ⟨by decide, by decide⟩ 0 rfl rfl hl.1 rfl (Nat.le_of_ble_eq_true rfl) dX5_solved_91 rfl (fun H locs hw => ?_)
      refine lv_imul hx hb dX5_solved_94 ?_
      refine lv_iadd hx hb dX5_solved_95 ?_
      refine lv_aload_n hx hb dX5_solved_96 rfl (lv_at hl 0 rfl) ?_
      refine gf_5_62 F hw dX5_solved_97 ?_
      obtain ⟨g4, h⟩ := stD h
      refine lv_irem hx hb dX5_solved_100 g4 ?_
      refine lv_iload_n hx hb dX5_solved_101 rfl (lv_at hl 3 rfl) ?_
      refine lv_icmp_ne (tgt := 109) hx hb dX5_solved_102 (by decide) (fun c5 => ?_) (fun c5 => ?_)
      · replace h := stF c5 h
        refine lv_iconst (v := 0) hx hb dX5_solved_109 (by decide) ?_
        obtain ⟨z6, hz6, h⟩ := stB h
        refine ctS (av := [.int 0]) (st0 := ([.int v4] : List Value)) (st1 := ([.int z6, .int v4] : List Value)) F hw hA (k_X5_bit hz6) kl_5_103 kd_X5_bit rfl ⟨by decide, by decide⟩ hl.1 rfl (Nat.le_of_ble_eq_true rfl) dX5_solved_110 rfl (fun H locs hw => ?_)
        refine lv_iadd hx hb dX5_solved_113 ?_
        refine lv_istore (lv' := [(4, .int (v4 + z6)), (0, .ref (q 0)), (1, .int v1), (2, .int v2), (3, .int v3), (5, .int v5), (6, .int v6)]) hx hb dX5_solved_114 hl (by decide) rfl (fun ls hl => ?_)
        refine lv_iinc (v := (v6 + 1)) (lv' := [(6, .int (v6 + 1)), (4, .int (v4 + z6)), (0, .ref (q 0)), (1, .int v1), (2, .int v2), (3, .int v3), (5, .int v5)]) hx hb dX5_solved_116 hl (k := 6) rfl rfl (by decide) rfl (fun ls hl => ?_)
        refine lv_goto (tgt := 68) hx hb dX5_solved_119 (by decide) ?_
        exact ih _ _ _ z h hE H locs ls hw (lv_sub hl [2, 3, 4, 5, 1, 6, 0] rfl)
      · replace h := stT c5 h
        refine lv_iconst (v := 1) hx hb dX5_solved_105 (by decide) ?_
        refine lv_goto (tgt := 110) hx hb dX5_solved_106 (by decide) ?_
        obtain ⟨z7, hz7, h⟩ := stB h
        refine ctS (av := [.int 1]) (st0 := ([.int v4] : List Value)) (st1 := ([.int z7, .int v4] : List Value)) F hw hA (k_X5_bit hz7) kl_5_103 kd_X5_bit rfl ⟨by decide, by decide⟩ hl.1 rfl (Nat.le_of_ble_eq_true rfl) dX5_solved_110 rfl (fun H locs hw => ?_)
        refine lv_iadd hx hb dX5_solved_113 ?_
        refine lv_istore (lv' := [(4, .int (v4 + z7)), (0, .ref (q 0)), (1, .int v1), (2, .int v2), (3, .int v3), (5, .int v5), (6, .int v6)]) hx hb dX5_solved_114 hl (by decide) rfl (fun ls hl => ?_)
        refine lv_iinc (v := (v6 + 1)) (lv' := [(6, .int (v6 + 1)), (4, .int (v4 + z7)), (0, .ref (q 0)), (1, .int v1), (2, .int v2), (3, .int v3), (5, .int v5)]) hx hb dX5_solved_116 hl (k := 6) rfl rfl (by decide) rfl (fun ls hl => ?_)
        refine lv_goto (tgt := 68) hx hb dX5_solved_119 (by decide) ?_
        exact ih _ _ _ z h hE H locs ls hw (lv_sub hl [2, 3, 4, 5, 1, 6, 0] rfl)
def f_X5_solved_L56 (yp : Int32) (ye : Int32) (v1 : Int32) (v2 : Int32) (v3 : Int32) : Nat → Int32 → Int32 → Option (Int32)
  | 0, _, _ => none
  | fu + 1, v4, v5 =>
    if yp ≤ v5 then
    some v4
    else
    f_X5_solved_L68 yp ye v1 v2 v3 (fun w0 w1 => f_X5_solved_L56 yp ye v1 v2 v3 fu w0 w1) FU v4 v5 0
set_option maxHeartbeats 4000000 in
set_option maxRecDepth 100000 in
theorem w_X5_solved_L56 {yp : Int32} {ye : Int32} {yg : Int32} {bPo : Nat → Int32} {bTb : Nat → Int32} {wSh : Nat → Int64} {wTe : Nat → Int64} {wNx : Nat → Int64} {bOs : Nat → Int32} {bOn : Nat → Int32} {yop : Int32} {bSo : Nat → Int32} {bNu : Nat → Int32} {ytr : Int32} {yiw : Int32} {wMa : Nat → Int64} {wPr : Nat → Int64} {bTp : Nat → Int32} {yln : Int32} {ypl : Int32} {yfa : Int32} {wLi : Nat → Int64} {bSi : Nat → Int32} {yhp : Int32} {yhe : Int32} {yhg : Int32} {wHs : Nat → Int64} {yhi : Int32} {v1 : Int32} {v2 : Int32} {v3 : Int32}  (F : Fx p s m args meth c cX5_solved 7 RX5 (some .int)) (hA : ∀ q, s.heap.size ≤ q → A q)   : ∀ (fu : Nat) (v4 : Int32) (v5 : Int32) (z : Int32), f_X5_solved_L56 yp ye v1 v2 v3 fu v4 v5 = some z → Ends p l e (rmOf 1 25) s m args below meth c Q cX5_solved G A (some .int) (some (.int z)) (mW G q yp ye yg bPo bTb wSh wTe wNx bOs bOn yop bSo bNu ytr yiw wMa wPr bTp yln ypl yfa wLi bSi yhp yhe yhg wHs yhi ++ fr) → ∀ (H : Heap) (locs : List Loc) (ls : Array Slot), Wd G s A (mW G q yp ye yg bPo bTb wSh wTe wNx bOs bOn yop bSo bNu ytr yiw wMa wPr bTp yln ypl yfa wLi bSi yhp yhe yhg wHs yhi ++ fr) H locs → lv_has ls 7 [(0, .ref (q 0)), (1, .int v1), (2, .int v2), (3, .int v3), (4, .int v4), (5, .int v5)] → W p l e (rmOf 1 25) s m args below meth c H locs 0 0 Q (F0 m 56 ls []) := by
  have hx := F.x
  have hb := F.b
  intro fu
  induction fu with
  | zero =>
    intro v4 v5 z h
    cases (h : none = some z)
  | succ fu ih =>
    intro v4 v5 z h hE H locs ls hw hl
    rw [f_X5_solved_L56] at h
    refine lv_iload hx hb dX5_solved_56 (lv_at hl 5 rfl) ?_
    refine lv_aload_n hx hb dX5_solved_58 rfl (lv_at hl 0 rfl) ?_
    refine gf_5_62 F hw dX5_solved_59 ?_
    refine lv_icmp_ge (tgt := 128) hx hb dX5_solved_62 (by decide) (fun c1 => ?_) (fun c1 => ?_)
    · replace h := stT c1 h
      refine lv_iload hx hb dX5_solved_128 (lv_at hl 4 rfl) ?_
      obtain rfl := Option.some.inj h
      exact hE H locs _ ls hw dX5_solved_130
    · replace h := stF c1 h
      refine lv_iconst (v := 0) hx hb dX5_solved_65 (by decide) ?_
      refine lv_istore (lv' := [(6, .int 0), (0, .ref (q 0)), (1, .int v1), (2, .int v2), (3, .int v3), (4, .int v4), (5, .int v5)]) hx hb dX5_solved_66 hl (by decide) rfl (fun ls hl => ?_)
      exact w_X5_solved_L68 F hA  (fun w0 w1 z h hE H locs ls hw hl => ih w0 w1 z h hE H locs ls hw hl) FU _ _ _ z h hE H locs ls hw (lv_sub hl [1, 2, 3, 4, 5, 6, 0] rfl)
def f_X5_solved (yp : Int32) (ye : Int32) (v1 : Int32) (v2 : Int32) (v3 : Int32) : Option (Int32) :=
  (f_X5_in v1.toInt64 0 ((yp - 1).toInt64)).bind fun z1 =>
  if z1 = 0 then
  some (-1)
  else
  (f_X5_in v2.toInt64 0 ((yp - 1).toInt64)).bind fun z3 =>
  if z3 = 0 then
  some (-1)
  else
  (f_X5_in v3.toInt64 0 ((yp - 1).toInt64)).bind fun z5 =>
  if z5 = 0 then
  some (-1)
  else
  f_X5_solved_L56 yp ye v1 v2 v3 FU 0 0
set_option maxHeartbeats 4000000 in
set_option maxRecDepth 100000 in
theorem k_X5_solved {l : Launch} {G : GG} {q : Nat → Nat} {fr : va_W} {yp : Int32} {ye : Int32} {yg : Int32} {bPo : Nat → Int32} {bTb : Nat → Int32} {wSh : Nat → Int64} {wTe : Nat → Int64} {wNx : Nat → Int64} {bOs : Nat → Int32} {bOn : Nat → Int32} {yop : Int32} {bSo : Nat → Int32} {bNu : Nat → Int32} {ytr : Int32} {yiw : Int32} {wMa : Nat → Int64} {wPr : Nat → Int64} {bTp : Nat → Int32} {yln : Int32} {ypl : Int32} {yfa : Int32} {wLi : Nat → Int64} {bSi : Nat → Int32} {yhp : Int32} {yhe : Int32} {yhg : Int32} {wHs : Nat → Int64} {yhi : Int32} {v1 : Int32} {v2 : Int32} {v3 : Int32} {z : Int32}  (h : f_X5_solved yp ye v1 v2 v3 = some z) : Ct l G yX5_solved cX5_solved 7 (some .int) 1 25 [.ref (q 0), .int v1, .int v2, .int v3] (mW G q yp ye yg bPo bTb wSh wTe wNx bOs bOn yop bSo bNu ytr yiw wMa wPr bTp yln ypl yfa wLi bSi yhp yhe yhg wHs yhi ++ fr) (some (.int z)) (mW G q yp ye yg bPo bTb wSh wTe wNx bOs bOn yop bSo bNu ytr yiw wMa wPr bTp yln ypl yfa wLi bSi yhp yhe yhg wHs yhi ++ fr) := by
  refine Ct.of (by decide) (Nat.le_of_ble_eq_true rfl) trivial ?_
  intro p e s m args below meth c Q A ls F hw hA hE hl
  have hx := F.x
  have hb := F.b
  unfold f_X5_solved at h
  obtain ⟨H, hH⟩ : ∃ H, H = s.heap := ⟨_, rfl⟩
  obtain ⟨locs, hlo⟩ : ∃ locs : List Loc, locs = [] := ⟨_, rfl⟩
  rw [← hH, ← hlo] at hw ⊢
  have hl : lv_has ls 7 [(0, .ref (q 0)), (1, .int v1), (2, .int v2), (3, .int v3)] := hl
  refine lv_iload_n hx hb dX5_solved_0 rfl (lv_at hl 1 rfl) ?_
  refine lv_i2l (v := v1.toInt64) hx hb dX5_solved_1 rfl ?_
  refine lv_lconst (v := 0) hx hb dX5_solved_2 (by decide) ?_
  refine lv_aload_n hx hb dX5_solved_3 rfl (lv_at hl 0 rfl) ?_
  refine gf_5_62 F hw dX5_solved_4 ?_
  refine lv_iconst (v := 1) hx hb dX5_solved_7 (by decide) ?_
  refine lv_isub hx hb dX5_solved_8 ?_
  refine lv_i2l (v := (yp - 1).toInt64) hx hb dX5_solved_9 rfl ?_
  obtain ⟨z1, hz1, h⟩ := stB h
  refine ctS (av := [.long v1.toInt64, .long 0, .long ((yp - 1).toInt64)]) (st0 := ([] : List Value)) (st1 := ([.int z1] : List Value)) F hw hA (k_X5_in hz1) kl_5_90 kd_X5_in rfl ⟨by decide, by decide⟩ hl.1 rfl (Nat.le_of_ble_eq_true rfl) dX5_solved_10 rfl (fun H locs hw => ?_)
  refine lv_if_eq (tgt := 48) hx hb dX5_solved_13 (by decide) (fun c2 => ?_) (fun c2 => ?_)
  · replace h := stT c2 h
    refine lv_iconst (v := -1) hx hb dX5_solved_48 (by decide) ?_
    obtain rfl := Option.some.inj h
    exact hE H locs _ ls hw dX5_solved_49
  · replace h := stF c2 h
    refine lv_iload_n hx hb dX5_solved_16 rfl (lv_at hl 2 rfl) ?_
    refine lv_i2l (v := v2.toInt64) hx hb dX5_solved_17 rfl ?_
    refine lv_lconst (v := 0) hx hb dX5_solved_18 (by decide) ?_
    refine lv_aload_n hx hb dX5_solved_19 rfl (lv_at hl 0 rfl) ?_
    refine gf_5_62 F hw dX5_solved_20 ?_
    refine lv_iconst (v := 1) hx hb dX5_solved_23 (by decide) ?_
    refine lv_isub hx hb dX5_solved_24 ?_
    refine lv_i2l (v := (yp - 1).toInt64) hx hb dX5_solved_25 rfl ?_
    obtain ⟨z3, hz3, h⟩ := stB h
    refine ctS (av := [.long v2.toInt64, .long 0, .long ((yp - 1).toInt64)]) (st0 := ([] : List Value)) (st1 := ([.int z3] : List Value)) F hw hA (k_X5_in hz3) kl_5_90 kd_X5_in rfl ⟨by decide, by decide⟩ hl.1 rfl (Nat.le_of_ble_eq_true rfl) dX5_solved_26 rfl (fun H locs hw => ?_)
    refine lv_if_eq (tgt := 48) hx hb dX5_solved_29 (by decide) (fun c4 => ?_) (fun c4 => ?_)
    · replace h := stT c4 h
      refine lv_iconst (v := -1) hx hb dX5_solved_48 (by decide) ?_
      obtain rfl := Option.some.inj h
      exact hE H locs _ ls hw dX5_solved_49
    · replace h := stF c4 h
      refine lv_iload_n hx hb dX5_solved_32 rfl (lv_at hl 3 rfl) ?_
      refine lv_i2l (v := v3.toInt64) hx hb dX5_solved_33 rfl ?_
      refine lv_lconst (v := 0) hx hb dX5_solved_34 (by decide) ?_
      refine lv_aload_n hx hb dX5_solved_35 rfl (lv_at hl 0 rfl) ?_
      refine gf_5_62 F hw dX5_solved_36 ?_
      refine lv_iconst (v := 1) hx hb dX5_solved_39 (by decide) ?_
      refine lv_isub hx hb dX5_solved_40 ?_
      refine lv_i2l (v := (yp - 1).toInt64) hx hb dX5_solved_41 rfl ?_
      obtain ⟨z5, hz5, h⟩ := stB h
      refine ctS (av := [.long v3.toInt64, .long 0, .long ((yp - 1).toInt64)]) (st0 := ([] : List Value)) (st1 := ([.int z5] : List Value)) F hw hA (k_X5_in hz5) kl_5_90 kd_X5_in rfl ⟨by decide, by decide⟩ hl.1 rfl (Nat.le_of_ble_eq_true rfl) dX5_solved_42 rfl (fun H locs hw => ?_)
      refine lv_if_ne (tgt := 50) hx hb dX5_solved_45 (by decide) (fun c6 => ?_) (fun c6 => ?_)
      · replace h := stF c6 h
        refine lv_iconst (v := 0) hx hb dX5_solved_50 (by decide) ?_
        refine lv_istore (lv' := [(4, .int 0), (0, .ref (q 0)), (1, .int v1), (2, .int v2), (3, .int v3)]) hx hb dX5_solved_51 hl (by decide) rfl (fun ls hl => ?_)
        refine lv_iconst (v := 0) hx hb dX5_solved_53 (by decide) ?_
        refine lv_istore (lv' := [(5, .int 0), (4, .int 0), (0, .ref (q 0)), (1, .int v1), (2, .int v2), (3, .int v3)]) hx hb dX5_solved_54 hl (by decide) rfl (fun ls hl => ?_)
        exact w_X5_solved_L56 F hA  FU _ _ z h hE H locs ls hw (lv_sub hl [2, 3, 4, 5, 1, 0] rfl)
      · replace h := stT c6 h
        refine lv_iconst (v := -1) hx hb dX5_solved_48 (by decide) ?_
        obtain rfl := Option.some.inj h
        exact hE H locs _ ls hw dX5_solved_49
end
theorem dX5_findsPolynomial_0 : decode cX5_findsPolynomial 0 = .ok (.iconst 0, 1) := by decide +kernel
theorem dX5_findsPolynomial_1 : decode cX5_findsPolynomial 1 = .ok (.istore_n 1, 1) := by decide +kernel
theorem dX5_findsPolynomial_2 : decode cX5_findsPolynomial 2 = .ok (.iload_n 1, 1) := by decide +kernel
theorem dX5_findsPolynomial_3 : decode cX5_findsPolynomial 3 = .ok (.sipush 168, 3) := by decide +kernel
theorem dX5_findsPolynomial_6 : decode cX5_findsPolynomial 6 = .ok (.if_icmp .ge 30, 3) := by decide +kernel
theorem dX5_findsPolynomial_9 : decode cX5_findsPolynomial 9 = .ok (.aload_n 0, 1) := by decide +kernel
theorem dX5_findsPolynomial_10 : decode cX5_findsPolynomial 10 = .ok (.getfield 22, 3) := by decide +kernel
theorem dX5_findsPolynomial_13 : decode cX5_findsPolynomial 13 = .ok (.iload_n 1, 1) := by decide +kernel
theorem dX5_findsPolynomial_14 : decode cX5_findsPolynomial 14 = .ok (.iload_n 1, 1) := by decide +kernel
theorem dX5_findsPolynomial_15 : decode cX5_findsPolynomial 15 = .ok (.aload_n 0, 1) := by decide +kernel
theorem dX5_findsPolynomial_16 : decode cX5_findsPolynomial 16 = .ok (.getfield 66, 3) := by decide +kernel
theorem dX5_findsPolynomial_19 : decode cX5_findsPolynomial 19 = .ok (.if_icmp .ge 9, 3) := by decide +kernel
theorem dX5_findsPolynomial_22 : decode cX5_findsPolynomial 22 = .ok (.ldc2_w 130, 3) := by decide +kernel
theorem dX5_findsPolynomial_25 : decode cX5_findsPolynomial 25 = .ok (.goto 4, 3) := by decide +kernel
theorem dX5_findsPolynomial_28 : decode cX5_findsPolynomial 28 = .ok (.lconst 0, 1) := by decide +kernel
theorem dX5_findsPolynomial_29 : decode cX5_findsPolynomial 29 = .ok (.lastore, 1) := by decide +kernel
theorem dX5_findsPolynomial_30 : decode cX5_findsPolynomial 30 = .ok (.iinc 1 1, 3) := by decide +kernel
theorem dX5_findsPolynomial_33 : decode cX5_findsPolynomial 33 = .ok (.goto (-31), 3) := by decide +kernel
theorem dX5_findsPolynomial_36 : decode cX5_findsPolynomial 36 = .ok (.iconst 0, 1) := by decide +kernel
theorem dX5_findsPolynomial_37 : decode cX5_findsPolynomial 37 = .ok (.istore_n 1, 1) := by decide +kernel
theorem dX5_findsPolynomial_38 : decode cX5_findsPolynomial 38 = .ok (.iload_n 1, 1) := by decide +kernel
theorem dX5_findsPolynomial_39 : decode cX5_findsPolynomial 39 = .ok (.aload_n 0, 1) := by decide +kernel
theorem dX5_findsPolynomial_40 : decode cX5_findsPolynomial 40 = .ok (.getfield 66, 3) := by decide +kernel
theorem dX5_findsPolynomial_43 : decode cX5_findsPolynomial 43 = .ok (.if_icmp .ge 135, 3) := by decide +kernel
theorem dX5_findsPolynomial_46 : decode cX5_findsPolynomial 46 = .ok (.iload_n 1, 1) := by decide +kernel
theorem dX5_findsPolynomial_47 : decode cX5_findsPolynomial 47 = .ok (.iconst 1, 1) := by decide +kernel
theorem dX5_findsPolynomial_48 : decode cX5_findsPolynomial 48 = .ok (.iadd, 1) := by decide +kernel
theorem dX5_findsPolynomial_49 : decode cX5_findsPolynomial 49 = .ok (.istore_n 2, 1) := by decide +kernel
theorem dX5_findsPolynomial_50 : decode cX5_findsPolynomial 50 = .ok (.iload_n 2, 1) := by decide +kernel
theorem dX5_findsPolynomial_51 : decode cX5_findsPolynomial 51 = .ok (.ifCond .lt 121, 3) := by decide +kernel
theorem dX5_findsPolynomial_54 : decode cX5_findsPolynomial 54 = .ok (.iconst 0, 1) := by decide +kernel
theorem dX5_findsPolynomial_55 : decode cX5_findsPolynomial 55 = .ok (.istore_n 3, 1) := by decide +kernel
theorem dX5_findsPolynomial_56 : decode cX5_findsPolynomial 56 = .ok (.iload_n 3, 1) := by decide +kernel
theorem dX5_findsPolynomial_57 : decode cX5_findsPolynomial 57 = .ok (.aload_n 0, 1) := by decide +kernel
theorem dX5_findsPolynomial_58 : decode cX5_findsPolynomial 58 = .ok (.getfield 66, 3) := by decide +kernel
theorem dX5_findsPolynomial_61 : decode cX5_findsPolynomial 61 = .ok (.if_icmp .ge 85, 3) := by decide +kernel
theorem dX5_findsPolynomial_64 : decode cX5_findsPolynomial 64 = .ok (.aload_n 0, 1) := by decide +kernel
theorem dX5_findsPolynomial_65 : decode cX5_findsPolynomial 65 = .ok (.getfield 25, 3) := by decide +kernel
theorem dX5_findsPolynomial_68 : decode cX5_findsPolynomial 68 = .ok (.iload_n 3, 1) := by decide +kernel
theorem dX5_findsPolynomial_69 : decode cX5_findsPolynomial 69 = .ok (.iload_n 2, 1) := by decide +kernel
theorem dX5_findsPolynomial_70 : decode cX5_findsPolynomial 70 = .ok (.ifCond .le 19, 3) := by decide +kernel
theorem dX5_findsPolynomial_73 : decode cX5_findsPolynomial 73 = .ok (.aload_n 0, 1) := by decide +kernel
theorem dX5_findsPolynomial_74 : decode cX5_findsPolynomial 74 = .ok (.getfield 22, 3) := by decide +kernel
theorem dX5_findsPolynomial_77 : decode cX5_findsPolynomial 77 = .ok (.bipush 12, 2) := by decide +kernel
theorem dX5_findsPolynomial_79 : decode cX5_findsPolynomial 79 = .ok (.iload_n 2, 1) := by decide +kernel
theorem dX5_findsPolynomial_80 : decode cX5_findsPolynomial 80 = .ok (.iconst 1, 1) := by decide +kernel
theorem dX5_findsPolynomial_81 : decode cX5_findsPolynomial 81 = .ok (.isub, 1) := by decide +kernel
theorem dX5_findsPolynomial_82 : decode cX5_findsPolynomial 82 = .ok (.imul, 1) := by decide +kernel
theorem dX5_findsPolynomial_83 : decode cX5_findsPolynomial 83 = .ok (.iload_n 3, 1) := by decide +kernel
theorem dX5_findsPolynomial_84 : decode cX5_findsPolynomial 84 = .ok (.iadd, 1) := by decide +kernel
theorem dX5_findsPolynomial_85 : decode cX5_findsPolynomial 85 = .ok (.laload, 1) := by decide +kernel
theorem dX5_findsPolynomial_86 : decode cX5_findsPolynomial 86 = .ok (.goto 4, 3) := by decide +kernel
theorem dX5_findsPolynomial_89 : decode cX5_findsPolynomial 89 = .ok (.lconst 0, 1) := by decide +kernel
theorem dX5_findsPolynomial_90 : decode cX5_findsPolynomial 90 = .ok (.lastore, 1) := by decide +kernel
theorem dX5_findsPolynomial_91 : decode cX5_findsPolynomial 91 = .ok (.iconst 0, 1) := by decide +kernel
theorem dX5_findsPolynomial_92 : decode cX5_findsPolynomial 92 = .ok (.istore 4, 2) := by decide +kernel
theorem dX5_findsPolynomial_94 : decode cX5_findsPolynomial 94 = .ok (.iload 4, 2) := by decide +kernel
theorem dX5_findsPolynomial_96 : decode cX5_findsPolynomial 96 = .ok (.aload_n 0, 1) := by decide +kernel
theorem dX5_findsPolynomial_97 : decode cX5_findsPolynomial 97 = .ok (.getfield 66, 3) := by decide +kernel
theorem dX5_findsPolynomial_100 : decode cX5_findsPolynomial 100 = .ok (.if_icmp .ge 40, 3) := by decide +kernel
theorem dX5_findsPolynomial_103 : decode cX5_findsPolynomial 103 = .ok (.aload_n 0, 1) := by decide +kernel
theorem dX5_findsPolynomial_104 : decode cX5_findsPolynomial 104 = .ok (.getfield 25, 3) := by decide +kernel
theorem dX5_findsPolynomial_107 : decode cX5_findsPolynomial 107 = .ok (.iload_n 3, 1) := by decide +kernel
theorem dX5_findsPolynomial_108 : decode cX5_findsPolynomial 108 = .ok (.dup2, 1) := by decide +kernel
theorem dX5_findsPolynomial_109 : decode cX5_findsPolynomial 109 = .ok (.laload, 1) := by decide +kernel
theorem dX5_findsPolynomial_110 : decode cX5_findsPolynomial 110 = .ok (.aload_n 0, 1) := by decide +kernel
theorem dX5_findsPolynomial_111 : decode cX5_findsPolynomial 111 = .ok (.getfield 22, 3) := by decide +kernel
theorem dX5_findsPolynomial_114 : decode cX5_findsPolynomial 114 = .ok (.bipush 12, 2) := by decide +kernel
theorem dX5_findsPolynomial_116 : decode cX5_findsPolynomial 116 = .ok (.iload_n 2, 1) := by decide +kernel
theorem dX5_findsPolynomial_117 : decode cX5_findsPolynomial 117 = .ok (.imul, 1) := by decide +kernel
theorem dX5_findsPolynomial_118 : decode cX5_findsPolynomial 118 = .ok (.iload 4, 2) := by decide +kernel
theorem dX5_findsPolynomial_120 : decode cX5_findsPolynomial 120 = .ok (.iadd, 1) := by decide +kernel
theorem dX5_findsPolynomial_121 : decode cX5_findsPolynomial 121 = .ok (.laload, 1) := by decide +kernel
theorem dX5_findsPolynomial_122 : decode cX5_findsPolynomial 122 = .ok (.aload_n 0, 1) := by decide +kernel
theorem dX5_findsPolynomial_123 : decode cX5_findsPolynomial 123 = .ok (.iload_n 1, 1) := by decide +kernel
theorem dX5_findsPolynomial_124 : decode cX5_findsPolynomial 124 = .ok (.iload 4, 2) := by decide +kernel
theorem dX5_findsPolynomial_126 : decode cX5_findsPolynomial 126 = .ok (.iload_n 3, 1) := by decide +kernel
theorem dX5_findsPolynomial_127 : decode cX5_findsPolynomial 127 = .ok (.invokevirtual 124, 3) := by decide +kernel
theorem dX5_findsPolynomial_130 : decode cX5_findsPolynomial 130 = .ok (.i2l, 1) := by decide +kernel
theorem dX5_findsPolynomial_131 : decode cX5_findsPolynomial 131 = .ok (.lmul, 1) := by decide +kernel
theorem dX5_findsPolynomial_132 : decode cX5_findsPolynomial 132 = .ok (.lsub, 1) := by decide +kernel
theorem dX5_findsPolynomial_133 : decode cX5_findsPolynomial 133 = .ok (.lastore, 1) := by decide +kernel
theorem dX5_findsPolynomial_134 : decode cX5_findsPolynomial 134 = .ok (.iinc 4 1, 3) := by decide +kernel
theorem dX5_findsPolynomial_137 : decode cX5_findsPolynomial 137 = .ok (.goto (-43), 3) := by decide +kernel
theorem dX5_findsPolynomial_140 : decode cX5_findsPolynomial 140 = .ok (.iinc 3 1, 3) := by decide +kernel
theorem dX5_findsPolynomial_143 : decode cX5_findsPolynomial 143 = .ok (.goto (-87), 3) := by decide +kernel
theorem dX5_findsPolynomial_146 : decode cX5_findsPolynomial 146 = .ok (.aload_n 0, 1) := by decide +kernel
theorem dX5_findsPolynomial_147 : decode cX5_findsPolynomial 147 = .ok (.getfield 25, 3) := by decide +kernel
theorem dX5_findsPolynomial_150 : decode cX5_findsPolynomial 150 = .ok (.iconst 0, 1) := by decide +kernel
theorem dX5_findsPolynomial_151 : decode cX5_findsPolynomial 151 = .ok (.aload_n 0, 1) := by decide +kernel
theorem dX5_findsPolynomial_152 : decode cX5_findsPolynomial 152 = .ok (.getfield 22, 3) := by decide +kernel
theorem dX5_findsPolynomial_155 : decode cX5_findsPolynomial 155 = .ok (.bipush 12, 2) := by decide +kernel
theorem dX5_findsPolynomial_157 : decode cX5_findsPolynomial 157 = .ok (.iload_n 2, 1) := by decide +kernel
theorem dX5_findsPolynomial_158 : decode cX5_findsPolynomial 158 = .ok (.imul, 1) := by decide +kernel
theorem dX5_findsPolynomial_159 : decode cX5_findsPolynomial 159 = .ok (.aload_n 0, 1) := by decide +kernel
theorem dX5_findsPolynomial_160 : decode cX5_findsPolynomial 160 = .ok (.getfield 66, 3) := by decide +kernel
theorem dX5_findsPolynomial_163 : decode cX5_findsPolynomial 163 = .ok (.invokestatic 132, 3) := by decide +kernel
theorem dX5_findsPolynomial_166 : decode cX5_findsPolynomial 166 = .ok (.iinc 2 (-1), 3) := by decide +kernel
theorem dX5_findsPolynomial_169 : decode cX5_findsPolynomial 169 = .ok (.goto (-119), 3) := by decide +kernel
theorem dX5_findsPolynomial_172 : decode cX5_findsPolynomial 172 = .ok (.iinc 1 1, 3) := by decide +kernel
theorem dX5_findsPolynomial_175 : decode cX5_findsPolynomial 175 = .ok (.goto (-137), 3) := by decide +kernel
theorem dX5_findsPolynomial_178 : decode cX5_findsPolynomial 178 = .ok (.return_, 1) := by decide +kernel
section
variable {p : Program} {l : Launch} {e : Env} {s : State} {m : MethodId} {args : Array Value} {below : List Frame} {meth : Method} {c : Code} {Q : State → Prop} {G : GG} {A : Nat → Prop} {q : Nat → Nat} {fr : va_W}
def f_X5_findsPolynomial_L94 (yp : Int32) (ye : Int32) (bPo : Nat → Int32) (bTb : Nat → Int32) (KK : (Nat → Int64) → (Nat → Int64) → Int32 → Int32 → Int32 → Option ((Nat → Int64) × (Nat → Int64))) : Nat → (Nat → Int64) → (Nat → Int64) → Int32 → Int32 → Int32 → Int32 → Option ((Nat → Int64) × (Nat → Int64))
  | 0, _, _, _, _, _, _ => none
  | fu + 1, wTe, wNx, v1, v2, v3, v4 =>
    if ye ≤ v4 then
    KK wTe wNx v1 v2 (v3 + 1)
    else
    if inb v3 12 then
    if inb ((12 * v2) + v4) 168 then
    (f_X5_timesOf yp ye bPo bTb v1 v4 v3).bind fun z4 =>
    if inb v3 12 then
    f_X5_findsPolynomial_L94 yp ye bPo bTb KK fu wTe (vp_updL wNx v3.toNatClampNeg ((wNx v3.toNatClampNeg) - ((wTe ((12 * v2) + v4).toNatClampNeg) * z4.toInt64))) v1 v2 v3 (v4 + 1)
    else none
    else none
    else none
set_option maxHeartbeats 4000000 in
set_option maxRecDepth 100000 in
theorem w_X5_findsPolynomial_L94 {yp : Int32} {ye : Int32} {yg : Int32} {bPo : Nat → Int32} {bTb : Nat → Int32} {wSh : Nat → Int64} {bOs : Nat → Int32} {bOn : Nat → Int32} {yop : Int32} {bSo : Nat → Int32} {bNu : Nat → Int32} {ytr : Int32} {yiw : Int32} {wMa : Nat → Int64} {wPr : Nat → Int64} {bTp : Nat → Int32} {yln : Int32} {ypl : Int32} {yfa : Int32} {wLi : Nat → Int64} {bSi : Nat → Int32} {yhp : Int32} {yhe : Int32} {yhg : Int32} {wHs : Nat → Int64} {yhi : Int32}  {KK : (Nat → Int64) → (Nat → Int64) → Int32 → Int32 → Int32 → Option ((Nat → Int64) × (Nat → Int64))} (F : Fx p s m args meth c cX5_findsPolynomial 5 RX5 none) (hA : ∀ q, s.heap.size ≤ q → A q)  (hK : ∀ (wTe : Nat → Int64) (wNx : Nat → Int64) (v1 : Int32) (v2 : Int32) (v3 : Int32) (z : (Nat → Int64) × (Nat → Int64)), KK wTe wNx v1 v2 v3 = some z → Ends p l e (rmOf 4 87) s m args below meth c Q cX5_findsPolynomial G A none (none) (mW G q yp ye yg bPo bTb wSh z.1 z.2 bOs bOn yop bSo bNu ytr yiw wMa wPr bTp yln ypl yfa wLi bSi yhp yhe yhg wHs yhi ++ fr) → ∀ (H : Heap) (locs : List Loc) (ls : Array Slot), Wd G s A (mW G q yp ye yg bPo bTb wSh wTe wNx bOs bOn yop bSo bNu ytr yiw wMa wPr bTp yln ypl yfa wLi bSi yhp yhe yhg wHs yhi ++ fr) H locs → lv_has ls 5 [(0, .ref (q 0)), (1, .int v1), (2, .int v2), (3, .int v3)] → W p l e (rmOf 4 87) s m args below meth c H locs 0 0 Q (F0 m 56 ls [])) : ∀ (fu : Nat) (wTe : Nat → Int64) (wNx : Nat → Int64) (v1 : Int32) (v2 : Int32) (v3 : Int32) (v4 : Int32) (z : (Nat → Int64) × (Nat → Int64)), f_X5_findsPolynomial_L94 yp ye bPo bTb KK fu wTe wNx v1 v2 v3 v4 = some z → Ends p l e (rmOf 4 87) s m args below meth c Q cX5_findsPolynomial G A none (none) (mW G q yp ye yg bPo bTb wSh z.1 z.2 bOs bOn yop bSo bNu ytr yiw wMa wPr bTp yln ypl yfa wLi bSi yhp yhe yhg wHs yhi ++ fr) → ∀ (H : Heap) (locs : List Loc) (ls : Array Slot), Wd G s A (mW G q yp ye yg bPo bTb wSh wTe wNx bOs bOn yop bSo bNu ytr yiw wMa wPr bTp yln ypl yfa wLi bSi yhp yhe yhg wHs yhi ++ fr) H locs → lv_has ls 5 [(0, .ref (q 0)), (1, .int v1), (2, .int v2), (3, .int v3), (4, .int v4)] → W p l e (rmOf 4 87) s m args below meth c H locs 0 0 Q (F0 m 94 ls []) := by
  have hx := F.x
  have hb := F.b
  intro fu
  induction fu with
  | zero =>
    intro wTe wNx v1 v2 v3 v4 z h
    cases (h : none = some z)
  | succ fu ih =>
    intro wTe wNx v1 v2 v3 v4 z h hE H locs ls hw hl
    rw [f_X5_findsPolynomial_L94] at h
    refine lv_iload hx hb dX5_findsPolynomial_94 (lv_at hl 4 rfl) ?_
    refine lv_aload_n hx hb dX5_findsPolynomial_96 rfl (lv_at hl 0 rfl) ?_
    refine gf_5_66 F hw dX5_findsPolynomial_97 ?_
    refine lv_icmp_ge (tgt := 140) hx hb dX5_findsPolynomial_100 (by decide) (fun c1 => ?_) (fun c1 => ?_)
    · replace h := stT c1 h
      refine lv_iinc (v := (v3 + 1)) (lv' := [(3, .int (v3 + 1)), (0, .ref (q 0)), (1, .int v1), (2, .int v2), (4, .int v4)]) hx hb dX5_findsPolynomial_140 hl (k := 3) rfl rfl (by decide) rfl (fun ls hl => ?_)
      refine lv_goto (tgt := 56) hx hb dX5_findsPolynomial_143 (by decide) ?_
      exact hK _ _ _ _ _ z h hE H locs ls hw (lv_sub hl [1, 2, 3, 0] rfl)
    · replace h := stF c1 h
      refine lv_aload_n hx hb dX5_findsPolynomial_103 rfl (lv_at hl 0 rfl) ?_
      refine gf_5_25 F hw dX5_findsPolynomial_104 ?_
      refine lv_iload_n hx hb dX5_findsPolynomial_107 rfl (lv_at hl 3 rfl) ?_
      refine lv_dup2_11 hx hb dX5_findsPolynomial_108 rfl rfl ?_
      obtain ⟨g2, h⟩ := stG h
      refine al_m5 F hw g2 dX5_findsPolynomial_109 ?_
      refine lv_aload_n hx hb dX5_findsPolynomial_110 rfl (lv_at hl 0 rfl) ?_
      refine gf_5_22 F hw dX5_findsPolynomial_111 ?_
      refine lv_bipush (v := 12) hx hb dX5_findsPolynomial_114 (by decide) ?_
      refine lv_iload_n hx hb dX5_findsPolynomial_116 rfl (lv_at hl 2 rfl) ?_
      refine lv_imul hx hb dX5_findsPolynomial_117 ?_
      refine lv_iload hx hb dX5_findsPolynomial_118 (lv_at hl 4 rfl) ?_
      refine lv_iadd hx hb dX5_findsPolynomial_120 ?_
      obtain ⟨g3, h⟩ := stG h
      refine al_m4 F hw g3 dX5_findsPolynomial_121 ?_
      refine lv_aload_n hx hb dX5_findsPolynomial_122 rfl (lv_at hl 0 rfl) ?_
      refine lv_iload_n hx hb dX5_findsPolynomial_123 rfl (lv_at hl 1 rfl) ?_
      refine lv_iload hx hb dX5_findsPolynomial_124 (lv_at hl 4 rfl) ?_
      refine lv_iload_n hx hb dX5_findsPolynomial_126 rfl (lv_at hl 3 rfl) ?_
      obtain ⟨z4, hz4, h⟩ := stB h
      refine ctV (av := [.int v1, .int v4, .int v3]) (st0 := ([.long (wTe ((12 * v2) + v4).toNatClampNeg), .long (wNx v3.toNatClampNeg), .int v3, .ref (q 5)] : List Value)) (st1 := ([.int z4, .long (wTe ((12 * v2) + v4).toNatClampNeg), .long (wNx v3.toNatClampNeg), .int v3, .ref (q 5)] : List Value)) F hw hA (k_X5_timesOf hz4) kl_5_124 kd_X5_timesOf rfl ⟨by decide, by decide⟩ 0 rfl rfl hl.1 rfl (Nat.le_of_ble_eq_true rfl) dX5_findsPolynomial_127 rfl (fun H locs hw => ?_)
      refine lv_i2l (v := z4.toInt64) hx hb dX5_findsPolynomial_130 rfl ?_
      refine lv_lmul hx hb dX5_findsPolynomial_131 ?_
      refine lv_lsub hx hb dX5_findsPolynomial_132 ?_
      obtain ⟨g5, h⟩ := stG h
      refine as_m5 F hw g5 dX5_findsPolynomial_133 (fun H locs hw => ?_)
      refine lv_iinc (v := (v4 + 1)) (lv' := [(4, .int (v4 + 1)), (0, .ref (q 0)), (1, .int v1), (2, .int v2), (3, .int v3)]) hx hb dX5_findsPolynomial_134 hl (k := 4) rfl rfl (by decide) rfl (fun ls hl => ?_)
      refine lv_goto (tgt := 94) hx hb dX5_findsPolynomial_137 (by decide) ?_
      exact ih _ _ _ _ _ _ z h hE H locs ls hw (lv_sub hl [1, 2, 3, 4, 0] rfl)
def f_X5_findsPolynomial_L56 (yp : Int32) (ye : Int32) (bPo : Nat → Int32) (bTb : Nat → Int32) (KK : (Nat → Int64) → (Nat → Int64) → Int32 → Int32 → Option ((Nat → Int64) × (Nat → Int64))) : Nat → (Nat → Int64) → (Nat → Int64) → Int32 → Int32 → Int32 → Option ((Nat → Int64) × (Nat → Int64))
  | 0, _, _, _, _, _ => none
  | fu + 1, wTe, wNx, v1, v2, v3 =>
    if ye ≤ v3 then
    if cpk 0 (12 * v2) ye 12 168 then
    KK (va_cpy wNx wTe (0 : Int32).toNatClampNeg (12 * v2).toNatClampNeg ye.toNatClampNeg) wNx v1 (v2 + (-1))
    else none
    else
    if v2 ≤ 0 then
    if inb v3 12 then
    f_X5_findsPolynomial_L94 yp ye bPo bTb (fun w0 w1 w2 w3 w4 => f_X5_findsPolynomial_L56 yp ye bPo bTb KK fu w0 w1 w2 w3 w4) FU wTe (vp_updL wNx v3.toNatClampNeg 0) v1 v2 v3 0
    else none
    else
    if inb ((12 * (v2 - 1)) + v3) 168 then
    if inb v3 12 then
    f_X5_findsPolynomial_L94 yp ye bPo bTb (fun w0 w1 w2 w3 w4 => f_X5_findsPolynomial_L56 yp ye bPo bTb KK fu w0 w1 w2 w3 w4) FU wTe (vp_updL wNx v3.toNatClampNeg (wTe ((12 * (v2 - 1)) + v3).toNatClampNeg)) v1 v2 v3 0
    else none
    else none
set_option maxHeartbeats 4000000 in
set_option maxRecDepth 100000 in
theorem w_X5_findsPolynomial_L56 {yp : Int32} {ye : Int32} {yg : Int32} {bPo : Nat → Int32} {bTb : Nat → Int32} {wSh : Nat → Int64} {bOs : Nat → Int32} {bOn : Nat → Int32} {yop : Int32} {bSo : Nat → Int32} {bNu : Nat → Int32} {ytr : Int32} {yiw : Int32} {wMa : Nat → Int64} {wPr : Nat → Int64} {bTp : Nat → Int32} {yln : Int32} {ypl : Int32} {yfa : Int32} {wLi : Nat → Int64} {bSi : Nat → Int32} {yhp : Int32} {yhe : Int32} {yhg : Int32} {wHs : Nat → Int64} {yhi : Int32}  {KK : (Nat → Int64) → (Nat → Int64) → Int32 → Int32 → Option ((Nat → Int64) × (Nat → Int64))} (F : Fx p s m args meth c cX5_findsPolynomial 5 RX5 none) (hA : ∀ q, s.heap.size ≤ q → A q)  (hK : ∀ (wTe : Nat → Int64) (wNx : Nat → Int64) (v1 : Int32) (v2 : Int32) (z : (Nat → Int64) × (Nat → Int64)), KK wTe wNx v1 v2 = some z → Ends p l e (rmOf 4 87) s m args below meth c Q cX5_findsPolynomial G A none (none) (mW G q yp ye yg bPo bTb wSh z.1 z.2 bOs bOn yop bSo bNu ytr yiw wMa wPr bTp yln ypl yfa wLi bSi yhp yhe yhg wHs yhi ++ fr) → ∀ (H : Heap) (locs : List Loc) (ls : Array Slot), Wd G s A (mW G q yp ye yg bPo bTb wSh wTe wNx bOs bOn yop bSo bNu ytr yiw wMa wPr bTp yln ypl yfa wLi bSi yhp yhe yhg wHs yhi ++ fr) H locs → lv_has ls 5 [(0, .ref (q 0)), (1, .int v1), (2, .int v2)] → W p l e (rmOf 4 87) s m args below meth c H locs 0 0 Q (F0 m 50 ls [])) : ∀ (fu : Nat) (wTe : Nat → Int64) (wNx : Nat → Int64) (v1 : Int32) (v2 : Int32) (v3 : Int32) (z : (Nat → Int64) × (Nat → Int64)), f_X5_findsPolynomial_L56 yp ye bPo bTb KK fu wTe wNx v1 v2 v3 = some z → Ends p l e (rmOf 4 87) s m args below meth c Q cX5_findsPolynomial G A none (none) (mW G q yp ye yg bPo bTb wSh z.1 z.2 bOs bOn yop bSo bNu ytr yiw wMa wPr bTp yln ypl yfa wLi bSi yhp yhe yhg wHs yhi ++ fr) → ∀ (H : Heap) (locs : List Loc) (ls : Array Slot), Wd G s A (mW G q yp ye yg bPo bTb wSh wTe wNx bOs bOn yop bSo bNu ytr yiw wMa wPr bTp yln ypl yfa wLi bSi yhp yhe yhg wHs yhi ++ fr) H locs → lv_has ls 5 [(0, .ref (q 0)), (1, .int v1), (2, .int v2), (3, .int v3)] → W p l e (rmOf 4 87) s m args below meth c H locs 0 0 Q (F0 m 56 ls []) := by
  have hx := F.x
  have hb := F.b
  intro fu
  induction fu with
  | zero =>
    intro wTe wNx v1 v2 v3 z h
    cases (h : none = some z)
  | succ fu ih =>
    intro wTe wNx v1 v2 v3 z h hE H locs ls hw hl
    rw [f_X5_findsPolynomial_L56] at h
    refine lv_iload_n hx hb dX5_findsPolynomial_56 rfl (lv_at hl 3 rfl) ?_
    refine lv_aload_n hx hb dX5_findsPolynomial_57 rfl (lv_at hl 0 rfl) ?_
    refine gf_5_66 F hw dX5_findsPolynomial_58 ?_
    refine lv_icmp_ge (tgt := 146) hx hb dX5_findsPolynomial_61 (by decide) (fun c1 => ?_) (fun c1 => ?_)
    · replace h := stT c1 h
      refine lv_aload_n hx hb dX5_findsPolynomial_146 rfl (lv_at hl 0 rfl) ?_
      refine gf_5_25 F hw dX5_findsPolynomial_147 ?_
      refine lv_iconst (v := 0) hx hb dX5_findsPolynomial_150 (by decide) ?_
      refine lv_aload_n hx hb dX5_findsPolynomial_151 rfl (lv_at hl 0 rfl) ?_
      refine gf_5_22 F hw dX5_findsPolynomial_152 ?_
      refine lv_bipush (v := 12) hx hb dX5_findsPolynomial_155 (by decide) ?_
      refine lv_iload_n hx hb dX5_findsPolynomial_157 rfl (lv_at hl 2 rfl) ?_
      refine lv_imul hx hb dX5_findsPolynomial_158 ?_
      refine lv_aload_n hx hb dX5_findsPolynomial_159 rfl (lv_at hl 0 rfl) ?_
      refine gf_5_66 F hw dX5_findsPolynomial_160 ?_
      obtain ⟨g2, h⟩ := stG h
      refine va_copyl F.x F.b (F.ml.trans hl.1.symm) F.ow (F.ts _ kac1) (F.ts _ kac2) (F.ts _ kac3) (F.ts _ kac4) hw.1 hw.2.1 hw.2.2.1 hw.2.2.2 5 4 2 2 (f := wNx) (g := wTe) (n0 := 12) (n1 := 168) (ty := .long) rfl rfl rfl rfl rfl (cpk1 g2) (cpk2 g2) (cpk3 g2) (cpk4 g2) (cpk5 g2) (fun _ _ => rfl) (by decide) (by decide) dX5_findsPolynomial_163 (fun H locs hP hD hS => ?_)
      have hw : Wd G s A (mW G q yp ye yg bPo bTb wSh (va_cpy wNx wTe (0 : Int32).toNatClampNeg (12 * v2).toNatClampNeg ye.toNatClampNeg) wNx bOs bOn yop bSo bNu ytr yiw wMa wPr bTp yln ypl yfa wLi bSi yhp yhe yhg wHs yhi ++ fr) H locs := ⟨hw.1, hP, hD, hS⟩
      refine lv_iinc (v := (v2 + (-1))) (lv' := [(2, .int (v2 + (-1))), (0, .ref (q 0)), (1, .int v1), (3, .int v3)]) hx hb dX5_findsPolynomial_166 hl (k := 2) rfl rfl (by decide) rfl (fun ls hl => ?_)
      refine lv_goto (tgt := 50) hx hb dX5_findsPolynomial_169 (by decide) ?_
      exact hK _ _ _ _ z h hE H locs ls hw (lv_sub hl [1, 2, 0] rfl)
    · replace h := stF c1 h
      refine lv_aload_n hx hb dX5_findsPolynomial_64 rfl (lv_at hl 0 rfl) ?_
      refine gf_5_25 F hw dX5_findsPolynomial_65 ?_
      refine lv_iload_n hx hb dX5_findsPolynomial_68 rfl (lv_at hl 3 rfl) ?_
      refine lv_iload_n hx hb dX5_findsPolynomial_69 rfl (lv_at hl 2 rfl) ?_
      refine lv_if_le (tgt := 89) hx hb dX5_findsPolynomial_70 (by decide) (fun c3 => ?_) (fun c3 => ?_)
      · replace h := stT c3 h
        refine lv_lconst (v := 0) hx hb dX5_findsPolynomial_89 (by decide) ?_
        obtain ⟨g4, h⟩ := stG h
        refine as_m5 F hw g4 dX5_findsPolynomial_90 (fun H locs hw => ?_)
        refine lv_iconst (v := 0) hx hb dX5_findsPolynomial_91 (by decide) ?_
        refine lv_istore (lv' := [(4, .int 0), (0, .ref (q 0)), (1, .int v1), (2, .int v2), (3, .int v3)]) hx hb dX5_findsPolynomial_92 hl (by decide) rfl (fun ls hl => ?_)
        exact w_X5_findsPolynomial_L94 F hA  (fun w0 w1 w2 w3 w4 z h hE H locs ls hw hl => ih w0 w1 w2 w3 w4 z h hE H locs ls hw hl) FU _ _ _ _ _ _ z h hE H locs ls hw (lv_sub hl [1, 2, 3, 4, 0] rfl)
      · replace h := stF c3 h
        refine lv_aload_n hx hb dX5_findsPolynomial_73 rfl (lv_at hl 0 rfl) ?_
        refine gf_5_22 F hw dX5_findsPolynomial_74 ?_
        refine lv_bipush (v := 12) hx hb dX5_findsPolynomial_77 (by decide) ?_
        refine lv_iload_n hx hb dX5_findsPolynomial_79 rfl (lv_at hl 2 rfl) ?_
        refine lv_iconst (v := 1) hx hb dX5_findsPolynomial_80 (by decide) ?_
        refine lv_isub hx hb dX5_findsPolynomial_81 ?_
        refine lv_imul hx hb dX5_findsPolynomial_82 ?_
        refine lv_iload_n hx hb dX5_findsPolynomial_83 rfl (lv_at hl 3 rfl) ?_
        refine lv_iadd hx hb dX5_findsPolynomial_84 ?_
        obtain ⟨g5, h⟩ := stG h
        refine al_m4 F hw g5 dX5_findsPolynomial_85 ?_
        refine lv_goto (tgt := 90) hx hb dX5_findsPolynomial_86 (by decide) ?_
        obtain ⟨g6, h⟩ := stG h
        refine as_m5 F hw g6 dX5_findsPolynomial_90 (fun H locs hw => ?_)
        refine lv_iconst (v := 0) hx hb dX5_findsPolynomial_91 (by decide) ?_
        refine lv_istore (lv' := [(4, .int 0), (0, .ref (q 0)), (1, .int v1), (2, .int v2), (3, .int v3)]) hx hb dX5_findsPolynomial_92 hl (by decide) rfl (fun ls hl => ?_)
        exact w_X5_findsPolynomial_L94 F hA  (fun w0 w1 w2 w3 w4 z h hE H locs ls hw hl => ih w0 w1 w2 w3 w4 z h hE H locs ls hw hl) FU _ _ _ _ _ _ z h hE H locs ls hw (lv_sub hl [1, 2, 3, 4, 0] rfl)
def f_X5_findsPolynomial_L50 (yp : Int32) (ye : Int32) (bPo : Nat → Int32) (bTb : Nat → Int32) (KK : (Nat → Int64) → (Nat → Int64) → Int32 → Option ((Nat → Int64) × (Nat → Int64))) : Nat → (Nat → Int64) → (Nat → Int64) → Int32 → Int32 → Option ((Nat → Int64) × (Nat → Int64))
  | 0, _, _, _, _ => none
  | fu + 1, wTe, wNx, v1, v2 =>
    if v2 < 0 then
    KK wTe wNx (v1 + 1)
    else
    f_X5_findsPolynomial_L56 yp ye bPo bTb (fun w0 w1 w2 w3 => f_X5_findsPolynomial_L50 yp ye bPo bTb KK fu w0 w1 w2 w3) FU wTe wNx v1 v2 0
set_option maxHeartbeats 4000000 in
set_option maxRecDepth 100000 in
theorem w_X5_findsPolynomial_L50 {yp : Int32} {ye : Int32} {yg : Int32} {bPo : Nat → Int32} {bTb : Nat → Int32} {wSh : Nat → Int64} {bOs : Nat → Int32} {bOn : Nat → Int32} {yop : Int32} {bSo : Nat → Int32} {bNu : Nat → Int32} {ytr : Int32} {yiw : Int32} {wMa : Nat → Int64} {wPr : Nat → Int64} {bTp : Nat → Int32} {yln : Int32} {ypl : Int32} {yfa : Int32} {wLi : Nat → Int64} {bSi : Nat → Int32} {yhp : Int32} {yhe : Int32} {yhg : Int32} {wHs : Nat → Int64} {yhi : Int32}  {KK : (Nat → Int64) → (Nat → Int64) → Int32 → Option ((Nat → Int64) × (Nat → Int64))} (F : Fx p s m args meth c cX5_findsPolynomial 5 RX5 none) (hA : ∀ q, s.heap.size ≤ q → A q)  (hK : ∀ (wTe : Nat → Int64) (wNx : Nat → Int64) (v1 : Int32) (z : (Nat → Int64) × (Nat → Int64)), KK wTe wNx v1 = some z → Ends p l e (rmOf 4 87) s m args below meth c Q cX5_findsPolynomial G A none (none) (mW G q yp ye yg bPo bTb wSh z.1 z.2 bOs bOn yop bSo bNu ytr yiw wMa wPr bTp yln ypl yfa wLi bSi yhp yhe yhg wHs yhi ++ fr) → ∀ (H : Heap) (locs : List Loc) (ls : Array Slot), Wd G s A (mW G q yp ye yg bPo bTb wSh wTe wNx bOs bOn yop bSo bNu ytr yiw wMa wPr bTp yln ypl yfa wLi bSi yhp yhe yhg wHs yhi ++ fr) H locs → lv_has ls 5 [(0, .ref (q 0)), (1, .int v1)] → W p l e (rmOf 4 87) s m args below meth c H locs 0 0 Q (F0 m 38 ls [])) : ∀ (fu : Nat) (wTe : Nat → Int64) (wNx : Nat → Int64) (v1 : Int32) (v2 : Int32) (z : (Nat → Int64) × (Nat → Int64)), f_X5_findsPolynomial_L50 yp ye bPo bTb KK fu wTe wNx v1 v2 = some z → Ends p l e (rmOf 4 87) s m args below meth c Q cX5_findsPolynomial G A none (none) (mW G q yp ye yg bPo bTb wSh z.1 z.2 bOs bOn yop bSo bNu ytr yiw wMa wPr bTp yln ypl yfa wLi bSi yhp yhe yhg wHs yhi ++ fr) → ∀ (H : Heap) (locs : List Loc) (ls : Array Slot), Wd G s A (mW G q yp ye yg bPo bTb wSh wTe wNx bOs bOn yop bSo bNu ytr yiw wMa wPr bTp yln ypl yfa wLi bSi yhp yhe yhg wHs yhi ++ fr) H locs → lv_has ls 5 [(0, .ref (q 0)), (1, .int v1), (2, .int v2)] → W p l e (rmOf 4 87) s m args below meth c H locs 0 0 Q (F0 m 50 ls []) := by
  have hx := F.x
  have hb := F.b
  intro fu
  induction fu with
  | zero =>
    intro wTe wNx v1 v2 z h
    cases (h : none = some z)
  | succ fu ih =>
    intro wTe wNx v1 v2 z h hE H locs ls hw hl
    rw [f_X5_findsPolynomial_L50] at h
    refine lv_iload_n hx hb dX5_findsPolynomial_50 rfl (lv_at hl 2 rfl) ?_
    refine lv_if_lt (tgt := 172) hx hb dX5_findsPolynomial_51 (by decide) (fun c1 => ?_) (fun c1 => ?_)
    · replace h := stT c1 h
      refine lv_iinc (v := (v1 + 1)) (lv' := [(1, .int (v1 + 1)), (0, .ref (q 0)), (2, .int v2)]) hx hb dX5_findsPolynomial_172 hl (k := 1) rfl rfl (by decide) rfl (fun ls hl => ?_)
      refine lv_goto (tgt := 38) hx hb dX5_findsPolynomial_175 (by decide) ?_
      exact hK _ _ _ z h hE H locs ls hw (lv_sub hl [1, 0] rfl)
    · replace h := stF c1 h
      refine lv_iconst (v := 0) hx hb dX5_findsPolynomial_54 (by decide) ?_
      refine lv_istore_n (lv' := [(3, .int 0), (0, .ref (q 0)), (1, .int v1), (2, .int v2)]) hx hb dX5_findsPolynomial_55 rfl hl (by decide) rfl (fun ls hl => ?_)
      exact w_X5_findsPolynomial_L56 F hA  (fun w0 w1 w2 w3 z h hE H locs ls hw hl => ih w0 w1 w2 w3 z h hE H locs ls hw hl) FU _ _ _ _ _ z h hE H locs ls hw (lv_sub hl [1, 2, 3, 0] rfl)
def f_X5_findsPolynomial_L38 (yp : Int32) (ye : Int32) (bPo : Nat → Int32) (bTb : Nat → Int32) : Nat → (Nat → Int64) → (Nat → Int64) → Int32 → Option ((Nat → Int64) × (Nat → Int64))
  | 0, _, _, _ => none
  | fu + 1, wTe, wNx, v1 =>
    if ye ≤ v1 then
    some (wTe, wNx)
    else
    f_X5_findsPolynomial_L50 yp ye bPo bTb (fun w0 w1 w2 => f_X5_findsPolynomial_L38 yp ye bPo bTb fu w0 w1 w2) FU wTe wNx v1 (v1 + 1)
set_option maxHeartbeats 4000000 in
set_option maxRecDepth 100000 in
theorem w_X5_findsPolynomial_L38 {yp : Int32} {ye : Int32} {yg : Int32} {bPo : Nat → Int32} {bTb : Nat → Int32} {wSh : Nat → Int64} {bOs : Nat → Int32} {bOn : Nat → Int32} {yop : Int32} {bSo : Nat → Int32} {bNu : Nat → Int32} {ytr : Int32} {yiw : Int32} {wMa : Nat → Int64} {wPr : Nat → Int64} {bTp : Nat → Int32} {yln : Int32} {ypl : Int32} {yfa : Int32} {wLi : Nat → Int64} {bSi : Nat → Int32} {yhp : Int32} {yhe : Int32} {yhg : Int32} {wHs : Nat → Int64} {yhi : Int32}   (F : Fx p s m args meth c cX5_findsPolynomial 5 RX5 none) (hA : ∀ q, s.heap.size ≤ q → A q)   : ∀ (fu : Nat) (wTe : Nat → Int64) (wNx : Nat → Int64) (v1 : Int32) (z : (Nat → Int64) × (Nat → Int64)), f_X5_findsPolynomial_L38 yp ye bPo bTb fu wTe wNx v1 = some z → Ends p l e (rmOf 4 87) s m args below meth c Q cX5_findsPolynomial G A none (none) (mW G q yp ye yg bPo bTb wSh z.1 z.2 bOs bOn yop bSo bNu ytr yiw wMa wPr bTp yln ypl yfa wLi bSi yhp yhe yhg wHs yhi ++ fr) → ∀ (H : Heap) (locs : List Loc) (ls : Array Slot), Wd G s A (mW G q yp ye yg bPo bTb wSh wTe wNx bOs bOn yop bSo bNu ytr yiw wMa wPr bTp yln ypl yfa wLi bSi yhp yhe yhg wHs yhi ++ fr) H locs → lv_has ls 5 [(0, .ref (q 0)), (1, .int v1)] → W p l e (rmOf 4 87) s m args below meth c H locs 0 0 Q (F0 m 38 ls []) := by
  have hx := F.x
  have hb := F.b
  intro fu
  induction fu with
  | zero =>
    intro wTe wNx v1 z h
    cases (h : none = some z)
  | succ fu ih =>
    intro wTe wNx v1 z h hE H locs ls hw hl
    rw [f_X5_findsPolynomial_L38] at h
    refine lv_iload_n hx hb dX5_findsPolynomial_38 rfl (lv_at hl 1 rfl) ?_
    refine lv_aload_n hx hb dX5_findsPolynomial_39 rfl (lv_at hl 0 rfl) ?_
    refine gf_5_66 F hw dX5_findsPolynomial_40 ?_
    refine lv_icmp_ge (tgt := 178) hx hb dX5_findsPolynomial_43 (by decide) (fun c1 => ?_) (fun c1 => ?_)
    · replace h := stT c1 h
      obtain rfl := Option.some.inj h
      exact hE H locs _ ls hw dX5_findsPolynomial_178
    · replace h := stF c1 h
      refine lv_iload_n hx hb dX5_findsPolynomial_46 rfl (lv_at hl 1 rfl) ?_
      refine lv_iconst (v := 1) hx hb dX5_findsPolynomial_47 (by decide) ?_
      refine lv_iadd hx hb dX5_findsPolynomial_48 ?_
      refine lv_istore_n (lv' := [(2, .int (v1 + 1)), (0, .ref (q 0)), (1, .int v1)]) hx hb dX5_findsPolynomial_49 rfl hl (by decide) rfl (fun ls hl => ?_)
      exact w_X5_findsPolynomial_L50 F hA  (fun w0 w1 w2 z h hE H locs ls hw hl => ih w0 w1 w2 z h hE H locs ls hw hl) FU _ _ _ _ z h hE H locs ls hw (lv_sub hl [1, 2, 0] rfl)
def f_X5_findsPolynomial_L2 (yp : Int32) (ye : Int32) (bPo : Nat → Int32) (bTb : Nat → Int32) : Nat → (Nat → Int64) → (Nat → Int64) → Int32 → Option ((Nat → Int64) × (Nat → Int64))
  | 0, _, _, _ => none
  | fu + 1, wTe, wNx, v1 =>
    if 168 ≤ v1 then
    f_X5_findsPolynomial_L38 yp ye bPo bTb FU wTe wNx 0
    else
    if ye ≤ v1 then
    if inb v1 168 then
    f_X5_findsPolynomial_L2 yp ye bPo bTb fu (vp_updL wTe v1.toNatClampNeg 0) wNx (v1 + 1)
    else none
    else
    if inb v1 168 then
    f_X5_findsPolynomial_L2 yp ye bPo bTb fu (vp_updL wTe v1.toNatClampNeg (-1)) wNx (v1 + 1)
    else none
set_option maxHeartbeats 4000000 in
set_option maxRecDepth 100000 in
theorem w_X5_findsPolynomial_L2 {yp : Int32} {ye : Int32} {yg : Int32} {bPo : Nat → Int32} {bTb : Nat → Int32} {wSh : Nat → Int64} {bOs : Nat → Int32} {bOn : Nat → Int32} {yop : Int32} {bSo : Nat → Int32} {bNu : Nat → Int32} {ytr : Int32} {yiw : Int32} {wMa : Nat → Int64} {wPr : Nat → Int64} {bTp : Nat → Int32} {yln : Int32} {ypl : Int32} {yfa : Int32} {wLi : Nat → Int64} {bSi : Nat → Int32} {yhp : Int32} {yhe : Int32} {yhg : Int32} {wHs : Nat → Int64} {yhi : Int32}   (F : Fx p s m args meth c cX5_findsPolynomial 5 RX5 none) (hA : ∀ q, s.heap.size ≤ q → A q)   : ∀ (fu : Nat) (wTe : Nat → Int64) (wNx : Nat → Int64) (v1 : Int32) (z : (Nat → Int64) × (Nat → Int64)), f_X5_findsPolynomial_L2 yp ye bPo bTb fu wTe wNx v1 = some z → Ends p l e (rmOf 4 87) s m args below meth c Q cX5_findsPolynomial G A none (none) (mW G q yp ye yg bPo bTb wSh z.1 z.2 bOs bOn yop bSo bNu ytr yiw wMa wPr bTp yln ypl yfa wLi bSi yhp yhe yhg wHs yhi ++ fr) → ∀ (H : Heap) (locs : List Loc) (ls : Array Slot), Wd G s A (mW G q yp ye yg bPo bTb wSh wTe wNx bOs bOn yop bSo bNu ytr yiw wMa wPr bTp yln ypl yfa wLi bSi yhp yhe yhg wHs yhi ++ fr) H locs → lv_has ls 5 [(0, .ref (q 0)), (1, .int v1)] → W p l e (rmOf 4 87) s m args below meth c H locs 0 0 Q (F0 m 2 ls []) := by
  have hx := F.x
  have hb := F.b
  intro fu
  induction fu with
  | zero =>
    intro wTe wNx v1 z h
    cases (h : none = some z)
  | succ fu ih =>
    intro wTe wNx v1 z h hE H locs ls hw hl
    rw [f_X5_findsPolynomial_L2] at h
    refine lv_iload_n hx hb dX5_findsPolynomial_2 rfl (lv_at hl 1 rfl) ?_
    refine lv_sipush (v := 168) hx hb dX5_findsPolynomial_3 (by decide) ?_
    refine lv_icmp_ge (tgt := 36) hx hb dX5_findsPolynomial_6 (by decide) (fun c1 => ?_) (fun c1 => ?_)
    · replace h := stT c1 h
      refine lv_iconst (v := 0) hx hb dX5_findsPolynomial_36 (by decide) ?_
      refine lv_istore_n (lv' := [(1, .int 0), (0, .ref (q 0))]) hx hb dX5_findsPolynomial_37 rfl hl (by decide) rfl (fun ls hl => ?_)
      exact w_X5_findsPolynomial_L38 F hA  FU _ _ _ z h hE H locs ls hw (lv_sub hl [1, 0] rfl)
    · replace h := stF c1 h
      refine lv_aload_n hx hb dX5_findsPolynomial_9 rfl (lv_at hl 0 rfl) ?_
      refine gf_5_22 F hw dX5_findsPolynomial_10 ?_
      refine lv_iload_n hx hb dX5_findsPolynomial_13 rfl (lv_at hl 1 rfl) ?_
      refine lv_iload_n hx hb dX5_findsPolynomial_14 rfl (lv_at hl 1 rfl) ?_
      refine lv_aload_n hx hb dX5_findsPolynomial_15 rfl (lv_at hl 0 rfl) ?_
      refine gf_5_66 F hw dX5_findsPolynomial_16 ?_
      refine lv_icmp_ge (tgt := 28) hx hb dX5_findsPolynomial_19 (by decide) (fun c2 => ?_) (fun c2 => ?_)
      · replace h := stT c2 h
        refine lv_lconst (v := 0) hx hb dX5_findsPolynomial_28 (by decide) ?_
        obtain ⟨g3, h⟩ := stG h
        refine as_m4 F hw g3 dX5_findsPolynomial_29 (fun H locs hw => ?_)
        refine lv_iinc (v := (v1 + 1)) (lv' := [(1, .int (v1 + 1)), (0, .ref (q 0))]) hx hb dX5_findsPolynomial_30 hl (k := 1) rfl rfl (by decide) rfl (fun ls hl => ?_)
        refine lv_goto (tgt := 2) hx hb dX5_findsPolynomial_33 (by decide) ?_
        exact ih _ _ _ z h hE H locs ls hw (lv_sub hl [1, 0] rfl)
      · replace h := stF c2 h
        refine lv_ldc2 (v := -1) hx hb F.ow (F.ts _ kc_5_130) dX5_findsPolynomial_22 ?_
        refine lv_goto (tgt := 29) hx hb dX5_findsPolynomial_25 (by decide) ?_
        obtain ⟨g4, h⟩ := stG h
        refine as_m4 F hw g4 dX5_findsPolynomial_29 (fun H locs hw => ?_)
        refine lv_iinc (v := (v1 + 1)) (lv' := [(1, .int (v1 + 1)), (0, .ref (q 0))]) hx hb dX5_findsPolynomial_30 hl (k := 1) rfl rfl (by decide) rfl (fun ls hl => ?_)
        refine lv_goto (tgt := 2) hx hb dX5_findsPolynomial_33 (by decide) ?_
        exact ih _ _ _ z h hE H locs ls hw (lv_sub hl [1, 0] rfl)
def f_X5_findsPolynomial (yp : Int32) (ye : Int32) (bPo : Nat → Int32) (bTb : Nat → Int32) (wTe : Nat → Int64) (wNx : Nat → Int64) : Option ((Nat → Int64) × (Nat → Int64)) :=
  f_X5_findsPolynomial_L2 yp ye bPo bTb FU wTe wNx 0
set_option maxHeartbeats 4000000 in
set_option maxRecDepth 100000 in
theorem k_X5_findsPolynomial {l : Launch} {G : GG} {q : Nat → Nat} {fr : va_W} {yp : Int32} {ye : Int32} {yg : Int32} {bPo : Nat → Int32} {bTb : Nat → Int32} {wSh : Nat → Int64} {wTe : Nat → Int64} {wNx : Nat → Int64} {bOs : Nat → Int32} {bOn : Nat → Int32} {yop : Int32} {bSo : Nat → Int32} {bNu : Nat → Int32} {ytr : Int32} {yiw : Int32} {wMa : Nat → Int64} {wPr : Nat → Int64} {bTp : Nat → Int32} {yln : Int32} {ypl : Int32} {yfa : Int32} {wLi : Nat → Int64} {bSi : Nat → Int32} {yhp : Int32} {yhe : Int32} {yhg : Int32} {wHs : Nat → Int64} {yhi : Int32}  {z : (Nat → Int64) × (Nat → Int64)}  (h : f_X5_findsPolynomial yp ye bPo bTb wTe wNx = some z) : Ct l G yX5_findsPolynomial cX5_findsPolynomial 5 none 4 87 [.ref (q 0)] (mW G q yp ye yg bPo bTb wSh wTe wNx bOs bOn yop bSo bNu ytr yiw wMa wPr bTp yln ypl yfa wLi bSi yhp yhe yhg wHs yhi ++ fr) (none) (mW G q yp ye yg bPo bTb wSh z.1 z.2 bOs bOn yop bSo bNu ytr yiw wMa wPr bTp yln ypl yfa wLi bSi yhp yhe yhg wHs yhi ++ fr) := by
  refine Ct.of (by decide) (Nat.le_of_ble_eq_true rfl) trivial ?_
  intro p e s m args below meth c Q A ls F hw hA hE hl
  have hx := F.x
  have hb := F.b
  unfold f_X5_findsPolynomial at h
  obtain ⟨H, hH⟩ : ∃ H, H = s.heap := ⟨_, rfl⟩
  obtain ⟨locs, hlo⟩ : ∃ locs : List Loc, locs = [] := ⟨_, rfl⟩
  rw [← hH, ← hlo] at hw ⊢
  have hl : lv_has ls 5 [(0, .ref (q 0))] := hl
  refine lv_iconst (v := 0) hx hb dX5_findsPolynomial_0 (by decide) ?_
  refine lv_istore_n (lv' := [(1, .int 0), (0, .ref (q 0))]) hx hb dX5_findsPolynomial_1 rfl hl (by decide) rfl (fun ls hl => ?_)
  exact w_X5_findsPolynomial_L2 F hA  FU _ _ _ z h hE H locs ls hw (lv_sub hl [1, 0] rfl)
end
theorem dX5_polynomial_0 : decode cX5_polynomial 0 = .ok (.iload_n 1, 1) := by decide +kernel
theorem dX5_polynomial_1 : decode cX5_polynomial 1 = .ok (.i2l, 1) := by decide +kernel
theorem dX5_polynomial_2 : decode cX5_polynomial 2 = .ok (.lconst 0, 1) := by decide +kernel
theorem dX5_polynomial_3 : decode cX5_polynomial 3 = .ok (.aload_n 0, 1) := by decide +kernel
theorem dX5_polynomial_4 : decode cX5_polynomial 4 = .ok (.getfield 66, 3) := by decide +kernel
theorem dX5_polynomial_7 : decode cX5_polynomial 7 = .ok (.i2l, 1) := by decide +kernel
theorem dX5_polynomial_8 : decode cX5_polynomial 8 = .ok (.invokestatic 90, 3) := by decide +kernel
theorem dX5_polynomial_11 : decode cX5_polynomial 11 = .ok (.ifCond .ne 7, 3) := by decide +kernel
theorem dX5_polynomial_14 : decode cX5_polynomial 14 = .ok (.ldc2_w 138, 3) := by decide +kernel
theorem dX5_polynomial_17 : decode cX5_polynomial 17 = .ok (.lreturn, 1) := by decide +kernel
theorem dX5_polynomial_18 : decode cX5_polynomial 18 = .ok (.aload_n 0, 1) := by decide +kernel
theorem dX5_polynomial_19 : decode cX5_polynomial 19 = .ok (.invokevirtual 140, 3) := by decide +kernel
theorem dX5_polynomial_22 : decode cX5_polynomial 22 = .ok (.aload_n 0, 1) := by decide +kernel
theorem dX5_polynomial_23 : decode cX5_polynomial 23 = .ok (.getfield 22, 3) := by decide +kernel
theorem dX5_polynomial_26 : decode cX5_polynomial 26 = .ok (.bipush 12, 2) := by decide +kernel
theorem dX5_polynomial_28 : decode cX5_polynomial 28 = .ok (.iload_n 1, 1) := by decide +kernel
theorem dX5_polynomial_29 : decode cX5_polynomial 29 = .ok (.imul, 1) := by decide +kernel
theorem dX5_polynomial_30 : decode cX5_polynomial 30 = .ok (.laload, 1) := by decide +kernel
theorem dX5_polynomial_31 : decode cX5_polynomial 31 = .ok (.lneg, 1) := by decide +kernel
theorem dX5_polynomial_32 : decode cX5_polynomial 32 = .ok (.lreturn, 1) := by decide +kernel
section
variable {p : Program} {l : Launch} {e : Env} {s : State} {m : MethodId} {args : Array Value} {below : List Frame} {meth : Method} {c : Code} {Q : State → Prop} {G : GG} {A : Nat → Prop} {q : Nat → Nat} {fr : va_W}
def f_X5_polynomial (yp : Int32) (ye : Int32) (bPo : Nat → Int32) (bTb : Nat → Int32) (wTe : Nat → Int64) (wNx : Nat → Int64) (v1 : Int32) : Option (Int64 × (Nat → Int64) × (Nat → Int64)) :=
  (f_X5_in v1.toInt64 0 ye.toInt64).bind fun z1 =>
  if z1 = 0 then
  some ((-9223372036854775808), wTe, wNx)
  else
  (f_X5_findsPolynomial yp ye bPo bTb wTe wNx).bind fun z3 =>
  if inb (12 * v1) 168 then
  some ((-(z3.1 (12 * v1).toNatClampNeg)), z3.1, z3.2)
  else none
set_option maxHeartbeats 4000000 in
set_option maxRecDepth 100000 in
theorem k_X5_polynomial {l : Launch} {G : GG} {q : Nat → Nat} {fr : va_W} {yp : Int32} {ye : Int32} {yg : Int32} {bPo : Nat → Int32} {bTb : Nat → Int32} {wSh : Nat → Int64} {wTe : Nat → Int64} {wNx : Nat → Int64} {bOs : Nat → Int32} {bOn : Nat → Int32} {yop : Int32} {bSo : Nat → Int32} {bNu : Nat → Int32} {ytr : Int32} {yiw : Int32} {wMa : Nat → Int64} {wPr : Nat → Int64} {bTp : Nat → Int32} {yln : Int32} {ypl : Int32} {yfa : Int32} {wLi : Nat → Int64} {bSi : Nat → Int32} {yhp : Int32} {yhe : Int32} {yhg : Int32} {wHs : Nat → Int64} {yhi : Int32} {v1 : Int32} {z : Int64 × (Nat → Int64) × (Nat → Int64)}  (h : f_X5_polynomial yp ye bPo bTb wTe wNx v1 = some z) : Ct l G yX5_polynomial cX5_polynomial 2 (some .long) 5 111 [.ref (q 0), .int v1] (mW G q yp ye yg bPo bTb wSh wTe wNx bOs bOn yop bSo bNu ytr yiw wMa wPr bTp yln ypl yfa wLi bSi yhp yhe yhg wHs yhi ++ fr) (some (.long z.1)) (mW G q yp ye yg bPo bTb wSh z.2.1 z.2.2 bOs bOn yop bSo bNu ytr yiw wMa wPr bTp yln ypl yfa wLi bSi yhp yhe yhg wHs yhi ++ fr) := by
  refine Ct.of (by decide) (Nat.le_of_ble_eq_true rfl) trivial ?_
  intro p e s m args below meth c Q A ls F hw hA hE hl
  have hx := F.x
  have hb := F.b
  unfold f_X5_polynomial at h
  obtain ⟨H, hH⟩ : ∃ H, H = s.heap := ⟨_, rfl⟩
  obtain ⟨locs, hlo⟩ : ∃ locs : List Loc, locs = [] := ⟨_, rfl⟩
  rw [← hH, ← hlo] at hw ⊢
  have hl : lv_has ls 2 [(0, .ref (q 0)), (1, .int v1)] := hl
  refine lv_iload_n hx hb dX5_polynomial_0 rfl (lv_at hl 1 rfl) ?_
  refine lv_i2l (v := v1.toInt64) hx hb dX5_polynomial_1 rfl ?_
  refine lv_lconst (v := 0) hx hb dX5_polynomial_2 (by decide) ?_
  refine lv_aload_n hx hb dX5_polynomial_3 rfl (lv_at hl 0 rfl) ?_
  refine gf_5_66 F hw dX5_polynomial_4 ?_
  refine lv_i2l (v := ye.toInt64) hx hb dX5_polynomial_7 rfl ?_
  obtain ⟨z1, hz1, h⟩ := stB h
  refine ctS (av := [.long v1.toInt64, .long 0, .long ye.toInt64]) (st0 := ([] : List Value)) (st1 := ([.int z1] : List Value)) F hw hA (k_X5_in hz1) kl_5_90 kd_X5_in rfl ⟨by decide, by decide⟩ hl.1 rfl (Nat.le_of_ble_eq_true rfl) dX5_polynomial_8 rfl (fun H locs hw => ?_)
  refine lv_if_ne (tgt := 18) hx hb dX5_polynomial_11 (by decide) (fun c2 => ?_) (fun c2 => ?_)
  · replace h := stF c2 h
    refine lv_aload_n hx hb dX5_polynomial_18 rfl (lv_at hl 0 rfl) ?_
    obtain ⟨z3, hz3, h⟩ := stB h
    refine ctV (av := []) (st0 := ([] : List Value)) (st1 := ([] : List Value)) F hw hA (k_X5_findsPolynomial hz3) kl_5_140 kd_X5_findsPolynomial rfl ⟨by decide, by decide⟩ 0 rfl rfl hl.1 rfl (Nat.le_of_ble_eq_true rfl) dX5_polynomial_19 rfl (fun H locs hw => ?_)
    refine lv_aload_n hx hb dX5_polynomial_22 rfl (lv_at hl 0 rfl) ?_
    refine gf_5_22 F hw dX5_polynomial_23 ?_
    refine lv_bipush (v := 12) hx hb dX5_polynomial_26 (by decide) ?_
    refine lv_iload_n hx hb dX5_polynomial_28 rfl (lv_at hl 1 rfl) ?_
    refine lv_imul hx hb dX5_polynomial_29 ?_
    obtain ⟨g4, h⟩ := stG h
    refine al_m4 F hw g4 dX5_polynomial_30 ?_
    refine lv_lneg hx hb dX5_polynomial_31 ?_
    obtain rfl := Option.some.inj h
    exact hE H locs _ ls hw dX5_polynomial_32
  · replace h := stT c2 h
    refine lv_ldc2 (v := -9223372036854775808) hx hb F.ow (F.ts _ kc_5_138) dX5_polynomial_14 ?_
    obtain rfl := Option.some.inj h
    exact hE H locs _ ls hw dX5_polynomial_17
end
theorem dX5_roots_0 : decode cX5_roots 0 = .ok (.iload_n 1, 1) := by decide +kernel
theorem dX5_roots_1 : decode cX5_roots 1 = .ok (.i2l, 1) := by decide +kernel
theorem dX5_roots_2 : decode cX5_roots 2 = .ok (.ldc2_w 143, 3) := by decide +kernel
theorem dX5_roots_5 : decode cX5_roots 5 = .ok (.ldc2_w 145, 3) := by decide +kernel
theorem dX5_roots_8 : decode cX5_roots 8 = .ok (.invokestatic 90, 3) := by decide +kernel
theorem dX5_roots_11 : decode cX5_roots 11 = .ok (.ifCond .ne 6, 3) := by decide +kernel
theorem dX5_roots_14 : decode cX5_roots 14 = .ok (.bipush (-2), 2) := by decide +kernel
theorem dX5_roots_16 : decode cX5_roots 16 = .ok (.ireturn, 1) := by decide +kernel
theorem dX5_roots_17 : decode cX5_roots 17 = .ok (.aload_n 0, 1) := by decide +kernel
theorem dX5_roots_18 : decode cX5_roots 18 = .ok (.invokevirtual 140, 3) := by decide +kernel
theorem dX5_roots_21 : decode cX5_roots 21 = .ok (.iconst 0, 1) := by decide +kernel
theorem dX5_roots_22 : decode cX5_roots 22 = .ok (.istore_n 2, 1) := by decide +kernel
theorem dX5_roots_23 : decode cX5_roots 23 = .ok (.iconst 0, 1) := by decide +kernel
theorem dX5_roots_24 : decode cX5_roots 24 = .ok (.istore_n 3, 1) := by decide +kernel
theorem dX5_roots_25 : decode cX5_roots 25 = .ok (.iload_n 3, 1) := by decide +kernel
theorem dX5_roots_26 : decode cX5_roots 26 = .ok (.iload_n 1, 1) := by decide +kernel
theorem dX5_roots_27 : decode cX5_roots 27 = .ok (.if_icmp .ge 68, 3) := by decide +kernel
theorem dX5_roots_30 : decode cX5_roots 30 = .ok (.lconst 0, 1) := by decide +kernel
theorem dX5_roots_31 : decode cX5_roots 31 = .ok (.lstore 4, 2) := by decide +kernel
theorem dX5_roots_33 : decode cX5_roots 33 = .ok (.aload_n 0, 1) := by decide +kernel
theorem dX5_roots_34 : decode cX5_roots 34 = .ok (.getfield 66, 3) := by decide +kernel
theorem dX5_roots_37 : decode cX5_roots 37 = .ok (.istore 6, 2) := by decide +kernel
theorem dX5_roots_39 : decode cX5_roots 39 = .ok (.iload 6, 2) := by decide +kernel
theorem dX5_roots_41 : decode cX5_roots 41 = .ok (.ifCond .lt 30, 3) := by decide +kernel
theorem dX5_roots_44 : decode cX5_roots 44 = .ok (.lload 4, 2) := by decide +kernel
theorem dX5_roots_46 : decode cX5_roots 46 = .ok (.iload_n 3, 1) := by decide +kernel
theorem dX5_roots_47 : decode cX5_roots 47 = .ok (.i2l, 1) := by decide +kernel
theorem dX5_roots_48 : decode cX5_roots 48 = .ok (.lmul, 1) := by decide +kernel
theorem dX5_roots_49 : decode cX5_roots 49 = .ok (.aload_n 0, 1) := by decide +kernel
theorem dX5_roots_50 : decode cX5_roots 50 = .ok (.getfield 22, 3) := by decide +kernel
theorem dX5_roots_53 : decode cX5_roots 53 = .ok (.bipush 12, 2) := by decide +kernel
theorem dX5_roots_55 : decode cX5_roots 55 = .ok (.iload 6, 2) := by decide +kernel
theorem dX5_roots_57 : decode cX5_roots 57 = .ok (.imul, 1) := by decide +kernel
theorem dX5_roots_58 : decode cX5_roots 58 = .ok (.laload, 1) := by decide +kernel
theorem dX5_roots_59 : decode cX5_roots 59 = .ok (.lsub, 1) := by decide +kernel
theorem dX5_roots_60 : decode cX5_roots 60 = .ok (.iload_n 1, 1) := by decide +kernel
theorem dX5_roots_61 : decode cX5_roots 61 = .ok (.i2l, 1) := by decide +kernel
theorem dX5_roots_62 : decode cX5_roots 62 = .ok (.lrem, 1) := by decide +kernel
theorem dX5_roots_63 : decode cX5_roots 63 = .ok (.lstore 4, 2) := by decide +kernel
theorem dX5_roots_65 : decode cX5_roots 65 = .ok (.iinc 6 (-1), 3) := by decide +kernel
theorem dX5_roots_68 : decode cX5_roots 68 = .ok (.goto (-29), 3) := by decide +kernel
theorem dX5_roots_71 : decode cX5_roots 71 = .ok (.iload_n 2, 1) := by decide +kernel
theorem dX5_roots_72 : decode cX5_roots 72 = .ok (.lload 4, 2) := by decide +kernel
theorem dX5_roots_74 : decode cX5_roots 74 = .ok (.lconst 0, 1) := by decide +kernel
theorem dX5_roots_75 : decode cX5_roots 75 = .ok (.lcmp, 1) := by decide +kernel
theorem dX5_roots_76 : decode cX5_roots 76 = .ok (.ifCond .ne 7, 3) := by decide +kernel
theorem dX5_roots_79 : decode cX5_roots 79 = .ok (.iconst 1, 1) := by decide +kernel
theorem dX5_roots_80 : decode cX5_roots 80 = .ok (.goto 4, 3) := by decide +kernel
theorem dX5_roots_83 : decode cX5_roots 83 = .ok (.iconst 0, 1) := by decide +kernel
theorem dX5_roots_84 : decode cX5_roots 84 = .ok (.invokestatic 103, 3) := by decide +kernel
theorem dX5_roots_87 : decode cX5_roots 87 = .ok (.iadd, 1) := by decide +kernel
theorem dX5_roots_88 : decode cX5_roots 88 = .ok (.istore_n 2, 1) := by decide +kernel
theorem dX5_roots_89 : decode cX5_roots 89 = .ok (.iinc 3 1, 3) := by decide +kernel
theorem dX5_roots_92 : decode cX5_roots 92 = .ok (.goto (-67), 3) := by decide +kernel
theorem dX5_roots_95 : decode cX5_roots 95 = .ok (.iload_n 2, 1) := by decide +kernel
theorem dX5_roots_96 : decode cX5_roots 96 = .ok (.ireturn, 1) := by decide +kernel
section
variable {p : Program} {l : Launch} {e : Env} {s : State} {m : MethodId} {args : Array Value} {below : List Frame} {meth : Method} {c : Code} {Q : State → Prop} {G : GG} {A : Nat → Prop} {q : Nat → Nat} {fr : va_W}
def f_X5_roots_L39 (yp : Int32) (ye : Int32) (bPo : Nat → Int32) (bTb : Nat → Int32) (v1 : Int32) (KK : (Nat → Int64) → (Nat → Int64) → Int32 → Int32 → Option (Int32 × (Nat → Int64) × (Nat → Int64))) : Nat → (Nat → Int64) → (Nat → Int64) → Int32 → Int32 → Int64 → Int32 → Option (Int32 × (Nat → Int64) × (Nat → Int64))
  | 0, _, _, _, _, _, _ => none
  | fu + 1, wTe, wNx, v2, v3, v4, v6 =>
    if v6 < 0 then
    if (lg_cmp v4 0) = 0 then
    (f_X5_bit 1).bind fun z4 =>
    KK wTe wNx (v2 + z4) (v3 + 1)
    else
    (f_X5_bit 0).bind fun z3 =>
    KK wTe wNx (v2 + z3) (v3 + 1)
    else
    if inb (12 * v6) 168 then
    if v1.toInt64 = 0 then none else
    f_X5_roots_L39 yp ye bPo bTb v1 KK fu wTe wNx v2 v3 (((v4 * v3.toInt64) - (wTe (12 * v6).toNatClampNeg)) - ((v4 * v3.toInt64) - (wTe (12 * v6).toNatClampNeg)) / v1.toInt64 * v1.toInt64) (v6 + (-1))
    else none
set_option maxHeartbeats 4000000 in
set_option maxRecDepth 100000 in
theorem w_X5_roots_L39 {yp : Int32} {ye : Int32} {yg : Int32} {bPo : Nat → Int32} {bTb : Nat → Int32} {wSh : Nat → Int64} {bOs : Nat → Int32} {bOn : Nat → Int32} {yop : Int32} {bSo : Nat → Int32} {bNu : Nat → Int32} {ytr : Int32} {yiw : Int32} {wMa : Nat → Int64} {wPr : Nat → Int64} {bTp : Nat → Int32} {yln : Int32} {ypl : Int32} {yfa : Int32} {wLi : Nat → Int64} {bSi : Nat → Int32} {yhp : Int32} {yhe : Int32} {yhg : Int32} {wHs : Nat → Int64} {yhi : Int32} {v1 : Int32} {KK : (Nat → Int64) → (Nat → Int64) → Int32 → Int32 → Option (Int32 × (Nat → Int64) × (Nat → Int64))} (F : Fx p s m args meth c cX5_roots 7 RX5 (some .int)) (hA : ∀ q, s.heap.size ≤ q → A q)  (hK : ∀ (wTe : Nat → Int64) (wNx : Nat → Int64) (v2 : Int32) (v3 : Int32) (z : Int32 × (Nat → Int64) × (Nat → Int64)), KK wTe wNx v2 v3 = some z → Ends p l e (rmOf 5 111) s m args below meth c Q cX5_roots G A (some .int) (some (.int z.1)) (mW G q yp ye yg bPo bTb wSh z.2.1 z.2.2 bOs bOn yop bSo bNu ytr yiw wMa wPr bTp yln ypl yfa wLi bSi yhp yhe yhg wHs yhi ++ fr) → ∀ (H : Heap) (locs : List Loc) (ls : Array Slot), Wd G s A (mW G q yp ye yg bPo bTb wSh wTe wNx bOs bOn yop bSo bNu ytr yiw wMa wPr bTp yln ypl yfa wLi bSi yhp yhe yhg wHs yhi ++ fr) H locs → lv_has ls 7 [(0, .ref (q 0)), (1, .int v1), (2, .int v2), (3, .int v3)] → W p l e (rmOf 5 111) s m args below meth c H locs 0 0 Q (F0 m 25 ls [])) : ∀ (fu : Nat) (wTe : Nat → Int64) (wNx : Nat → Int64) (v2 : Int32) (v3 : Int32) (v4 : Int64) (v6 : Int32) (z : Int32 × (Nat → Int64) × (Nat → Int64)), f_X5_roots_L39 yp ye bPo bTb v1 KK fu wTe wNx v2 v3 v4 v6 = some z → Ends p l e (rmOf 5 111) s m args below meth c Q cX5_roots G A (some .int) (some (.int z.1)) (mW G q yp ye yg bPo bTb wSh z.2.1 z.2.2 bOs bOn yop bSo bNu ytr yiw wMa wPr bTp yln ypl yfa wLi bSi yhp yhe yhg wHs yhi ++ fr) → ∀ (H : Heap) (locs : List Loc) (ls : Array Slot), Wd G s A (mW G q yp ye yg bPo bTb wSh wTe wNx bOs bOn yop bSo bNu ytr yiw wMa wPr bTp yln ypl yfa wLi bSi yhp yhe yhg wHs yhi ++ fr) H locs → lv_has ls 7 [(0, .ref (q 0)), (1, .int v1), (2, .int v2), (3, .int v3), (4, .long v4), (6, .int v6)] → W p l e (rmOf 5 111) s m args below meth c H locs 0 0 Q (F0 m 39 ls []) := by
  have hx := F.x
  have hb := F.b
  intro fu
  induction fu with
  | zero =>
    intro wTe wNx v2 v3 v4 v6 z h
    cases (h : none = some z)
  | succ fu ih =>
    intro wTe wNx v2 v3 v4 v6 z h hE H locs ls hw hl
    rw [f_X5_roots_L39] at h
    refine lv_iload hx hb dX5_roots_39 (lv_at hl 5 rfl) ?_
    refine lv_if_lt (tgt := 71) hx hb dX5_roots_41 (by decide) (fun c1 => ?_) (fun c1 => ?_)
    · replace h := stT c1 h
      refine lv_iload_n hx hb dX5_roots_71 rfl (lv_at hl 2 rfl) ?_
      refine lv_lload hx hb dX5_roots_72 (lv_at hl 4 rfl) ?_
      refine lv_lconst (v := 0) hx hb dX5_roots_74 (by decide) ?_
      refine W.lcmp hx hb dX5_roots_75 ?_
      refine lv_if_ne (tgt := 83) hx hb dX5_roots_76 (by decide) (fun c2 => ?_) (fun c2 => ?_)
      · replace h := stF c2 h
        refine lv_iconst (v := 0) hx hb dX5_roots_83 (by decide) ?_
        obtain ⟨z3, hz3, h⟩ := stB h
        refine ctS (av := [.int 0]) (st0 := ([.int v2] : List Value)) (st1 := ([.int z3, .int v2] : List Value)) F hw hA (k_X5_bit hz3) kl_5_103 kd_X5_bit rfl ⟨by decide, by decide⟩ hl.1 rfl (Nat.le_of_ble_eq_true rfl) dX5_roots_84 rfl (fun H locs hw => ?_)
        refine lv_iadd hx hb dX5_roots_87 ?_
        refine lv_istore_n (lv' := [(2, .int (v2 + z3)), (0, .ref (q 0)), (1, .int v1), (3, .int v3), (4, .long v4), (6, .int v6)]) hx hb dX5_roots_88 rfl hl (by decide) rfl (fun ls hl => ?_)
        refine lv_iinc (v := (v3 + 1)) (lv' := [(3, .int (v3 + 1)), (2, .int (v2 + z3)), (0, .ref (q 0)), (1, .int v1), (4, .long v4), (6, .int v6)]) hx hb dX5_roots_89 hl (k := 3) rfl rfl (by decide) rfl (fun ls hl => ?_)
        refine lv_goto (tgt := 25) hx hb dX5_roots_92 (by decide) ?_
        exact hK _ _ _ _ z h hE H locs ls hw (lv_sub hl [2, 3, 1, 0] rfl)
      · replace h := stT c2 h
        refine lv_iconst (v := 1) hx hb dX5_roots_79 (by decide) ?_
        refine lv_goto (tgt := 84) hx hb dX5_roots_80 (by decide) ?_
        obtain ⟨z4, hz4, h⟩ := stB h
        refine ctS (av := [.int 1]) (st0 := ([.int v2] : List Value)) (st1 := ([.int z4, .int v2] : List Value)) F hw hA (k_X5_bit hz4) kl_5_103 kd_X5_bit rfl ⟨by decide, by decide⟩ hl.1 rfl (Nat.le_of_ble_eq_true rfl) dX5_roots_84 rfl (fun H locs hw => ?_)
        refine lv_iadd hx hb dX5_roots_87 ?_
        refine lv_istore_n (lv' := [(2, .int (v2 + z4)), (0, .ref (q 0)), (1, .int v1), (3, .int v3), (4, .long v4), (6, .int v6)]) hx hb dX5_roots_88 rfl hl (by decide) rfl (fun ls hl => ?_)
        refine lv_iinc (v := (v3 + 1)) (lv' := [(3, .int (v3 + 1)), (2, .int (v2 + z4)), (0, .ref (q 0)), (1, .int v1), (4, .long v4), (6, .int v6)]) hx hb dX5_roots_89 hl (k := 3) rfl rfl (by decide) rfl (fun ls hl => ?_)
        refine lv_goto (tgt := 25) hx hb dX5_roots_92 (by decide) ?_
        exact hK _ _ _ _ z h hE H locs ls hw (lv_sub hl [2, 3, 1, 0] rfl)
    · replace h := stF c1 h
      refine lv_lload hx hb dX5_roots_44 (lv_at hl 4 rfl) ?_
      refine lv_iload_n hx hb dX5_roots_46 rfl (lv_at hl 3 rfl) ?_
      refine lv_i2l (v := v3.toInt64) hx hb dX5_roots_47 rfl ?_
      refine lv_lmul hx hb dX5_roots_48 ?_
      refine lv_aload_n hx hb dX5_roots_49 rfl (lv_at hl 0 rfl) ?_
      refine gf_5_22 F hw dX5_roots_50 ?_
      refine lv_bipush (v := 12) hx hb dX5_roots_53 (by decide) ?_
      refine lv_iload hx hb dX5_roots_55 (lv_at hl 5 rfl) ?_
      refine lv_imul hx hb dX5_roots_57 ?_
      obtain ⟨g5, h⟩ := stG h
      refine al_m4 F hw g5 dX5_roots_58 ?_
      refine lv_lsub hx hb dX5_roots_59 ?_
      refine lv_iload_n hx hb dX5_roots_60 rfl (lv_at hl 1 rfl) ?_
      refine lv_i2l (v := v1.toInt64) hx hb dX5_roots_61 rfl ?_
      obtain ⟨g6, h⟩ := stD h
      refine lv_lrem hx hb dX5_roots_62 g6 ?_
      refine lv_lstore (lv' := [(4, .long (((v4 * v3.toInt64) - (wTe (12 * v6).toNatClampNeg)) - ((v4 * v3.toInt64) - (wTe (12 * v6).toNatClampNeg)) / v1.toInt64 * v1.toInt64)), (0, .ref (q 0)), (1, .int v1), (2, .int v2), (3, .int v3), (6, .int v6)]) hx hb dX5_roots_63 hl (by decide) rfl (fun ls hl => ?_)
      refine lv_iinc (v := (v6 + (-1))) (lv' := [(6, .int (v6 + (-1))), (4, .long (((v4 * v3.toInt64) - (wTe (12 * v6).toNatClampNeg)) - ((v4 * v3.toInt64) - (wTe (12 * v6).toNatClampNeg)) / v1.toInt64 * v1.toInt64)), (0, .ref (q 0)), (1, .int v1), (2, .int v2), (3, .int v3)]) hx hb dX5_roots_65 hl (k := 5) rfl rfl (by decide) rfl (fun ls hl => ?_)
      refine lv_goto (tgt := 39) hx hb dX5_roots_68 (by decide) ?_
      exact ih _ _ _ _ _ _ z h hE H locs ls hw (lv_sub hl [2, 3, 4, 5, 1, 0] rfl)
def f_X5_roots_L25 (yp : Int32) (ye : Int32) (bPo : Nat → Int32) (bTb : Nat → Int32) (v1 : Int32) : Nat → (Nat → Int64) → (Nat → Int64) → Int32 → Int32 → Option (Int32 × (Nat → Int64) × (Nat → Int64))
  | 0, _, _, _, _ => none
  | fu + 1, wTe, wNx, v2, v3 =>
    if v1 ≤ v3 then
    some (v2, wTe, wNx)
    else
    f_X5_roots_L39 yp ye bPo bTb v1 (fun w0 w1 w2 w3 => f_X5_roots_L25 yp ye bPo bTb v1 fu w0 w1 w2 w3) FU wTe wNx v2 v3 0 ye
set_option maxHeartbeats 4000000 in
set_option maxRecDepth 100000 in
theorem w_X5_roots_L25 {yp : Int32} {ye : Int32} {yg : Int32} {bPo : Nat → Int32} {bTb : Nat → Int32} {wSh : Nat → Int64} {bOs : Nat → Int32} {bOn : Nat → Int32} {yop : Int32} {bSo : Nat → Int32} {bNu : Nat → Int32} {ytr : Int32} {yiw : Int32} {wMa : Nat → Int64} {wPr : Nat → Int64} {bTp : Nat → Int32} {yln : Int32} {ypl : Int32} {yfa : Int32} {wLi : Nat → Int64} {bSi : Nat → Int32} {yhp : Int32} {yhe : Int32} {yhg : Int32} {wHs : Nat → Int64} {yhi : Int32} {v1 : Int32}  (F : Fx p s m args meth c cX5_roots 7 RX5 (some .int)) (hA : ∀ q, s.heap.size ≤ q → A q)   : ∀ (fu : Nat) (wTe : Nat → Int64) (wNx : Nat → Int64) (v2 : Int32) (v3 : Int32) (z : Int32 × (Nat → Int64) × (Nat → Int64)), f_X5_roots_L25 yp ye bPo bTb v1 fu wTe wNx v2 v3 = some z → Ends p l e (rmOf 5 111) s m args below meth c Q cX5_roots G A (some .int) (some (.int z.1)) (mW G q yp ye yg bPo bTb wSh z.2.1 z.2.2 bOs bOn yop bSo bNu ytr yiw wMa wPr bTp yln ypl yfa wLi bSi yhp yhe yhg wHs yhi ++ fr) → ∀ (H : Heap) (locs : List Loc) (ls : Array Slot), Wd G s A (mW G q yp ye yg bPo bTb wSh wTe wNx bOs bOn yop bSo bNu ytr yiw wMa wPr bTp yln ypl yfa wLi bSi yhp yhe yhg wHs yhi ++ fr) H locs → lv_has ls 7 [(0, .ref (q 0)), (1, .int v1), (2, .int v2), (3, .int v3)] → W p l e (rmOf 5 111) s m args below meth c H locs 0 0 Q (F0 m 25 ls []) := by
  have hx := F.x
  have hb := F.b
  intro fu
  induction fu with
  | zero =>
    intro wTe wNx v2 v3 z h
    cases (h : none = some z)
  | succ fu ih =>
    intro wTe wNx v2 v3 z h hE H locs ls hw hl
    rw [f_X5_roots_L25] at h
    refine lv_iload_n hx hb dX5_roots_25 rfl (lv_at hl 3 rfl) ?_
    refine lv_iload_n hx hb dX5_roots_26 rfl (lv_at hl 1 rfl) ?_
    refine lv_icmp_ge (tgt := 95) hx hb dX5_roots_27 (by decide) (fun c1 => ?_) (fun c1 => ?_)
    · replace h := stT c1 h
      refine lv_iload_n hx hb dX5_roots_95 rfl (lv_at hl 2 rfl) ?_
      obtain rfl := Option.some.inj h
      exact hE H locs _ ls hw dX5_roots_96
    · replace h := stF c1 h
      refine lv_lconst (v := 0) hx hb dX5_roots_30 (by decide) ?_
      refine lv_lstore (lv' := [(4, .long 0), (0, .ref (q 0)), (1, .int v1), (2, .int v2), (3, .int v3)]) hx hb dX5_roots_31 hl (by decide) rfl (fun ls hl => ?_)
      refine lv_aload_n hx hb dX5_roots_33 rfl (lv_at hl 1 rfl) ?_
      refine gf_5_66 F hw dX5_roots_34 ?_
      refine lv_istore (lv' := [(6, .int ye), (4, .long 0), (0, .ref (q 0)), (1, .int v1), (2, .int v2), (3, .int v3)]) hx hb dX5_roots_37 hl (by decide) rfl (fun ls hl => ?_)
      exact w_X5_roots_L39 F hA  (fun w0 w1 w2 w3 z h hE H locs ls hw hl => ih w0 w1 w2 w3 z h hE H locs ls hw hl) FU _ _ _ _ _ _ z h hE H locs ls hw (lv_sub hl [2, 3, 4, 5, 1, 0] rfl)
def f_X5_roots (yp : Int32) (ye : Int32) (bPo : Nat → Int32) (bTb : Nat → Int32) (wTe : Nat → Int64) (wNx : Nat → Int64) (v1 : Int32) : Option (Int32 × (Nat → Int64) × (Nat → Int64)) :=
  (f_X5_in v1.toInt64 2 97).bind fun z1 =>
  if z1 = 0 then
  some ((-2), wTe, wNx)
  else
  (f_X5_findsPolynomial yp ye bPo bTb wTe wNx).bind fun z3 =>
  f_X5_roots_L25 yp ye bPo bTb v1 FU z3.1 z3.2 0 0
set_option maxHeartbeats 4000000 in
set_option maxRecDepth 100000 in
theorem k_X5_roots {l : Launch} {G : GG} {q : Nat → Nat} {fr : va_W} {yp : Int32} {ye : Int32} {yg : Int32} {bPo : Nat → Int32} {bTb : Nat → Int32} {wSh : Nat → Int64} {wTe : Nat → Int64} {wNx : Nat → Int64} {bOs : Nat → Int32} {bOn : Nat → Int32} {yop : Int32} {bSo : Nat → Int32} {bNu : Nat → Int32} {ytr : Int32} {yiw : Int32} {wMa : Nat → Int64} {wPr : Nat → Int64} {bTp : Nat → Int32} {yln : Int32} {ypl : Int32} {yfa : Int32} {wLi : Nat → Int64} {bSi : Nat → Int32} {yhp : Int32} {yhe : Int32} {yhg : Int32} {wHs : Nat → Int64} {yhi : Int32} {v1 : Int32} {z : Int32 × (Nat → Int64) × (Nat → Int64)}  (h : f_X5_roots yp ye bPo bTb wTe wNx v1 = some z) : Ct l G yX5_roots cX5_roots 7 (some .int) 5 111 [.ref (q 0), .int v1] (mW G q yp ye yg bPo bTb wSh wTe wNx bOs bOn yop bSo bNu ytr yiw wMa wPr bTp yln ypl yfa wLi bSi yhp yhe yhg wHs yhi ++ fr) (some (.int z.1)) (mW G q yp ye yg bPo bTb wSh z.2.1 z.2.2 bOs bOn yop bSo bNu ytr yiw wMa wPr bTp yln ypl yfa wLi bSi yhp yhe yhg wHs yhi ++ fr) := by
  refine Ct.of (by decide) (Nat.le_of_ble_eq_true rfl) trivial ?_
  intro p e s m args below meth c Q A ls F hw hA hE hl
  have hx := F.x
  have hb := F.b
  unfold f_X5_roots at h
  obtain ⟨H, hH⟩ : ∃ H, H = s.heap := ⟨_, rfl⟩
  obtain ⟨locs, hlo⟩ : ∃ locs : List Loc, locs = [] := ⟨_, rfl⟩
  rw [← hH, ← hlo] at hw ⊢
  have hl : lv_has ls 7 [(0, .ref (q 0)), (1, .int v1)] := hl
  refine lv_iload_n hx hb dX5_roots_0 rfl (lv_at hl 1 rfl) ?_
  refine lv_i2l (v := v1.toInt64) hx hb dX5_roots_1 rfl ?_
  refine lv_ldc2 (v := 2) hx hb F.ow (F.ts _ kc_5_143) dX5_roots_2 ?_
  refine lv_ldc2 (v := 97) hx hb F.ow (F.ts _ kc_5_145) dX5_roots_5 ?_
  obtain ⟨z1, hz1, h⟩ := stB h
  refine ctS (av := [.long v1.toInt64, .long 2, .long 97]) (st0 := ([] : List Value)) (st1 := ([.int z1] : List Value)) F hw hA (k_X5_in hz1) kl_5_90 kd_X5_in rfl ⟨by decide, by decide⟩ hl.1 rfl (Nat.le_of_ble_eq_true rfl) dX5_roots_8 rfl (fun H locs hw => ?_)
  refine lv_if_ne (tgt := 17) hx hb dX5_roots_11 (by decide) (fun c2 => ?_) (fun c2 => ?_)
  · replace h := stF c2 h
    refine lv_aload_n hx hb dX5_roots_17 rfl (lv_at hl 0 rfl) ?_
    obtain ⟨z3, hz3, h⟩ := stB h
    refine ctV (av := []) (st0 := ([] : List Value)) (st1 := ([] : List Value)) F hw hA (k_X5_findsPolynomial hz3) kl_5_140 kd_X5_findsPolynomial rfl ⟨by decide, by decide⟩ 0 rfl rfl hl.1 rfl (Nat.le_of_ble_eq_true rfl) dX5_roots_18 rfl (fun H locs hw => ?_)
    refine lv_iconst (v := 0) hx hb dX5_roots_21 (by decide) ?_
    refine lv_istore_n (lv' := [(2, .int 0), (0, .ref (q 0)), (1, .int v1)]) hx hb dX5_roots_22 rfl hl (by decide) rfl (fun ls hl => ?_)
    refine lv_iconst (v := 0) hx hb dX5_roots_23 (by decide) ?_
    refine lv_istore_n (lv' := [(3, .int 0), (2, .int 0), (0, .ref (q 0)), (1, .int v1)]) hx hb dX5_roots_24 rfl hl (by decide) rfl (fun ls hl => ?_)
    exact w_X5_roots_L25 F hA  FU _ _ _ _ z h hE H locs ls hw (lv_sub hl [2, 3, 1, 0] rfl)
  · replace h := stT c2 h
    refine lv_bipush (v := -2) hx hb dX5_roots_14 (by decide) ?_
    obtain rfl := Option.some.inj h
    exact hE H locs _ ls hw dX5_roots_16
end
end
