section
-- ===== PART A: goes FIRST, ahead of the names: the tables' words, and 'selects' of the private methods out of them =====
/-- a private method of a class that the tables say can be made, by its rows of tables_1 -/
def lw_okq (q : MethodName × Nat) : Prop := (q.1.cls ≠ "java/lang/invoke/MethodHandle" ∧ q.1.cls ≠ "java/lang/invoke/VarHandle") ∧ Cond.instantiable q.1.cls q.2 ∈ tables_1 ∧ Cond.privateMethod q.1 ∈ tables_1 ∧ Cond.instanceMethod q.1 ∈ tables_1
theorem lw_p0 : lw_okq (⟨"BagCounts", "recordState", "()V"⟩, 7) := ⟨⟨by decide +kernel, by decide +kernel⟩, List.mem_of_getElem? (i := 13) (by decide +kernel), List.mem_of_getElem? (i := 220) (by decide +kernel), List.mem_of_getElem? (i := 221) (by decide +kernel)⟩
theorem lw_p1 : lw_okq (⟨"BagCounts$Logic", "load", "(IZ)V"⟩, 3) := ⟨⟨by decide +kernel, by decide +kernel⟩, List.mem_of_getElem? (i := 42) (by decide +kernel), List.mem_of_getElem? (i := 308) (by decide +kernel), List.mem_of_getElem? (i := 309) (by decide +kernel)⟩
theorem lw_p2 : lw_okq (⟨"BagCounts$Logic", "hasSizeFact", "(I)Z"⟩, 3) := ⟨⟨by decide +kernel, by decide +kernel⟩, List.mem_of_getElem? (i := 42) (by decide +kernel), List.mem_of_getElem? (i := 312) (by decide +kernel), List.mem_of_getElem? (i := 313) (by decide +kernel)⟩
theorem lw_p3 : lw_okq (⟨"BagCounts$Rules", "open", "(III)V"⟩, 9) := ⟨⟨by decide +kernel, by decide +kernel⟩, List.mem_of_getElem? (i := 54) (by decide +kernel), List.mem_of_getElem? (i := 329) (by decide +kernel), List.mem_of_getElem? (i := 330) (by decide +kernel)⟩
theorem lw_p4 : lw_okq (⟨"BagCounts$Rules", "plus", "(II)V"⟩, 9) := ⟨⟨by decide +kernel, by decide +kernel⟩, List.mem_of_getElem? (i := 54) (by decide +kernel), List.mem_of_getElem? (i := 336) (by decide +kernel), List.mem_of_getElem? (i := 337) (by decide +kernel)⟩
theorem lw_p5 : lw_okq (⟨"BagCounts$Rules", "addTerm", "(II)V"⟩, 9) := ⟨⟨by decide +kernel, by decide +kernel⟩, List.mem_of_getElem? (i := 54) (by decide +kernel), List.mem_of_getElem? (i := 340) (by decide +kernel), List.mem_of_getElem? (i := 341) (by decide +kernel)⟩
theorem lw_p6 : lw_okq (⟨"BagCounts$Gaps", "apply", "(LBagCounts$Facts;I)V"⟩, 3) := ⟨⟨by decide +kernel, by decide +kernel⟩, List.mem_of_getElem? (i := 116) (by decide +kernel), List.mem_of_getElem? (i := 348) (by decide +kernel), List.mem_of_getElem? (i := 349) (by decide +kernel)⟩
theorem lw_p7 : lw_okq (⟨"BagCounts$Gaps", "narrow", "(IIII)V"⟩, 3) := ⟨⟨by decide +kernel, by decide +kernel⟩, List.mem_of_getElem? (i := 116) (by decide +kernel), List.mem_of_getElem? (i := 353) (by decide +kernel), List.mem_of_getElem? (i := 354) (by decide +kernel)⟩
theorem lw_p8 : lw_okq (⟨"BagCounts$Gaps", "of", "(III)I"⟩, 3) := ⟨⟨by decide +kernel, by decide +kernel⟩, List.mem_of_getElem? (i := 116) (by decide +kernel), List.mem_of_getElem? (i := 357) (by decide +kernel), List.mem_of_getElem? (i := 358) (by decide +kernel)⟩
theorem lw_p9 : lw_okq (⟨"BagCounts$Gaps", "chain", "(I)V"⟩, 3) := ⟨⟨by decide +kernel, by decide +kernel⟩, List.mem_of_getElem? (i := 116) (by decide +kernel), List.mem_of_getElem? (i := 364) (by decide +kernel), List.mem_of_getElem? (i := 365) (by decide +kernel)⟩
theorem lw_p10 : lw_okq (⟨"BagCounts$Logic", "addFact", "(IZ)V"⟩, 3) := ⟨⟨by decide +kernel, by decide +kernel⟩, List.mem_of_getElem? (i := 42) (by decide +kernel), List.mem_of_getElem? (i := 377) (by decide +kernel), List.mem_of_getElem? (i := 378) (by decide +kernel)⟩
theorem lw_p11 : lw_okq (⟨"BagCounts$Logic", "addColumn", "(IIIII)V"⟩, 3) := ⟨⟨by decide +kernel, by decide +kernel⟩, List.mem_of_getElem? (i := 42) (by decide +kernel), List.mem_of_getElem? (i := 392) (by decide +kernel), List.mem_of_getElem? (i := 393) (by decide +kernel)⟩
theorem lw_p12 : lw_okq (⟨"BagCounts$Search", "settle", "(II)Z"⟩, 5) := ⟨⟨by decide +kernel, by decide +kernel⟩, List.mem_of_getElem? (i := 48) (by decide +kernel), List.mem_of_getElem? (i := 413) (by decide +kernel), List.mem_of_getElem? (i := 414) (by decide +kernel)⟩
theorem lw_p13 : lw_okq (⟨"BagCounts$Search", "tightenLinear", "(II)Z"⟩, 5) := ⟨⟨by decide +kernel, by decide +kernel⟩, List.mem_of_getElem? (i := 48) (by decide +kernel), List.mem_of_getElem? (i := 417) (by decide +kernel), List.mem_of_getElem? (i := 418) (by decide +kernel)⟩
theorem lw_p14 : lw_okq (⟨"BagCounts$Search", "leastTerm", "(II)I"⟩, 5) := ⟨⟨by decide +kernel, by decide +kernel⟩, List.mem_of_getElem? (i := 48) (by decide +kernel), List.mem_of_getElem? (i := 421) (by decide +kernel), List.mem_of_getElem? (i := 422) (by decide +kernel)⟩
theorem lw_p15 : lw_okq (⟨"BagCounts$Search", "greatestTerm", "(II)I"⟩, 5) := ⟨⟨by decide +kernel, by decide +kernel⟩, List.mem_of_getElem? (i := 48) (by decide +kernel), List.mem_of_getElem? (i := 425) (by decide +kernel), List.mem_of_getElem? (i := 426) (by decide +kernel)⟩
def lw_privs_1 : List (MethodName × Nat) := [(⟨"BagCounts", "recordState", "()V"⟩, 7), (⟨"BagCounts$Logic", "load", "(IZ)V"⟩, 3), (⟨"BagCounts$Logic", "hasSizeFact", "(I)Z"⟩, 3), (⟨"BagCounts$Rules", "open", "(III)V"⟩, 9), (⟨"BagCounts$Rules", "plus", "(II)V"⟩, 9), (⟨"BagCounts$Rules", "addTerm", "(II)V"⟩, 9), (⟨"BagCounts$Gaps", "apply", "(LBagCounts$Facts;I)V"⟩, 3), (⟨"BagCounts$Gaps", "narrow", "(IIII)V"⟩, 3), (⟨"BagCounts$Gaps", "of", "(III)I"⟩, 3), (⟨"BagCounts$Gaps", "chain", "(I)V"⟩, 3), (⟨"BagCounts$Logic", "addFact", "(IZ)V"⟩, 3), (⟨"BagCounts$Logic", "addColumn", "(IIIII)V"⟩, 3), (⟨"BagCounts$Search", "settle", "(II)Z"⟩, 5), (⟨"BagCounts$Search", "tightenLinear", "(II)Z"⟩, 5), (⟨"BagCounts$Search", "leastTerm", "(II)I"⟩, 5), (⟨"BagCounts$Search", "greatestTerm", "(II)I"⟩, 5)]
theorem lw_r1 : ∀ q ∈ lw_privs_1, lw_okq q := List.forall_mem_cons.mpr ⟨lw_p0, List.forall_mem_cons.mpr ⟨lw_p1, List.forall_mem_cons.mpr ⟨lw_p2, List.forall_mem_cons.mpr ⟨lw_p3, List.forall_mem_cons.mpr ⟨lw_p4, List.forall_mem_cons.mpr ⟨lw_p5, List.forall_mem_cons.mpr ⟨lw_p6, List.forall_mem_cons.mpr ⟨lw_p7, List.forall_mem_cons.mpr ⟨lw_p8, List.forall_mem_cons.mpr ⟨lw_p9, List.forall_mem_cons.mpr ⟨lw_p10, List.forall_mem_cons.mpr ⟨lw_p11, List.forall_mem_cons.mpr ⟨lw_p12, List.forall_mem_cons.mpr ⟨lw_p13, List.forall_mem_cons.mpr ⟨lw_p14, List.forall_mem_cons.mpr ⟨lw_p15, fun _ h => absurd h List.not_mem_nil⟩⟩⟩⟩⟩⟩⟩⟩⟩⟩⟩⟩⟩⟩⟩⟩
theorem lw_p16 : lw_okq (⟨"BagCounts$Search", "keep", "(IIII)Z"⟩, 5) := ⟨⟨by decide +kernel, by decide +kernel⟩, List.mem_of_getElem? (i := 48) (by decide +kernel), List.mem_of_getElem? (i := 429) (by decide +kernel), List.mem_of_getElem? (i := 430) (by decide +kernel)⟩
theorem lw_p17 : lw_okq (⟨"BagCounts$Search", "tightenChoice", "(II)Z"⟩, 5) := ⟨⟨by decide +kernel, by decide +kernel⟩, List.mem_of_getElem? (i := 48) (by decide +kernel), List.mem_of_getElem? (i := 433) (by decide +kernel), List.mem_of_getElem? (i := 434) (by decide +kernel)⟩
theorem lw_p18 : lw_okq (⟨"BagCounts$Search", "waysFrom", "(II)I"⟩, 5) := ⟨⟨by decide +kernel, by decide +kernel⟩, List.mem_of_getElem? (i := 48) (by decide +kernel), List.mem_of_getElem? (i := 437) (by decide +kernel), List.mem_of_getElem? (i := 438) (by decide +kernel)⟩
theorem lw_p19 : lw_okq (⟨"BagCounts$Search", "unfixed", "(II)I"⟩, 5) := ⟨⟨by decide +kernel, by decide +kernel⟩, List.mem_of_getElem? (i := 48) (by decide +kernel), List.mem_of_getElem? (i := 444) (by decide +kernel), List.mem_of_getElem? (i := 445) (by decide +kernel)⟩
theorem lw_p20 : lw_okq (⟨"BagCounts$Search", "partOf", "(II)I"⟩, 5) := ⟨⟨by decide +kernel, by decide +kernel⟩, List.mem_of_getElem? (i := 48) (by decide +kernel), List.mem_of_getElem? (i := 448) (by decide +kernel), List.mem_of_getElem? (i := 449) (by decide +kernel)⟩
theorem lw_p21 : lw_okq (⟨"BagCounts$Search", "isSure", "(II)Z"⟩, 5) := ⟨⟨by decide +kernel, by decide +kernel⟩, List.mem_of_getElem? (i := 48) (by decide +kernel), List.mem_of_getElem? (i := 452) (by decide +kernel), List.mem_of_getElem? (i := 453) (by decide +kernel)⟩
theorem lw_p22 : lw_okq (⟨"BagCounts$Search", "choose", "(II)I"⟩, 5) := ⟨⟨by decide +kernel, by decide +kernel⟩, List.mem_of_getElem? (i := 48) (by decide +kernel), List.mem_of_getElem? (i := 456) (by decide +kernel), List.mem_of_getElem? (i := 457) (by decide +kernel)⟩
theorem lw_p23 : lw_okq (⟨"BagCounts$Search", "fix", "(III)V"⟩, 5) := ⟨⟨by decide +kernel, by decide +kernel⟩, List.mem_of_getElem? (i := 48) (by decide +kernel), List.mem_of_getElem? (i := 460) (by decide +kernel), List.mem_of_getElem? (i := 461) (by decide +kernel)⟩
theorem lw_p24 : lw_okq (⟨"BagCounts$Logic", "addOpposite", "(II)V"⟩, 3) := ⟨⟨by decide +kernel, by decide +kernel⟩, List.mem_of_getElem? (i := 42) (by decide +kernel), List.mem_of_getElem? (i := 521) (by decide +kernel), List.mem_of_getElem? (i := 522) (by decide +kernel)⟩
theorem lw_p25 : lw_okq (⟨"BagCounts$Logic", "restrictOutside", "(IIII)V"⟩, 3) := ⟨⟨by decide +kernel, by decide +kernel⟩, List.mem_of_getElem? (i := 42) (by decide +kernel), List.mem_of_getElem? (i := 525) (by decide +kernel), List.mem_of_getElem? (i := 526) (by decide +kernel)⟩
theorem lw_p26 : lw_okq (⟨"BagCounts$Logic", "addOppositeOfKind", "(IIIII)V"⟩, 3) := ⟨⟨by decide +kernel, by decide +kernel⟩, List.mem_of_getElem? (i := 42) (by decide +kernel), List.mem_of_getElem? (i := 529) (by decide +kernel), List.mem_of_getElem? (i := 530) (by decide +kernel)⟩
theorem lw_p27 : lw_okq (⟨"BagCounts$Pad", "readFact", "()Z"⟩, 9) := ⟨⟨by decide +kernel, by decide +kernel⟩, List.mem_of_getElem? (i := 142) (by decide +kernel), List.mem_of_getElem? (i := 579) (by decide +kernel), List.mem_of_getElem? (i := 580) (by decide +kernel)⟩
theorem lw_p28 : lw_okq (⟨"BagCounts$Pad", "skip", "(C)Z"⟩, 9) := ⟨⟨by decide +kernel, by decide +kernel⟩, List.mem_of_getElem? (i := 142) (by decide +kernel), List.mem_of_getElem? (i := 583) (by decide +kernel), List.mem_of_getElem? (i := 584) (by decide +kernel)⟩
theorem lw_p29 : lw_okq (⟨"BagCounts$Pad", "take", "(CC)I"⟩, 9) := ⟨⟨by decide +kernel, by decide +kernel⟩, List.mem_of_getElem? (i := 142) (by decide +kernel), List.mem_of_getElem? (i := 587) (by decide +kernel), List.mem_of_getElem? (i := 588) (by decide +kernel)⟩
theorem lw_p30 : lw_okq (⟨"BagCounts$Pad", "readSize", "()Z"⟩, 9) := ⟨⟨by decide +kernel, by decide +kernel⟩, List.mem_of_getElem? (i := 142) (by decide +kernel), List.mem_of_getElem? (i := 591) (by decide +kernel), List.mem_of_getElem? (i := 592) (by decide +kernel)⟩
theorem lw_p31 : lw_okq (⟨"BagCounts$Pad", "takeNumber", "()I"⟩, 9) := ⟨⟨by decide +kernel, by decide +kernel⟩, List.mem_of_getElem? (i := 142) (by decide +kernel), List.mem_of_getElem? (i := 595) (by decide +kernel), List.mem_of_getElem? (i := 596) (by decide +kernel)⟩
def lw_privs_2 : List (MethodName × Nat) := [(⟨"BagCounts$Search", "keep", "(IIII)Z"⟩, 5), (⟨"BagCounts$Search", "tightenChoice", "(II)Z"⟩, 5), (⟨"BagCounts$Search", "waysFrom", "(II)I"⟩, 5), (⟨"BagCounts$Search", "unfixed", "(II)I"⟩, 5), (⟨"BagCounts$Search", "partOf", "(II)I"⟩, 5), (⟨"BagCounts$Search", "isSure", "(II)Z"⟩, 5), (⟨"BagCounts$Search", "choose", "(II)I"⟩, 5), (⟨"BagCounts$Search", "fix", "(III)V"⟩, 5), (⟨"BagCounts$Logic", "addOpposite", "(II)V"⟩, 3), (⟨"BagCounts$Logic", "restrictOutside", "(IIII)V"⟩, 3), (⟨"BagCounts$Logic", "addOppositeOfKind", "(IIIII)V"⟩, 3), (⟨"BagCounts$Pad", "readFact", "()Z"⟩, 9), (⟨"BagCounts$Pad", "skip", "(C)Z"⟩, 9), (⟨"BagCounts$Pad", "take", "(CC)I"⟩, 9), (⟨"BagCounts$Pad", "readSize", "()Z"⟩, 9), (⟨"BagCounts$Pad", "takeNumber", "()I"⟩, 9)]
theorem lw_r2 : ∀ q ∈ lw_privs_2, lw_okq q := List.forall_mem_cons.mpr ⟨lw_p16, List.forall_mem_cons.mpr ⟨lw_p17, List.forall_mem_cons.mpr ⟨lw_p18, List.forall_mem_cons.mpr ⟨lw_p19, List.forall_mem_cons.mpr ⟨lw_p20, List.forall_mem_cons.mpr ⟨lw_p21, List.forall_mem_cons.mpr ⟨lw_p22, List.forall_mem_cons.mpr ⟨lw_p23, List.forall_mem_cons.mpr ⟨lw_p24, List.forall_mem_cons.mpr ⟨lw_p25, List.forall_mem_cons.mpr ⟨lw_p26, List.forall_mem_cons.mpr ⟨lw_p27, List.forall_mem_cons.mpr ⟨lw_p28, List.forall_mem_cons.mpr ⟨lw_p29, List.forall_mem_cons.mpr ⟨lw_p30, List.forall_mem_cons.mpr ⟨lw_p31, fun _ h => absurd h List.not_mem_nil⟩⟩⟩⟩⟩⟩⟩⟩⟩⟩⟩⟩⟩⟩⟩⟩
theorem lw_p32 : lw_okq (⟨"BagCounts$Pad", "takeRangeEnd", "(I)I"⟩, 9) := ⟨⟨by decide +kernel, by decide +kernel⟩, List.mem_of_getElem? (i := 142) (by decide +kernel), List.mem_of_getElem? (i := 599) (by decide +kernel), List.mem_of_getElem? (i := 600) (by decide +kernel)⟩
theorem lw_p33 : lw_okq (⟨"BagCounts$Pad", "readOfKind", "()Z"⟩, 9) := ⟨⟨by decide +kernel, by decide +kernel⟩, List.mem_of_getElem? (i := 142) (by decide +kernel), List.mem_of_getElem? (i := 603) (by decide +kernel), List.mem_of_getElem? (i := 604) (by decide +kernel)⟩
theorem lw_p34 : lw_okq (⟨"BagCounts$Pad", "readDifference", "()Z"⟩, 9) := ⟨⟨by decide +kernel, by decide +kernel⟩, List.mem_of_getElem? (i := 142) (by decide +kernel), List.mem_of_getElem? (i := 607) (by decide +kernel), List.mem_of_getElem? (i := 608) (by decide +kernel)⟩
theorem lw_p35 : lw_okq (⟨"BagCounts$Pad", "readOfThreeBags", "()Z"⟩, 9) := ⟨⟨by decide +kernel, by decide +kernel⟩, List.mem_of_getElem? (i := 142) (by decide +kernel), List.mem_of_getElem? (i := 611) (by decide +kernel), List.mem_of_getElem? (i := 612) (by decide +kernel)⟩
theorem lw_p36 : lw_okq (⟨"BagCounts$Pad", "takeSign", "()I"⟩, 9) := ⟨⟨by decide +kernel, by decide +kernel⟩, List.mem_of_getElem? (i := 142) (by decide +kernel), List.mem_of_getElem? (i := 615) (by decide +kernel), List.mem_of_getElem? (i := 616) (by decide +kernel)⟩
theorem lw_p37 : lw_okq (⟨"BagCountsModel", "keep", "()V"⟩, 23) := ⟨⟨by decide +kernel, by decide +kernel⟩, List.mem_of_getElem? (i := 650) (by decide +kernel), List.mem_of_getElem? (i := 734) (by decide +kernel), List.mem_of_getElem? (i := 735) (by decide +kernel)⟩
theorem lw_p38 : lw_okq (⟨"BagCountsModel", "tryFact", "(IIIIIIZ)I"⟩, 23) := ⟨⟨by decide +kernel, by decide +kernel⟩, List.mem_of_getElem? (i := 650) (by decide +kernel), List.mem_of_getElem? (i := 742) (by decide +kernel), List.mem_of_getElem? (i := 743) (by decide +kernel)⟩
theorem lw_p39 : lw_okq (⟨"BagCountsModel", "keepIf", "(Z)V"⟩, 23) := ⟨⟨by decide +kernel, by decide +kernel⟩, List.mem_of_getElem? (i := 650) (by decide +kernel), List.mem_of_getElem? (i := 755) (by decide +kernel), List.mem_of_getElem? (i := 756) (by decide +kernel)⟩
theorem lw_p40 : lw_okq (⟨"BagCountsModel", "isToldFact", "(I)Z"⟩, 23) := ⟨⟨by decide +kernel, by decide +kernel⟩, List.mem_of_getElem? (i := 650) (by decide +kernel), List.mem_of_getElem? (i := 763) (by decide +kernel), List.mem_of_getElem? (i := 764) (by decide +kernel)⟩
theorem lw_p41 : lw_okq (⟨"BagCountsModel", "of", "(II)I"⟩, 23) := ⟨⟨by decide +kernel, by decide +kernel⟩, List.mem_of_getElem? (i := 650) (by decide +kernel), List.mem_of_getElem? (i := 771) (by decide +kernel), List.mem_of_getElem? (i := 772) (by decide +kernel)⟩
theorem lw_p42 : lw_okq (⟨"BagCountsModel", "isSolvedNow", "()Z"⟩, 23) := ⟨⟨by decide +kernel, by decide +kernel⟩, List.mem_of_getElem? (i := 650) (by decide +kernel), List.mem_of_getElem? (i := 783) (by decide +kernel), List.mem_of_getElem? (i := 784) (by decide +kernel)⟩
theorem lw_p43 : lw_okq (⟨"BagCountsModel", "allFacts", "()I"⟩, 23) := ⟨⟨by decide +kernel, by decide +kernel⟩, List.mem_of_getElem? (i := 650) (by decide +kernel), List.mem_of_getElem? (i := 787) (by decide +kernel), List.mem_of_getElem? (i := 788) (by decide +kernel)⟩
theorem lw_p44 : lw_okq (⟨"BagCountsModel", "isSolved", "(I)Z"⟩, 23) := ⟨⟨by decide +kernel, by decide +kernel⟩, List.mem_of_getElem? (i := 650) (by decide +kernel), List.mem_of_getElem? (i := 791) (by decide +kernel), List.mem_of_getElem? (i := 792) (by decide +kernel)⟩
theorem lw_p45 : lw_okq (⟨"BagCountsModel", "layAll", "()V"⟩, 23) := ⟨⟨by decide +kernel, by decide +kernel⟩, List.mem_of_getElem? (i := 650) (by decide +kernel), List.mem_of_getElem? (i := 795) (by decide +kernel), List.mem_of_getElem? (i := 796) (by decide +kernel)⟩
theorem lw_p46 : lw_okq (⟨"BagCountsModel", "isSolvedByParts", "()Z"⟩, 23) := ⟨⟨by decide +kernel, by decide +kernel⟩, List.mem_of_getElem? (i := 650) (by decide +kernel), List.mem_of_getElem? (i := 799) (by decide +kernel), List.mem_of_getElem? (i := 800) (by decide +kernel)⟩
theorem lw_p47 : lw_okq (⟨"BagCountsModel", "narrow", "()Z"⟩, 23) := ⟨⟨by decide +kernel, by decide +kernel⟩, List.mem_of_getElem? (i := 650) (by decide +kernel), List.mem_of_getElem? (i := 803) (by decide +kernel), List.mem_of_getElem? (i := 804) (by decide +kernel)⟩
def lw_privs_3 : List (MethodName × Nat) := [(⟨"BagCounts$Pad", "takeRangeEnd", "(I)I"⟩, 9), (⟨"BagCounts$Pad", "readOfKind", "()Z"⟩, 9), (⟨"BagCounts$Pad", "readDifference", "()Z"⟩, 9), (⟨"BagCounts$Pad", "readOfThreeBags", "()Z"⟩, 9), (⟨"BagCounts$Pad", "takeSign", "()I"⟩, 9), (⟨"BagCountsModel", "keep", "()V"⟩, 23), (⟨"BagCountsModel", "tryFact", "(IIIIIIZ)I"⟩, 23), (⟨"BagCountsModel", "keepIf", "(Z)V"⟩, 23), (⟨"BagCountsModel", "isToldFact", "(I)Z"⟩, 23), (⟨"BagCountsModel", "of", "(II)I"⟩, 23), (⟨"BagCountsModel", "isSolvedNow", "()Z"⟩, 23), (⟨"BagCountsModel", "allFacts", "()I"⟩, 23), (⟨"BagCountsModel", "isSolved", "(I)Z"⟩, 23), (⟨"BagCountsModel", "layAll", "()V"⟩, 23), (⟨"BagCountsModel", "isSolvedByParts", "()Z"⟩, 23), (⟨"BagCountsModel", "narrow", "()Z"⟩, 23)]
theorem lw_r3 : ∀ q ∈ lw_privs_3, lw_okq q := List.forall_mem_cons.mpr ⟨lw_p32, List.forall_mem_cons.mpr ⟨lw_p33, List.forall_mem_cons.mpr ⟨lw_p34, List.forall_mem_cons.mpr ⟨lw_p35, List.forall_mem_cons.mpr ⟨lw_p36, List.forall_mem_cons.mpr ⟨lw_p37, List.forall_mem_cons.mpr ⟨lw_p38, List.forall_mem_cons.mpr ⟨lw_p39, List.forall_mem_cons.mpr ⟨lw_p40, List.forall_mem_cons.mpr ⟨lw_p41, List.forall_mem_cons.mpr ⟨lw_p42, List.forall_mem_cons.mpr ⟨lw_p43, List.forall_mem_cons.mpr ⟨lw_p44, List.forall_mem_cons.mpr ⟨lw_p45, List.forall_mem_cons.mpr ⟨lw_p46, List.forall_mem_cons.mpr ⟨lw_p47, fun _ h => absurd h List.not_mem_nil⟩⟩⟩⟩⟩⟩⟩⟩⟩⟩⟩⟩⟩⟩⟩⟩
theorem lw_p48 : lw_okq (⟨"BagCountsModel", "isEmpty", "()Z"⟩, 23) := ⟨⟨by decide +kernel, by decide +kernel⟩, List.mem_of_getElem? (i := 650) (by decide +kernel), List.mem_of_getElem? (i := 807) (by decide +kernel), List.mem_of_getElem? (i := 808) (by decide +kernel)⟩
theorem lw_p49 : lw_okq (⟨"BagCountsModel", "narrowBy", "(IIIIII)V"⟩, 23) := ⟨⟨by decide +kernel, by decide +kernel⟩, List.mem_of_getElem? (i := 650) (by decide +kernel), List.mem_of_getElem? (i := 811) (by decide +kernel), List.mem_of_getElem? (i := 812) (by decide +kernel)⟩
theorem lw_p50 : lw_okq (⟨"BagCountsModel", "raise", "(II)V"⟩, 23) := ⟨⟨by decide +kernel, by decide +kernel⟩, List.mem_of_getElem? (i := 650) (by decide +kernel), List.mem_of_getElem? (i := 815) (by decide +kernel), List.mem_of_getElem? (i := 816) (by decide +kernel)⟩
theorem lw_p51 : lw_okq (⟨"BagCountsModel", "lower", "(II)V"⟩, 23) := ⟨⟨by decide +kernel, by decide +kernel⟩, List.mem_of_getElem? (i := 650) (by decide +kernel), List.mem_of_getElem? (i := 819) (by decide +kernel), List.mem_of_getElem? (i := 820) (by decide +kernel)⟩
theorem lw_p52 : lw_okq (⟨"BagCountsModel", "narrowSize", "(III)V"⟩, 23) := ⟨⟨by decide +kernel, by decide +kernel⟩, List.mem_of_getElem? (i := 650) (by decide +kernel), List.mem_of_getElem? (i := 823) (by decide +kernel), List.mem_of_getElem? (i := 824) (by decide +kernel)⟩
theorem lw_p53 : lw_okq (⟨"BagCountsModel", "narrowMore", "(III)V"⟩, 23) := ⟨⟨by decide +kernel, by decide +kernel⟩, List.mem_of_getElem? (i := 650) (by decide +kernel), List.mem_of_getElem? (i := 827) (by decide +kernel), List.mem_of_getElem? (i := 828) (by decide +kernel)⟩
theorem lw_p54 : lw_okq (⟨"BagCountsModel", "narrowBelow", "(III)V"⟩, 23) := ⟨⟨by decide +kernel, by decide +kernel⟩, List.mem_of_getElem? (i := 650) (by decide +kernel), List.mem_of_getElem? (i := 831) (by decide +kernel), List.mem_of_getElem? (i := 832) (by decide +kernel)⟩
theorem lw_p55 : lw_okq (⟨"BagCountsModel", "narrowAbove", "(III)V"⟩, 23) := ⟨⟨by decide +kernel, by decide +kernel⟩, List.mem_of_getElem? (i := 650) (by decide +kernel), List.mem_of_getElem? (i := 835) (by decide +kernel), List.mem_of_getElem? (i := 836) (by decide +kernel)⟩
theorem lw_p56 : lw_okq (⟨"BagCountsModel", "narrowKind", "(IIII)V"⟩, 23) := ⟨⟨by decide +kernel, by decide +kernel⟩, List.mem_of_getElem? (i := 650) (by decide +kernel), List.mem_of_getElem? (i := 839) (by decide +kernel), List.mem_of_getElem? (i := 840) (by decide +kernel)⟩
theorem lw_p57 : lw_okq (⟨"BagCountsModel", "narrowSum", "(III)V"⟩, 23) := ⟨⟨by decide +kernel, by decide +kernel⟩, List.mem_of_getElem? (i := 650) (by decide +kernel), List.mem_of_getElem? (i := 843) (by decide +kernel), List.mem_of_getElem? (i := 844) (by decide +kernel)⟩
theorem lw_p58 : lw_okq (⟨"BagCountsModel", "narrowTwice", "(II)V"⟩, 23) := ⟨⟨by decide +kernel, by decide +kernel⟩, List.mem_of_getElem? (i := 650) (by decide +kernel), List.mem_of_getElem? (i := 847) (by decide +kernel), List.mem_of_getElem? (i := 848) (by decide +kernel)⟩
theorem lw_p59 : lw_okq (⟨"BagCountsModel", "narrowGreatest", "(III)V"⟩, 23) := ⟨⟨by decide +kernel, by decide +kernel⟩, List.mem_of_getElem? (i := 650) (by decide +kernel), List.mem_of_getElem? (i := 851) (by decide +kernel), List.mem_of_getElem? (i := 852) (by decide +kernel)⟩
theorem lw_p60 : lw_okq (⟨"BagCountsModel", "narrowLeast", "(III)V"⟩, 23) := ⟨⟨by decide +kernel, by decide +kernel⟩, List.mem_of_getElem? (i := 650) (by decide +kernel), List.mem_of_getElem? (i := 858) (by decide +kernel), List.mem_of_getElem? (i := 859) (by decide +kernel)⟩
theorem lw_p61 : lw_okq (⟨"BagCountsModel", "part", "(I)I"⟩, 23) := ⟨⟨by decide +kernel, by decide +kernel⟩, List.mem_of_getElem? (i := 650) (by decide +kernel), List.mem_of_getElem? (i := 865) (by decide +kernel), List.mem_of_getElem? (i := 866) (by decide +kernel)⟩
theorem lw_p62 : lw_okq (⟨"BagCountsModel", "joinedTo", "(I)I"⟩, 23) := ⟨⟨by decide +kernel, by decide +kernel⟩, List.mem_of_getElem? (i := 650) (by decide +kernel), List.mem_of_getElem? (i := 869) (by decide +kernel), List.mem_of_getElem? (i := 870) (by decide +kernel)⟩
theorem lw_p63 : lw_okq (⟨"BagCountsModel", "search", "(II)I"⟩, 23) := ⟨⟨by decide +kernel, by decide +kernel⟩, List.mem_of_getElem? (i := 650) (by decide +kernel), List.mem_of_getElem? (i := 879) (by decide +kernel), List.mem_of_getElem? (i := 880) (by decide +kernel)⟩
def lw_privs_4 : List (MethodName × Nat) := [(⟨"BagCountsModel", "isEmpty", "()Z"⟩, 23), (⟨"BagCountsModel", "narrowBy", "(IIIIII)V"⟩, 23), (⟨"BagCountsModel", "raise", "(II)V"⟩, 23), (⟨"BagCountsModel", "lower", "(II)V"⟩, 23), (⟨"BagCountsModel", "narrowSize", "(III)V"⟩, 23), (⟨"BagCountsModel", "narrowMore", "(III)V"⟩, 23), (⟨"BagCountsModel", "narrowBelow", "(III)V"⟩, 23), (⟨"BagCountsModel", "narrowAbove", "(III)V"⟩, 23), (⟨"BagCountsModel", "narrowKind", "(IIII)V"⟩, 23), (⟨"BagCountsModel", "narrowSum", "(III)V"⟩, 23), (⟨"BagCountsModel", "narrowTwice", "(II)V"⟩, 23), (⟨"BagCountsModel", "narrowGreatest", "(III)V"⟩, 23), (⟨"BagCountsModel", "narrowLeast", "(III)V"⟩, 23), (⟨"BagCountsModel", "part", "(I)I"⟩, 23), (⟨"BagCountsModel", "joinedTo", "(I)I"⟩, 23), (⟨"BagCountsModel", "search", "(II)I"⟩, 23)]
theorem lw_r4 : ∀ q ∈ lw_privs_4, lw_okq q := List.forall_mem_cons.mpr ⟨lw_p48, List.forall_mem_cons.mpr ⟨lw_p49, List.forall_mem_cons.mpr ⟨lw_p50, List.forall_mem_cons.mpr ⟨lw_p51, List.forall_mem_cons.mpr ⟨lw_p52, List.forall_mem_cons.mpr ⟨lw_p53, List.forall_mem_cons.mpr ⟨lw_p54, List.forall_mem_cons.mpr ⟨lw_p55, List.forall_mem_cons.mpr ⟨lw_p56, List.forall_mem_cons.mpr ⟨lw_p57, List.forall_mem_cons.mpr ⟨lw_p58, List.forall_mem_cons.mpr ⟨lw_p59, List.forall_mem_cons.mpr ⟨lw_p60, List.forall_mem_cons.mpr ⟨lw_p61, List.forall_mem_cons.mpr ⟨lw_p62, List.forall_mem_cons.mpr ⟨lw_p63, fun _ h => absurd h List.not_mem_nil⟩⟩⟩⟩⟩⟩⟩⟩⟩⟩⟩⟩⟩⟩⟩⟩
theorem lw_p64 : lw_okq (⟨"BagCountsModel", "narrowest", "(I)I"⟩, 23) := ⟨⟨by decide +kernel, by decide +kernel⟩, List.mem_of_getElem? (i := 650) (by decide +kernel), List.mem_of_getElem? (i := 883) (by decide +kernel), List.mem_of_getElem? (i := 884) (by decide +kernel)⟩
theorem lw_p65 : lw_okq (⟨"BagCountsModel", "push", "(I)V"⟩, 23) := ⟨⟨by decide +kernel, by decide +kernel⟩, List.mem_of_getElem? (i := 650) (by decide +kernel), List.mem_of_getElem? (i := 887) (by decide +kernel), List.mem_of_getElem? (i := 888) (by decide +kernel)⟩
theorem lw_p66 : lw_okq (⟨"BagCountsModel", "pull", "(I)V"⟩, 23) := ⟨⟨by decide +kernel, by decide +kernel⟩, List.mem_of_getElem? (i := 650) (by decide +kernel), List.mem_of_getElem? (i := 891) (by decide +kernel), List.mem_of_getElem? (i := 892) (by decide +kernel)⟩
theorem lw_p67 : lw_okq (⟨"BagCountsModel", "boundBy", "(IIII)I"⟩, 23) := ⟨⟨by decide +kernel, by decide +kernel⟩, List.mem_of_getElem? (i := 650) (by decide +kernel), List.mem_of_getElem? (i := 902) (by decide +kernel), List.mem_of_getElem? (i := 903) (by decide +kernel)⟩
theorem lw_p68 : lw_okq (⟨"BagCountsModel", "isSolvedWith", "(IIIIIII)Z"⟩, 23) := ⟨⟨by decide +kernel, by decide +kernel⟩, List.mem_of_getElem? (i := 650) (by decide +kernel), List.mem_of_getElem? (i := 906) (by decide +kernel), List.mem_of_getElem? (i := 907) (by decide +kernel)⟩
theorem lw_p69 : lw_okq (⟨"BagCountsModel", "add", "(IIIIII)V"⟩, 23) := ⟨⟨by decide +kernel, by decide +kernel⟩, List.mem_of_getElem? (i := 650) (by decide +kernel), List.mem_of_getElem? (i := 910) (by decide +kernel), List.mem_of_getElem? (i := 911) (by decide +kernel)⟩
theorem lw_p70 : lw_okq (⟨"BagCountsModel", "findFirst", "()V"⟩, 23) := ⟨⟨by decide +kernel, by decide +kernel⟩, List.mem_of_getElem? (i := 650) (by decide +kernel), List.mem_of_getElem? (i := 922) (by decide +kernel), List.mem_of_getElem? (i := 923) (by decide +kernel)⟩
theorem lw_p71 : lw_okq (⟨"BagCountsModel", "isSolvedFrom", "(I)Z"⟩, 23) := ⟨⟨by decide +kernel, by decide +kernel⟩, List.mem_of_getElem? (i := 650) (by decide +kernel), List.mem_of_getElem? (i := 926) (by decide +kernel), List.mem_of_getElem? (i := 927) (by decide +kernel)⟩
theorem lw_p72 : lw_okq (⟨"BagCountsModel", "countAll", "(I)I"⟩, 23) := ⟨⟨by decide +kernel, by decide +kernel⟩, List.mem_of_getElem? (i := 650) (by decide +kernel), List.mem_of_getElem? (i := 934) (by decide +kernel), List.mem_of_getElem? (i := 935) (by decide +kernel)⟩
theorem lw_p73 : lw_okq (⟨"BagCountsModel", "canFail", "(IIIIIII)Z"⟩, 23) := ⟨⟨by decide +kernel, by decide +kernel⟩, List.mem_of_getElem? (i := 650) (by decide +kernel), List.mem_of_getElem? (i := 942) (by decide +kernel), List.mem_of_getElem? (i := 943) (by decide +kernel)⟩
theorem lw_p74 : lw_okq (⟨"BagCountsModel", "failsAt", "(IIIIII)Z"⟩, 23) := ⟨⟨by decide +kernel, by decide +kernel⟩, List.mem_of_getElem? (i := 650) (by decide +kernel), List.mem_of_getElem? (i := 946) (by decide +kernel), List.mem_of_getElem? (i := 947) (by decide +kernel)⟩
theorem lw_p75 : lw_okq (⟨"BagCountsModel", "isSolvedWithBoth", "(IIIIIZ)Z"⟩, 23) := ⟨⟨by decide +kernel, by decide +kernel⟩, List.mem_of_getElem? (i := 650) (by decide +kernel), List.mem_of_getElem? (i := 950) (by decide +kernel), List.mem_of_getElem? (i := 951) (by decide +kernel)⟩
theorem lw_p76 : lw_okq (⟨"BagCountsModel", "takeFact", "()V"⟩, 23) := ⟨⟨by decide +kernel, by decide +kernel⟩, List.mem_of_getElem? (i := 650) (by decide +kernel), List.mem_of_getElem? (i := 979) (by decide +kernel), List.mem_of_getElem? (i := 980) (by decide +kernel)⟩
theorem lw_p77 : lw_okq (⟨"BagCountsModel", "enter", "(II)V"⟩, 23) := ⟨⟨by decide +kernel, by decide +kernel⟩, List.mem_of_getElem? (i := 650) (by decide +kernel), List.mem_of_getElem? (i := 983) (by decide +kernel), List.mem_of_getElem? (i := 984) (by decide +kernel)⟩
theorem lw_p78 : lw_okq (⟨"BagCountsModel", "next", "()I"⟩, 23) := ⟨⟨by decide +kernel, by decide +kernel⟩, List.mem_of_getElem? (i := 650) (by decide +kernel), List.mem_of_getElem? (i := 987) (by decide +kernel), List.mem_of_getElem? (i := 988) (by decide +kernel)⟩
theorem lw_p79 : lw_okq (⟨"BagCountsModel", "takeOne", "(III)V"⟩, 23) := ⟨⟨by decide +kernel, by decide +kernel⟩, List.mem_of_getElem? (i := 650) (by decide +kernel), List.mem_of_getElem? (i := 991) (by decide +kernel), List.mem_of_getElem? (i := 992) (by decide +kernel)⟩
def lw_privs_5 : List (MethodName × Nat) := [(⟨"BagCountsModel", "narrowest", "(I)I"⟩, 23), (⟨"BagCountsModel", "push", "(I)V"⟩, 23), (⟨"BagCountsModel", "pull", "(I)V"⟩, 23), (⟨"BagCountsModel", "boundBy", "(IIII)I"⟩, 23), (⟨"BagCountsModel", "isSolvedWith", "(IIIIIII)Z"⟩, 23), (⟨"BagCountsModel", "add", "(IIIIII)V"⟩, 23), (⟨"BagCountsModel", "findFirst", "()V"⟩, 23), (⟨"BagCountsModel", "isSolvedFrom", "(I)Z"⟩, 23), (⟨"BagCountsModel", "countAll", "(I)I"⟩, 23), (⟨"BagCountsModel", "canFail", "(IIIIIII)Z"⟩, 23), (⟨"BagCountsModel", "failsAt", "(IIIIII)Z"⟩, 23), (⟨"BagCountsModel", "isSolvedWithBoth", "(IIIIIZ)Z"⟩, 23), (⟨"BagCountsModel", "takeFact", "()V"⟩, 23), (⟨"BagCountsModel", "enter", "(II)V"⟩, 23), (⟨"BagCountsModel", "next", "()I"⟩, 23), (⟨"BagCountsModel", "takeOne", "(III)V"⟩, 23)]
theorem lw_r5 : ∀ q ∈ lw_privs_5, lw_okq q := List.forall_mem_cons.mpr ⟨lw_p64, List.forall_mem_cons.mpr ⟨lw_p65, List.forall_mem_cons.mpr ⟨lw_p66, List.forall_mem_cons.mpr ⟨lw_p67, List.forall_mem_cons.mpr ⟨lw_p68, List.forall_mem_cons.mpr ⟨lw_p69, List.forall_mem_cons.mpr ⟨lw_p70, List.forall_mem_cons.mpr ⟨lw_p71, List.forall_mem_cons.mpr ⟨lw_p72, List.forall_mem_cons.mpr ⟨lw_p73, List.forall_mem_cons.mpr ⟨lw_p74, List.forall_mem_cons.mpr ⟨lw_p75, List.forall_mem_cons.mpr ⟨lw_p76, List.forall_mem_cons.mpr ⟨lw_p77, List.forall_mem_cons.mpr ⟨lw_p78, List.forall_mem_cons.mpr ⟨lw_p79, fun _ h => absurd h List.not_mem_nil⟩⟩⟩⟩⟩⟩⟩⟩⟩⟩⟩⟩⟩⟩⟩⟩
theorem lw_p80 : lw_okq (⟨"BagCountsModel", "takeSign", "(I)V"⟩, 23) := ⟨⟨by decide +kernel, by decide +kernel⟩, List.mem_of_getElem? (i := 650) (by decide +kernel), List.mem_of_getElem? (i := 995) (by decide +kernel), List.mem_of_getElem? (i := 996) (by decide +kernel)⟩
theorem lw_p81 : lw_okq (⟨"BagCountsModel", "takeRange", "(I)V"⟩, 23) := ⟨⟨by decide +kernel, by decide +kernel⟩, List.mem_of_getElem? (i := 650) (by decide +kernel), List.mem_of_getElem? (i := 999) (by decide +kernel), List.mem_of_getElem? (i := 1000) (by decide +kernel)⟩
theorem lw_p82 : lw_okq (⟨"BagCountsModel", "takeNumber", "(I)V"⟩, 23) := ⟨⟨by decide +kernel, by decide +kernel⟩, List.mem_of_getElem? (i := 650) (by decide +kernel), List.mem_of_getElem? (i := 1003) (by decide +kernel), List.mem_of_getElem? (i := 1004) (by decide +kernel)⟩
theorem lw_p83 : lw_okq (⟨"BagCountsModel", "takeBag", "()V"⟩, 23) := ⟨⟨by decide +kernel, by decide +kernel⟩, List.mem_of_getElem? (i := 650) (by decide +kernel), List.mem_of_getElem? (i := 1007) (by decide +kernel), List.mem_of_getElem? (i := 1008) (by decide +kernel)⟩
theorem lw_p84 : lw_okq (⟨"BagCountsModel", "takeBags", "(I)V"⟩, 23) := ⟨⟨by decide +kernel, by decide +kernel⟩, List.mem_of_getElem? (i := 650) (by decide +kernel), List.mem_of_getElem? (i := 1011) (by decide +kernel), List.mem_of_getElem? (i := 1012) (by decide +kernel)⟩
theorem lw_p85 : lw_okq (⟨"BagCountsModel", "takeKind", "()V"⟩, 23) := ⟨⟨by decide +kernel, by decide +kernel⟩, List.mem_of_getElem? (i := 650) (by decide +kernel), List.mem_of_getElem? (i := 1015) (by decide +kernel), List.mem_of_getElem? (i := 1016) (by decide +kernel)⟩
theorem lw_p86 : lw_okq (⟨"BagCountsModel", "takeMore", "()V"⟩, 23) := ⟨⟨by decide +kernel, by decide +kernel⟩, List.mem_of_getElem? (i := 650) (by decide +kernel), List.mem_of_getElem? (i := 1019) (by decide +kernel), List.mem_of_getElem? (i := 1020) (by decide +kernel)⟩
theorem lw_p87 : lw_okq (⟨"BagCountsModel", "tellOne", "(I)I"⟩, 23) := ⟨⟨by decide +kernel, by decide +kernel⟩, List.mem_of_getElem? (i := 650) (by decide +kernel), List.mem_of_getElem? (i := 1028) (by decide +kernel), List.mem_of_getElem? (i := 1029) (by decide +kernel)⟩
def lw_privs_6 : List (MethodName × Nat) := [(⟨"BagCountsModel", "takeSign", "(I)V"⟩, 23), (⟨"BagCountsModel", "takeRange", "(I)V"⟩, 23), (⟨"BagCountsModel", "takeNumber", "(I)V"⟩, 23), (⟨"BagCountsModel", "takeBag", "()V"⟩, 23), (⟨"BagCountsModel", "takeBags", "(I)V"⟩, 23), (⟨"BagCountsModel", "takeKind", "()V"⟩, 23), (⟨"BagCountsModel", "takeMore", "()V"⟩, 23), (⟨"BagCountsModel", "tellOne", "(I)I"⟩, 23)]
theorem lw_r6 : ∀ q ∈ lw_privs_6, lw_okq q := List.forall_mem_cons.mpr ⟨lw_p80, List.forall_mem_cons.mpr ⟨lw_p81, List.forall_mem_cons.mpr ⟨lw_p82, List.forall_mem_cons.mpr ⟨lw_p83, List.forall_mem_cons.mpr ⟨lw_p84, List.forall_mem_cons.mpr ⟨lw_p85, List.forall_mem_cons.mpr ⟨lw_p86, List.forall_mem_cons.mpr ⟨lw_p87, fun _ h => absurd h List.not_mem_nil⟩⟩⟩⟩⟩⟩⟩⟩
def lw_privs : List (MethodName × Nat) := lw_privs_1 ++ (lw_privs_2 ++ (lw_privs_3 ++ (lw_privs_4 ++ (lw_privs_5 ++ (lw_privs_6)))))
def lw_tbl : List Cond := k2_sels lw_privs ++ tables_1
theorem lw_privs_ok : ∀ q ∈ lw_privs, lw_okq q := by
  show ∀ q ∈ lw_privs_1 ++ (lw_privs_2 ++ (lw_privs_3 ++ (lw_privs_4 ++ (lw_privs_5 ++ (lw_privs_6))))), lw_okq q
  exact List.forall_mem_append.mpr ⟨lw_r1, List.forall_mem_append.mpr ⟨lw_r2, List.forall_mem_append.mpr ⟨lw_r3, List.forall_mem_append.mpr ⟨lw_r4, List.forall_mem_append.mpr ⟨lw_r5, lw_r6⟩⟩⟩⟩⟩
end
section
def RX0 : String := "BagCounts$Facts"
def TX0 : u_T := fun k => match k with
  | 0 => ("BagCounts$Facts", "numbers", "[I", true)
  | 1 => ("BagCounts$Facts", "known", "I", false)
  | _ => ("BagCounts$Facts", "most", "I", false)
def tyX0 : Nat → FieldType := fun k => match k with
  | 0 => .array .int
  | 1 => .int
  | _ => .int
abbrev wsX00 : List Cond := u_ws RX0 TX0 3
theorem nmX0 : ∀ a, a < 3 → ∀ b, b < 3 → a ≠ b → (TX0 a).2.1 ≠ (TX0 b).2.1 := by decide +kernel
theorem tyX0_ok : ∀ k, k < 3 → parseFieldDescriptor (TX0 k).2.2.1 = some (tyX0 k) := by decide +kernel
abbrev cX0_init : ByteArray := prog_2_method_1_code
def yX0_init : MethodName := ⟨RX0, "<init>", "()V"⟩
abbrev cX0_has : ByteArray := prog_2_method_2_code
def yX0_has : MethodName := ⟨RX0, "has", "(I)Z"⟩
abbrev cX0_isFull : ByteArray := prog_2_method_3_code
def yX0_isFull : MethodName := ⟨RX0, "isFull", "()Z"⟩
abbrev cX0_all : ByteArray := prog_2_method_4_code
def yX0_all : MethodName := ⟨RX0, "all", "()I"⟩
abbrev cX0_number : ByteArray := prog_2_method_5_code
def yX0_number : MethodName := ⟨RX0, "number", "(II)I"⟩
abbrev cX0_ask : ByteArray := prog_2_method_6_code
def yX0_ask : MethodName := ⟨RX0, "ask", "(IIIIII)Z"⟩
abbrev cX0_keepAsked : ByteArray := prog_2_method_7_code
def yX0_keepAsked : MethodName := ⟨RX0, "keepAsked", "()I"⟩
abbrev cX0_remove : ByteArray := prog_2_method_8_code
def yX0_remove : MethodName := ⟨RX0, "remove", "(I)V"⟩
abbrev cX0_writeTo : ByteArray := prog_2_method_9_code
def yX0_writeTo : MethodName := ⟨RX0, "writeTo", "([II)V"⟩
abbrev cX0_readFrom : ByteArray := prog_2_method_10_code
def yX0_readFrom : MethodName := ⟨RX0, "readFrom", "([II)V"⟩
abbrev cX0_isFact : ByteArray := prog_2_method_11_code
def yX0_isFact : MethodName := ⟨RX0, "isFact", "(IIIIII)Z"⟩
abbrev cX0_isRange : ByteArray := prog_2_method_12_code
def yX0_isRange : MethodName := ⟨RX0, "isRange", "(III)Z"⟩
def RX1 : String := "BagCounts$Gaps"
def TX1 : u_T := fun k => match k with
  | 0 => ("BagCounts$Gaps", "gaps", "[I", true)
  | 1 => ("BagCounts$Gaps", "most", "I", false)
  | _ => ("BagCounts$Gaps", "isNarrowed", "Z", false)
def tyX1 : Nat → FieldType := fun k => match k with
  | 0 => .array .int
  | 1 => .int
  | _ => .boolean
abbrev wsX10 : List Cond := u_ws RX1 TX1 3
theorem nmX1 : ∀ a, a < 3 → ∀ b, b < 3 → a ≠ b → (TX1 a).2.1 ≠ (TX1 b).2.1 := by decide +kernel
theorem tyX1_ok : ∀ k, k < 3 → parseFieldDescriptor (TX1 k).2.2.1 = some (tyX1 k) := by decide +kernel
abbrev cX1_init : ByteArray := prog_3_method_1_code
def yX1_init : MethodName := ⟨RX1, "<init>", "()V"⟩
abbrev cX1_close : ByteArray := prog_3_method_2_code
def yX1_close : MethodName := ⟨RX1, "close", "(LBagCounts$Facts;I)V"⟩
abbrev cX1_addTo : ByteArray := prog_3_method_3_code
def yX1_addTo : MethodName := ⟨RX1, "addTo", "(LBagCounts$Rules;Z)V"⟩
abbrev cX1_of : ByteArray := prog_3_method_4_code
def yX1_of : MethodName := ⟨RX1, "of", "(III)I"⟩
abbrev cX1_narrow : ByteArray := prog_3_method_5_code
def yX1_narrow : MethodName := ⟨RX1, "narrow", "(IIII)V"⟩
abbrev cX1_chain : ByteArray := prog_3_method_6_code
def yX1_chain : MethodName := ⟨RX1, "chain", "(I)V"⟩
abbrev cX1_apply : ByteArray := prog_3_method_7_code
def yX1_apply : MethodName := ⟨RX1, "apply", "(LBagCounts$Facts;I)V"⟩
def RX2 : String := "BagCounts$Logic"
def TX2 : u_T := fun k => match k with
  | 0 => ("BagCounts$Logic", "facts", "LBagCounts$Facts;", true)
  | 1 => ("BagCounts$Logic", "search", "LBagCounts$Search;", true)
  | _ => ("BagCounts$Logic", "gaps", "LBagCounts$Gaps;", true)
def tyX2 : Nat → FieldType := fun k => match k with
  | 0 => .object "BagCounts$Facts"
  | 1 => .object "BagCounts$Search"
  | _ => .object "BagCounts$Gaps"
abbrev wsX20 : List Cond := u_ws RX2 TX2 3
theorem nmX2 : ∀ a, a < 3 → ∀ b, b < 3 → a ≠ b → (TX2 a).2.1 ≠ (TX2 b).2.1 := by decide +kernel
theorem tyX2_ok : ∀ k, k < 3 → parseFieldDescriptor (TX2 k).2.2.1 = some (tyX2 k) := by decide +kernel
abbrev cX2_init : ByteArray := prog_4_method_1_code
def yX2_init : MethodName := ⟨RX2, "<init>", "(LBagCounts$Facts;)V"⟩
abbrev cX2_canHold : ByteArray := prog_4_method_2_code
def yX2_canHold : MethodName := ⟨RX2, "canHold", "(I)Z"⟩
abbrev cX2_canFail : ByteArray := prog_4_method_3_code
def yX2_canFail : MethodName := ⟨RX2, "canFail", "(II)Z"⟩
abbrev cX2_howMany : ByteArray := prog_4_method_4_code
def yX2_howMany : MethodName := ⟨RX2, "howMany", "(I)I"⟩
abbrev cX2_extreme : ByteArray := prog_4_method_5_code
def yX2_extreme : MethodName := ⟨RX2, "extreme", "(IIZ)I"⟩
abbrev cX2_inLeastSolution : ByteArray := prog_4_method_6_code
def yX2_inLeastSolution : MethodName := ⟨RX2, "inLeastSolution", "(I)I"⟩
abbrev cX2_load : ByteArray := prog_4_method_7_code
def yX2_load : MethodName := ⟨RX2, "load", "(IZ)V"⟩
abbrev cX2_hasSizeFact : ByteArray := prog_4_method_8_code
def yX2_hasSizeFact : MethodName := ⟨RX2, "hasSizeFact", "(I)Z"⟩
abbrev cX2_addFact : ByteArray := prog_4_method_9_code
def yX2_addFact : MethodName := ⟨RX2, "addFact", "(IZ)V"⟩
abbrev cX2_addColumn : ByteArray := prog_4_method_10_code
def yX2_addColumn : MethodName := ⟨RX2, "addColumn", "(IIIII)V"⟩
abbrev cX2_addOpposite : ByteArray := prog_4_method_11_code
def yX2_addOpposite : MethodName := ⟨RX2, "addOpposite", "(II)V"⟩
abbrev cX2_restrictOutside : ByteArray := prog_4_method_12_code
def yX2_restrictOutside : MethodName := ⟨RX2, "restrictOutside", "(IIII)V"⟩
abbrev cX2_addOppositeOfKind : ByteArray := prog_4_method_13_code
def yX2_addOppositeOfKind : MethodName := ⟨RX2, "addOppositeOfKind", "(IIIII)V"⟩
def RX3 : String := "BagCounts$Pad"
def TX3 : u_T := fun k => match k with
  | 0 => ("BagCounts$Pad", "text", "[C", true)
  | 1 => ("BagCounts$Pad", "length", "I", false)
  | 2 => ("BagCounts$Pad", "at", "I", false)
  | 3 => ("BagCounts$Pad", "form", "I", false)
  | 4 => ("BagCounts$Pad", "a", "I", false)
  | 5 => ("BagCounts$Pad", "b", "I", false)
  | 6 => ("BagCounts$Pad", "c", "I", false)
  | 7 => ("BagCounts$Pad", "d", "I", false)
  | _ => ("BagCounts$Pad", "e", "I", false)
def tyX3 : Nat → FieldType := fun k => match k with
  | 0 => .array .char
  | 1 => .int
  | 2 => .int
  | 3 => .int
  | 4 => .int
  | 5 => .int
  | 6 => .int
  | 7 => .int
  | _ => .int
abbrev wsX30 : List Cond := u_ws RX3 TX3 9
theorem nmX3 : ∀ a, a < 9 → ∀ b, b < 9 → a ≠ b → (TX3 a).2.1 ≠ (TX3 b).2.1 := by decide +kernel
theorem tyX3_ok : ∀ k, k < 9 → parseFieldDescriptor (TX3 k).2.2.1 = some (tyX3 k) := by decide +kernel
abbrev cX3_init : ByteArray := prog_5_method_1_code
def yX3_init : MethodName := ⟨RX3, "<init>", "()V"⟩
abbrev cX3_lengthOf : ByteArray := prog_5_method_2_code
def yX3_lengthOf : MethodName := ⟨RX3, "lengthOf", "(J)I"⟩
abbrev cX3_hasRoomFor : ByteArray := prog_5_method_3_code
def yX3_hasRoomFor : MethodName := ⟨RX3, "hasRoomFor", "(I)Z"⟩
abbrev cX3_append : ByteArray := prog_5_method_4_code
def yX3_append : MethodName := ⟨RX3, "append", "(JI)V"⟩
abbrev cX3_clear : ByteArray := prog_5_method_5_code
def yX3_clear : MethodName := ⟨RX3, "clear", "()I"⟩
abbrev cX3_firstFault : ByteArray := prog_5_method_6_code
def yX3_firstFault : MethodName := ⟨RX3, "firstFault", "()I"⟩
abbrev cX3_tellAll : ByteArray := prog_5_method_7_code
def yX3_tellAll : MethodName := ⟨RX3, "tellAll", "(LBagCounts$Facts;)I"⟩
abbrev cX3_readFact : ByteArray := prog_5_method_8_code
def yX3_readFact : MethodName := ⟨RX3, "readFact", "()Z"⟩
abbrev cX3_readSize : ByteArray := prog_5_method_9_code
def yX3_readSize : MethodName := ⟨RX3, "readSize", "()Z"⟩
abbrev cX3_readOfThreeBags : ByteArray := prog_5_method_10_code
def yX3_readOfThreeBags : MethodName := ⟨RX3, "readOfThreeBags", "()Z"⟩
abbrev cX3_readOfKind : ByteArray := prog_5_method_11_code
def yX3_readOfKind : MethodName := ⟨RX3, "readOfKind", "()Z"⟩
abbrev cX3_readDifference : ByteArray := prog_5_method_12_code
def yX3_readDifference : MethodName := ⟨RX3, "readDifference", "()Z"⟩
abbrev cX3_takeSign : ByteArray := prog_5_method_13_code
def yX3_takeSign : MethodName := ⟨RX3, "takeSign", "()I"⟩
abbrev cX3_takeRangeEnd : ByteArray := prog_5_method_14_code
def yX3_takeRangeEnd : MethodName := ⟨RX3, "takeRangeEnd", "(I)I"⟩
abbrev cX3_takeNumber : ByteArray := prog_5_method_15_code
def yX3_takeNumber : MethodName := ⟨RX3, "takeNumber", "()I"⟩
abbrev cX3_skip : ByteArray := prog_5_method_16_code
def yX3_skip : MethodName := ⟨RX3, "skip", "(C)Z"⟩
abbrev cX3_take : ByteArray := prog_5_method_17_code
def yX3_take : MethodName := ⟨RX3, "take", "(CC)I"⟩
def RX4 : String := "BagCounts$Rules"
def TX4 : u_T := fun k => match k with
  | 0 => ("BagCounts$Rules", "type", "[I", true)
  | 1 => ("BagCounts$Rules", "low", "[I", true)
  | 2 => ("BagCounts$Rules", "high", "[I", true)
  | 3 => ("BagCounts$Rules", "mask", "[I", true)
  | 4 => ("BagCounts$Rules", "terms", "[I", true)
  | 5 => ("BagCounts$Rules", "variable", "[I", true)
  | 6 => ("BagCounts$Rules", "factor", "[I", true)
  | 7 => ("BagCounts$Rules", "weight", "[I", true)
  | _ => ("BagCounts$Rules", "size", "I", false)
def tyX4 : Nat → FieldType := fun k => match k with
  | 0 => .array .int
  | 1 => .array .int
  | 2 => .array .int
  | 3 => .array .int
  | 4 => .array .int
  | 5 => .array .int
  | 6 => .array .int
  | 7 => .array .int
  | _ => .int
abbrev wsX40 : List Cond := u_ws RX4 TX4 9
theorem nmX4 : ∀ a, a < 9 → ∀ b, b < 9 → a ≠ b → (TX4 a).2.1 ≠ (TX4 b).2.1 := by decide +kernel
theorem tyX4_ok : ∀ k, k < 9 → parseFieldDescriptor (TX4 k).2.2.1 = some (tyX4 k) := by decide +kernel
abbrev cX4_init : ByteArray := prog_6_method_1_code
def yX4_init : MethodName := ⟨RX4, "<init>", "()V"⟩
abbrev cX4_clear : ByteArray := prog_6_method_2_code
def yX4_clear : MethodName := ⟨RX4, "clear", "()V"⟩
abbrev cX4_total : ByteArray := prog_6_method_3_code
def yX4_total : MethodName := ⟨RX4, "total", "(I)V"⟩
abbrev cX4_difference : ByteArray := prog_6_method_4_code
def yX4_difference : MethodName := ⟨RX4, "difference", "(III)V"⟩
abbrev cX4_sum : ByteArray := prog_6_method_5_code
def yX4_sum : MethodName := ⟨RX4, "sum", "(IIIII)V"⟩
abbrev cX4_choice : ByteArray := prog_6_method_6_code
def yX4_choice : MethodName := ⟨RX4, "choice", "(IIII)V"⟩
abbrev cX4_open : ByteArray := prog_6_method_7_code
def yX4_open : MethodName := ⟨RX4, "open", "(III)V"⟩
abbrev cX4_plus : ByteArray := prog_6_method_8_code
def yX4_plus : MethodName := ⟨RX4, "plus", "(II)V"⟩
abbrev cX4_addTerm : ByteArray := prog_6_method_9_code
def yX4_addTerm : MethodName := ⟨RX4, "addTerm", "(II)V"⟩
def RX5 : String := "BagCounts$Search"
def TX5 : u_T := fun k => match k with
  | 0 => ("BagCounts$Search", "rules", "LBagCounts$Rules;", true)
  | 1 => ("BagCounts$Search", "low", "[I", true)
  | 2 => ("BagCounts$Search", "high", "[I", true)
  | 3 => ("BagCounts$Search", "withSizes", "Z", false)
  | _ => ("BagCounts$Search", "narrowed", "I", false)
def tyX5 : Nat → FieldType := fun k => match k with
  | 0 => .object "BagCounts$Rules"
  | 1 => .array .int
  | 2 => .array .int
  | 3 => .boolean
  | _ => .int
abbrev wsX50 : List Cond := u_ws RX5 TX5 5
theorem nmX5 : ∀ a, a < 5 → ∀ b, b < 5 → a ≠ b → (TX5 a).2.1 ≠ (TX5 b).2.1 := by decide +kernel
theorem tyX5_ok : ∀ k, k < 5 → parseFieldDescriptor (TX5 k).2.2.1 = some (tyX5 k) := by decide +kernel
abbrev cX5_init : ByteArray := prog_7_method_1_code
def yX5_init : MethodName := ⟨RX5, "<init>", "()V"⟩
abbrev cX5_variable : ByteArray := prog_7_method_2_code
def yX5_variable : MethodName := ⟨RX5, "variable", "(II)I"⟩
abbrev cX5_begin : ByteArray := prog_7_method_3_code
def yX5_begin : MethodName := ⟨RX5, "begin", "(IZ)V"⟩
abbrev cX5_restrict : ByteArray := prog_7_method_4_code
def yX5_restrict : MethodName := ⟨RX5, "restrict", "(III)V"⟩
abbrev cX5_settleAll : ByteArray := prog_7_method_5_code
def yX5_settleAll : MethodName := ⟨RX5, "settleAll", "()Z"⟩
abbrev cX5_settleOn : ByteArray := prog_7_method_6_code
def yX5_settleOn : MethodName := ⟨RX5, "settleOn", "(II)V"⟩
abbrev cX5_howMany : ByteArray := prog_7_method_7_code
def yX5_howMany : MethodName := ⟨RX5, "howMany", "(I)I"⟩
abbrev cX5_canBe : ByteArray := prog_7_method_8_code
def yX5_canBe : MethodName := ⟨RX5, "canBe", "(II)Z"⟩
abbrev cX5_waysFrom : ByteArray := prog_7_method_9_code
def yX5_waysFrom : MethodName := ⟨RX5, "waysFrom", "(II)I"⟩
abbrev cX5_ways : ByteArray := prog_7_method_10_code
def yX5_ways : MethodName := ⟨RX5, "ways", "(LBagCounts$Search;III)I"⟩
abbrev cX5_unfixed : ByteArray := prog_7_method_11_code
def yX5_unfixed : MethodName := ⟨RX5, "unfixed", "(II)I"⟩
abbrev cX5_partOf : ByteArray := prog_7_method_12_code
def yX5_partOf : MethodName := ⟨RX5, "partOf", "(II)I"⟩
abbrev cX5_choose : ByteArray := prog_7_method_13_code
def yX5_choose : MethodName := ⟨RX5, "choose", "(II)I"⟩
abbrev cX5_fix : ByteArray := prog_7_method_14_code
def yX5_fix : MethodName := ⟨RX5, "fix", "(III)V"⟩
abbrev cX5_settle : ByteArray := prog_7_method_15_code
def yX5_settle : MethodName := ⟨RX5, "settle", "(II)Z"⟩
abbrev cX5_tightenLinear : ByteArray := prog_7_method_16_code
def yX5_tightenLinear : MethodName := ⟨RX5, "tightenLinear", "(II)Z"⟩
abbrev cX5_tightenChoice : ByteArray := prog_7_method_17_code
def yX5_tightenChoice : MethodName := ⟨RX5, "tightenChoice", "(II)Z"⟩
abbrev cX5_isSure : ByteArray := prog_7_method_18_code
def yX5_isSure : MethodName := ⟨RX5, "isSure", "(II)Z"⟩
abbrev cX5_leastTerm : ByteArray := prog_7_method_19_code
def yX5_leastTerm : MethodName := ⟨RX5, "leastTerm", "(II)I"⟩
abbrev cX5_greatestTerm : ByteArray := prog_7_method_20_code
def yX5_greatestTerm : MethodName := ⟨RX5, "greatestTerm", "(II)I"⟩
abbrev cX5_keep : ByteArray := prog_7_method_21_code
def yX5_keep : MethodName := ⟨RX5, "keep", "(IIII)Z"⟩
def RX6 : String := "BagCounts$States"
def TX6 : u_T := fun k => match k with
  | 0 => ("BagCounts$States", "rows", "I", true)
  | _ => ("BagCounts$States", "cells", "[I", true)
def tyX6 : Nat → FieldType := fun k => match k with
  | 0 => .int
  | _ => .array .int
abbrev wsX60 : List Cond := u_ws RX6 TX6 2
theorem nmX6 : ∀ a, a < 2 → ∀ b, b < 2 → a ≠ b → (TX6 a).2.1 ≠ (TX6 b).2.1 := by decide +kernel
theorem tyX6_ok : ∀ k, k < 2 → parseFieldDescriptor (TX6 k).2.2.1 = some (tyX6 k) := by decide +kernel
abbrev cX6_init : ByteArray := prog_8_method_1_code
def yX6_init : MethodName := ⟨RX6, "<init>", "(I)V"⟩
abbrev cX6_store : ByteArray := prog_8_method_2_code
def yX6_store : MethodName := ⟨RX6, "store", "(ILBagCounts$Facts;)V"⟩
abbrev cX6_load : ByteArray := prog_8_method_3_code
def yX6_load : MethodName := ⟨RX6, "load", "(ILBagCounts$Facts;)V"⟩
abbrev cX6_dropFirst : ByteArray := prog_8_method_4_code
def yX6_dropFirst : MethodName := ⟨RX6, "dropFirst", "()V"⟩
def RX7 : String := "BagCounts"
def TX7 : u_T := fun k => match k with
  | 0 => ("BagCounts", "facts", "LBagCounts$Facts;", true)
  | 1 => ("BagCounts", "logic", "LBagCounts$Logic;", true)
  | 2 => ("BagCounts", "pad", "LBagCounts$Pad;", true)
  | 3 => ("BagCounts", "history", "LBagCounts$States;", true)
  | 4 => ("BagCounts", "slots", "LBagCounts$States;", true)
  | 5 => ("BagCounts", "historySize", "I", false)
  | _ => ("BagCounts", "filledSlots", "I", false)
def tyX7 : Nat → FieldType := fun k => match k with
  | 0 => .object "BagCounts$Facts"
  | 1 => .object "BagCounts$Logic"
  | 2 => .object "BagCounts$Pad"
  | 3 => .object "BagCounts$States"
  | 4 => .object "BagCounts$States"
  | 5 => .int
  | _ => .int
abbrev wsX70 : List Cond := u_ws RX7 TX7 7
theorem nmX7 : ∀ a, a < 7 → ∀ b, b < 7 → a ≠ b → (TX7 a).2.1 ≠ (TX7 b).2.1 := by decide +kernel
theorem tyX7_ok : ∀ k, k < 7 → parseFieldDescriptor (TX7 k).2.2.1 = some (tyX7 k) := by decide +kernel
abbrev cX7_init : ByteArray := prog_1_method_1_code
def yX7_init : MethodName := ⟨RX7, "<init>", "()V"⟩
abbrev cX7_most : ByteArray := prog_1_method_2_code
def yX7_most : MethodName := ⟨RX7, "most", "(I)I"⟩
abbrev cX7_fact : ByteArray := prog_1_method_3_code
def yX7_fact : MethodName := ⟨RX7, "fact", "(IIIIII)I"⟩
abbrev cX7_drop : ByteArray := prog_1_method_4_code
def yX7_drop : MethodName := ⟨RX7, "drop", "(I)I"⟩
abbrev cX7_ofFact : ByteArray := prog_1_method_5_code
def yX7_ofFact : MethodName := ⟨RX7, "ofFact", "(II)I"⟩
abbrev cX7_count : ByteArray := prog_1_method_6_code
def yX7_count : MethodName := ⟨RX7, "count", "(I)I"⟩
abbrev cX7_isPossible : ByteArray := prog_1_method_7_code
def yX7_isPossible : MethodName := ⟨RX7, "isPossible", "()I"⟩
abbrev cX7_bound : ByteArray := prog_1_method_8_code
def yX7_bound : MethodName := ⟨RX7, "bound", "(III)I"⟩
abbrev cX7_sizeOf : ByteArray := prog_1_method_9_code
def yX7_sizeOf : MethodName := ⟨RX7, "sizeOf", "(II)I"⟩
abbrev cX7_least : ByteArray := prog_1_method_10_code
def yX7_least : MethodName := ⟨RX7, "least", "(II)I"⟩
abbrev cX7_solutions : ByteArray := prog_1_method_11_code
def yX7_solutions : MethodName := ⟨RX7, "solutions", "(I)I"⟩
abbrev cX7_follows : ByteArray := prog_1_method_12_code
def yX7_follows : MethodName := ⟨RX7, "follows", "(IIIIII)I"⟩
abbrev cX7_contradiction : ByteArray := prog_1_method_13_code
def yX7_contradiction : MethodName := ⟨RX7, "contradiction", "()I"⟩
abbrev cX7_reason : ByteArray := prog_1_method_14_code
def yX7_reason : MethodName := ⟨RX7, "reason", "(III)I"⟩
abbrev cX7_needless : ByteArray := prog_1_method_15_code
def yX7_needless : MethodName := ⟨RX7, "needless", "()I"⟩
abbrev cX7_put : ByteArray := prog_1_method_16_code
def yX7_put : MethodName := ⟨RX7, "put", "(J)I"⟩
abbrev cX7_wipe : ByteArray := prog_1_method_17_code
def yX7_wipe : MethodName := ⟨RX7, "wipe", "()I"⟩
abbrev cX7_fault : ByteArray := prog_1_method_18_code
def yX7_fault : MethodName := ⟨RX7, "fault", "()I"⟩
abbrev cX7_tell : ByteArray := prog_1_method_19_code
def yX7_tell : MethodName := ⟨RX7, "tell", "()I"⟩
abbrev cX7_undo : ByteArray := prog_1_method_20_code
def yX7_undo : MethodName := ⟨RX7, "undo", "()I"⟩
abbrev cX7_save : ByteArray := prog_1_method_21_code
def yX7_save : MethodName := ⟨RX7, "save", "(I)I"⟩
abbrev cX7_restore : ByteArray := prog_1_method_22_code
def yX7_restore : MethodName := ⟨RX7, "restore", "(I)I"⟩
abbrev cX7_recordState : ByteArray := prog_1_method_23_code
def yX7_recordState : MethodName := ⟨RX7, "recordState", "()V"⟩
abbrev cX7_refusalOfBound : ByteArray := prog_1_method_24_code
def yX7_refusalOfBound : MethodName := ⟨RX7, "refusalOfBound", "(III)I"⟩
abbrev cX7_isBag : ByteArray := prog_1_method_25_code
def yX7_isBag : MethodName := ⟨RX7, "isBag", "(I)Z"⟩
abbrev cX7_isKind : ByteArray := prog_1_method_26_code
def yX7_isKind : MethodName := ⟨RX7, "isKind", "(I)Z"⟩
abbrev cX7_isWithin : ByteArray := prog_1_method_27_code
def yX7_isWithin : MethodName := ⟨RX7, "isWithin", "(III)Z"⟩
def RX8 : String := "BagCountsModel"
def TX8 : u_T := fun k => match k with
  | 0 => ("BagCountsModel", "at", "[I", true)
  | 1 => ("BagCountsModel", "past", "[I", true)
  | 2 => ("BagCountsModel", "pastFirst", "I", false)
  | 3 => ("BagCountsModel", "pastMany", "I", false)
  | 4 => ("BagCountsModel", "slots", "[I", true)
  | 5 => ("BagCountsModel", "isSaved", "[Z", true)
  | 6 => ("BagCountsModel", "lo", "[I", true)
  | 7 => ("BagCountsModel", "hi", "[I", true)
  | 8 => ("BagCountsModel", "extra", "[I", true)
  | 9 => ("BagCountsModel", "extras", "I", false)
  | 10 => ("BagCountsModel", "used", "I", false)
  | 11 => ("BagCountsModel", "changed", "Z", false)
  | 12 => ("BagCountsModel", "failed", "I", false)
  | 13 => ("BagCountsModel", "wasLo", "[I", true)
  | 14 => ("BagCountsModel", "wasHi", "[I", true)
  | 15 => ("BagCountsModel", "tried", "[I", true)
  | 16 => ("BagCountsModel", "first", "[I", true)
  | 17 => ("BagCountsModel", "pad", "[I", true)
  | 18 => ("BagCountsModel", "padMany", "I", false)
  | 19 => ("BagCountsModel", "spot", "I", false)
  | 20 => ("BagCountsModel", "isWrong", "Z", false)
  | 21 => ("BagCountsModel", "read", "I", false)
  | _ => ("BagCountsModel", "numbers", "[I", true)
def tyX8 : Nat → FieldType := fun k => match k with
  | 0 => .array .int
  | 1 => .array .int
  | 2 => .int
  | 3 => .int
  | 4 => .array .int
  | 5 => .array .boolean
  | 6 => .array .int
  | 7 => .array .int
  | 8 => .array .int
  | 9 => .int
  | 10 => .int
  | 11 => .boolean
  | 12 => .int
  | 13 => .array .int
  | 14 => .array .int
  | 15 => .array .int
  | 16 => .array .int
  | 17 => .array .int
  | 18 => .int
  | 19 => .int
  | 20 => .boolean
  | 21 => .int
  | _ => .array .int
abbrev wsX80 : List Cond := u_ws RX8 TX8 23
theorem nmX8 : ∀ a, a < 23 → ∀ b, b < 23 → a ≠ b → (TX8 a).2.1 ≠ (TX8 b).2.1 := by decide +kernel
theorem tyX8_ok : ∀ k, k < 23 → parseFieldDescriptor (TX8 k).2.2.1 = some (tyX8 k) := by decide +kernel
abbrev cX8_init : ByteArray := prog_10_method_1_code
def yX8_init : MethodName := ⟨RX8, "<init>", "()V"⟩
abbrev cX8_in : ByteArray := prog_10_method_3_code
def yX8_in : MethodName := ⟨RX8, "in", "(III)Z"⟩
abbrev cX8_isBag : ByteArray := prog_10_method_4_code
def yX8_isBag : MethodName := ⟨RX8, "isBag", "(I)Z"⟩
abbrev cX8_isKind : ByteArray := prog_10_method_5_code
def yX8_isKind : MethodName := ⟨RX8, "isKind", "(I)Z"⟩
abbrev cX8_of : ByteArray := prog_10_method_6_code
def yX8_of : MethodName := ⟨RX8, "of", "(II)I"⟩
abbrev cX8_allFacts : ByteArray := prog_10_method_7_code
def yX8_allFacts : MethodName := ⟨RX8, "allFacts", "()I"⟩
abbrev cX8_keep : ByteArray := prog_10_method_8_code
def yX8_keep : MethodName := ⟨RX8, "keep", "()V"⟩
abbrev cX8_keepIf : ByteArray := prog_10_method_9_code
def yX8_keepIf : MethodName := ⟨RX8, "keepIf", "(Z)V"⟩
abbrev cX8_raise : ByteArray := prog_10_method_10_code
def yX8_raise : MethodName := ⟨RX8, "raise", "(II)V"⟩
abbrev cX8_lower : ByteArray := prog_10_method_11_code
def yX8_lower : MethodName := ⟨RX8, "lower", "(II)V"⟩
abbrev cX8_lesser : ByteArray := prog_10_method_12_code
def yX8_lesser : MethodName := ⟨RX8, "lesser", "(II)I"⟩
abbrev cX8_greater : ByteArray := prog_10_method_13_code
def yX8_greater : MethodName := ⟨RX8, "greater", "(II)I"⟩
abbrev cX8_narrowSize : ByteArray := prog_10_method_14_code
def yX8_narrowSize : MethodName := ⟨RX8, "narrowSize", "(III)V"⟩
abbrev cX8_narrowTwice : ByteArray := prog_10_method_15_code
def yX8_narrowTwice : MethodName := ⟨RX8, "narrowTwice", "(II)V"⟩
abbrev cX8_narrowSum : ByteArray := prog_10_method_16_code
def yX8_narrowSum : MethodName := ⟨RX8, "narrowSum", "(III)V"⟩
abbrev cX8_narrowGreatest : ByteArray := prog_10_method_17_code
def yX8_narrowGreatest : MethodName := ⟨RX8, "narrowGreatest", "(III)V"⟩
abbrev cX8_narrowLeast : ByteArray := prog_10_method_18_code
def yX8_narrowLeast : MethodName := ⟨RX8, "narrowLeast", "(III)V"⟩
abbrev cX8_narrowMore : ByteArray := prog_10_method_19_code
def yX8_narrowMore : MethodName := ⟨RX8, "narrowMore", "(III)V"⟩
abbrev cX8_narrowBelow : ByteArray := prog_10_method_20_code
def yX8_narrowBelow : MethodName := ⟨RX8, "narrowBelow", "(III)V"⟩
abbrev cX8_narrowAbove : ByteArray := prog_10_method_21_code
def yX8_narrowAbove : MethodName := ⟨RX8, "narrowAbove", "(III)V"⟩
abbrev cX8_narrowKind : ByteArray := prog_10_method_22_code
def yX8_narrowKind : MethodName := ⟨RX8, "narrowKind", "(IIII)V"⟩
abbrev cX8_narrowBy : ByteArray := prog_10_method_23_code
def yX8_narrowBy : MethodName := ⟨RX8, "narrowBy", "(IIIIII)V"⟩
abbrev cX8_isEmpty : ByteArray := prog_10_method_24_code
def yX8_isEmpty : MethodName := ⟨RX8, "isEmpty", "()Z"⟩
abbrev cX8_narrow : ByteArray := prog_10_method_25_code
def yX8_narrow : MethodName := ⟨RX8, "narrow", "()Z"⟩
abbrev cX8_bagBit : ByteArray := prog_10_method_26_code
def yX8_bagBit : MethodName := ⟨RX8, "bagBit", "(I)I"⟩
abbrev cX8_joined : ByteArray := prog_10_method_27_code
def yX8_joined : MethodName := ⟨RX8, "joined", "(IIIIII)I"⟩
abbrev cX8_joinedTo : ByteArray := prog_10_method_28_code
def yX8_joinedTo : MethodName := ⟨RX8, "joinedTo", "(I)I"⟩
abbrev cX8_part : ByteArray := prog_10_method_29_code
def yX8_part : MethodName := ⟨RX8, "part", "(I)I"⟩
abbrev cX8_narrowest : ByteArray := prog_10_method_30_code
def yX8_narrowest : MethodName := ⟨RX8, "narrowest", "(I)I"⟩
abbrev cX8_push : ByteArray := prog_10_method_31_code
def yX8_push : MethodName := ⟨RX8, "push", "(I)V"⟩
abbrev cX8_pull : ByteArray := prog_10_method_32_code
def yX8_pull : MethodName := ⟨RX8, "pull", "(I)V"⟩
abbrev cX8_search : ByteArray := prog_10_method_33_code
def yX8_search : MethodName := ⟨RX8, "search", "(II)I"⟩
abbrev cX8_layAll : ByteArray := prog_10_method_34_code
def yX8_layAll : MethodName := ⟨RX8, "layAll", "()V"⟩
abbrev cX8_isSolvedByParts : ByteArray := prog_10_method_35_code
def yX8_isSolvedByParts : MethodName := ⟨RX8, "isSolvedByParts", "()Z"⟩
abbrev cX8_isSolved : ByteArray := prog_10_method_36_code
def yX8_isSolved : MethodName := ⟨RX8, "isSolved", "(I)Z"⟩
abbrev cX8_isSolvedNow : ByteArray := prog_10_method_37_code
def yX8_isSolvedNow : MethodName := ⟨RX8, "isSolvedNow", "()Z"⟩
abbrev cX8_add : ByteArray := prog_10_method_38_code
def yX8_add : MethodName := ⟨RX8, "add", "(IIIIII)V"⟩
abbrev cX8_isSolvedWith : ByteArray := prog_10_method_39_code
def yX8_isSolvedWith : MethodName := ⟨RX8, "isSolvedWith", "(IIIIIII)Z"⟩
abbrev cX8_isSolvedWithBoth : ByteArray := prog_10_method_40_code
def yX8_isSolvedWithBoth : MethodName := ⟨RX8, "isSolvedWithBoth", "(IIIIIZ)Z"⟩
abbrev cX8_failsAt : ByteArray := prog_10_method_41_code
def yX8_failsAt : MethodName := ⟨RX8, "failsAt", "(IIIIII)Z"⟩
abbrev cX8_canFail : ByteArray := prog_10_method_42_code
def yX8_canFail : MethodName := ⟨RX8, "canFail", "(IIIIIII)Z"⟩
abbrev cX8_isFact : ByteArray := prog_10_method_43_code
def yX8_isFact : MethodName := ⟨RX8, "isFact", "(IIIIII)Z"⟩
abbrev cX8_most : ByteArray := prog_10_method_44_code
def yX8_most : MethodName := ⟨RX8, "most", "(I)I"⟩
abbrev cX8_tryFact : ByteArray := prog_10_method_45_code
def yX8_tryFact : MethodName := ⟨RX8, "tryFact", "(IIIIIIZ)I"⟩
abbrev cX8_fact : ByteArray := prog_10_method_46_code
def yX8_fact : MethodName := ⟨RX8, "fact", "(IIIIII)I"⟩
abbrev cX8_isToldFact : ByteArray := prog_10_method_47_code
def yX8_isToldFact : MethodName := ⟨RX8, "isToldFact", "(I)Z"⟩
abbrev cX8_drop : ByteArray := prog_10_method_48_code
def yX8_drop : MethodName := ⟨RX8, "drop", "(I)I"⟩
abbrev cX8_ofFact : ByteArray := prog_10_method_49_code
def yX8_ofFact : MethodName := ⟨RX8, "ofFact", "(II)I"⟩
abbrev cX8_count : ByteArray := prog_10_method_50_code
def yX8_count : MethodName := ⟨RX8, "count", "(I)I"⟩
abbrev cX8_isPossible : ByteArray := prog_10_method_51_code
def yX8_isPossible : MethodName := ⟨RX8, "isPossible", "()I"⟩
abbrev cX8_boundBy : ByteArray := prog_10_method_52_code
def yX8_boundBy : MethodName := ⟨RX8, "boundBy", "(IIII)I"⟩
abbrev cX8_whyNotBound : ByteArray := prog_10_method_53_code
def yX8_whyNotBound : MethodName := ⟨RX8, "whyNotBound", "(III)I"⟩
abbrev cX8_bound : ByteArray := prog_10_method_54_code
def yX8_bound : MethodName := ⟨RX8, "bound", "(III)I"⟩
abbrev cX8_sizeOf : ByteArray := prog_10_method_55_code
def yX8_sizeOf : MethodName := ⟨RX8, "sizeOf", "(II)I"⟩
abbrev cX8_isSolvedFrom : ByteArray := prog_10_method_56_code
def yX8_isSolvedFrom : MethodName := ⟨RX8, "isSolvedFrom", "(I)Z"⟩
abbrev cX8_findFirst : ByteArray := prog_10_method_57_code
def yX8_findFirst : MethodName := ⟨RX8, "findFirst", "()V"⟩
abbrev cX8_least : ByteArray := prog_10_method_58_code
def yX8_least : MethodName := ⟨RX8, "least", "(II)I"⟩
abbrev cX8_solutions : ByteArray := prog_10_method_59_code
def yX8_solutions : MethodName := ⟨RX8, "solutions", "(I)I"⟩
abbrev cX8_countAll : ByteArray := prog_10_method_60_code
def yX8_countAll : MethodName := ⟨RX8, "countAll", "(I)I"⟩
abbrev cX8_follows : ByteArray := prog_10_method_61_code
def yX8_follows : MethodName := ⟨RX8, "follows", "(IIIIII)I"⟩
abbrev cX8_contradiction : ByteArray := prog_10_method_62_code
def yX8_contradiction : MethodName := ⟨RX8, "contradiction", "()I"⟩
abbrev cX8_reason : ByteArray := prog_10_method_63_code
def yX8_reason : MethodName := ⟨RX8, "reason", "(III)I"⟩
abbrev cX8_needless : ByteArray := prog_10_method_64_code
def yX8_needless : MethodName := ⟨RX8, "needless", "()I"⟩
abbrev cX8_put : ByteArray := prog_10_method_65_code
def yX8_put : MethodName := ⟨RX8, "put", "(J)I"⟩
abbrev cX8_wipe : ByteArray := prog_10_method_66_code
def yX8_wipe : MethodName := ⟨RX8, "wipe", "()I"⟩
abbrev cX8_next : ByteArray := prog_10_method_67_code
def yX8_next : MethodName := ⟨RX8, "next", "()I"⟩
abbrev cX8_enter : ByteArray := prog_10_method_68_code
def yX8_enter : MethodName := ⟨RX8, "enter", "(II)V"⟩
abbrev cX8_takeSign : ByteArray := prog_10_method_69_code
def yX8_takeSign : MethodName := ⟨RX8, "takeSign", "(I)V"⟩
abbrev cX8_takeOne : ByteArray := prog_10_method_70_code
def yX8_takeOne : MethodName := ⟨RX8, "takeOne", "(III)V"⟩
abbrev cX8_takeNumber : ByteArray := prog_10_method_71_code
def yX8_takeNumber : MethodName := ⟨RX8, "takeNumber", "(I)V"⟩
abbrev cX8_takeRange : ByteArray := prog_10_method_72_code
def yX8_takeRange : MethodName := ⟨RX8, "takeRange", "(I)V"⟩
abbrev cX8_takeMore : ByteArray := prog_10_method_73_code
def yX8_takeMore : MethodName := ⟨RX8, "takeMore", "()V"⟩
abbrev cX8_takeKind : ByteArray := prog_10_method_74_code
def yX8_takeKind : MethodName := ⟨RX8, "takeKind", "()V"⟩
abbrev cX8_takeBags : ByteArray := prog_10_method_75_code
def yX8_takeBags : MethodName := ⟨RX8, "takeBags", "(I)V"⟩
abbrev cX8_takeBag : ByteArray := prog_10_method_76_code
def yX8_takeBag : MethodName := ⟨RX8, "takeBag", "()V"⟩
abbrev cX8_takeFact : ByteArray := prog_10_method_77_code
def yX8_takeFact : MethodName := ⟨RX8, "takeFact", "()V"⟩
abbrev cX8_fault : ByteArray := prog_10_method_78_code
def yX8_fault : MethodName := ⟨RX8, "fault", "()I"⟩
abbrev cX8_tellOne : ByteArray := prog_10_method_79_code
def yX8_tellOne : MethodName := ⟨RX8, "tellOne", "(I)I"⟩
abbrev cX8_tell : ByteArray := prog_10_method_80_code
def yX8_tell : MethodName := ⟨RX8, "tell", "()I"⟩
abbrev cX8_undo : ByteArray := prog_10_method_81_code
def yX8_undo : MethodName := ⟨RX8, "undo", "()I"⟩
abbrev cX8_save : ByteArray := prog_10_method_82_code
def yX8_save : MethodName := ⟨RX8, "save", "(I)I"⟩
abbrev cX8_restore : ByteArray := prog_10_method_83_code
def yX8_restore : MethodName := ⟨RX8, "restore", "(I)I"⟩
def RL : String := "BagCountsLaw"
abbrev cL_law : ByteArray := code
def yL_law : MethodName := ⟨RL, "law", "([I)Z"⟩
abbrev vwCl : List vw_C := [(RX0, TX0, 3), (RX1, TX1, 3), (RX2, TX2, 3), (RX3, TX3, 9), (RX4, TX4, 9), (RX5, TX5, 5), (RX6, TX6, 2), (RX7, TX7, 7), (RX8, TX8, 23)]
end
section
/-! THE ABSTRACT MACHINE: values are whole numbers (a representative of the machine's int or long) and numbers of cells; a memory maps a cell and a place to a whole number. -/
abbrev vm_V : Type := Int ⊕ (Int ⊕ Nat)
abbrev vm_M : Type := Nat → Int → Int
/-- a row of a method: its place, the instruction, how long it is, what the tables know of it -/
abbrev vm_En : Type := Nat × Instr × Nat × List Nat
/-- a method: name, bytes, how many locals, what it returns, its rows -/
abbrev vm_Me : Type := MethodName × ByteArray × Nat × Option FieldType × List vm_En
abbrev vm_Nm : Type := MethodName × ByteArray × Nat × Option FieldType
def vm_nth {α : Type} : List α → Nat → Option α
  | [], _ => none
  | a :: _, 0 => some a
  | _ :: l, n + 1 => vm_nth l n
theorem vm_nth_eq {α : Type} : ∀ (l : List α) (n : Nat), vm_nth l n = l[n]?
  | [], _ => by simp [vm_nth]
  | a :: l, 0 => by simp [vm_nth]
  | a :: l, n + 1 => by simp [vm_nth, vm_nth_eq l n]
theorem vm_nth_mem {α : Type} {l : List α} {n : Nat} {a : α} (h : vm_nth l n = some a) : a ∈ l := by
  rw [vm_nth_eq] at h
  exact List.mem_of_getElem? h
def vm_R (x : Int) : Prop := -2147483648 ≤ x ∧ x ≤ 2147483647
def vm_up (mem : vm_M) (c : Nat) (i v : Int) : vm_M := fun c' i' => if c' = c ∧ i' = i then v else mem c' i'
def vm_and (a b : Int) : Int := (Int32.ofInt a &&& Int32.ofInt b).toInt
def vm_or (a b : Int) : Int := (Int32.ofInt a ||| Int32.ofInt b).toInt
def vm_xor (a b : Int) : Int := (Int32.ofInt a ^^^ Int32.ofInt b).toInt
def vm_shl (a b : Int) : Int := (Int32.ofInt a <<< (Int32.ofInt b &&& 31)).toInt
def vm_shr (a b : Int) : Int := (Int32.ofInt a >>> (Int32.ofInt b &&& 31)).toInt
def vm_div (a b : Int) : Int := (Int32.ofInt a / Int32.ofInt b).toInt
def vm_rem (a b : Int) : Int := (Int32.ofInt a - Int32.ofInt a / Int32.ofInt b * Int32.ofInt b).toInt
def vm_land (a b : Int) : Int := (Int64.ofInt a &&& Int64.ofInt b).toInt
def vm_lor (a b : Int) : Int := (Int64.ofInt a ||| Int64.ofInt b).toInt
def vm_lushr (a b : Int) : Int := (((Int64.ofInt a).toUInt64 >>> ((Int32.ofInt b).toInt64.toUInt64 &&& Int64.toUInt64 63)).toInt64).toInt
def vm_lshl (a b : Int) : Int := (Int64.ofInt a <<< ((Int32.ofInt b).toInt64 &&& 63)).toInt
def vm_lshr (a b : Int) : Int := (Int64.ofInt a >>> ((Int32.ofInt b).toInt64 &&& 63)).toInt
def vm_l2i (a : Int) : Int := ((Int64.ofInt a).toInt32).toInt
def vm_lcmp (a b : Int) : Int := (lg_cmp (Int64.ofInt a) (Int64.ofInt b)).toInt
def vm_i2c (a : Int) : Int := (((Int32.ofInt a).toUInt32 % 65536).toInt32).toInt
def vm_chr (a : Int) : Int := (vp_nar .char (Int32.ofInt a)).toInt
def vm_bool (a : Int) : Int := (vp_nar .boolean (Int32.ofInt a)).toInt
/-- the copy of n cells -/
def vm_cpy (mem : vm_M) (a b : Nat) (sp dp n : Int) : vm_M := fun c i => if c = b ∧ dp ≤ i ∧ i < dp + n then mem a (sp + (i - dp)) else mem c i
theorem vm_ofTo (x : Int32) : Int32.ofInt x.toInt = x := Int32.ofInt_toInt x
theorem vm_ofTo64 (x : Int64) : Int64.ofInt x.toInt = x := Int64.ofInt_toInt x
theorem vm_toOf {x : Int} (h : vm_R x) : (Int32.ofInt x).toInt = x := by
  rw [Int32.toInt_ofInt]
  unfold vm_R at h
  have hs : (Int32.size : Int) = 4294967296 := rfl
  rw [Int.bmod_def, hs]
  split <;> omega
theorem vm_ltI {x y : Int} (hx : vm_R x) (hy : vm_R y) : Int32.ofInt x < Int32.ofInt y ↔ x < y := by
  rw [Int32.lt_iff_toInt_lt, vm_toOf hx, vm_toOf hy]
theorem vm_leI {x y : Int} (hx : vm_R x) (hy : vm_R y) : Int32.ofInt x ≤ Int32.ofInt y ↔ x ≤ y := by
  rw [Int32.le_iff_toInt_le, vm_toOf hx, vm_toOf hy]
theorem vm_eqI {x y : Int} (hx : vm_R x) (hy : vm_R y) : Int32.ofInt x = Int32.ofInt y ↔ x = y := by
  constructor
  · intro h
    have := congrArg Int32.toInt h
    rwa [vm_toOf hx, vm_toOf hy] at this
  · intro h; rw [h]
theorem vm_R0 : vm_R 0 := ⟨by decide, by decide⟩
theorem vm_zero : (0 : Int32) = Int32.ofInt 0 := by decide
theorem vm_nat {x : Int} (h0 : 0 ≤ x) (h1 : x ≤ 2147483647) : (Int32.ofInt x).toNatClampNeg = x.toNat := by
  rw [Int32.toNatClampNeg, vm_toOf ⟨by omega, h1⟩]
theorem vm_in {x : Int} {n : Nat} (h0 : 0 ≤ x) (h1 : x < (n : Int)) (hn : n ≤ 1000000) : vp_in (Int32.ofInt x) n := by
  have h2 : x ≤ 2147483647 := by omega
  unfold vp_in
  rw [vm_nat h0 h2, vm_zero, vm_ltI ⟨by omega, h2⟩ vm_R0]
  omega
/-! the layout -/
/-- the kind of a cell: (0, class) an object, (1, n) ints, (2, n) chars, (3, n) booleans -/
def vm_kinds : List (Nat × Nat) := [(0, 7), (0, 0), (0, 2), (0, 3), (0, 6), (0, 6), (0, 5), (0, 1), (0, 4), (1, 66), (2, 80), (1, 372), (1, 124), (1, 272), (1, 272), (1, 128), (1, 128), (1, 128), (1, 128), (1, 128), (1, 512), (1, 512), (1, 16), (1, 48), (0, 8), (1, 62), (1, 372), (1, 124), (3, 2), (1, 12), (1, 12), (1, 12), (1, 156), (1, 156), (1, 13), (1, 12), (1, 80), (1, 132)]
def vm_nf : List Nat := [3, 3, 3, 9, 9, 5, 2, 7, 23]
def vm_rfs : List (List (Option Nat)) := [[some 1, some 2, some 3, some 4, some 5, none, none], [some 9, none, none], [some 1, some 6, some 7], [some 10, none, none, none, none, none, none, none, none], [none, some 11], [none, some 12], [some 8, some 13, some 14, none, none], [some 23, none, none], [some 15, some 16, some 17, some 18, some 19, some 20, some 21, some 22, none], [], [], [], [], [], [], [], [], [], [], [], [], [], [], [], [some 25, some 26, none, none, some 27, some 28, some 29, some 30, some 31, none, none, none, none, some 32, some 33, some 34, some 35, some 36, none, none, none, none, some 37]]
def vm_rf (c j : Nat) : Option Nat := ((vm_nth vm_rfs c).bind fun l => vm_nth l j).join
abbrev vm_G : Type := Launch × va_G × (Nat → Nat) × (Nat → ClassId) × (Nat → Nat) × (Nat → Int → Int)
abbrev vm_G.l (G : vm_G) : Launch := G.1
abbrev vm_G.D (G : vm_G) : va_G := G.2.1
abbrev vm_G.adr (G : vm_G) : Nat → Nat := G.2.2.1
abbrev vm_G.cA (G : vm_G) : Nat → ClassId := G.2.2.2.1
abbrev vm_G.len (G : vm_G) : Nat → Nat := G.2.2.2.2.1
abbrev vm_G.rom (G : vm_G) : Nat → Int → Int := G.2.2.2.2.2
abbrev vm_Me.y (M : vm_Me) : MethodName := M.1
abbrev vm_Me.bytes (M : vm_Me) : ByteArray := M.2.1
abbrev vm_Me.maxL (M : vm_Me) : Nat := M.2.2.1
abbrev vm_Me.ret (M : vm_Me) : Option FieldType := M.2.2.2.1
abbrev vm_Me.code (M : vm_Me) : List vm_En := M.2.2.2.2
def vm_tys (G : vm_G) : List (ClassId × FieldType) := [(G.cA 1, .int), (G.cA 2, .char), (G.cA 3, .boolean)]
def vm_cv (G : vm_G) : vm_V → Value
  | .inl n => .int (Int32.ofInt n)
  | .inr (.inl n) => .long (Int64.ofInt n)
  | .inr (.inr a) => .ref (G.adr a)
def vm_fv (G : vm_G) (mem : vm_M) (c j : Nat) : Value := match vm_rf c j with
  | some t => .ref (G.adr t)
  | none => .int (Int32.ofInt (mem c (j : Int)))
def vm_cell (G : vm_G) (mem : vm_M) (c : Nat) : va_E := match vm_nth vm_kinds c with
  | some (0, ci) => .inr (ci, (List.range ((vm_nth vm_nf ci).getD 0)).map (vm_fv G mem c))
  | some (k + 1, n) => .inl (G.cA (k + 1), n, .inl (fun i => Int32.ofInt (mem c (i : Int))))
  | none => .inr (0, [])
def vm_ws (G : vm_G) (mem : vm_M) : va_W := (List.range 38).map fun c => (G.adr c, vm_cell G mem c)
theorem vm_ws_at (G : vm_G) (mem : vm_M) {c : Nat} (h : c < 38) : (vm_ws G mem)[c]? = some (G.adr c, vm_cell G mem c) := by
  simp [vm_ws, List.getElem?_range, h]
theorem vm_cell_arr {G : vm_G} {mem : vm_M} {c k n : Nat} (h : vm_nth vm_kinds c = some (k + 1, n)) : vm_cell G mem c = .inl (G.cA (k + 1), n, .inl (fun i => Int32.ofInt (mem c (i : Int)))) := by
  simp only [vm_cell, h]
theorem vm_cell_obj {G : vm_G} {mem : vm_M} {c ci : Nat} (h : vm_nth vm_kinds c = some (0, ci)) : vm_cell G mem c = .inr (ci, (List.range ((vm_nth vm_nf ci).getD 0)).map (vm_fv G mem c)) := by
  simp only [vm_cell, h]
theorem vm_cell_eq {G : vm_G} {mem mem' : vm_M} {c : Nat} (h : mem c = mem' c) : vm_cell G mem c = vm_cell G mem' c := by
  have hf : vm_fv G mem c = vm_fv G mem' c := by
    funext j
    simp only [vm_fv, h]
  unfold vm_cell
  rw [hf, h]
theorem vm_ws_set {G : vm_G} {mem mem' : vm_M} {c : Nat} {x : va_E} (h : c < 38) (hx : vm_cell G mem' c = x) (ho : ∀ k, k ≠ c → mem k = mem' k) : (vm_ws G mem).set c (G.adr c, x) = vm_ws G mem' := by
  apply List.ext_getElem?
  intro k
  rw [List.getElem?_set]
  by_cases hk : c = k
  · subst hk
    have hl : c < (vm_ws G mem).length := by simp [vm_ws]; exact h
    rw [if_pos rfl, if_pos hl, vm_ws_at G mem' h, hx]
  · rw [if_neg hk]
    by_cases hk2 : k < 38
    · rw [vm_ws_at G mem hk2, vm_ws_at G mem' hk2, vm_cell_eq (ho k (Ne.symm hk))]
    · rw [List.getElem?_eq_none (by simp [vm_ws]; omega), List.getElem?_eq_none (by simp [vm_ws]; omega)]
/-- the words that the tables hold in every state, and those of nest mates -/
def vm_isN : Cond → Bool
  | .fieldLinkNest _ _ _ _ _ _ => true
  | .methodLinkNest _ _ _ _ => true
  | _ => false
def vm_WS : List Cond := lw_tbl.filter goodWord
def vm_WN : List Cond := lw_tbl.filter vm_isN
theorem vm_ws_in {p : Nat} {w : Cond} (h : lw_tbl[p]? = some w) (hg : goodWord w = true) : w ∈ vm_WS := List.mem_filter.mpr ⟨List.mem_of_getElem? h, hg⟩
theorem vm_wn_in {p : Nat} {w : Cond} (h : lw_tbl[p]? = some w) (hg : vm_isN w = true) : w ∈ vm_WN := List.mem_filter.mpr ⟨List.mem_of_getElem? h, hg⟩
theorem vm_WS_good : GoodIn vm_WS vm_WS := fun w h => ⟨h, good_of_word (List.mem_filter.mp h).2⟩
theorem vm_WN_warm {s U : State} (hW : s.WarmedH U.vm) (h : ∀ w ∈ vm_WN, va_Nw w s) : ∀ w ∈ vm_WN, va_Nw w U := by
  intro w hw
  have h1 := h w hw
  have h2 := (List.mem_filter.mp hw).2
  cases w <;> first | exact va_Nw.warmF hW h1 | exact va_Nw.warmM hW h1 | (simp [vm_isN] at h2; done)
/-- the locals as the kit tells them -/
def vm_lk (G : vm_G) (al : List (Option vm_V)) : List (Nat × Value) := al.zipIdx.filterMap fun q => q.1.map fun v => (q.2, vm_cv G v)
theorem vm_lk_mem {G : vm_G} {al : List (Option vm_V)} {j : Nat} {x : Value} : (j, x) ∈ vm_lk G al ↔ ∃ v, al[j]? = some (some v) ∧ x = vm_cv G v := by
  unfold vm_lk
  rw [List.mem_filterMap]
  constructor
  · rintro ⟨⟨o, i⟩, h1, h2⟩
    rw [List.mem_zipIdx_iff_getElem?] at h1
    cases o with
    | none => simp at h2
    | some v =>
      simp at h2
      obtain ⟨rfl, rfl⟩ := h2
      exact ⟨v, h1, rfl⟩
  · rintro ⟨v, h1, rfl⟩
    exact ⟨(some v, j), List.mem_zipIdx_iff_getElem?.mpr h1, rfl⟩
theorem vm_lk_at {G : vm_G} {al : List (Option vm_V)} {ls : Array Slot} {n j : Nat} {v : vm_V} (h : lv_has ls n (vm_lk G al)) (hj : vm_nth al j = some (some v)) : ls[j]? = some (.val (vm_cv G v)) :=
  h.2.2 (j, vm_cv G v) (vm_lk_mem.mpr ⟨v, by rw [← vm_nth_eq]; exact hj, rfl⟩)
/-- a local may be written: the one before isn't a long -/
def vm_okst (al : List (Option vm_V)) : Nat → Bool
  | 0 => true
  | i + 1 => match vm_nth al i with
    | some (some (.inr (.inl _))) => false
    | _ => true
def vm_set {α : Type} : List α → Nat → α → List α
  | [], _, _ => []
  | _ :: l, 0, x => x :: l
  | a :: l, n + 1, x => a :: vm_set l n x
theorem vm_set_at {α : Type} : ∀ (l : List α) (i : Nat) (x : α) (j : Nat), (vm_set l i x)[j]? = if i = j ∧ j < l.length then some x else l[j]?
  | [], i, x, j => by simp [vm_set]
  | a :: l, 0, x, 0 => by simp [vm_set]
  | a :: l, 0, x, j + 1 => by simp [vm_set]
  | a :: l, i + 1, x, 0 => by simp [vm_set]
  | a :: l, i + 1, x, j + 1 => by simp [vm_set, vm_set_at l i x j]
theorem vm_lk_set {G : vm_G} {al : List (Option vm_V)} {ls : Array Slot} {n i : Nat} {v : vm_V} (hok : vm_okst al i = true)
    (h : lv_has ls n ((i, vm_cv G v) :: (vm_lk G al).filter (fun q => !(q.1 == i) && !(q.1 + 1 == i && q.2.category == 2)))) : lv_has ls n (vm_lk G (vm_set al i (some v))) := by
  refine ⟨h.1, h.2.1, fun q hq => h.2.2 q ?_⟩
  obtain ⟨j, x⟩ := q
  obtain ⟨w, h1, rfl⟩ := vm_lk_mem.mp hq
  rw [vm_set_at] at h1
  split at h1
  · rename_i hij
    cases h1
    rw [← hij.1]
    exact List.mem_cons_self
  · rename_i hij
    have hjl : j < al.length := by
      rcases Nat.lt_or_ge j al.length with q | q
      · exact q
      · rw [List.getElem?_eq_none q] at h1; cases h1
    have hne : ¬ j = i := fun e => hij ⟨e.symm, hjl⟩
    refine List.mem_cons_of_mem _ (List.mem_filter.mpr ⟨vm_lk_mem.mpr ⟨w, h1, rfl⟩, ?_⟩)
    simp only [beq_eq_false_iff_ne.mpr hne, Bool.not_false, Bool.true_and, Bool.not_eq_true', Bool.and_eq_false_imp, beq_iff_eq]
    intro e
    cases i with
    | zero => omega
    | succ i =>
      have e2 : j = i := by omega
      subst e2
      rw [← vm_nth_eq] at h1
      simp only [vm_okst, h1] at hok
      cases w with
      | inl _ => rfl
      | inr w => cases w with
        | inl _ => simp at hok
        | inr _ => rfl
theorem vm_lk_set2 {G : vm_G} {al : List (Option vm_V)} {ls : Array Slot} {n i : Nat} {x : Int} (hok : vm_okst al i = true)
    (h : lv_has ls n ((i, Value.long (Int64.ofInt x)) :: (vm_lk G al).filter (fun q => !(q.1 == i) && (!(q.1 == i + 1) && !(q.1 + 1 == i && q.2.category == 2))))) : lv_has ls n (vm_lk G (vm_set (vm_set al i (some (.inr (.inl x)))) (i + 1) none)) := by
  refine ⟨h.1, h.2.1, fun q hq => h.2.2 q ?_⟩
  obtain ⟨j, y⟩ := q
  obtain ⟨w, h1, rfl⟩ := vm_lk_mem.mp hq
  rw [vm_set_at] at h1
  split at h1
  · cases h1
  · rename_i hij2
    rw [vm_set_at] at h1
    have hlen : (vm_set al i (some (.inr (.inl x)) : Option vm_V)).length = al.length := by
      have : ∀ (l : List (Option vm_V)) (i : Nat) (x : Option vm_V), (vm_set l i x).length = l.length := by
        intro l
        induction l with
        | nil => intro i x; rfl
        | cons a l ih => intro i x; cases i <;> simp [vm_set, ih]
      exact this _ _ _
    rw [hlen] at hij2
    split at h1
    · rename_i hij
      cases h1
      rw [← hij.1]
      exact List.mem_cons_self
    · rename_i hij
      have hjl : j < al.length := by
        rcases Nat.lt_or_ge j al.length with q | q
        · exact q
        · rw [List.getElem?_eq_none q] at h1; cases h1
      have hne : ¬ j = i := fun e => hij ⟨e.symm, hjl⟩
      have hne2 : ¬ j = i + 1 := fun e => hij2 ⟨e.symm, hjl⟩
      refine List.mem_cons_of_mem _ (List.mem_filter.mpr ⟨vm_lk_mem.mpr ⟨w, h1, rfl⟩, ?_⟩)
      simp only [beq_eq_false_iff_ne.mpr hne, beq_eq_false_iff_ne.mpr hne2, Bool.not_false, Bool.true_and, Bool.not_eq_true', Bool.and_eq_false_imp, beq_iff_eq]
      intro e
      cases i with
      | zero => omega
      | succ i =>
        have e2 : j = i := by omega
        subst e2
        rw [← vm_nth_eq] at h1
        simp only [vm_okst, h1] at hok
        cases w with
        | inl _ => rfl
        | inr w => cases w with
          | inl _ => simp at hok
          | inr _ => rfl
end
section
/-! WHAT THE TABLES KNOW -/
def vm_link (own : String) (idx : Nat) (y : MethodName) : Prop := Cond.methodLink own idx y ∈ vm_WS ∨ ∃ host, Cond.methodLinkNest own idx y host ∈ vm_WN
def vm_flink (own : String) (idx : Nat) (C n d : String) : Prop := Cond.fieldLink own idx C n d ∈ vm_WS ∨ ∃ host, Cond.fieldLinkNest own idx C n d host ∈ vm_WN
def vm_calI (M : vm_Me) (n : Nat) : Prop := (Cond.instanceMethod M.y ∈ vm_WS ∧ Cond.selects M.y.cls M.y M.y ∈ vm_WS) ∧ Cond.code M.y M.bytes M.maxL M.ret ∈ vm_WS ∧ Cond.initialized M.y.cls ∈ vm_WS ∧ (M.y.cls ≠ "java/lang/invoke/MethodHandle" ∧ M.y.cls ≠ "java/lang/invoke/VarHandle" ∧ (parseMethodDescriptor M.y.desc).map (fun d => d.parameters.length) = some n) ∧ M.maxL ≤ 30
def vm_calS (M : vm_Me) (n : Nat) : Prop := Cond.static M.y ∈ vm_WS ∧ Cond.code M.y M.bytes M.maxL M.ret ∈ vm_WS ∧ Cond.initialized M.y.cls ∈ vm_WS ∧ (M.y.cls ≠ "java/lang/invoke/MethodHandle" ∧ M.y.cls ≠ "java/lang/invoke/VarHandle" ∧ (parseMethodDescriptor M.y.desc).map (fun d => d.parameters.length) = some n) ∧ M.maxL ≤ 30
def vm_clk (ci : Nat) (C : String) (T : u_T) (N : Nat) (ty : Nat → FieldType) : Prop := vwCl[ci]? = some (C, T, N) ∧ (∀ w ∈ u_ws C T N, w ∈ vm_WS) ∧ (∀ k, k < N → parseFieldDescriptor (T k).2.2.1 = some (ty k)) ∧ (∀ a, a < N → ∀ b, b < N → a ≠ b → (T a).2.1 ≠ (T b).2.1) ∧ vm_nth vm_nf ci = some N
def vm_okM (M : vm_Me) : Prop := ∀ e ∈ M.code, decode M.bytes e.1 = .ok (e.2.1, e.2.2.1)
theorem vm_dec {M : vm_Me} (h : vm_okM M) {i pc len : Nat} {ins : Instr} {x : List Nat} (hc : vm_nth M.code i = some (pc, ins, len, x)) : decode M.bytes pc = .ok (ins, len) := h (pc, ins, len, x) (vm_nth_mem hc)
/-- what lies outside: the table and the script, which nobody writes -/
def vm_RO (G : vm_G) (A : Nat → Prop) (U : State) (H : Heap) : Prop := va_Z "BagCounts$Logic" "OPPOSITES" "[I" (.ref (G.adr 38)) A U H ∧ ∀ c, c = 38 ∨ c = 39 → va_X (G.adr c) (G.len c) (fun j => Int32.ofInt (G.rom c (j : Int))) U H ∧ G.adr c < H.size ∧ ¬ A (G.adr c) ∧ G.len c ≤ 1000000
/-- the machine at a method's frame -/
def vm_C (G : vm_G) (d : Nat) (M : vm_Me) (p : Program) (R : Room) (s : State) (m : MethodId) (args : Array Value) (c : Code) (A : Nat → Prop) (cells slots : Nat) : Prop :=
  p.tables.exec = Jvm.exec ∧ c.code = M.bytes ∧ c.maxLocals = M.maxL ∧ s.vm.findClass M.y.cls = some m.cls ∧ (∀ w ∈ vm_WS, w.before args s = true) ∧ (∀ w ∈ vm_WN, va_Nw w s) ∧ (d ≤ R.frames ∧ 60 * d ≤ R.locals ∧ cells ≤ R.cells ∧ slots ≤ R.slots) ∧ va_K G.D vwCl (vm_tys G) s ∧ (∀ q, s.heap.size ≤ q → A q) ∧ vm_RO G A s s.heap
def vm_H (G : vm_G) (mem : vm_M) (A : Nat → Prop) (s : State) (H : Heap) (locs : List Loc) : Prop := va_P G.D vwCl (vm_ws G mem) H ∧ va_D A (vm_ws G mem) ∧ va_S A s.heap H locs
/-- a method's end -/
def vm_end (M : vm_Me) (pc : Nat) (r : Option vm_V) : Prop := (r = none ∧ M.ret = none ∧ decode M.bytes pc = .ok (.return_, 1)) ∨ ∃ v : Int, r = some (.inl v) ∧ (M.ret = some .int ∨ (M.ret = some .boolean ∧ (v = 0 ∨ v = 1))) ∧ decode M.bytes pc = .ok (.ireturn, 1)
/-- FROM THIS POINT of the method (place, locals, stack, memory) it comes to its end, with Q of the memory and the answer -/
def vm_ex (G : vm_G) (d : Nat) (M : vm_Me) (pc : Nat) (al : List (Option vm_V)) (st : List vm_V) (mem : vm_M) (Q : vm_M → Option vm_V → Prop) : Prop :=
  vm_okM M → ∀ (p : Program) (e : Env) (R : Room) (s : State) (m : MethodId) (args : Array Value) (below : List Frame) (meth : Method) (c : Code) (A : Nat → Prop) (cells slots : Nat) (Z : State → Prop), vm_C G d M p R s m args c A cells slots →
    ∀ (H : Heap) (locs : List Loc) (ls : Array Slot), vm_H G mem A s H locs → lv_has ls M.maxL (vm_lk G al) →
    (∀ (H' : Heap) (locs' : List Loc) (ls' : Array Slot) (pc' : Nat) (mem' : vm_M) (r : Option vm_V), Q mem' r → vm_H G mem' A s H' locs' → vm_end M pc' r → W p G.l e R s m args below meth c H' locs' cells slots Z (F0 m pc' ls' (r.toList.map (vm_cv G)))) →
    W p G.l e R s m args below meth c H locs cells slots Z (F0 m pc ls (st.map (vm_cv G)))
theorem vm_ex.mono {G : vm_G} {d : Nat} {M : vm_Me} {pc : Nat} {al : List (Option vm_V)} {st : List vm_V} {mem : vm_M} {Q Q' : vm_M → Option vm_V → Prop} (h : vm_ex G d M pc al st mem Q) (hQ : ∀ m r, Q m r → Q' m r) : vm_ex G d M pc al st mem Q' := by
  intro ok p e R s m args below meth c A cells slots Z C H locs ls hH hl hret
  exact h ok p e R s m args below meth c A cells slots Z C H locs ls hH hl (fun H' locs' ls' pc' mem' r hq => hret H' locs' ls' pc' mem' r (hQ _ _ hq))
/-- the head of a method's words -/
def vm_wsM (M : vm_Me) : List Cond := Cond.code M.y M.bytes M.maxL M.ret :: vm_WS
def vm_rm (d : Nat) : Room := { frames := d, cells := 0, slots := 0, locals := 60 * d }
def vm_Pc (G : vm_G) (mem : vm_M) (sz : Nat) : State → Prop := fun U => U.heap.size = sz ∧ va_P G.D vwCl (vm_ws G mem) U.heap ∧ va_K G.D vwCl (vm_tys G) U ∧ va_D (fun _ => True) (vm_ws G mem) ∧ (∀ w ∈ vm_WN, va_Nw w U) ∧ vm_RO G (va_A (vm_ws G mem) sz) U U.heap
def vm_Qc (G : vm_G) (mem : vm_M) (sz : Nat) (Q : vm_M → Option vm_V → Prop) : Array Value → State → Outcome → State → Prop := fun _ st oc t => ∃ (r : Option vm_V) (mem' : vm_M), oc = .returned (r.map (vm_cv G)) ∧ Q mem' r ∧ va_P G.D vwCl (vm_ws G mem') t.heap ∧ va_D (va_A (vm_ws G mem) sz) (vm_ws G mem') ∧ va_F (va_A (vm_ws G mem) sz) st t
/-- A CALL of this method on these values comes back, with Q of the memory and the answer -/
def vm_call (G : vm_G) (d : Nat) (M : vm_Me) (As : List vm_V) (mem : vm_M) (Q : vm_M → Option vm_V → Prop) : Prop :=
  ∀ sz : Nat, Met G.l M.y (vm_wsM M) (vm_rm d) (va_Pc (As.map (vm_cv G)) (vm_Pc G mem sz)) (vm_Qc G mem sz Q) 0 0 (va_A (vm_ws G mem) sz)
theorem vm_ws_len (G : vm_G) (mem : vm_M) : (vm_ws G mem).length = 38 := by simp [vm_ws]
theorem vm_ws_adr {G : vm_G} {mem mem' : vm_M} {k q : Nat} {e : va_E} (h : (vm_ws G mem)[k]? = some (q, e)) : (vm_ws G mem')[k]? = some (q, vm_cell G mem' k) := by
  have hk : k < 38 := by
    rcases Nat.lt_or_ge k 38 with z | z
    · exact z
    · rw [List.getElem?_eq_none (by rw [vm_ws_len]; exact z)] at h; cases h
  rw [vm_ws_at G mem hk] at h
  rw [vm_ws_at G mem' hk]
  cases h
  rfl
theorem vm_A_eq (G : vm_G) (mem mem' : vm_M) (sz q : Nat) : va_A (vm_ws G mem) sz q ↔ va_A (vm_ws G mem') sz q := by
  constructor
  · rintro (⟨k, e, h⟩ | h)
    · exact Or.inl ⟨k, _, vm_ws_adr h⟩
    · exact Or.inr h
  · rintro (⟨k, e, h⟩ | h)
    · exact Or.inl ⟨k, _, vm_ws_adr h⟩
    · exact Or.inr h
theorem vm_D_mem {G : vm_G} {mem mem' : vm_M} {A B : Nat → Prop} (h : va_D A (vm_ws G mem)) (hB : va_D B (vm_ws G mem')) : va_D B (vm_ws G mem) := by
  refine ⟨h.1, fun k q hk => ?_⟩
  obtain ⟨a, e⟩ := q
  exact hB.2 k (a, vm_cell G mem' k) (vm_ws_adr hk)
theorem vm_RO.moved {G : vm_G} {A : Nat → Prop} {u U : State} {H : Heap} (hvm : u.vm.Alike U.vm) (h : vm_RO G A u H) : vm_RO G A U H :=
  ⟨va_Z.moved hvm h.1, fun c hc => ⟨va_X.moved hvm (h.2 c hc).1, (h.2 c hc).2⟩⟩
theorem vm_RO.at {G : vm_G} {A B : Nat → Prop} {U : State} {H0 H : Heap} {locs : List Loc} (h : vm_RO G A U H0) (hS : va_S A H0 H locs) (hAB : ∀ q, B q → A q) : vm_RO G B U H :=
  ⟨(h.1.kept hS.2.1).narrow hAB, fun c hc => ⟨(h.2 c hc).1.kept (hS.2.1 _ (h.2 c hc).2.1 (h.2 c hc).2.2.1), Nat.lt_of_lt_of_le (h.2 c hc).2.1 hS.1, fun z => (h.2 c hc).2.2.1 (hAB _ z), (h.2 c hc).2.2.2⟩⟩
theorem vm_blind (G : vm_G) (mem : vm_M) (sz : Nat) (av : List Value) : FrameBlind (va_Pc av (vm_Pc G mem sz)) := by
  intro a U g mk q
  obtain ⟨q0, q1, q2, q3, q4, q5, q6⟩ := q
  exact ⟨q0, q1, q2, va_K.moved (u := U) (U := U.calling g mk a) (Vm.Alike.refl U.vm) q3, q4, fun w hw => va_tabs (by have := (List.mem_filter.mp hw).2; cases w <;> first | rfl | (simp [vm_isN] at this; done)) (rfl : U.vm = (U.calling g mk a).vm) (q5 w hw), vm_RO.moved (u := U) (U := U.calling g mk a) (Vm.Alike.refl U.vm) q6⟩
/-- what a callee asks, at the caller's point -/
theorem vm_pre {G : vm_G} {d : Nat} {M : vm_Me} {p : Program} {R : Room} {s : State} {m : MethodId} {args : Array Value} {c : Code} {A : Nat → Prop} {cells slots : Nat} {mem : vm_M} {H : Heap} {locs : List Loc} (C : vm_C G d M p R s m args c A cells slots) (hH : vm_H G mem A s H locs) {av : List Value} (U : State) (hU : U.heap = H) (hW : s.WarmedH U.vm) : va_Pc av (vm_Pc G mem H.size) av.toArray U := by
  obtain ⟨hx, hb, hml, hown, hts, hn, hR, hK, hA, hO⟩ := C
  obtain ⟨hP, hD, hS⟩ := hH
  refine ⟨rfl, by rw [hU], by rw [hU]; exact hP, va_K.moved hW.alike hK, hD.weaken (fun _ _ _ _ => trivial), vm_WN_warm hW hn, ?_⟩
  rw [hU]
  refine vm_RO.moved hW.alike (hO.at hS ?_)
  rintro q (⟨k, e, h⟩ | h)
  · exact hD.2 k _ h
  · exact hA q (Nat.le_trans hS.1 h)
/-- behind a call -/
theorem vm_back {G : vm_G} {d : Nat} {M : vm_Me} {p : Program} {e : Env} {R : Room} {s : State} {m : MethodId} {args : Array Value} {below : List Frame} {meth : Method} {c : Code} {A : Nat → Prop} {cells slots : Nat} {Z : State → Prop} {mem : vm_M} {H : Heap} {locs : List Loc} {pc : Nat} {ls : Array Slot} {st0 rest : List Value} {a : Array Value} {Q : vm_M → Option vm_V → Prop}
    (C : vm_C G d M p R s m args c A cells slots) (hH : vm_H G mem A s H locs)
    (hr : va_Run p G.l e R s m args below meth c H locs cells slots 0 0 (F0 m pc ls st0) rest (vm_Qc G mem H.size Q a) (va_A (vm_ws G mem) H.size))
    (kk : ∀ (r : Option vm_V) (mem' : vm_M) (H1 : Heap) (locs1 : List Loc), Q mem' r → vm_H G mem' A s H1 locs1 → W p G.l e R s m args below meth c H1 locs1 cells slots Z (F0 m (pc + 3) ls ((r.map (vm_cv G)).toList ++ rest))) : W p G.l e R s m args below meth c H locs cells slots Z (F0 m pc ls st0) := by
  obtain ⟨hx, hb, hml, hown, hts, hn, hR, hK, hA, hO⟩ := C
  obtain ⟨hP, hD, hS⟩ := hH
  have hAA : ∀ q, va_A (vm_ws G mem) H.size q → A q := by
    rintro q (⟨k, e, h⟩ | h)
    · exact hD.2 k _ h
    · exact hA q (Nat.le_trans hS.1 h)
  intro T hT X
  obtain ⟨v, st₀, t, T', L, h0, X', hL, e1, e2, ⟨r, mem', hv, hq, hP', hD', hz, hk⟩, st⟩ := hr T hT X
  cases hv
  rw [h0] at hz hk
  obtain ⟨t2, a1, b1⟩ := kk r mem' T'.heap (locs ++ L) hq ⟨by rw [e1]; exact hP', hD'.weaken (fun _ _ _ h => hAA _ h), Nat.le_trans hS.1 (by rw [e1]; exact hz), fun q h1 h2 => by rw [e1, hk q (Nat.lt_of_lt_of_le h1 hS.1) (fun z => h2 (hAA q z))]; exact hS.2.1 q h1 h2, fun q hq => by
      rcases List.mem_append.mp hq with h | h
      · exact hS.2.2 q h
      · exact hAA _ (hL q h)⟩ T' rfl X'
  exact ⟨t2, st t2 a1, b1⟩
theorem vm_map_nil (G : vm_G) (r : Option vm_V) (st : List vm_V) : (r.map (vm_cv G)).toList ++ st.map (vm_cv G) = (r.toList ++ st).map (vm_cv G) := by
  cases r <;> simp
/-- how many words lie on a stack -/
def vm_sw : List vm_V → Nat
  | [] => 0
  | .inr (.inl _) :: st => 2 + vm_sw st
  | _ :: st => 1 + vm_sw st
theorem vm_sw_eq (G : vm_G) : ∀ st : List vm_V, ((st.map (vm_cv G)).map fun v => v.category).sum = vm_sw st
  | [] => rfl
  | .inl x :: st => by simp [vm_sw, vm_cv, Value.category, ← vm_sw_eq G st]
  | .inr (.inl x) :: st => by simp [vm_sw, vm_cv, Value.category, ← vm_sw_eq G st]
  | .inr (.inr x) :: st => by simp [vm_sw, vm_cv, Value.category, ← vm_sw_eq G st]
section VMC
variable {G : vm_G} {d : Nat} {M : vm_Me} {pc : Nat} {al : List (Option vm_V)} {st : List vm_V} {mem : vm_M} {Q : vm_M → Option vm_V → Prop}
theorem ex_invV {M' : vm_Me} {idx n b ci N : Nat} {As : List vm_V} {C : String} {T : u_T} {ty : Nat → FieldType} {x : List Nat} (i : Nat) (hc : vm_nth M.code i = some (pc, .invokevirtual idx, 3, x)) (hcl : vm_clk ci C T N ty) (hkd : vm_nth vm_kinds b = some (0, ci)) (hC : M'.y.cls = C) (hM : vm_calI M' n) (hlk : vm_link M.y.cls idx M'.y) (hn : As.length = n) (hst : Nat.ble (vm_sw st) 8 = true)
    (h : vm_call G d M' (.inr (.inr b) :: As) mem (fun mem' r => vm_ex G (d + 1) M (pc + 3) al (r.toList ++ st) mem' Q)) : vm_ex G (d + 1) M pc al (As.reverse ++ .inr (.inr b) :: st) mem Q := by
  intro ok p e R s m args below meth c A cells slots Z Cx H locs ls hH hl hret
  have hdg := vm_dec ok hc
  obtain ⟨hx, hb, hml, hown, hts, hnn, hR, hK, hA, hO⟩ := id Cx
  obtain ⟨hcl1, hin, hty, hnm, hnf⟩ := hcl
  obtain ⟨⟨hi1, hi2⟩, hcode, hini, hdd, hmx⟩ := hM
  have hb38 : b < 38 := by
    rw [vm_nth_eq] at hkd
    exact (List.getElem?_eq_some_iff.mp hkd).1
  have hcell := vm_ws_at G mem hb38
  rw [vm_cell_obj hkd] at hcell
  have hrecv := va_recv hK hH.1 hcl1 hcell
  have hG : GoodIn vm_WS (vm_wsM M') := fun w hw => by
    rcases List.mem_cons.mp hw with rfl | hw
    · exact vm_WS_good _ hcode
    · exact vm_WS_good _ hw
  have hroom : (vm_rm d).frames + 1 ≤ R.frames ∧ 8 + (M'.maxL + 11) + (vm_rm d).locals ≤ R.locals := ⟨hR.1, by show 8 + (M'.maxL + 11) + 60 * d ≤ R.locals; omega⟩
  have hst8 : ((st.map (vm_cv G)).map fun v => v.category).sum ≤ 8 := by
    rw [vm_sw_eq]; exact Nat.le_of_ble_eq_true hst
  have hstk : (As.reverse ++ .inr (.inr b) :: st).map (vm_cv G) = (As.map (vm_cv G)).reverse ++ .ref (G.adr b) :: st.map (vm_cv G) := by simp [vm_cv]
  have hp : PreV s H C (G.adr b) (va_Pc ((.inr (.inr b) :: As).map (vm_cv G)) (vm_Pc G mem H.size)) (As.map (vm_cv G)) :=
    ⟨vm_blind G mem H.size _, hrecv, fun U hU hW => vm_pre Cx hH U hU hW⟩
  have hrun : va_Run p G.l e R s m args below meth c H locs cells slots 0 0 (F0 m pc ls ((As.map (vm_cv G)).reverse ++ .ref (G.adr b) :: st.map (vm_cv G))) (st.map (vm_cv G)) (vm_Qc G mem H.size (fun mem' r => vm_ex G (d + 1) M (pc + 3) al (r.toList ++ st) mem' Q) (Value.ref (G.adr b) :: As.map (vm_cv G)).toArray) (va_A (vm_ws G mem) H.size) := by
    rcases hlk with hlk | ⟨host, hlk⟩
    · exact va_runV (C := C) ⟨hx, hb, hml, hown, hts⟩ (h H.size) ⟨callB_of n hts hG rfl rfl rfl (hts _ hini) (hts _ hlk) hdd hroom, hts _ hi1, by rw [← hC]; exact hts _ hi2⟩ hp rfl (by rw [List.length_map]; exact hn) hl.1 rfl (lv_room (pc := pc) (ls := ls) (rest := []) (m := m) hst8) hdg ⟨hR.2.2.1, hR.2.2.2⟩
    · exact va_runVN (C := C) ⟨hx, hb, hml, hown, hts⟩ (h H.size) ⟨va_cnB n hts hG rfl rfl rfl (hnn _ hlk) (hts _ hini) hdd hroom, hts _ hi1, by rw [← hC]; exact hts _ hi2⟩ hp rfl (by rw [List.length_map]; exact hn) hl.1 rfl (lv_room (pc := pc) (ls := ls) (rest := []) (m := m) hst8) hdg ⟨hR.2.2.1, hR.2.2.2⟩
  rw [hstk]
  refine vm_back Cx hH hrun (fun r mem' H1 locs1 hq hH1 => ?_)
  rw [vm_map_nil]
  exact hq ok p e R s m args below meth c A cells slots Z Cx H1 locs1 ls hH1 hl hret
theorem ex_invS {M' : vm_Me} {idx n : Nat} {As : List vm_V} {x : List Nat} (i : Nat) (hc : vm_nth M.code i = some (pc, .invokestatic idx, 3, x)) (hM : vm_calS M' n) (hlk : vm_link M.y.cls idx M'.y) (hn : As.length = n) (hst : Nat.ble (vm_sw st) 8 = true)
    (h : vm_call G d M' As mem (fun mem' r => vm_ex G (d + 1) M (pc + 3) al (r.toList ++ st) mem' Q)) : vm_ex G (d + 1) M pc al (As.reverse ++ st) mem Q := by
  intro ok p e R s m args below meth c A cells slots Z Cx H locs ls hH hl hret
  have hdg := vm_dec ok hc
  obtain ⟨hx, hb, hml, hown, hts, hnn, hR, hK, hA, hO⟩ := id Cx
  obtain ⟨hi1, hcode, hini, hdd, hmx⟩ := hM
  have hG : GoodIn vm_WS (vm_wsM M') := fun w hw => by
    rcases List.mem_cons.mp hw with rfl | hw
    · exact vm_WS_good _ hcode
    · exact vm_WS_good _ hw
  have hroom : (vm_rm d).frames + 1 ≤ R.frames ∧ 8 + (M'.maxL + 11) + (vm_rm d).locals ≤ R.locals := ⟨hR.1, by show 8 + (M'.maxL + 11) + 60 * d ≤ R.locals; omega⟩
  have hst8 : ((st.map (vm_cv G)).map fun v => v.category).sum ≤ 8 := by
    rw [vm_sw_eq]; exact Nat.le_of_ble_eq_true hst
  have hstk : (As.reverse ++ st).map (vm_cv G) = (As.map (vm_cv G)).reverse ++ st.map (vm_cv G) := by simp
  have hp : PreS s H (va_Pc (As.map (vm_cv G)) (vm_Pc G mem H.size)) (As.map (vm_cv G)) :=
    ⟨vm_blind G mem H.size _, fun U hU hW => vm_pre Cx hH U hU hW⟩
  have hrun : va_Run p G.l e R s m args below meth c H locs cells slots 0 0 (F0 m pc ls ((As.map (vm_cv G)).reverse ++ st.map (vm_cv G))) (st.map (vm_cv G)) (vm_Qc G mem H.size (fun mem' r => vm_ex G (d + 1) M (pc + 3) al (r.toList ++ st) mem' Q) (As.map (vm_cv G)).toArray) (va_A (vm_ws G mem) H.size) := by
    rcases hlk with hlk | ⟨host, hlk⟩
    · exact va_runS ⟨hx, hb, hml, hown, hts⟩ (h H.size) ⟨callB_of n hts hG rfl rfl rfl (hts _ hini) (hts _ hlk) hdd hroom, hts _ hi1⟩ hp rfl (by rw [List.length_map]; exact hn) hl.1 rfl (lv_room (pc := pc) (ls := ls) (rest := []) (m := m) hst8) hdg ⟨hR.2.2.1, hR.2.2.2⟩
    · exact va_runSN ⟨hx, hb, hml, hown, hts⟩ (h H.size) ⟨va_cnB n hts hG rfl rfl rfl (hnn _ hlk) (hts _ hini) hdd hroom, hts _ hi1, trivial⟩ hp rfl (by rw [List.length_map]; exact hn) hl.1 rfl (lv_room (pc := pc) (ls := ls) (rest := []) (m := m) hst8) hdg ⟨hR.2.2.1, hR.2.2.2⟩
  rw [hstk]
  refine vm_back Cx hH hrun (fun r mem' H1 locs1 hq hH1 => ?_)
  rw [vm_map_nil]
  exact hq ok p e R s m args below meth c A cells slots Z Cx H1 locs1 ls hH1 hl hret
end VMC
end
section
theorem vm_i2lE {a : Int} (h : vm_R a) : (Int32.ofInt a).toInt64 = Int64.ofInt a := by
  rw [← Int64.toInt_inj, Int32.toInt_toInt64, vm_toOf h, Int64.toInt_ofInt]
  unfold vm_R at h
  have hs : (Int64.size : Int) = 18446744073709551616 := rfl
  rw [Int.bmod_def, hs]
  split <;> omega
section VMR
variable {G : vm_G} {d : Nat} {M : vm_Me} {pc : Nat} {al : List (Option vm_V)} {st : List vm_V} {mem : vm_M} {Q : vm_M → Option vm_V → Prop}
theorem ex_iadd {x_ : List Nat} {a b : Int} (i_ : Nat) (hc : vm_nth M.code i_ = some (pc, .iadd, 1, x_)) (h : vm_ex G d M (pc + 1) al (.inl (a + b) :: st) mem Q) : vm_ex G d M pc al (.inl b :: .inl a :: st) mem Q := by
  intro ok p e R s m args below meth c A cells slots Z Cx H locs ls hH hl hret
  obtain ⟨hx, hb, hml, hown, hts, hnn, hR, hK, hA, hO⟩ := id Cx
  have hdg := vm_dec ok hc
  have hk := h ok p e R s m args below meth c A cells slots Z Cx H locs ls hH hl hret
  simp only [List.map_cons, vm_cv, Int32.ofInt_add, Int32.ofInt_sub, Int32.ofInt_mul, Int32.ofInt_neg, vm_ofTo, vm_ofTo64] at hk ⊢
  exact lv_iadd hx hb hdg hk
theorem ex_isub {x_ : List Nat} {a b : Int} (i_ : Nat) (hc : vm_nth M.code i_ = some (pc, .isub, 1, x_)) (h : vm_ex G d M (pc + 1) al (.inl (a - b) :: st) mem Q) : vm_ex G d M pc al (.inl b :: .inl a :: st) mem Q := by
  intro ok p e R s m args below meth c A cells slots Z Cx H locs ls hH hl hret
  obtain ⟨hx, hb, hml, hown, hts, hnn, hR, hK, hA, hO⟩ := id Cx
  have hdg := vm_dec ok hc
  have hk := h ok p e R s m args below meth c A cells slots Z Cx H locs ls hH hl hret
  simp only [List.map_cons, vm_cv, Int32.ofInt_add, Int32.ofInt_sub, Int32.ofInt_mul, Int32.ofInt_neg, vm_ofTo, vm_ofTo64] at hk ⊢
  exact lv_isub hx hb hdg hk
theorem ex_imul {x_ : List Nat} {a b : Int} (i_ : Nat) (hc : vm_nth M.code i_ = some (pc, .imul, 1, x_)) (h : vm_ex G d M (pc + 1) al (.inl (a * b) :: st) mem Q) : vm_ex G d M pc al (.inl b :: .inl a :: st) mem Q := by
  intro ok p e R s m args below meth c A cells slots Z Cx H locs ls hH hl hret
  obtain ⟨hx, hb, hml, hown, hts, hnn, hR, hK, hA, hO⟩ := id Cx
  have hdg := vm_dec ok hc
  have hk := h ok p e R s m args below meth c A cells slots Z Cx H locs ls hH hl hret
  simp only [List.map_cons, vm_cv, Int32.ofInt_add, Int32.ofInt_sub, Int32.ofInt_mul, Int32.ofInt_neg, vm_ofTo, vm_ofTo64] at hk ⊢
  exact lv_imul hx hb hdg hk
theorem ex_iand {x_ : List Nat} {a b : Int} (i_ : Nat) (hc : vm_nth M.code i_ = some (pc, .iand, 1, x_)) (h : vm_ex G d M (pc + 1) al (.inl (vm_and a b) :: st) mem Q) : vm_ex G d M pc al (.inl b :: .inl a :: st) mem Q := by
  intro ok p e R s m args below meth c A cells slots Z Cx H locs ls hH hl hret
  obtain ⟨hx, hb, hml, hown, hts, hnn, hR, hK, hA, hO⟩ := id Cx
  have hdg := vm_dec ok hc
  have hk := h ok p e R s m args below meth c A cells slots Z Cx H locs ls hH hl hret
  simp only [vm_and] at hk
  simp only [List.map_cons, vm_cv, Int32.ofInt_add, Int32.ofInt_sub, Int32.ofInt_mul, Int32.ofInt_neg, vm_ofTo, vm_ofTo64] at hk ⊢
  exact lv_iand hx hb hdg hk
theorem ex_ior {x_ : List Nat} {a b : Int} (i_ : Nat) (hc : vm_nth M.code i_ = some (pc, .ior, 1, x_)) (h : vm_ex G d M (pc + 1) al (.inl (vm_or a b) :: st) mem Q) : vm_ex G d M pc al (.inl b :: .inl a :: st) mem Q := by
  intro ok p e R s m args below meth c A cells slots Z Cx H locs ls hH hl hret
  obtain ⟨hx, hb, hml, hown, hts, hnn, hR, hK, hA, hO⟩ := id Cx
  have hdg := vm_dec ok hc
  have hk := h ok p e R s m args below meth c A cells slots Z Cx H locs ls hH hl hret
  simp only [vm_or] at hk
  simp only [List.map_cons, vm_cv, Int32.ofInt_add, Int32.ofInt_sub, Int32.ofInt_mul, Int32.ofInt_neg, vm_ofTo, vm_ofTo64] at hk ⊢
  exact lv_ior hx hb hdg hk
theorem ex_ixor {x_ : List Nat} {a b : Int} (i_ : Nat) (hc : vm_nth M.code i_ = some (pc, .ixor, 1, x_)) (h : vm_ex G d M (pc + 1) al (.inl (vm_xor a b) :: st) mem Q) : vm_ex G d M pc al (.inl b :: .inl a :: st) mem Q := by
  intro ok p e R s m args below meth c A cells slots Z Cx H locs ls hH hl hret
  obtain ⟨hx, hb, hml, hown, hts, hnn, hR, hK, hA, hO⟩ := id Cx
  have hdg := vm_dec ok hc
  have hk := h ok p e R s m args below meth c A cells slots Z Cx H locs ls hH hl hret
  simp only [vm_xor] at hk
  simp only [List.map_cons, vm_cv, Int32.ofInt_add, Int32.ofInt_sub, Int32.ofInt_mul, Int32.ofInt_neg, vm_ofTo, vm_ofTo64] at hk ⊢
  exact lv_ixor hx hb hdg hk
theorem ex_ishl {x_ : List Nat} {a b : Int} (i_ : Nat) (hc : vm_nth M.code i_ = some (pc, .ishl, 1, x_)) (h : vm_ex G d M (pc + 1) al (.inl (vm_shl a b) :: st) mem Q) : vm_ex G d M pc al (.inl b :: .inl a :: st) mem Q := by
  intro ok p e R s m args below meth c A cells slots Z Cx H locs ls hH hl hret
  obtain ⟨hx, hb, hml, hown, hts, hnn, hR, hK, hA, hO⟩ := id Cx
  have hdg := vm_dec ok hc
  have hk := h ok p e R s m args below meth c A cells slots Z Cx H locs ls hH hl hret
  simp only [vm_shl] at hk
  simp only [List.map_cons, vm_cv, Int32.ofInt_add, Int32.ofInt_sub, Int32.ofInt_mul, Int32.ofInt_neg, vm_ofTo, vm_ofTo64] at hk ⊢
  exact lv_ishl hx hb hdg hk
theorem ex_ishr {x_ : List Nat} {a b : Int} (i_ : Nat) (hc : vm_nth M.code i_ = some (pc, .ishr, 1, x_)) (h : vm_ex G d M (pc + 1) al (.inl (vm_shr a b) :: st) mem Q) : vm_ex G d M pc al (.inl b :: .inl a :: st) mem Q := by
  intro ok p e R s m args below meth c A cells slots Z Cx H locs ls hH hl hret
  obtain ⟨hx, hb, hml, hown, hts, hnn, hR, hK, hA, hO⟩ := id Cx
  have hdg := vm_dec ok hc
  have hk := h ok p e R s m args below meth c A cells slots Z Cx H locs ls hH hl hret
  simp only [vm_shr] at hk
  simp only [List.map_cons, vm_cv, Int32.ofInt_add, Int32.ofInt_sub, Int32.ofInt_mul, Int32.ofInt_neg, vm_ofTo, vm_ofTo64] at hk ⊢
  exact lv_ishr hx hb hdg hk
theorem ex_ineg {x_ : List Nat} {a : Int} (i_ : Nat) (hc : vm_nth M.code i_ = some (pc, .ineg, 1, x_)) (h : vm_ex G d M (pc + 1) al (.inl (-a) :: st) mem Q) : vm_ex G d M pc al (.inl a :: st) mem Q := by
  intro ok p e R s m args below meth c A cells slots Z Cx H locs ls hH hl hret
  obtain ⟨hx, hb, hml, hown, hts, hnn, hR, hK, hA, hO⟩ := id Cx
  have hdg := vm_dec ok hc
  have hk := h ok p e R s m args below meth c A cells slots Z Cx H locs ls hH hl hret
  simp only [List.map_cons, vm_cv, Int32.ofInt_add, Int32.ofInt_sub, Int32.ofInt_mul, Int32.ofInt_neg, vm_ofTo, vm_ofTo64] at hk ⊢
  exact lv_ineg hx hb hdg hk
theorem ex_idiv {x_ : List Nat} {a b : Int} (i_ : Nat) (hc : vm_nth M.code i_ = some (pc, .idiv, 1, x_)) (hb0 : vm_R b ∧ ¬ b = 0) (h : vm_ex G d M (pc + 1) al (.inl (vm_div a b) :: st) mem Q) : vm_ex G d M pc al (.inl b :: .inl a :: st) mem Q := by
  intro ok p e R s m args below meth c A cells slots Z Cx H locs ls hH hl hret
  obtain ⟨hx, hb, hml, hown, hts, hnn, hR, hK, hA, hO⟩ := id Cx
  have hdg := vm_dec ok hc
  have hk := h ok p e R s m args below meth c A cells slots Z Cx H locs ls hH hl hret
  simp only [vm_div] at hk
  simp only [List.map_cons, vm_cv, Int32.ofInt_add, Int32.ofInt_sub, Int32.ofInt_mul, Int32.ofInt_neg, vm_ofTo, vm_ofTo64] at hk ⊢
  exact lv_idiv hx hb hdg (fun e0 => hb0.2 ((vm_eqI hb0.1 vm_R0).mp (e0.trans vm_zero))) hk
theorem ex_irem {x_ : List Nat} {a b : Int} (i_ : Nat) (hc : vm_nth M.code i_ = some (pc, .irem, 1, x_)) (hb0 : vm_R b ∧ ¬ b = 0) (h : vm_ex G d M (pc + 1) al (.inl (vm_rem a b) :: st) mem Q) : vm_ex G d M pc al (.inl b :: .inl a :: st) mem Q := by
  intro ok p e R s m args below meth c A cells slots Z Cx H locs ls hH hl hret
  obtain ⟨hx, hb, hml, hown, hts, hnn, hR, hK, hA, hO⟩ := id Cx
  have hdg := vm_dec ok hc
  have hk := h ok p e R s m args below meth c A cells slots Z Cx H locs ls hH hl hret
  simp only [vm_rem] at hk
  simp only [List.map_cons, vm_cv, Int32.ofInt_add, Int32.ofInt_sub, Int32.ofInt_mul, Int32.ofInt_neg, vm_ofTo, vm_ofTo64] at hk ⊢
  exact lv_irem hx hb hdg (fun e0 => hb0.2 ((vm_eqI hb0.1 vm_R0).mp (e0.trans vm_zero))) hk
theorem ex_land {x_ : List Nat} {a b : Int} (i_ : Nat) (hc : vm_nth M.code i_ = some (pc, .land, 1, x_)) (h : vm_ex G d M (pc + 1) al (.inr (.inl (vm_land a b)) :: st) mem Q) : vm_ex G d M pc al (.inr (.inl b) :: .inr (.inl a) :: st) mem Q := by
  intro ok p e R s m args below meth c A cells slots Z Cx H locs ls hH hl hret
  obtain ⟨hx, hb, hml, hown, hts, hnn, hR, hK, hA, hO⟩ := id Cx
  have hdg := vm_dec ok hc
  have hk := h ok p e R s m args below meth c A cells slots Z Cx H locs ls hH hl hret
  simp only [vm_land] at hk
  simp only [List.map_cons, vm_cv, Int32.ofInt_add, Int32.ofInt_sub, Int32.ofInt_mul, Int32.ofInt_neg, vm_ofTo, vm_ofTo64] at hk ⊢
  exact lv_land hx hb hdg hk
theorem ex_lor {x_ : List Nat} {a b : Int} (i_ : Nat) (hc : vm_nth M.code i_ = some (pc, .lor, 1, x_)) (h : vm_ex G d M (pc + 1) al (.inr (.inl (vm_lor a b)) :: st) mem Q) : vm_ex G d M pc al (.inr (.inl b) :: .inr (.inl a) :: st) mem Q := by
  intro ok p e R s m args below meth c A cells slots Z Cx H locs ls hH hl hret
  obtain ⟨hx, hb, hml, hown, hts, hnn, hR, hK, hA, hO⟩ := id Cx
  have hdg := vm_dec ok hc
  have hk := h ok p e R s m args below meth c A cells slots Z Cx H locs ls hH hl hret
  simp only [vm_lor] at hk
  simp only [List.map_cons, vm_cv, Int32.ofInt_add, Int32.ofInt_sub, Int32.ofInt_mul, Int32.ofInt_neg, vm_ofTo, vm_ofTo64] at hk ⊢
  exact lv_lor hx hb hdg hk
theorem ex_lushr {x_ : List Nat} {a b : Int} (i_ : Nat) (hc : vm_nth M.code i_ = some (pc, .lushr, 1, x_)) (h : vm_ex G d M (pc + 1) al (.inr (.inl (vm_lushr a b)) :: st) mem Q) : vm_ex G d M pc al (.inl b :: .inr (.inl a) :: st) mem Q := by
  intro ok p e R s m args below meth c A cells slots Z Cx H locs ls hH hl hret
  obtain ⟨hx, hb, hml, hown, hts, hnn, hR, hK, hA, hO⟩ := id Cx
  have hdg := vm_dec ok hc
  have hk := h ok p e R s m args below meth c A cells slots Z Cx H locs ls hH hl hret
  simp only [vm_lushr] at hk
  simp only [List.map_cons, vm_cv, Int32.ofInt_add, Int32.ofInt_sub, Int32.ofInt_mul, Int32.ofInt_neg, vm_ofTo, vm_ofTo64] at hk ⊢
  exact lv_lushr hx hb hdg rfl hk
theorem ex_lshl {x_ : List Nat} {a b : Int} (i_ : Nat) (hc : vm_nth M.code i_ = some (pc, .lshl, 1, x_)) (h : vm_ex G d M (pc + 1) al (.inr (.inl (vm_lshl a b)) :: st) mem Q) : vm_ex G d M pc al (.inl b :: .inr (.inl a) :: st) mem Q := by
  intro ok p e R s m args below meth c A cells slots Z Cx H locs ls hH hl hret
  obtain ⟨hx, hb, hml, hown, hts, hnn, hR, hK, hA, hO⟩ := id Cx
  have hdg := vm_dec ok hc
  have hk := h ok p e R s m args below meth c A cells slots Z Cx H locs ls hH hl hret
  simp only [vm_lshl] at hk
  simp only [List.map_cons, vm_cv, Int32.ofInt_add, Int32.ofInt_sub, Int32.ofInt_mul, Int32.ofInt_neg, vm_ofTo, vm_ofTo64] at hk ⊢
  exact lv_lshl hx hb hdg rfl hk
theorem ex_lshr {x_ : List Nat} {a b : Int} (i_ : Nat) (hc : vm_nth M.code i_ = some (pc, .lshr, 1, x_)) (h : vm_ex G d M (pc + 1) al (.inr (.inl (vm_lshr a b)) :: st) mem Q) : vm_ex G d M pc al (.inl b :: .inr (.inl a) :: st) mem Q := by
  intro ok p e R s m args below meth c A cells slots Z Cx H locs ls hH hl hret
  obtain ⟨hx, hb, hml, hown, hts, hnn, hR, hK, hA, hO⟩ := id Cx
  have hdg := vm_dec ok hc
  have hk := h ok p e R s m args below meth c A cells slots Z Cx H locs ls hH hl hret
  simp only [vm_lshr] at hk
  simp only [List.map_cons, vm_cv, Int32.ofInt_add, Int32.ofInt_sub, Int32.ofInt_mul, Int32.ofInt_neg, vm_ofTo, vm_ofTo64] at hk ⊢
  exact lv_lshr hx hb hdg rfl hk
theorem ex_lcmp {x_ : List Nat} {a b : Int} (i_ : Nat) (hc : vm_nth M.code i_ = some (pc, .lcmp, 1, x_)) (h : vm_ex G d M (pc + 1) al (.inl (vm_lcmp a b) :: st) mem Q) : vm_ex G d M pc al (.inr (.inl b) :: .inr (.inl a) :: st) mem Q := by
  intro ok p e R s m args below meth c A cells slots Z Cx H locs ls hH hl hret
  obtain ⟨hx, hb, hml, hown, hts, hnn, hR, hK, hA, hO⟩ := id Cx
  have hdg := vm_dec ok hc
  have hk := h ok p e R s m args below meth c A cells slots Z Cx H locs ls hH hl hret
  simp only [vm_lcmp] at hk
  simp only [List.map_cons, vm_cv, Int32.ofInt_add, Int32.ofInt_sub, Int32.ofInt_mul, Int32.ofInt_neg, vm_ofTo, vm_ofTo64] at hk ⊢
  exact W.lcmp hx hb hdg hk
theorem ex_i2l {x_ : List Nat} {a : Int} (i_ : Nat) (hc : vm_nth M.code i_ = some (pc, .i2l, 1, x_)) (hr : vm_R a) (h : vm_ex G d M (pc + 1) al (.inr (.inl a) :: st) mem Q) : vm_ex G d M pc al (.inl a :: st) mem Q := by
  intro ok p e R s m args below meth c A cells slots Z Cx H locs ls hH hl hret
  obtain ⟨hx, hb, hml, hown, hts, hnn, hR, hK, hA, hO⟩ := id Cx
  have hdg := vm_dec ok hc
  have hk := h ok p e R s m args below meth c A cells slots Z Cx H locs ls hH hl hret
  simp only [List.map_cons, vm_cv, Int32.ofInt_add, Int32.ofInt_sub, Int32.ofInt_mul, Int32.ofInt_neg, vm_ofTo, vm_ofTo64] at hk ⊢
  exact lv_i2l hx hb hdg (vm_i2lE hr) hk
theorem ex_l2i {x_ : List Nat} {a : Int} (i_ : Nat) (hc : vm_nth M.code i_ = some (pc, .l2i, 1, x_)) (h : vm_ex G d M (pc + 1) al (.inl (vm_l2i a) :: st) mem Q) : vm_ex G d M pc al (.inr (.inl a) :: st) mem Q := by
  intro ok p e R s m args below meth c A cells slots Z Cx H locs ls hH hl hret
  obtain ⟨hx, hb, hml, hown, hts, hnn, hR, hK, hA, hO⟩ := id Cx
  have hdg := vm_dec ok hc
  have hk := h ok p e R s m args below meth c A cells slots Z Cx H locs ls hH hl hret
  simp only [vm_l2i] at hk
  simp only [List.map_cons, vm_cv, Int32.ofInt_add, Int32.ofInt_sub, Int32.ofInt_mul, Int32.ofInt_neg, vm_ofTo, vm_ofTo64] at hk ⊢
  exact lv_l2i hx hb hdg rfl hk
theorem ex_i2c {x_ : List Nat} {a : Int} (i_ : Nat) (hc : vm_nth M.code i_ = some (pc, .i2c, 1, x_)) (h : vm_ex G d M (pc + 1) al (.inl (vm_i2c a) :: st) mem Q) : vm_ex G d M pc al (.inl a :: st) mem Q := by
  intro ok p e R s m args below meth c A cells slots Z Cx H locs ls hH hl hret
  obtain ⟨hx, hb, hml, hown, hts, hnn, hR, hK, hA, hO⟩ := id Cx
  have hdg := vm_dec ok hc
  have hk := h ok p e R s m args below meth c A cells slots Z Cx H locs ls hH hl hret
  simp only [vm_i2c] at hk
  simp only [List.map_cons, vm_cv, Int32.ofInt_add, Int32.ofInt_sub, Int32.ofInt_mul, Int32.ofInt_neg, vm_ofTo, vm_ofTo64] at hk ⊢
  exact lv_i2c hx hb hdg rfl hk
theorem ex_iconst {x_ : List Nat} {n : Int} (i_ : Nat) (hc : vm_nth M.code i_ = some (pc, .iconst n, 1, x_)) (h : vm_ex G d M (pc + 1) al (.inl n :: st) mem Q) : vm_ex G d M pc al (st) mem Q := by
  intro ok p e R s m args below meth c A cells slots Z Cx H locs ls hH hl hret
  obtain ⟨hx, hb, hml, hown, hts, hnn, hR, hK, hA, hO⟩ := id Cx
  have hdg := vm_dec ok hc
  have hk := h ok p e R s m args below meth c A cells slots Z Cx H locs ls hH hl hret
  simp only [List.map_cons, vm_cv, Int32.ofInt_add, Int32.ofInt_sub, Int32.ofInt_mul, Int32.ofInt_neg, vm_ofTo, vm_ofTo64] at hk ⊢
  exact lv_iconst hx hb hdg rfl hk
theorem ex_bipush {x_ : List Nat} {n : Int} (i_ : Nat) (hc : vm_nth M.code i_ = some (pc, .bipush n, 2, x_)) (hv : (Int8.ofInt n).toInt32 = Int32.ofInt n) (h : vm_ex G d M (pc + 2) al (.inl n :: st) mem Q) : vm_ex G d M pc al (st) mem Q := by
  intro ok p e R s m args below meth c A cells slots Z Cx H locs ls hH hl hret
  obtain ⟨hx, hb, hml, hown, hts, hnn, hR, hK, hA, hO⟩ := id Cx
  have hdg := vm_dec ok hc
  have hk := h ok p e R s m args below meth c A cells slots Z Cx H locs ls hH hl hret
  simp only [List.map_cons, vm_cv, Int32.ofInt_add, Int32.ofInt_sub, Int32.ofInt_mul, Int32.ofInt_neg, vm_ofTo, vm_ofTo64] at hk ⊢
  exact lv_bipush hx hb hdg hv hk
theorem ex_sipush {x_ : List Nat} {n : Int} (i_ : Nat) (hc : vm_nth M.code i_ = some (pc, .sipush n, 3, x_)) (hv : (Int16.ofInt n).toInt32 = Int32.ofInt n) (h : vm_ex G d M (pc + 3) al (.inl n :: st) mem Q) : vm_ex G d M pc al (st) mem Q := by
  intro ok p e R s m args below meth c A cells slots Z Cx H locs ls hH hl hret
  obtain ⟨hx, hb, hml, hown, hts, hnn, hR, hK, hA, hO⟩ := id Cx
  have hdg := vm_dec ok hc
  have hk := h ok p e R s m args below meth c A cells slots Z Cx H locs ls hH hl hret
  simp only [List.map_cons, vm_cv, Int32.ofInt_add, Int32.ofInt_sub, Int32.ofInt_mul, Int32.ofInt_neg, vm_ofTo, vm_ofTo64] at hk ⊢
  exact lv_sipush hx hb hdg hv hk
theorem ex_lconst {x_ : List Nat} {k : Fin 2} {n : Int} (i_ : Nat) (hc : vm_nth M.code i_ = some (pc, .lconst k, 1, x_)) (hv : Int64.ofNat (k : Nat) = Int64.ofInt n) (h : vm_ex G d M (pc + 1) al (.inr (.inl n) :: st) mem Q) : vm_ex G d M pc al (st) mem Q := by
  intro ok p e R s m args below meth c A cells slots Z Cx H locs ls hH hl hret
  obtain ⟨hx, hb, hml, hown, hts, hnn, hR, hK, hA, hO⟩ := id Cx
  have hdg := vm_dec ok hc
  have hk := h ok p e R s m args below meth c A cells slots Z Cx H locs ls hH hl hret
  simp only [List.map_cons, vm_cv, Int32.ofInt_add, Int32.ofInt_sub, Int32.ofInt_mul, Int32.ofInt_neg, vm_ofTo, vm_ofTo64] at hk ⊢
  exact lv_lconst hx hb hdg hv hk
theorem ex_ldc {x_ : List Nat} {idx : Nat} {v : Int32} {n : Int} (i_ : Nat) (hc : vm_nth M.code i_ = some (pc, .ldc idx, 2, x_)) (hw : Cond.constant M.y.cls idx v ∈ vm_WS) (hv : v = Int32.ofInt n) (h : vm_ex G d M (pc + 2) al (.inl n :: st) mem Q) : vm_ex G d M pc al (st) mem Q := by
  intro ok p e R s m args below meth c A cells slots Z Cx H locs ls hH hl hret
  obtain ⟨hx, hb, hml, hown, hts, hnn, hR, hK, hA, hO⟩ := id Cx
  have hdg := vm_dec ok hc
  have hk := h ok p e R s m args below meth c A cells slots Z Cx H locs ls hH hl hret
  simp only [List.map_cons, vm_cv, Int32.ofInt_add, Int32.ofInt_sub, Int32.ofInt_mul, Int32.ofInt_neg, vm_ofTo, vm_ofTo64] at hk ⊢
  exact lv_ldc hx hb hown (hts _ hw) hdg (hv ▸ hk)
theorem ex_ldc2 {x_ : List Nat} {idx : Nat} {v : Int64} {n : Int} (i_ : Nat) (hc : vm_nth M.code i_ = some (pc, .ldc2_w idx, 3, x_)) (hw : Cond.constantLong M.y.cls idx v ∈ vm_WS) (hv : v = Int64.ofInt n) (h : vm_ex G d M (pc + 3) al (.inr (.inl n) :: st) mem Q) : vm_ex G d M pc al (st) mem Q := by
  intro ok p e R s m args below meth c A cells slots Z Cx H locs ls hH hl hret
  obtain ⟨hx, hb, hml, hown, hts, hnn, hR, hK, hA, hO⟩ := id Cx
  have hdg := vm_dec ok hc
  have hk := h ok p e R s m args below meth c A cells slots Z Cx H locs ls hH hl hret
  simp only [List.map_cons, vm_cv, Int32.ofInt_add, Int32.ofInt_sub, Int32.ofInt_mul, Int32.ofInt_neg, vm_ofTo, vm_ofTo64] at hk ⊢
  exact lv_ldc2 hx hb hown (hts _ hw) hdg (hv ▸ hk)
theorem ex_iload_n {x_ : List Nat} {k : Fin 4} {v : Int} (i_ : Nat) (hc : vm_nth M.code i_ = some (pc, .iload_n k, 1, x_)) (hv : vm_nth al k = some (some (.inl v))) (h : vm_ex G d M (pc + 1) al (.inl v :: st) mem Q) : vm_ex G d M pc al (st) mem Q := by
  intro ok p e R s m args below meth c A cells slots Z Cx H locs ls hH hl hret
  obtain ⟨hx, hb, hml, hown, hts, hnn, hR, hK, hA, hO⟩ := id Cx
  have hdg := vm_dec ok hc
  have hk := h ok p e R s m args below meth c A cells slots Z Cx H locs ls hH hl hret
  have hv := vm_lk_at hl hv
  simp only [List.map_cons, vm_cv, Int32.ofInt_add, Int32.ofInt_sub, Int32.ofInt_mul, Int32.ofInt_neg, vm_ofTo, vm_ofTo64] at hk hv ⊢
  exact lv_iload_n hx hb hdg rfl hv hk
theorem ex_iload {x_ : List Nat} {k : Nat} {v : Int} (i_ : Nat) (hc : vm_nth M.code i_ = some (pc, .iload k, 2, x_)) (hv : vm_nth al k = some (some (.inl v))) (h : vm_ex G d M (pc + 2) al (.inl v :: st) mem Q) : vm_ex G d M pc al (st) mem Q := by
  intro ok p e R s m args below meth c A cells slots Z Cx H locs ls hH hl hret
  obtain ⟨hx, hb, hml, hown, hts, hnn, hR, hK, hA, hO⟩ := id Cx
  have hdg := vm_dec ok hc
  have hk := h ok p e R s m args below meth c A cells slots Z Cx H locs ls hH hl hret
  have hv := vm_lk_at hl hv
  simp only [List.map_cons, vm_cv, Int32.ofInt_add, Int32.ofInt_sub, Int32.ofInt_mul, Int32.ofInt_neg, vm_ofTo, vm_ofTo64] at hk hv ⊢
  exact lv_iload hx hb hdg hv hk
theorem ex_lload_n {x_ : List Nat} {k : Fin 4} {v : Int} (i_ : Nat) (hc : vm_nth M.code i_ = some (pc, .lload_n k, 1, x_)) (hv : vm_nth al k = some (some (.inr (.inl v)))) (h : vm_ex G d M (pc + 1) al (.inr (.inl v) :: st) mem Q) : vm_ex G d M pc al (st) mem Q := by
  intro ok p e R s m args below meth c A cells slots Z Cx H locs ls hH hl hret
  obtain ⟨hx, hb, hml, hown, hts, hnn, hR, hK, hA, hO⟩ := id Cx
  have hdg := vm_dec ok hc
  have hk := h ok p e R s m args below meth c A cells slots Z Cx H locs ls hH hl hret
  have hv := vm_lk_at hl hv
  simp only [List.map_cons, vm_cv, Int32.ofInt_add, Int32.ofInt_sub, Int32.ofInt_mul, Int32.ofInt_neg, vm_ofTo, vm_ofTo64] at hk hv ⊢
  exact lv_lload_n hx hb hdg rfl hv hk
theorem ex_lload {x_ : List Nat} {k : Nat} {v : Int} (i_ : Nat) (hc : vm_nth M.code i_ = some (pc, .lload k, 2, x_)) (hv : vm_nth al k = some (some (.inr (.inl v)))) (h : vm_ex G d M (pc + 2) al (.inr (.inl v) :: st) mem Q) : vm_ex G d M pc al (st) mem Q := by
  intro ok p e R s m args below meth c A cells slots Z Cx H locs ls hH hl hret
  obtain ⟨hx, hb, hml, hown, hts, hnn, hR, hK, hA, hO⟩ := id Cx
  have hdg := vm_dec ok hc
  have hk := h ok p e R s m args below meth c A cells slots Z Cx H locs ls hH hl hret
  have hv := vm_lk_at hl hv
  simp only [List.map_cons, vm_cv, Int32.ofInt_add, Int32.ofInt_sub, Int32.ofInt_mul, Int32.ofInt_neg, vm_ofTo, vm_ofTo64] at hk hv ⊢
  exact lv_lload hx hb hdg hv hk
theorem ex_aload_n {x_ : List Nat} {k : Fin 4} {v : Nat} (i_ : Nat) (hc : vm_nth M.code i_ = some (pc, .aload_n k, 1, x_)) (hv : vm_nth al k = some (some (.inr (.inr v)))) (h : vm_ex G d M (pc + 1) al (.inr (.inr v) :: st) mem Q) : vm_ex G d M pc al (st) mem Q := by
  intro ok p e R s m args below meth c A cells slots Z Cx H locs ls hH hl hret
  obtain ⟨hx, hb, hml, hown, hts, hnn, hR, hK, hA, hO⟩ := id Cx
  have hdg := vm_dec ok hc
  have hk := h ok p e R s m args below meth c A cells slots Z Cx H locs ls hH hl hret
  have hv := vm_lk_at hl hv
  simp only [List.map_cons, vm_cv, Int32.ofInt_add, Int32.ofInt_sub, Int32.ofInt_mul, Int32.ofInt_neg, vm_ofTo, vm_ofTo64] at hk hv ⊢
  exact lv_aload_n hx hb hdg rfl hv hk
theorem ex_aload {x_ : List Nat} {k : Nat} {v : Nat} (i_ : Nat) (hc : vm_nth M.code i_ = some (pc, .aload k, 2, x_)) (hv : vm_nth al k = some (some (.inr (.inr v)))) (h : vm_ex G d M (pc + 2) al (.inr (.inr v) :: st) mem Q) : vm_ex G d M pc al (st) mem Q := by
  intro ok p e R s m args below meth c A cells slots Z Cx H locs ls hH hl hret
  obtain ⟨hx, hb, hml, hown, hts, hnn, hR, hK, hA, hO⟩ := id Cx
  have hdg := vm_dec ok hc
  have hk := h ok p e R s m args below meth c A cells slots Z Cx H locs ls hH hl hret
  have hv := vm_lk_at hl hv
  simp only [List.map_cons, vm_cv, Int32.ofInt_add, Int32.ofInt_sub, Int32.ofInt_mul, Int32.ofInt_neg, vm_ofTo, vm_ofTo64] at hk hv ⊢
  exact lv_aload hx hb hdg hv hk
theorem ex_istore_n {x_ : List Nat} {k : Fin 4} {v : Int} (i_ : Nat) (hc : vm_nth M.code i_ = some (pc, .istore_n k, 1, x_)) (hn : Nat.ble ((k : Nat) + 1) M.maxL = true) (hok : vm_okst al (k : Nat) = true) (h : vm_ex G d M (pc + 1) (vm_set al k (some (.inl v))) (st) mem Q) : vm_ex G d M pc al (.inl v :: st) mem Q := by
  intro ok p e R s m args below meth c A cells slots Z Cx H locs ls hH hl hret
  obtain ⟨hx, hb, hml, hown, hts, hnn, hR, hK, hA, hO⟩ := id Cx
  have hdg := vm_dec ok hc
  have hn := Nat.le_of_ble_eq_true hn
  simp only [List.map_cons, vm_cv]
  exact lv_istore_n hx hb hdg rfl hl hn rfl (fun ls1 hl1 => h ok p e R s m args below meth c A cells slots Z Cx H locs ls1 hH (vm_lk_set hok hl1) hret)
theorem ex_istore {x_ : List Nat} {k : Nat} {v : Int} (i_ : Nat) (hc : vm_nth M.code i_ = some (pc, .istore k, 2, x_)) (hn : Nat.ble (k + 1) M.maxL = true) (hok : vm_okst al k = true) (h : vm_ex G d M (pc + 2) (vm_set al k (some (.inl v))) (st) mem Q) : vm_ex G d M pc al (.inl v :: st) mem Q := by
  intro ok p e R s m args below meth c A cells slots Z Cx H locs ls hH hl hret
  obtain ⟨hx, hb, hml, hown, hts, hnn, hR, hK, hA, hO⟩ := id Cx
  have hdg := vm_dec ok hc
  have hn := Nat.le_of_ble_eq_true hn
  simp only [List.map_cons, vm_cv]
  exact lv_istore hx hb hdg hl hn rfl (fun ls1 hl1 => h ok p e R s m args below meth c A cells slots Z Cx H locs ls1 hH (vm_lk_set hok hl1) hret)
theorem ex_astore_n {x_ : List Nat} {k : Fin 4} {v : Nat} (i_ : Nat) (hc : vm_nth M.code i_ = some (pc, .astore_n k, 1, x_)) (hn : Nat.ble ((k : Nat) + 1) M.maxL = true) (hok : vm_okst al (k : Nat) = true) (h : vm_ex G d M (pc + 1) (vm_set al k (some (.inr (.inr v)))) (st) mem Q) : vm_ex G d M pc al (.inr (.inr v) :: st) mem Q := by
  intro ok p e R s m args below meth c A cells slots Z Cx H locs ls hH hl hret
  obtain ⟨hx, hb, hml, hown, hts, hnn, hR, hK, hA, hO⟩ := id Cx
  have hdg := vm_dec ok hc
  have hn := Nat.le_of_ble_eq_true hn
  simp only [List.map_cons, vm_cv]
  exact lv_astore_n hx hb hdg rfl hl hn rfl (fun ls1 hl1 => h ok p e R s m args below meth c A cells slots Z Cx H locs ls1 hH (vm_lk_set hok hl1) hret)
theorem ex_astore {x_ : List Nat} {k : Nat} {v : Nat} (i_ : Nat) (hc : vm_nth M.code i_ = some (pc, .astore k, 2, x_)) (hn : Nat.ble (k + 1) M.maxL = true) (hok : vm_okst al k = true) (h : vm_ex G d M (pc + 2) (vm_set al k (some (.inr (.inr v)))) (st) mem Q) : vm_ex G d M pc al (.inr (.inr v) :: st) mem Q := by
  intro ok p e R s m args below meth c A cells slots Z Cx H locs ls hH hl hret
  obtain ⟨hx, hb, hml, hown, hts, hnn, hR, hK, hA, hO⟩ := id Cx
  have hdg := vm_dec ok hc
  have hn := Nat.le_of_ble_eq_true hn
  simp only [List.map_cons, vm_cv]
  exact lv_astore hx hb hdg hl hn rfl (fun ls1 hl1 => h ok p e R s m args below meth c A cells slots Z Cx H locs ls1 hH (vm_lk_set hok hl1) hret)
theorem ex_lstore_n {x_ : List Nat} {k : Fin 4} {v : Int} (i_ : Nat) (hc : vm_nth M.code i_ = some (pc, .lstore_n k, 1, x_)) (hn : Nat.ble ((k : Nat) + 2) M.maxL = true) (hok : vm_okst al (k : Nat) = true) (h : vm_ex G d M (pc + 1) (vm_set (vm_set al k (some (.inr (.inl v)))) ((k : Nat) + 1) none) (st) mem Q) : vm_ex G d M pc al (.inr (.inl v) :: st) mem Q := by
  intro ok p e R s m args below meth c A cells slots Z Cx H locs ls hH hl hret
  obtain ⟨hx, hb, hml, hown, hts, hnn, hR, hK, hA, hO⟩ := id Cx
  have hdg := vm_dec ok hc
  have hn := Nat.le_of_ble_eq_true hn
  simp only [List.map_cons, vm_cv]
  exact lv_lstore_n hx hb hdg rfl hl hn rfl (fun ls1 hl1 => h ok p e R s m args below meth c A cells slots Z Cx H locs ls1 hH (vm_lk_set2 hok hl1) hret)
theorem ex_lstore {x_ : List Nat} {k : Nat} {v : Int} (i_ : Nat) (hc : vm_nth M.code i_ = some (pc, .lstore k, 2, x_)) (hn : Nat.ble ((k : Nat) + 2) M.maxL = true) (hok : vm_okst al (k : Nat) = true) (h : vm_ex G d M (pc + 2) (vm_set (vm_set al k (some (.inr (.inl v)))) ((k : Nat) + 1) none) (st) mem Q) : vm_ex G d M pc al (.inr (.inl v) :: st) mem Q := by
  intro ok p e R s m args below meth c A cells slots Z Cx H locs ls hH hl hret
  obtain ⟨hx, hb, hml, hown, hts, hnn, hR, hK, hA, hO⟩ := id Cx
  have hdg := vm_dec ok hc
  have hn := Nat.le_of_ble_eq_true hn
  simp only [List.map_cons, vm_cv]
  exact lv_lstore hx hb hdg hl hn rfl (fun ls1 hl1 => h ok p e R s m args below meth c A cells slots Z Cx H locs ls1 hH (vm_lk_set2 hok hl1) hret)
theorem ex_iinc {x_ : List Nat} {k : Nat} {n v : Int} (i_ : Nat) (hc : vm_nth M.code i_ = some (pc, .iinc k n, 3, x_)) (hv : vm_nth al k = some (some (.inl v))) (hn : Nat.ble (k + 1) M.maxL = true) (hok : vm_okst al k = true) (h : vm_ex G d M (pc + 3) (vm_set al k (some (.inl (v + n)))) (st) mem Q) : vm_ex G d M pc al (st) mem Q := by
  intro ok p e R s m args below meth c A cells slots Z Cx H locs ls hH hl hret
  obtain ⟨hx, hb, hml, hown, hts, hnn, hR, hK, hA, hO⟩ := id Cx
  have hdg := vm_dec ok hc
  have hn := Nat.le_of_ble_eq_true hn
  have hv1 : (k, vm_cv G (.inl v)) ∈ vm_lk G al := vm_lk_mem.mpr ⟨_, by rw [← vm_nth_eq]; exact hv, rfl⟩
  obtain ⟨j, hj⟩ := List.getElem?_of_mem hv1
  exact lv_iinc (k := j) hx hb hdg hl hj (v := Int32.ofInt (v + n)) (by rw [Int32.ofInt_add]) hn rfl (fun ls1 hl1 => h ok p e R s m args below meth c A cells slots Z Cx H locs ls1 hH (vm_lk_set hok hl1) hret)
theorem ex_dupi {x_ : List Nat} {a : Int} (i_ : Nat) (hc : vm_nth M.code i_ = some (pc, .dup, 1, x_)) (h : vm_ex G d M (pc + 1) al (.inl a :: .inl a :: st) mem Q) : vm_ex G d M pc al (.inl a :: st) mem Q := by
  intro ok p e R s m args below meth c A cells slots Z Cx H locs ls hH hl hret
  obtain ⟨hx, hb, hml, hown, hts, hnn, hR, hK, hA, hO⟩ := id Cx
  have hdg := vm_dec ok hc
  have hk := h ok p e R s m args below meth c A cells slots Z Cx H locs ls hH hl hret
  simp only [List.map_cons, vm_cv, Int32.ofInt_add, Int32.ofInt_sub, Int32.ofInt_mul, Int32.ofInt_neg, vm_ofTo, vm_ofTo64] at hk ⊢
  exact lv_dup hx hb hdg rfl hk
theorem ex_dupa {x_ : List Nat} {a : Nat} (i_ : Nat) (hc : vm_nth M.code i_ = some (pc, .dup, 1, x_)) (h : vm_ex G d M (pc + 1) al (.inr (.inr a) :: .inr (.inr a) :: st) mem Q) : vm_ex G d M pc al (.inr (.inr a) :: st) mem Q := by
  intro ok p e R s m args below meth c A cells slots Z Cx H locs ls hH hl hret
  obtain ⟨hx, hb, hml, hown, hts, hnn, hR, hK, hA, hO⟩ := id Cx
  have hdg := vm_dec ok hc
  have hk := h ok p e R s m args below meth c A cells slots Z Cx H locs ls hH hl hret
  simp only [List.map_cons, vm_cv, Int32.ofInt_add, Int32.ofInt_sub, Int32.ofInt_mul, Int32.ofInt_neg, vm_ofTo, vm_ofTo64] at hk ⊢
  exact lv_dup hx hb hdg rfl hk
theorem ex_dup2 {x_ : List Nat} {a : Int} {b : Nat} (i_ : Nat) (hc : vm_nth M.code i_ = some (pc, .dup2, 1, x_)) (h : vm_ex G d M (pc + 1) al (.inl a :: .inr (.inr b) :: .inl a :: .inr (.inr b) :: st) mem Q) : vm_ex G d M pc al (.inl a :: .inr (.inr b) :: st) mem Q := by
  intro ok p e R s m args below meth c A cells slots Z Cx H locs ls hH hl hret
  obtain ⟨hx, hb, hml, hown, hts, hnn, hR, hK, hA, hO⟩ := id Cx
  have hdg := vm_dec ok hc
  have hk := h ok p e R s m args below meth c A cells slots Z Cx H locs ls hH hl hret
  simp only [List.map_cons, vm_cv, Int32.ofInt_add, Int32.ofInt_sub, Int32.ofInt_mul, Int32.ofInt_neg, vm_ofTo, vm_ofTo64] at hk ⊢
  exact lv_dup2_11 hx hb hdg rfl rfl hk
theorem ex_popi {x_ : List Nat} {a : Int} (i_ : Nat) (hc : vm_nth M.code i_ = some (pc, .pop, 1, x_)) (h : vm_ex G d M (pc + 1) al (st) mem Q) : vm_ex G d M pc al (.inl a :: st) mem Q := by
  intro ok p e R s m args below meth c A cells slots Z Cx H locs ls hH hl hret
  obtain ⟨hx, hb, hml, hown, hts, hnn, hR, hK, hA, hO⟩ := id Cx
  have hdg := vm_dec ok hc
  have hk := h ok p e R s m args below meth c A cells slots Z Cx H locs ls hH hl hret
  simp only [List.map_cons, vm_cv, Int32.ofInt_add, Int32.ofInt_sub, Int32.ofInt_mul, Int32.ofInt_neg, vm_ofTo, vm_ofTo64] at hk ⊢
  exact lv_pop hx hb hdg rfl hk
theorem ex_icmp_eq {x_ : List Nat} {off : Int} {a b : Int} (tgt : Nat) (i_ : Nat) (hc : vm_nth M.code i_ = some (pc, .if_icmp .eq off, 3, x_)) (ht : (pc : Int) + off = (tgt : Int)) (ha : vm_R a) (hb0 : vm_R b) (kt : a = b → vm_ex G d M tgt al st mem Q) (kf : ¬ a = b → vm_ex G d M (pc + 3) al st mem Q) : vm_ex G d M pc al (.inl b :: .inl a :: st) mem Q := by
  intro ok p e R s m args below meth c A cells slots Z Cx H locs ls hH hl hret
  obtain ⟨hx, hb, hml, hown, hts, hnn, hR, hK, hA, hO⟩ := id Cx
  have hdg := vm_dec ok hc
  simp only [List.map_cons, vm_cv]
  refine lv_icmp_eq hx hb hdg ht (fun h1 => ?_) (fun h1 => ?_)
  · exact kt ((vm_eqI ha hb0).mp h1) ok p e R s m args below meth c A cells slots Z Cx H locs ls hH hl hret
  · exact kf (fun h2 => h1 ((vm_eqI ha hb0).mpr h2)) ok p e R s m args below meth c A cells slots Z Cx H locs ls hH hl hret
theorem ex_icmp_ne {x_ : List Nat} {off : Int} {a b : Int} (tgt : Nat) (i_ : Nat) (hc : vm_nth M.code i_ = some (pc, .if_icmp .ne off, 3, x_)) (ht : (pc : Int) + off = (tgt : Int)) (ha : vm_R a) (hb0 : vm_R b) (kt : ¬ a = b → vm_ex G d M tgt al st mem Q) (kf : a = b → vm_ex G d M (pc + 3) al st mem Q) : vm_ex G d M pc al (.inl b :: .inl a :: st) mem Q := by
  intro ok p e R s m args below meth c A cells slots Z Cx H locs ls hH hl hret
  obtain ⟨hx, hb, hml, hown, hts, hnn, hR, hK, hA, hO⟩ := id Cx
  have hdg := vm_dec ok hc
  simp only [List.map_cons, vm_cv]
  refine lv_icmp_ne hx hb hdg ht (fun h1 => ?_) (fun h1 => ?_)
  · exact kt ((not_congr (vm_eqI ha hb0)).mp h1) ok p e R s m args below meth c A cells slots Z Cx H locs ls hH hl hret
  · exact kf ((vm_eqI ha hb0).mp h1) ok p e R s m args below meth c A cells slots Z Cx H locs ls hH hl hret
theorem ex_icmp_lt {x_ : List Nat} {off : Int} {a b : Int} (tgt : Nat) (i_ : Nat) (hc : vm_nth M.code i_ = some (pc, .if_icmp .lt off, 3, x_)) (ht : (pc : Int) + off = (tgt : Int)) (ha : vm_R a) (hb0 : vm_R b) (kt : a < b → vm_ex G d M tgt al st mem Q) (kf : ¬ a < b → vm_ex G d M (pc + 3) al st mem Q) : vm_ex G d M pc al (.inl b :: .inl a :: st) mem Q := by
  intro ok p e R s m args below meth c A cells slots Z Cx H locs ls hH hl hret
  obtain ⟨hx, hb, hml, hown, hts, hnn, hR, hK, hA, hO⟩ := id Cx
  have hdg := vm_dec ok hc
  simp only [List.map_cons, vm_cv]
  refine lv_icmp_lt hx hb hdg ht (fun h1 => ?_) (fun h1 => ?_)
  · exact kt ((vm_ltI ha hb0).mp h1) ok p e R s m args below meth c A cells slots Z Cx H locs ls hH hl hret
  · exact kf (fun h2 => h1 ((vm_ltI ha hb0).mpr h2)) ok p e R s m args below meth c A cells slots Z Cx H locs ls hH hl hret
theorem ex_icmp_ge {x_ : List Nat} {off : Int} {a b : Int} (tgt : Nat) (i_ : Nat) (hc : vm_nth M.code i_ = some (pc, .if_icmp .ge off, 3, x_)) (ht : (pc : Int) + off = (tgt : Int)) (ha : vm_R a) (hb0 : vm_R b) (kt : b ≤ a → vm_ex G d M tgt al st mem Q) (kf : ¬ b ≤ a → vm_ex G d M (pc + 3) al st mem Q) : vm_ex G d M pc al (.inl b :: .inl a :: st) mem Q := by
  intro ok p e R s m args below meth c A cells slots Z Cx H locs ls hH hl hret
  obtain ⟨hx, hb, hml, hown, hts, hnn, hR, hK, hA, hO⟩ := id Cx
  have hdg := vm_dec ok hc
  simp only [List.map_cons, vm_cv]
  refine lv_icmp_ge hx hb hdg ht (fun h1 => ?_) (fun h1 => ?_)
  · exact kt ((vm_leI hb0 ha).mp h1) ok p e R s m args below meth c A cells slots Z Cx H locs ls hH hl hret
  · exact kf (fun h2 => h1 ((vm_leI hb0 ha).mpr h2)) ok p e R s m args below meth c A cells slots Z Cx H locs ls hH hl hret
theorem ex_icmp_gt {x_ : List Nat} {off : Int} {a b : Int} (tgt : Nat) (i_ : Nat) (hc : vm_nth M.code i_ = some (pc, .if_icmp .gt off, 3, x_)) (ht : (pc : Int) + off = (tgt : Int)) (ha : vm_R a) (hb0 : vm_R b) (kt : b < a → vm_ex G d M tgt al st mem Q) (kf : ¬ b < a → vm_ex G d M (pc + 3) al st mem Q) : vm_ex G d M pc al (.inl b :: .inl a :: st) mem Q := by
  intro ok p e R s m args below meth c A cells slots Z Cx H locs ls hH hl hret
  obtain ⟨hx, hb, hml, hown, hts, hnn, hR, hK, hA, hO⟩ := id Cx
  have hdg := vm_dec ok hc
  simp only [List.map_cons, vm_cv]
  refine lv_icmp_gt hx hb hdg ht (fun h1 => ?_) (fun h1 => ?_)
  · exact kt ((vm_ltI hb0 ha).mp h1) ok p e R s m args below meth c A cells slots Z Cx H locs ls hH hl hret
  · exact kf (fun h2 => h1 ((vm_ltI hb0 ha).mpr h2)) ok p e R s m args below meth c A cells slots Z Cx H locs ls hH hl hret
theorem ex_icmp_le {x_ : List Nat} {off : Int} {a b : Int} (tgt : Nat) (i_ : Nat) (hc : vm_nth M.code i_ = some (pc, .if_icmp .le off, 3, x_)) (ht : (pc : Int) + off = (tgt : Int)) (ha : vm_R a) (hb0 : vm_R b) (kt : a ≤ b → vm_ex G d M tgt al st mem Q) (kf : ¬ a ≤ b → vm_ex G d M (pc + 3) al st mem Q) : vm_ex G d M pc al (.inl b :: .inl a :: st) mem Q := by
  intro ok p e R s m args below meth c A cells slots Z Cx H locs ls hH hl hret
  obtain ⟨hx, hb, hml, hown, hts, hnn, hR, hK, hA, hO⟩ := id Cx
  have hdg := vm_dec ok hc
  simp only [List.map_cons, vm_cv]
  refine lv_icmp_le hx hb hdg ht (fun h1 => ?_) (fun h1 => ?_)
  · exact kt ((vm_leI ha hb0).mp h1) ok p e R s m args below meth c A cells slots Z Cx H locs ls hH hl hret
  · exact kf (fun h2 => h1 ((vm_leI ha hb0).mpr h2)) ok p e R s m args below meth c A cells slots Z Cx H locs ls hH hl hret

theorem ex_if_eq {x_ : List Nat} {off : Int} {a : Int} (tgt : Nat) (i_ : Nat) (hc : vm_nth M.code i_ = some (pc, .ifCond .eq off, 3, x_)) (ht : (pc : Int) + off = (tgt : Int)) (ha : vm_R a) (kt : a = 0 → vm_ex G d M tgt al st mem Q) (kf : ¬ a = 0 → vm_ex G d M (pc + 3) al st mem Q) : vm_ex G d M pc al (.inl a :: st) mem Q := by
  intro ok p e R s m args below meth c A cells slots Z Cx H locs ls hH hl hret
  obtain ⟨hx, hb, hml, hown, hts, hnn, hR, hK, hA, hO⟩ := id Cx
  have hdg := vm_dec ok hc
  simp only [List.map_cons, vm_cv]
  refine lv_if_eq hx hb hdg ht (fun h1 => ?_) (fun h1 => ?_)
  · exact kt ((vm_eqI ha vm_R0).mp h1) ok p e R s m args below meth c A cells slots Z Cx H locs ls hH hl hret
  · exact kf (fun h2 => h1 ((vm_eqI ha vm_R0).mpr h2)) ok p e R s m args below meth c A cells slots Z Cx H locs ls hH hl hret

theorem ex_if_ne {x_ : List Nat} {off : Int} {a : Int} (tgt : Nat) (i_ : Nat) (hc : vm_nth M.code i_ = some (pc, .ifCond .ne off, 3, x_)) (ht : (pc : Int) + off = (tgt : Int)) (ha : vm_R a) (kt : ¬ a = 0 → vm_ex G d M tgt al st mem Q) (kf : a = 0 → vm_ex G d M (pc + 3) al st mem Q) : vm_ex G d M pc al (.inl a :: st) mem Q := by
  intro ok p e R s m args below meth c A cells slots Z Cx H locs ls hH hl hret
  obtain ⟨hx, hb, hml, hown, hts, hnn, hR, hK, hA, hO⟩ := id Cx
  have hdg := vm_dec ok hc
  simp only [List.map_cons, vm_cv]
  refine lv_if_ne hx hb hdg ht (fun h1 => ?_) (fun h1 => ?_)
  · exact kt ((not_congr (vm_eqI ha vm_R0)).mp h1) ok p e R s m args below meth c A cells slots Z Cx H locs ls hH hl hret
  · exact kf ((vm_eqI ha vm_R0).mp h1) ok p e R s m args below meth c A cells slots Z Cx H locs ls hH hl hret

theorem ex_if_lt {x_ : List Nat} {off : Int} {a : Int} (tgt : Nat) (i_ : Nat) (hc : vm_nth M.code i_ = some (pc, .ifCond .lt off, 3, x_)) (ht : (pc : Int) + off = (tgt : Int)) (ha : vm_R a) (kt : a < 0 → vm_ex G d M tgt al st mem Q) (kf : ¬ a < 0 → vm_ex G d M (pc + 3) al st mem Q) : vm_ex G d M pc al (.inl a :: st) mem Q := by
  intro ok p e R s m args below meth c A cells slots Z Cx H locs ls hH hl hret
  obtain ⟨hx, hb, hml, hown, hts, hnn, hR, hK, hA, hO⟩ := id Cx
  have hdg := vm_dec ok hc
  simp only [List.map_cons, vm_cv]
  refine lv_if_lt hx hb hdg ht (fun h1 => ?_) (fun h1 => ?_)
  · exact kt ((vm_ltI ha vm_R0).mp h1) ok p e R s m args below meth c A cells slots Z Cx H locs ls hH hl hret
  · exact kf (fun h2 => h1 ((vm_ltI ha vm_R0).mpr h2)) ok p e R s m args below meth c A cells slots Z Cx H locs ls hH hl hret

theorem ex_if_ge {x_ : List Nat} {off : Int} {a : Int} (tgt : Nat) (i_ : Nat) (hc : vm_nth M.code i_ = some (pc, .ifCond .ge off, 3, x_)) (ht : (pc : Int) + off = (tgt : Int)) (ha : vm_R a) (kt : 0 ≤ a → vm_ex G d M tgt al st mem Q) (kf : ¬ 0 ≤ a → vm_ex G d M (pc + 3) al st mem Q) : vm_ex G d M pc al (.inl a :: st) mem Q := by
  intro ok p e R s m args below meth c A cells slots Z Cx H locs ls hH hl hret
  obtain ⟨hx, hb, hml, hown, hts, hnn, hR, hK, hA, hO⟩ := id Cx
  have hdg := vm_dec ok hc
  simp only [List.map_cons, vm_cv]
  refine lv_if_ge hx hb hdg ht (fun h1 => ?_) (fun h1 => ?_)
  · exact kt ((vm_leI vm_R0 ha).mp h1) ok p e R s m args below meth c A cells slots Z Cx H locs ls hH hl hret
  · exact kf (fun h2 => h1 ((vm_leI vm_R0 ha).mpr h2)) ok p e R s m args below meth c A cells slots Z Cx H locs ls hH hl hret

theorem ex_if_gt {x_ : List Nat} {off : Int} {a : Int} (tgt : Nat) (i_ : Nat) (hc : vm_nth M.code i_ = some (pc, .ifCond .gt off, 3, x_)) (ht : (pc : Int) + off = (tgt : Int)) (ha : vm_R a) (kt : 0 < a → vm_ex G d M tgt al st mem Q) (kf : ¬ 0 < a → vm_ex G d M (pc + 3) al st mem Q) : vm_ex G d M pc al (.inl a :: st) mem Q := by
  intro ok p e R s m args below meth c A cells slots Z Cx H locs ls hH hl hret
  obtain ⟨hx, hb, hml, hown, hts, hnn, hR, hK, hA, hO⟩ := id Cx
  have hdg := vm_dec ok hc
  simp only [List.map_cons, vm_cv]
  refine lv_if_gt hx hb hdg ht (fun h1 => ?_) (fun h1 => ?_)
  · exact kt ((vm_ltI vm_R0 ha).mp h1) ok p e R s m args below meth c A cells slots Z Cx H locs ls hH hl hret
  · exact kf (fun h2 => h1 ((vm_ltI vm_R0 ha).mpr h2)) ok p e R s m args below meth c A cells slots Z Cx H locs ls hH hl hret

theorem ex_if_le {x_ : List Nat} {off : Int} {a : Int} (tgt : Nat) (i_ : Nat) (hc : vm_nth M.code i_ = some (pc, .ifCond .le off, 3, x_)) (ht : (pc : Int) + off = (tgt : Int)) (ha : vm_R a) (kt : a ≤ 0 → vm_ex G d M tgt al st mem Q) (kf : ¬ a ≤ 0 → vm_ex G d M (pc + 3) al st mem Q) : vm_ex G d M pc al (.inl a :: st) mem Q := by
  intro ok p e R s m args below meth c A cells slots Z Cx H locs ls hH hl hret
  obtain ⟨hx, hb, hml, hown, hts, hnn, hR, hK, hA, hO⟩ := id Cx
  have hdg := vm_dec ok hc
  simp only [List.map_cons, vm_cv]
  refine lv_if_le hx hb hdg ht (fun h1 => ?_) (fun h1 => ?_)
  · exact kt ((vm_leI ha vm_R0).mp h1) ok p e R s m args below meth c A cells slots Z Cx H locs ls hH hl hret
  · exact kf (fun h2 => h1 ((vm_leI ha vm_R0).mpr h2)) ok p e R s m args below meth c A cells slots Z Cx H locs ls hH hl hret
theorem ex_goto {x_ : List Nat} {off : Int} (tgt : Nat) (i_ : Nat) (hc : vm_nth M.code i_ = some (pc, .goto off, 3, x_)) (ht : (pc : Int) + off = (tgt : Int)) (h : vm_ex G d M tgt al st mem Q) : vm_ex G d M pc al st mem Q := by
  intro ok p e R s m args below meth c A cells slots Z Cx H locs ls hH hl hret
  obtain ⟨hx, hb, hml, hown, hts, hnn, hR, hK, hA, hO⟩ := id Cx
  have hdg := vm_dec ok hc
  have hk := h ok p e R s m args below meth c A cells slots Z Cx H locs ls hH hl hret
  exact lv_goto hx hb hdg ht hk
def vm_tsw (pc : Nat) (x : Int) (P : Nat → Prop) : Int → List Int → Prop
  | _, [] => True
  | lo, off :: l => (x = lo → P ((pc : Int) + off).toNat ∧ 0 ≤ (pc : Int) + off) ∧ vm_tsw pc x P (lo + 1) l
theorem vm_tsw_at {pc : Nat} {x : Int} {P : Nat → Prop} : ∀ {l : List Int} {lo : Int} {k : Nat} {off : Int}, vm_tsw pc x P lo l → l[k]? = some off → x = lo + k → P ((pc : Int) + off).toNat ∧ 0 ≤ (pc : Int) + off
  | [], lo, k, off, _, hk, _ => by simp at hk
  | a :: l, lo, 0, off, h, hk, hx => by
    simp at hk
    subst hk
    exact h.1 (by omega)
  | a :: l, lo, k + 1, off, h, hk, hx => vm_tsw_at (l := l) (lo := lo + 1) (k := k) h.2 (by simpa using hk) (by omega)
theorem ex_tsw {x_ : List Nat} {dflt lo hi : Int} {offs : Array Int} {len : Nat} {a : Int} (i_ : Nat) (hc : vm_nth M.code i_ = some (pc, .tableswitch dflt lo hi offs, len, x_)) (ha : vm_R a) (hlen : hi = lo + offs.size - 1) (h : vm_tsw pc a (fun t => vm_ex G d M t al st mem Q) lo offs.toList) (h2 : (a < lo ∨ hi < a) → vm_ex G d M ((pc : Int) + dflt).toNat al st mem Q) (h3 : 0 ≤ (pc : Int) + dflt) : vm_ex G d M pc al (.inl a :: st) mem Q := by
  intro ok p e R s m args below meth c A cells slots Z Cx H locs ls hH hl hret
  obtain ⟨hx, hb, hml, hown, hts, hnn, hR, hK, hA, hO⟩ := id Cx
  have hdg := vm_dec ok hc
  simp only [List.map_cons, vm_cv]
  have hv := vm_toOf ha
  by_cases h4 : a < lo ∨ hi < a
  · exact lv_tableOut (tgt := ((pc : Int) + dflt).toNat) hx hb hdg (by rw [hv]; exact h4) (by omega) (h2 h4 ok p e R s m args below meth c A cells slots Z Cx H locs ls hH hl hret)
  · have hlt : (a - lo).toNat < offs.size := by omega
    have hoff : offs[(a - lo).toNat]? = some offs[(a - lo).toNat] := Array.getElem?_eq_getElem hlt
    have hl2 : offs.toList[(a - lo).toNat]? = some offs[(a - lo).toNat] := by rw [Array.getElem?_toList]; exact hoff
    obtain ⟨hP, hge⟩ := vm_tsw_at h hl2 (by omega)
    exact lv_tableIn (tgt := ((pc : Int) + offs[(a - lo).toNat]).toNat) hx hb hdg (by rw [hv]; omega) (by rw [hv]; omega) (by rw [hv]; exact hoff) (by omega) (hP ok p e R s m args below meth c A cells slots Z Cx H locs ls hH hl hret)
theorem ex_lsw {x_ : List Nat} {dflt off : Int} {ps : Array (Int × Int)} {len : Nat} {a : Int} (tgt : Nat) (i_ : Nat) (hc : vm_nth M.code i_ = some (pc, .lookupswitch dflt ps, len, x_)) (ha : vm_R a) (hp : (ps.toList.zip (ps.toList.drop 1)).all (fun (a, next) => a.1 < next.1) = true) (ho : Op.lookupswitch.offset ps.toList dflt a = off) (ht : (pc : Int) + off = (tgt : Int)) (h : vm_ex G d M tgt al st mem Q) : vm_ex G d M pc al (.inl a :: st) mem Q := by
  intro ok p e R s m args below meth c A cells slots Z Cx H locs ls hH hl hret
  obtain ⟨hx, hb, hml, hown, hts, hnn, hR, hK, hA, hO⟩ := id Cx
  have hdg := vm_dec ok hc
  simp only [List.map_cons, vm_cv]
  exact lv_lookup hx hb hdg hp (by rw [vm_toOf ha]; exact ho) ht (h ok p e R s m args below meth c A cells slots Z Cx H locs ls hH hl hret)
theorem ex_geti {x_ : List Nat} {idx b ci N : Nat} {C : String} {T : u_T} {ty : Nat → FieldType} (j : Nat) (i_ : Nat) (hc : vm_nth M.code i_ = some (pc, .getfield idx, 3, x_)) (hcl : vm_clk ci C T N ty) (hkd : vm_nth vm_kinds b = some (0, ci)) (hj : Nat.ble (j + 1) N = true) (hf : vm_flink M.y.cls idx (T j).1 (T j).2.1 (T j).2.2.1) (hr : vm_rf b j = none) (h : vm_ex G d M (pc + 3) al (.inl (mem b (j : Int)) :: st) mem Q) : vm_ex G d M pc al (.inr (.inr b) :: st) mem Q := by
  intro ok p e R s m args below meth c A cells slots Z Cx H locs ls hH hl hret
  obtain ⟨hx, hb, hml, hown, hts, hnn, hR, hK, hA, hO⟩ := id Cx
  have hdg := vm_dec ok hc
  obtain ⟨hcl1, hin, hty, hnm, hnf⟩ := hcl
  have hb38 : b < 38 := by
    rw [vm_nth_eq] at hkd
    exact (List.getElem?_eq_some_iff.mp hkd).1
  have hcell := vm_ws_at G mem hb38
  rw [vm_cell_obj hkd, hnf] at hcell
  have hj : j < N := Nat.le_of_ble_eq_true hj
  have hk := h ok p e R s m args below meth c A cells slots Z Cx H locs ls hH hl hret
  simp only [List.map_cons, vm_cv] at hk ⊢
  have hv : ((List.range ((some N).getD 0)).map (vm_fv G mem b))[j]? = some (Value.int (Int32.ofInt (mem b (j : Int)))) := by
    simp [List.getElem?_map, List.getElem?_range, hj, vm_fv, hr]
  rcases hf with hf | ⟨host, hf⟩
  · exact va_get (D := G.D) hx hb hts hin hown hK hH.1 b hcell hcl1 j hj (hts _ hf) (fun _ h9 => h9) hv hdg hk
  · exact va_getN (D := G.D) hx hb hts hin hown hK hH.1 b hcell hcl1 j hj (va_Nw.use rfl (hnn _ hf)) (fun _ h9 => h9) hv hdg hk
theorem ex_geta {x_ : List Nat} {idx b ci N t : Nat} {C : String} {T : u_T} {ty : Nat → FieldType} (j : Nat) (i_ : Nat) (hc : vm_nth M.code i_ = some (pc, .getfield idx, 3, x_)) (hcl : vm_clk ci C T N ty) (hkd : vm_nth vm_kinds b = some (0, ci)) (hj : Nat.ble (j + 1) N = true) (hf : vm_flink M.y.cls idx (T j).1 (T j).2.1 (T j).2.2.1) (hr : vm_rf b j = some t) (h : vm_ex G d M (pc + 3) al (.inr (.inr t) :: st) mem Q) : vm_ex G d M pc al (.inr (.inr b) :: st) mem Q := by
  intro ok p e R s m args below meth c A cells slots Z Cx H locs ls hH hl hret
  obtain ⟨hx, hb, hml, hown, hts, hnn, hR, hK, hA, hO⟩ := id Cx
  have hdg := vm_dec ok hc
  obtain ⟨hcl1, hin, hty, hnm, hnf⟩ := hcl
  have hb38 : b < 38 := by
    rw [vm_nth_eq] at hkd
    exact (List.getElem?_eq_some_iff.mp hkd).1
  have hcell := vm_ws_at G mem hb38
  rw [vm_cell_obj hkd, hnf] at hcell
  have hj : j < N := Nat.le_of_ble_eq_true hj
  have hk := h ok p e R s m args below meth c A cells slots Z Cx H locs ls hH hl hret
  simp only [List.map_cons, vm_cv] at hk ⊢
  have hv : ((List.range ((some N).getD 0)).map (vm_fv G mem b))[j]? = some (Value.ref (G.adr t)) := by
    simp [List.getElem?_map, List.getElem?_range, hj, vm_fv, hr]
  rcases hf with hf | ⟨host, hf⟩
  · exact va_get (D := G.D) hx hb hts hin hown hK hH.1 b hcell hcl1 j hj (hts _ hf) (fun _ h9 => h9) hv hdg hk
  · exact va_getN (D := G.D) hx hb hts hin hown hK hH.1 b hcell hcl1 j hj (va_Nw.use rfl (hnn _ hf)) (fun _ h9 => h9) hv hdg hk
theorem vm_put_cell {G : vm_G} {mem : vm_M} {b ci N j : Nat} {v : Int} (hkd : vm_nth vm_kinds b = some (0, ci)) (hnf : vm_nth vm_nf ci = some N) (hj : j < N) (hr : vm_rf b j = none) : vm_cell G (vm_up mem b (j : Int) v) b = .inr (ci, ((List.range ((some N).getD 0)).map (vm_fv G mem b)).set j (.int (Int32.ofInt v))) := by
  rw [vm_cell_obj hkd, hnf]
  congr 2
  apply List.ext_getElem?
  intro k
  rw [List.getElem?_set]
  by_cases hk : j = k
  · subst hk
    simp [List.getElem?_map, List.getElem?_range, hj, vm_fv, hr, vm_up]
  · rw [if_neg hk]
    by_cases hkN : k < N
    · have hne : ¬ ((k : Int) = (j : Int)) := by omega
      simp [List.getElem?_map, List.getElem?_range, hkN, vm_fv, vm_up, hne]
    · simp [List.getElem?_map, List.getElem?_range, hkN]
theorem vm_up_ne {mem : vm_M} {c k : Nat} {i v : Int} (h : k ≠ c) : mem k = vm_up mem c i v k := by
  funext i'
  simp [vm_up, h]
theorem ex_puti {x_ : List Nat} {idx b ci N : Nat} {v : Int} {C : String} {T : u_T} {ty : Nat → FieldType} (j : Nat) (i_ : Nat) (hc : vm_nth M.code i_ = some (pc, .putfield idx, 3, x_)) (hcl : vm_clk ci C T N ty) (hkd : vm_nth vm_kinds b = some (0, ci)) (hj : Nat.ble (j + 1) N = true) (hf : vm_flink M.y.cls idx (T j).1 (T j).2.1 (T j).2.2.1) (hr : vm_rf b j = none) (hfin : (T j).2.2.2 = false) (ht : ty j = .int) (h : vm_ex G d M (pc + 3) al st (vm_up mem b (j : Int) v) Q) : vm_ex G d M pc al (.inl v :: .inr (.inr b) :: st) mem Q := by
  intro ok p e R s m args below meth c A cells slots Z Cx H locs ls hH hl hret
  obtain ⟨hx, hb, hml, hown, hts, hnn, hR, hK, hA, hO⟩ := id Cx
  have hdg := vm_dec ok hc
  obtain ⟨hcl1, hin, hty, hnm, hnf⟩ := hcl
  have hb38 : b < 38 := by
    rw [vm_nth_eq] at hkd
    exact (List.getElem?_eq_some_iff.mp hkd).1
  have hcell := vm_ws_at G mem hb38
  rw [vm_cell_obj hkd, hnf] at hcell
  have hj : j < N := Nat.le_of_ble_eq_true hj
  have hd : parseFieldDescriptor (T j).2.2.1 = some .int := by rw [← ht]; exact hty j hj
  simp only [List.map_cons, vm_cv]
  have hlen : j < ((List.range ((some N).getD 0)).map (vm_fv G mem b)).length := by simp [hj]
  have go : ∀ (H1 : Heap) (locs1 : List Loc), va_P G.D vwCl ((vm_ws G mem).set b (G.adr b, .inr (ci, ((List.range ((some N).getD 0)).map (vm_fv G mem b)).set j (.int (Int32.ofInt v))))) H1 → va_D A ((vm_ws G mem).set b (G.adr b, .inr (ci, ((List.range ((some N).getD 0)).map (vm_fv G mem b)).set j (.int (Int32.ofInt v))))) → va_S A s.heap H1 locs1 → W p G.l e R s m args below meth c H1 locs1 cells slots Z (F0 m (pc + 3) ls (st.map (vm_cv G))) := by
    intro H1 locs1 hP1 hD1 hS1
    rw [vm_ws_set hb38 (vm_put_cell hkd hnf hj hr) (fun k hk => vm_up_ne hk)] at hP1 hD1
    exact h ok p e R s m args below meth c A cells slots Z Cx H1 locs1 ls ⟨hP1, hD1, hS1⟩ hl hret
  rcases hf with hf | ⟨host, hf⟩
  · exact va_put (D := G.D) hx hb hts hin ty hty hnm hown hK hH.1 hH.2.1 hH.2.2 b hcell hcl1 j hj (hts _ hf) (fun _ h9 => h9) hfin hd rfl rfl hlen hdg go
  · exact va_putN (D := G.D) hx hb hts hin ty hty hnm hown hK hH.1 hH.2.1 hH.2.2 b hcell hcl1 j hj (va_Nw.use rfl (hnn _ hf)) (fun _ h9 => h9) hfin hd rfl rfl hlen hdg go
theorem ex_putz {x_ : List Nat} {idx b ci N : Nat} {v : Int} {C : String} {T : u_T} {ty : Nat → FieldType} (j : Nat) (i_ : Nat) (hc : vm_nth M.code i_ = some (pc, .putfield idx, 3, x_)) (hcl : vm_clk ci C T N ty) (hkd : vm_nth vm_kinds b = some (0, ci)) (hj : Nat.ble (j + 1) N = true) (hf : vm_flink M.y.cls idx (T j).1 (T j).2.1 (T j).2.2.1) (hr : vm_rf b j = none) (hfin : (T j).2.2.2 = false) (ht : ty j = .boolean) (hz : v = 0 ∨ v = 1) (h : vm_ex G d M (pc + 3) al st (vm_up mem b (j : Int) v) Q) : vm_ex G d M pc al (.inl v :: .inr (.inr b) :: st) mem Q := by
  intro ok p e R s m args below meth c A cells slots Z Cx H locs ls hH hl hret
  obtain ⟨hx, hb, hml, hown, hts, hnn, hR, hK, hA, hO⟩ := id Cx
  have hdg := vm_dec ok hc
  obtain ⟨hcl1, hin, hty, hnm, hnf⟩ := hcl
  have hb38 : b < 38 := by
    rw [vm_nth_eq] at hkd
    exact (List.getElem?_eq_some_iff.mp hkd).1
  have hcell := vm_ws_at G mem hb38
  rw [vm_cell_obj hkd, hnf] at hcell
  have hj : j < N := Nat.le_of_ble_eq_true hj
  have hd : parseFieldDescriptor (T j).2.2.1 = some .boolean := by rw [← ht]; exact hty j hj
  simp only [List.map_cons, vm_cv]
  have hlen : j < ((List.range ((some N).getD 0)).map (vm_fv G mem b)).length := by simp [hj]
  have go : ∀ (H1 : Heap) (locs1 : List Loc), va_P G.D vwCl ((vm_ws G mem).set b (G.adr b, .inr (ci, ((List.range ((some N).getD 0)).map (vm_fv G mem b)).set j (.int (Int32.ofInt v))))) H1 → va_D A ((vm_ws G mem).set b (G.adr b, .inr (ci, ((List.range ((some N).getD 0)).map (vm_fv G mem b)).set j (.int (Int32.ofInt v))))) → va_S A s.heap H1 locs1 → W p G.l e R s m args below meth c H1 locs1 cells slots Z (F0 m (pc + 3) ls (st.map (vm_cv G))) := by
    intro H1 locs1 hP1 hD1 hS1
    rw [vm_ws_set hb38 (vm_put_cell hkd hnf hj hr) (fun k hk => vm_up_ne hk)] at hP1 hD1
    exact h ok p e R s m args below meth c A cells slots Z Cx H1 locs1 ls ⟨hP1, hD1, hS1⟩ hl hret
  rcases hf with hf | ⟨host, hf⟩
  · exact va_put (D := G.D) hx hb hts hin ty hty hnm hown hK hH.1 hH.2.1 hH.2.2 b hcell hcl1 j hj (hts _ hf) (fun _ h9 => h9) hfin hd (by rcases hz with rfl | rfl <;> decide) (by rcases hz with rfl | rfl <;> decide) hlen hdg go
  · exact va_putN (D := G.D) hx hb hts hin ty hty hnm hown hK hH.1 hH.2.1 hH.2.2 b hcell hcl1 j hj (va_Nw.use rfl (hnn _ hf)) (fun _ h9 => h9) hfin hd (by rcases hz with rfl | rfl <;> decide) (by rcases hz with rfl | rfl <;> decide) hlen hdg go
theorem ex_gets {x_ : List Nat} {idx : Nat} (i_ : Nat) (hc : vm_nth M.code i_ = some (pc, .getstatic idx, 3, x_)) (hf : Cond.fieldLink M.y.cls idx "BagCounts$Logic" "OPPOSITES" "[I" ∈ vm_WS) (h : vm_ex G d M (pc + 3) al (.inr (.inr 38) :: st) mem Q) : vm_ex G d M pc al st mem Q := by
  intro ok p e R s m args below meth c A cells slots Z Cx H locs ls hH hl hret
  obtain ⟨hx, hb, hml, hown, hts, hnn, hR, hK, hA, hO⟩ := id Cx
  have hdg := vm_dec ok hc
  have hk := h ok p e R s m args below meth c A cells slots Z Cx H locs ls hH hl hret
  simp only [List.map_cons, vm_cv] at hk ⊢
  exact va_gets hx hb hO.1 hH.2.2 hown (hts _ hf) (fun _ h9 => h9) hdg hk
theorem ex_iaload {x_ : List Nat} {b n : Nat} {a : Int} (i_ : Nat) (hc : vm_nth M.code i_ = some (pc, .iaload, 1, x_)) (hkd : vm_nth vm_kinds b = some (1, n)) (hn6 : Nat.ble n 1000000 = true) (ha : 0 ≤ a ∧ a < (n : Int)) (h : vm_ex G d M (pc + 1) al (.inl (mem b a) :: st) mem Q) : vm_ex G d M pc al (.inl a :: .inr (.inr b) :: st) mem Q := by
  intro ok p e R s m args below meth c A cells slots Z Cx H locs ls hH hl hret
  obtain ⟨hx, hb, hml, hown, hts, hnn, hR, hK, hA, hO⟩ := id Cx
  have hdg := vm_dec ok hc
  have hb38 : b < 38 := by
    rw [vm_nth_eq] at hkd
    exact (List.getElem?_eq_some_iff.mp hkd).1
  have hcell := vm_ws_at G mem hb38
  rw [vm_cell_arr hkd] at hcell
  have hnn6 : n ≤ 1000000 := Nat.le_of_ble_eq_true hn6
  have hk := h ok p e R s m args below meth c A cells slots Z Cx H locs ls hH hl hret
  simp only [List.map_cons, vm_cv] at hk ⊢
  refine va_iald (D := G.D) hx hb hK hH.1 b 0 hcell rfl (vm_in ha.1 ha.2 hnn6) hdg ?_
  rw [vm_nat ha.1 (by omega), Int.toNat_of_nonneg ha.1]
  exact hk
theorem ex_caload {x_ : List Nat} {b n : Nat} {a : Int} (i_ : Nat) (hc : vm_nth M.code i_ = some (pc, .caload, 1, x_)) (hkd : vm_nth vm_kinds b = some (2, n)) (hn6 : Nat.ble n 1000000 = true) (ha : 0 ≤ a ∧ a < (n : Int)) (h : vm_ex G d M (pc + 1) al (.inl (mem b a) :: st) mem Q) : vm_ex G d M pc al (.inl a :: .inr (.inr b) :: st) mem Q := by
  intro ok p e R s m args below meth c A cells slots Z Cx H locs ls hH hl hret
  obtain ⟨hx, hb, hml, hown, hts, hnn, hR, hK, hA, hO⟩ := id Cx
  have hdg := vm_dec ok hc
  have hb38 : b < 38 := by
    rw [vm_nth_eq] at hkd
    exact (List.getElem?_eq_some_iff.mp hkd).1
  have hcell := vm_ws_at G mem hb38
  rw [vm_cell_arr hkd] at hcell
  have hnn6 : n ≤ 1000000 := Nat.le_of_ble_eq_true hn6
  have hk := h ok p e R s m args below meth c A cells slots Z Cx H locs ls hH hl hret
  simp only [List.map_cons, vm_cv] at hk ⊢
  refine va_cald (D := G.D) hx hb hK hH.1 b 1 hcell rfl (vm_in ha.1 ha.2 hnn6) hdg ?_
  rw [vm_nat ha.1 (by omega), Int.toNat_of_nonneg ha.1]
  exact hk
theorem ex_baload {x_ : List Nat} {b n : Nat} {a : Int} (i_ : Nat) (hc : vm_nth M.code i_ = some (pc, .baload, 1, x_)) (hkd : vm_nth vm_kinds b = some (3, n)) (hn6 : Nat.ble n 1000000 = true) (ha : 0 ≤ a ∧ a < (n : Int)) (h : vm_ex G d M (pc + 1) al (.inl (mem b a) :: st) mem Q) : vm_ex G d M pc al (.inl a :: .inr (.inr b) :: st) mem Q := by
  intro ok p e R s m args below meth c A cells slots Z Cx H locs ls hH hl hret
  obtain ⟨hx, hb, hml, hown, hts, hnn, hR, hK, hA, hO⟩ := id Cx
  have hdg := vm_dec ok hc
  have hb38 : b < 38 := by
    rw [vm_nth_eq] at hkd
    exact (List.getElem?_eq_some_iff.mp hkd).1
  have hcell := vm_ws_at G mem hb38
  rw [vm_cell_arr hkd] at hcell
  have hnn6 : n ≤ 1000000 := Nat.le_of_ble_eq_true hn6
  have hk := h ok p e R s m args below meth c A cells slots Z Cx H locs ls hH hl hret
  simp only [List.map_cons, vm_cv] at hk ⊢
  refine va_zald (D := G.D) hx hb hK hH.1 b 2 hcell rfl (vm_in ha.1 ha.2 hnn6) hdg ?_
  rw [vm_nat ha.1 (by omega), Int.toNat_of_nonneg ha.1]
  exact hk
theorem ex_iastore {x_ : List Nat} {b n : Nat} {a v : Int} (i_ : Nat) (hc : vm_nth M.code i_ = some (pc, .iastore, 1, x_)) (hkd : vm_nth vm_kinds b = some (1, n)) (hn6 : Nat.ble n 1000000 = true) (ha : 0 ≤ a ∧ a < (n : Int)) (h : vm_ex G d M (pc + 1) al st (vm_up mem b a v) Q) : vm_ex G d M pc al (.inl v :: .inl a :: .inr (.inr b) :: st) mem Q := by
  intro ok p e R s m args below meth c A cells slots Z Cx H locs ls hH hl hret
  obtain ⟨hx, hb, hml, hown, hts, hnn, hR, hK, hA, hO⟩ := id Cx
  have hdg := vm_dec ok hc
  have hb38 : b < 38 := by
    rw [vm_nth_eq] at hkd
    exact (List.getElem?_eq_some_iff.mp hkd).1
  have hcell := vm_ws_at G mem hb38
  rw [vm_cell_arr hkd] at hcell
  have hnn6 : n ≤ 1000000 := Nat.le_of_ble_eq_true hn6
  simp only [List.map_cons, vm_cv]
  refine va_iast (D := G.D) hx hb hK hH.1 hH.2.1 hH.2.2 b 0 hcell rfl (vm_in ha.1 ha.2 hnn6) hdg (fun H1 locs1 hP1 hD1 hS1 => ?_)
  rw [vm_nat ha.1 (by omega)] at hP1 hD1
  have hset := vm_ws_set (G := G) (mem := mem) (mem' := vm_up mem b a v) hb38 (vm_cell_arr hkd) (fun k hk => vm_up_ne hk)
  have hfun : (fun i : Nat => Int32.ofInt (vm_up mem b a v b (i : Int))) = upd (fun i : Nat => Int32.ofInt (mem b (i : Int))) a.toNat (Int32.ofInt v) := by
    funext i
    unfold upd vm_up
    by_cases hi : i = a.toNat
    · have hi2 : (i : Int) = a := by omega
      rw [if_pos hi, if_pos ⟨rfl, hi2⟩]
    · have hi2 : ¬ (i : Int) = a := by omega
      rw [if_neg hi, if_neg (fun z => hi2 z.2)]
  rw [hfun] at hset
  rw [hset] at hP1 hD1
  exact h ok p e R s m args below meth c A cells slots Z Cx H1 locs1 ls ⟨hP1, hD1, hS1⟩ hl hret
theorem ex_castore {x_ : List Nat} {b n : Nat} {a v : Int} (i_ : Nat) (hc : vm_nth M.code i_ = some (pc, .castore, 1, x_)) (hkd : vm_nth vm_kinds b = some (2, n)) (hn6 : Nat.ble n 1000000 = true) (ha : 0 ≤ a ∧ a < (n : Int)) (h : vm_ex G d M (pc + 1) al st (vm_up mem b a (vm_chr v)) Q) : vm_ex G d M pc al (.inl v :: .inl a :: .inr (.inr b) :: st) mem Q := by
  intro ok p e R s m args below meth c A cells slots Z Cx H locs ls hH hl hret
  obtain ⟨hx, hb, hml, hown, hts, hnn, hR, hK, hA, hO⟩ := id Cx
  have hdg := vm_dec ok hc
  have hb38 : b < 38 := by
    rw [vm_nth_eq] at hkd
    exact (List.getElem?_eq_some_iff.mp hkd).1
  have hcell := vm_ws_at G mem hb38
  rw [vm_cell_arr hkd] at hcell
  have hnn6 : n ≤ 1000000 := Nat.le_of_ble_eq_true hn6
  simp only [List.map_cons, vm_cv]
  refine va_cast (D := G.D) hx hb hK hH.1 hH.2.1 hH.2.2 b 1 hcell rfl (vm_in ha.1 ha.2 hnn6) hdg (fun H1 locs1 hP1 hD1 hS1 => ?_)
  rw [vm_nat ha.1 (by omega)] at hP1 hD1
  have hset := vm_ws_set (G := G) (mem := mem) (mem' := vm_up mem b a (vm_chr v)) hb38 (vm_cell_arr hkd) (fun k hk => vm_up_ne hk)
  have hfun : (fun i : Nat => Int32.ofInt (vm_up mem b a (vm_chr v) b (i : Int))) = upd (fun i : Nat => Int32.ofInt (mem b (i : Int))) a.toNat (vp_nar .char (Int32.ofInt v)) := by
    funext i
    unfold upd vm_up
    by_cases hi : i = a.toNat
    · have hi2 : (i : Int) = a := by omega
      rw [if_pos hi, if_pos ⟨rfl, hi2⟩]
      simp only [vm_chr, vm_ofTo]
    · have hi2 : ¬ (i : Int) = a := by omega
      rw [if_neg hi, if_neg (fun z => hi2 z.2)]
  rw [hfun] at hset
  rw [hset] at hP1 hD1
  exact h ok p e R s m args below meth c A cells slots Z Cx H1 locs1 ls ⟨hP1, hD1, hS1⟩ hl hret
theorem ex_bastore {x_ : List Nat} {b n : Nat} {a v : Int} (i_ : Nat) (hc : vm_nth M.code i_ = some (pc, .bastore, 1, x_)) (hkd : vm_nth vm_kinds b = some (3, n)) (hn6 : Nat.ble n 1000000 = true) (ha : 0 ≤ a ∧ a < (n : Int)) (h : vm_ex G d M (pc + 1) al st (vm_up mem b a (vm_bool v)) Q) : vm_ex G d M pc al (.inl v :: .inl a :: .inr (.inr b) :: st) mem Q := by
  intro ok p e R s m args below meth c A cells slots Z Cx H locs ls hH hl hret
  obtain ⟨hx, hb, hml, hown, hts, hnn, hR, hK, hA, hO⟩ := id Cx
  have hdg := vm_dec ok hc
  have hb38 : b < 38 := by
    rw [vm_nth_eq] at hkd
    exact (List.getElem?_eq_some_iff.mp hkd).1
  have hcell := vm_ws_at G mem hb38
  rw [vm_cell_arr hkd] at hcell
  have hnn6 : n ≤ 1000000 := Nat.le_of_ble_eq_true hn6
  simp only [List.map_cons, vm_cv]
  refine va_zast (D := G.D) hx hb hK hH.1 hH.2.1 hH.2.2 b 2 hcell rfl (vm_in ha.1 ha.2 hnn6) hdg (fun H1 locs1 hP1 hD1 hS1 => ?_)
  rw [vm_nat ha.1 (by omega)] at hP1 hD1
  have hset := vm_ws_set (G := G) (mem := mem) (mem' := vm_up mem b a (vm_bool v)) hb38 (vm_cell_arr hkd) (fun k hk => vm_up_ne hk)
  have hfun : (fun i : Nat => Int32.ofInt (vm_up mem b a (vm_bool v) b (i : Int))) = upd (fun i : Nat => Int32.ofInt (mem b (i : Int))) a.toNat (vp_nar .boolean (Int32.ofInt v)) := by
    funext i
    unfold upd vm_up
    by_cases hi : i = a.toNat
    · have hi2 : (i : Int) = a := by omega
      rw [if_pos hi, if_pos ⟨rfl, hi2⟩]
      simp only [vm_bool, vm_ofTo]
    · have hi2 : ¬ (i : Int) = a := by omega
      rw [if_neg hi, if_neg (fun z => hi2 z.2)]
  rw [hfun] at hset
  rw [hset] at hP1 hD1
  exact h ok p e R s m args below meth c A cells slots Z Cx H1 locs1 ls ⟨hP1, hD1, hS1⟩ hl hret
theorem ex_roload {x_ : List Nat} {b : Nat} {a : Int} (i_ : Nat) (hc : vm_nth M.code i_ = some (pc, .iaload, 1, x_)) (hb0 : b = 38 ∨ b = 39) (ha : 0 ≤ a ∧ a < (G.len b : Int)) (h : vm_ex G d M (pc + 1) al (.inl (G.rom b a) :: st) mem Q) : vm_ex G d M pc al (.inl a :: .inr (.inr b) :: st) mem Q := by
  intro ok p e R s m args below meth c A cells slots Z Cx H locs ls hH hl hret
  obtain ⟨hx, hb, hml, hown, hts, hnn, hR, hK, hA, hO⟩ := id Cx
  have hdg := vm_dec ok hc
  have hk := h ok p e R s m args below meth c A cells slots Z Cx H locs ls hH hl hret
  simp only [List.map_cons, vm_cv] at hk ⊢
  obtain ⟨hX, hbl, hbA, hlen⟩ := hO.2 b hb0
  refine va_sld hx hb hX hbl hbA hH.2.2 (vm_in ha.1 ha.2 hlen) hdg ?_
  rw [vm_nat ha.1 (by omega), Int.toNat_of_nonneg ha.1]
  exact hk
theorem ex_rolen {x_ : List Nat} {b : Nat} (i_ : Nat) (hc : vm_nth M.code i_ = some (pc, .arraylength, 1, x_)) (hb0 : b = 38 ∨ b = 39) (h : vm_ex G d M (pc + 1) al (.inl (G.len b : Int) :: st) mem Q) : vm_ex G d M pc al (.inr (.inr b) :: st) mem Q := by
  intro ok p e R s m args below meth c A cells slots Z Cx H locs ls hH hl hret
  obtain ⟨hx, hb, hml, hown, hts, hnn, hR, hK, hA, hO⟩ := id Cx
  have hdg := vm_dec ok hc
  have hk := h ok p e R s m args below meth c A cells slots Z Cx H locs ls hH hl hret
  simp only [List.map_cons, vm_cv] at hk ⊢
  obtain ⟨hX, hbl, hbA, hlen⟩ := hO.2 b hb0
  exact va_slen hx hb hX hbl hbA hH.2.2 hdg hk
theorem ex_ret (i_ : Nat) {x_ : List Nat} (hc : vm_nth M.code i_ = some (pc, .return_, 1, x_)) (hz : M.ret = none) (h : Q mem none) : vm_ex G d M pc al [] mem Q := by
  intro ok p e R s m args below meth c A cells slots Z Cx H locs ls hH hl hret
  obtain ⟨hx, hb, hml, hown, hts, hnn, hR, hK, hA, hO⟩ := id Cx
  have hdg := vm_dec ok hc
  exact hret H locs ls pc mem none h hH (Or.inl ⟨rfl, hz, hdg⟩)
theorem ex_iret {v : Int} (i_ : Nat) {x_ : List Nat} (hc : vm_nth M.code i_ = some (pc, .ireturn, 1, x_)) (hz : M.ret = some .int ∨ (M.ret = some .boolean ∧ (v = 0 ∨ v = 1))) (h : Q mem (some (.inl v))) : vm_ex G d M pc al [.inl v] mem Q := by
  intro ok p e R s m args below meth c A cells slots Z Cx H locs ls hH hl hret
  obtain ⟨hx, hb, hml, hown, hts, hnn, hR, hK, hA, hO⟩ := id Cx
  have hdg := vm_dec ok hc
  exact hret H locs ls pc mem (some (.inl v)) h hH (Or.inr ⟨v, rfl, hz, hdg⟩)
theorem ex_mmax {x_ : List Nat} {idx : Nat} {a b : Int} (i_ : Nat) (hc : vm_nth M.code i_ = some (pc, .invokestatic idx, 3, x_)) (hlk : Cond.methodLink M.y.cls idx Lib.Math.max.name ∈ vm_WS) (hw1 : Cond.static Lib.Math.max.name ∈ vm_WS) (hw2 : Cond.initialized "java/lang/Math" ∈ vm_WS) (hw3 : Cond.code Lib.Math.max.name Lib.Math.max.code 2 (some .int) ∈ vm_WS) (ha : vm_R a) (hb0 : vm_R b) (hst : Nat.ble (vm_sw st) 8 = true) (h : vm_ex G (d + 1) M (pc + 3) al (.inl (if a < b then b else a) :: st) mem Q) : vm_ex G (d + 1) M pc al (.inl b :: .inl a :: st) mem Q := by
  intro ok p e R s m args below meth c A cells slots Z Cx H locs ls hH hl hret
  obtain ⟨hx, hb, hml, hown, hts, hnn, hR, hK, hA, hO⟩ := id Cx
  have hdg := vm_dec ok hc
  have hk := h ok p e R s m args below meth c A cells slots Z Cx H locs ls hH hl hret
  simp only [List.map_cons, vm_cv] at hk ⊢
  have hst8 : ((st.map (vm_cv G)).map fun v => v.category).sum ≤ 8 := by
    rw [vm_sw_eq]; exact Nat.le_of_ble_eq_true hst
  refine va_mmax hx hb (hml.trans hl.1.symm) hown (hts _ hlk) (hts _ hw1) (hts _ hw2) (hts _ hw3) (by omega) (by omega) hR.2.2.1 hR.2.2.2 hdg ?_
  have he : Int32.ofInt (if a < b then b else a) = if Int32.ofInt a < Int32.ofInt b then Int32.ofInt b else Int32.ofInt a := by
    simp only [vm_ltI ha hb0]
    split <;> rfl
  rw [← he]
  exact hk
theorem ex_mmin {x_ : List Nat} {idx : Nat} {a b : Int} (i_ : Nat) (hc : vm_nth M.code i_ = some (pc, .invokestatic idx, 3, x_)) (hlk : Cond.methodLink M.y.cls idx Lib.Math.min.name ∈ vm_WS) (hw1 : Cond.static Lib.Math.min.name ∈ vm_WS) (hw2 : Cond.initialized "java/lang/Math" ∈ vm_WS) (hw3 : Cond.code Lib.Math.min.name Lib.Math.min.code 2 (some .int) ∈ vm_WS) (ha : vm_R a) (hb0 : vm_R b) (hst : Nat.ble (vm_sw st) 8 = true) (h : vm_ex G (d + 1) M (pc + 3) al (.inl (if b < a then b else a) :: st) mem Q) : vm_ex G (d + 1) M pc al (.inl b :: .inl a :: st) mem Q := by
  intro ok p e R s m args below meth c A cells slots Z Cx H locs ls hH hl hret
  obtain ⟨hx, hb, hml, hown, hts, hnn, hR, hK, hA, hO⟩ := id Cx
  have hdg := vm_dec ok hc
  have hk := h ok p e R s m args below meth c A cells slots Z Cx H locs ls hH hl hret
  simp only [List.map_cons, vm_cv] at hk ⊢
  have hst8 : ((st.map (vm_cv G)).map fun v => v.category).sum ≤ 8 := by
    rw [vm_sw_eq]; exact Nat.le_of_ble_eq_true hst
  refine va_mmin hx hb (hml.trans hl.1.symm) hown (hts _ hlk) (hts _ hw1) (hts _ hw2) (hts _ hw3) (by omega) (by omega) hR.2.2.1 hR.2.2.2 hdg ?_
  have he : Int32.ofInt (if b < a then b else a) = if Int32.ofInt b < Int32.ofInt a then Int32.ofInt b else Int32.ofInt a := by
    simp only [vm_ltI hb0 ha]
    split <;> rfl
  rw [← he]
  exact hk
theorem vm_cpy_cell {G : vm_G} {mem : vm_M} {b0 b1 n1 : Nat} {sp dp n : Int} (hkd : vm_nth vm_kinds b1 = some (1, n1)) (h1 : 0 ≤ sp) (h2 : 0 ≤ dp) (h3 : 0 ≤ n) : vm_cell G (vm_cpy mem b0 b1 sp dp n) b1 = .inl (G.cA 1, n1, .inl (va_cpy (fun i : Nat => Int32.ofInt (mem b0 (i : Int))) (fun i : Nat => Int32.ofInt (mem b1 (i : Int))) sp.toNat dp.toNat n.toNat)) := by
  rw [vm_cell_arr hkd]
  congr 3
  congr 1
  funext i
  unfold va_cpy vm_cpy
  by_cases hi : dp.toNat ≤ i ∧ i < dp.toNat + n.toNat
  · rw [if_pos hi, if_pos ⟨rfl, by omega, by omega⟩]
    have : sp + ((i : Int) - dp) = ((sp.toNat + (i - dp.toNat) : Nat) : Int) := by omega
    rw [this]
  · rw [if_neg hi, if_neg (fun z => hi (by omega))]
theorem ex_copy {x_ : List Nat} {idx b0 b1 n0 n1 : Nat} {sp dp n : Int} (i_ : Nat) (hc : vm_nth M.code i_ = some (pc, .invokestatic idx, 3, x_)) (hlk : Cond.methodLink M.y.cls idx arraycopyName ∈ vm_WS) (hw1 : Cond.native arraycopyName ∈ vm_WS) (hw2 : Cond.static arraycopyName ∈ vm_WS) (hw3 : Cond.initialized "java/lang/System" ∈ vm_WS) (hkd0 : vm_nth vm_kinds b0 = some (1, n0)) (hkd1 : vm_nth vm_kinds b1 = some (1, n1)) (hn6 : Nat.ble (n0 + n1) 1000000 = true) (hs : 0 ≤ sp ∧ 0 ≤ dp ∧ 0 ≤ n ∧ sp + n ≤ (n0 : Int) ∧ dp + n ≤ (n1 : Int)) (hst : Nat.ble (vm_sw st) 8 = true) (h : vm_ex G (d + 1) M (pc + 3) al st (vm_cpy mem b0 b1 sp dp n) Q) : vm_ex G (d + 1) M pc al (.inl n :: .inl dp :: .inr (.inr b1) :: .inl sp :: .inr (.inr b0) :: st) mem Q := by
  intro ok p e R s m args below meth c A cells slots Z Cx H locs ls hH hl hret
  obtain ⟨hx, hb, hml, hown, hts, hnn, hR, hK, hA, hO⟩ := id Cx
  have hdg := vm_dec ok hc
  obtain ⟨h1, h2, h3, h4, h5⟩ := hs
  have hn6 := Nat.le_of_ble_eq_true hn6
  have hb0 : b0 < 38 := by
    rw [vm_nth_eq] at hkd0
    exact (List.getElem?_eq_some_iff.mp hkd0).1
  have hb1 : b1 < 38 := by
    rw [vm_nth_eq] at hkd1
    exact (List.getElem?_eq_some_iff.mp hkd1).1
  have hc0 := vm_ws_at G mem hb0
  rw [vm_cell_arr hkd0] at hc0
  have hc1 := vm_ws_at G mem hb1
  rw [vm_cell_arr hkd1] at hc1
  have hst8 : ((st.map (vm_cv G)).map fun v => v.category).sum ≤ 8 := by
    rw [vm_sw_eq]; exact Nat.le_of_ble_eq_true hst
  have e1 := vm_nat h1 (show sp ≤ 2147483647 by omega)
  have e2 := vm_nat h2 (show dp ≤ 2147483647 by omega)
  have e3 := vm_nat h3 (show n ≤ 2147483647 by omega)
  have neg : ∀ z : Int, 0 ≤ z → z ≤ 2147483647 → ¬ Int32.ofInt z < 0 := fun z z0 z1 => by
    rw [vm_zero, vm_ltI ⟨by omega, z1⟩ vm_R0]; omega
  simp only [List.map_cons, vm_cv]
  refine va_copyi (D := G.D) hx hb (hml.trans hl.1.symm) hown (hts _ hlk) (hts _ hw1) (hts _ hw2) (hts _ hw3) hK hH.1 hH.2.1 hH.2.2 b0 b1 0 0 (ty := .int) hc0 hc1 rfl rfl rfl (neg _ h1 (by omega)) (neg _ h2 (by omega)) (neg _ h3 (by omega)) (by rw [e1, e3]; omega) (by rw [e2, e3]; omega) (fun _ _ => rfl) (by omega) (by
    have hw : nativeFrameWords "java/lang/System" "arraycopy" 5 = 7 := by decide +kernel
    rw [hw]; omega) hdg (fun H1 locs1 hP1 hD1 hS1 => ?_)
  rw [e1, e2, e3] at hP1 hD1
  have hset := vm_ws_set (G := G) (mem := mem) (mem' := vm_cpy mem b0 b1 sp dp n) hb1 (vm_cpy_cell hkd1 h1 h2 h3) (fun k hk => by funext i'; simp [vm_cpy, hk])
  rw [hset] at hP1 hD1
  exact h ok p e R s m args below meth c A cells slots Z Cx H1 locs1 ls ⟨hP1, hD1, hS1⟩ hl hret
end VMR
end
section
/-! FROM A METHOD'S ENTRY TO ITS CONTRACT -/
def vm_ents : List vm_V → List (Option vm_V)
  | [] => []
  | .inr (.inl x) :: l => some (.inr (.inl x)) :: none :: vm_ents l
  | .inl x :: l => some (.inl x) :: vm_ents l
  | .inr (.inr x) :: l => some (.inr (.inr x)) :: vm_ents l
theorem vm_ents_sl (G : vm_G) : ∀ l : List vm_V, (lg_sl (l.map (vm_cv G))).length = (vm_ents l).length
  | [] => rfl
  | .inr (.inl x) :: l => by
    have ih := vm_ents_sl G l
    simp only [lg_sl, List.map_cons, List.flatMap_cons, List.length_append, vm_ents, List.length_cons] at ih ⊢
    rw [ih]
    simp [vm_cv, Value.category]
    omega
  | .inl x :: l => by
    have ih := vm_ents_sl G l
    simp only [lg_sl, List.map_cons, List.flatMap_cons, List.length_append, vm_ents, List.length_cons] at ih ⊢
    rw [ih]
    simp [vm_cv, Value.category]
    omega
  | .inr (.inr x) :: l => by
    have ih := vm_ents_sl G l
    simp only [lg_sl, List.map_cons, List.flatMap_cons, List.length_append, vm_ents, List.length_cons] at ih ⊢
    rw [ih]
    simp [vm_cv, Value.category]
    omega
theorem vm_ents_at (G : vm_G) : ∀ (l : List vm_V) (i j : Nat) (v : vm_V), (vm_ents l)[j]? = some (some v) → (i + j, vm_cv G v) ∈ lv_args i (l.map (vm_cv G))
  | [], i, j, v, h => by simp [vm_ents] at h
  | .inr (.inl x) :: l, i, 0, v, h => by
    simp [vm_ents] at h; subst h
    exact List.mem_cons_self
  | .inr (.inl x) :: l, i, 1, v, h => by simp [vm_ents] at h
  | .inr (.inl x) :: l, i, j + 2, v, h => by
    have ih := vm_ents_at G l (i + 2) j v (by simpa [vm_ents] using h)
    have e : i + 2 + j = i + (j + 2) := by omega
    rw [e] at ih
    exact List.mem_cons_of_mem _ (by simpa [vm_cv, Value.category] using ih)
  | .inl x :: l, i, 0, v, h => by
    simp [vm_ents] at h; subst h
    exact List.mem_cons_self
  | .inl x :: l, i, j + 1, v, h => by
    have ih := vm_ents_at G l (i + 1) j v (by simpa [vm_ents] using h)
    have e : i + 1 + j = i + (j + 1) := by omega
    rw [e] at ih
    exact List.mem_cons_of_mem _ (by simpa [vm_cv, Value.category] using ih)
  | .inr (.inr x) :: l, i, 0, v, h => by
    simp [vm_ents] at h; subst h
    exact List.mem_cons_self
  | .inr (.inr x) :: l, i, j + 1, v, h => by
    have ih := vm_ents_at G l (i + 1) j v (by simpa [vm_ents] using h)
    have e : i + 1 + j = i + (j + 1) := by omega
    rw [e] at ih
    exact List.mem_cons_of_mem _ (by simpa [vm_cv, Value.category] using ih)
theorem vm_enter {G : vm_G} {d : Nat} {M : vm_Me} {al : List (Option vm_V)} {As : List vm_V} {mem : vm_M} {Q : vm_M → Option vm_V → Prop} (n : Nat) (ok : vm_okM M) (hp : plainName M.y.cls = true) (hal : al = vm_ents As ++ List.replicate n none) (hn : M.maxL = (vm_ents As).length + n) (h : vm_ex G d M 0 al [] mem Q) : vm_call G d M As mem Q := by
  intro sz
  refine Met.ofW (cc := M.bytes) (maxL := M.maxL) (ret := M.ret) hp rfl ?_
  intro p e s m args below meth c s₁ B hml hv
  obtain ⟨rfl, hsz, hP, hK, hD0, hN, hO⟩ := hv
  have hx := B.exec
  have hb := B.bytes
  have hr := B.returns
  have hts := atoms_spec (ws := vm_wsM M) B.pre
  have hown : s.vm.findClass M.y.cls = some m.cls := findClass_of_methodNamed B.named
  have hlocks := B.notSynchronized
  subst hsz
  have hlen := vm_ents_sl G As
  have hl := lv_entry (As.map (vm_cv G)) (n := M.maxL) (by omega)
  rw [lg_entry_eq]
  generalize (lg_sl (As.map (vm_cv G)) ++ List.replicate (M.maxL - (lg_sl (As.map (vm_cv G))).length) Slot.unset).toArray = ls at hl ⊢
  have hl2 : lv_has ls M.maxL (vm_lk G al) := by
    refine ⟨hl.1, hl.2.1, fun q hq => hl.2.2 q ?_⟩
    obtain ⟨j, x⟩ := q
    obtain ⟨w, h1, rfl⟩ := vm_lk_mem.mp hq
    rw [hal] at h1
    have h2 : (vm_ents As)[j]? = some (some w) := by
      rw [List.getElem?_append] at h1
      split at h1
      · exact h1
      · rw [List.getElem?_replicate] at h1
        split at h1 <;> cases h1
    have h3 := vm_ents_at G As 0 j w h2
    rwa [Nat.zero_add] at h3
  have hA : ∀ q, s.heap.size ≤ q → va_A (vm_ws G mem) s.heap.size q := fun q h => Or.inr h
  have hD : va_D (va_A (vm_ws G mem) s.heap.size) (vm_ws G mem) := hD0.self
  have Cx : vm_C G d M p (headSpec (vm_wsM M) (vm_rm d)).room s m (As.map (vm_cv G)).toArray c (va_A (vm_ws G mem) s.heap.size) 0 0 :=
    ⟨hx, hb, hml, hown, fun w hw => hts w (List.mem_cons_of_mem _ hw), hN, ⟨Nat.le_refl _, Nat.le_refl _, Nat.zero_le _, Nat.zero_le _⟩, hK, hA, hO⟩
  refine h ok p e _ s m _ below meth c _ 0 0 _ Cx s.heap [] ls ⟨hP, hD, va_S.rf⟩ hl2 ?_
  intro H' locs' ls' pc' mem' r hq hH' hend
  have hf : ∀ q ∈ locs', va_A (vm_ws G mem) s.heap.size q.base := hH'.2.2.2.2
  have fin : ∀ t : State, t.heap = H' → vm_Qc G mem s.heap.size Q (As.map (vm_cv G)).toArray s (.returned (r.map (vm_cv G))) t := fun t ht => ⟨r, mem', rfl, hq, by rw [ht]; exact hH'.1, hH'.2.1, hH'.2.2.F ht⟩
  rcases hend with ⟨rfl, hnone, hdg⟩ | ⟨v, rfl, hz, hdg⟩
  · exact W.vret hx hb (hr.trans hnone) (fun t ht _ => fin t ht) hf hdg
  · rcases hz with hz | ⟨hz, hv⟩
    · exact W.iret hx hb (hr.trans hz) (fun t ht _ => fin t ht) hf hdg
    · exact W.zret hx hb (hr.trans hz) (by rcases hv with rfl | rfl <;> decide) (fun t ht _ => fin t ht) hf hdg
theorem vm_call.mono {G : vm_G} {d : Nat} {M : vm_Me} {As : List vm_V} {mem : vm_M} {Q Q' : vm_M → Option vm_V → Prop} (h : vm_call G d M As mem Q) (hQ : ∀ m r, Q m r → Q' m r) : vm_call G d M As mem Q' := by
  intro sz p e ha hc hk s m args below hf happ hP hK
  obtain ⟨n, o, h1, h2, h3, h4⟩ := h sz p e ha hc hk s m args below hf happ hP hK
  obtain ⟨⟨r, mem', hv, hq, hrest⟩, hL⟩ := h4
  exact ⟨n, o, h1, h2, h3, ⟨r, mem', hv, hQ _ _ hq, hrest⟩, hL⟩
/-- the answer is a number -/
def vm_ci (G : vm_G) (d : Nat) (M : vm_Me) (As : List vm_V) (mem : vm_M) (Q : vm_M → Int → Prop) : Prop := vm_call G d M As mem (fun mem' r => ∃ v, r = some (.inl v) ∧ Q mem' v)
/-- there is no answer -/
def vm_cn (G : vm_G) (d : Nat) (M : vm_Me) (As : List vm_V) (mem : vm_M) (Q : vm_M → Prop) : Prop := vm_call G d M As mem (fun mem' r => r = none ∧ Q mem')
theorem vm_ci.mono {G : vm_G} {d : Nat} {M : vm_Me} {As : List vm_V} {mem : vm_M} {Q Q' : vm_M → Int → Prop} (h : vm_ci G d M As mem Q) (hQ : ∀ m r, Q m r → Q' m r) : vm_ci G d M As mem Q' := vm_call.mono h (fun m _ ⟨v, e, q⟩ => ⟨v, e, hQ m v q⟩)
theorem vm_cn.mono {G : vm_G} {d : Nat} {M : vm_Me} {As : List vm_V} {mem : vm_M} {Q Q' : vm_M → Prop} (h : vm_cn G d M As mem Q) (hQ : ∀ m, Q m → Q' m) : vm_cn G d M As mem Q' := vm_call.mono h (fun m _ ⟨e, q⟩ => ⟨e, hQ m q⟩)
end
section
theorem vm_in1 {w : Cond} (h : w ∈ tables_1_1) : w ∈ lw_tbl := List.mem_append_right _ (List.mem_append_left _ h)
theorem vm_in2 {w : Cond} (h : w ∈ tables_1_2) : w ∈ lw_tbl := List.mem_append_right _ (List.mem_append_right _ (List.mem_append_left _ h))
theorem vm_in3 {w : Cond} (h : w ∈ tables_1_3) : w ∈ lw_tbl := List.mem_append_right _ (List.mem_append_right _ (List.mem_append_right _ (List.mem_append_left _ h)))
theorem vm_in4 {w : Cond} (h : w ∈ tables_1_4) : w ∈ lw_tbl := List.mem_append_right _ (List.mem_append_right _ (List.mem_append_right _ (List.mem_append_right _ (List.mem_append_left _ h))))
theorem vm_in5 {w : Cond} (h : w ∈ tables_1_5) : w ∈ lw_tbl := List.mem_append_right _ (List.mem_append_right _ (List.mem_append_right _ (List.mem_append_right _ (List.mem_append_right _ (h)))))
theorem vm_pin1 {q : MethodName × Nat} (h : q ∈ lw_privs_1) : Cond.selects q.1.cls q.1 q.1 ∈ lw_tbl := List.mem_append_left _ (List.mem_map.mpr ⟨q, List.mem_append_left _ h, rfl⟩)
theorem vm_pin2 {q : MethodName × Nat} (h : q ∈ lw_privs_2) : Cond.selects q.1.cls q.1 q.1 ∈ lw_tbl := List.mem_append_left _ (List.mem_map.mpr ⟨q, List.mem_append_right _ (List.mem_append_left _ h), rfl⟩)
theorem vm_pin3 {q : MethodName × Nat} (h : q ∈ lw_privs_3) : Cond.selects q.1.cls q.1 q.1 ∈ lw_tbl := List.mem_append_left _ (List.mem_map.mpr ⟨q, List.mem_append_right _ (List.mem_append_right _ (List.mem_append_left _ h)), rfl⟩)
theorem vm_pin4 {q : MethodName × Nat} (h : q ∈ lw_privs_4) : Cond.selects q.1.cls q.1 q.1 ∈ lw_tbl := List.mem_append_left _ (List.mem_map.mpr ⟨q, List.mem_append_right _ (List.mem_append_right _ (List.mem_append_right _ (List.mem_append_left _ h))), rfl⟩)
theorem vm_pin5 {q : MethodName × Nat} (h : q ∈ lw_privs_5) : Cond.selects q.1.cls q.1 q.1 ∈ lw_tbl := List.mem_append_left _ (List.mem_map.mpr ⟨q, List.mem_append_right _ (List.mem_append_right _ (List.mem_append_right _ (List.mem_append_right _ (List.mem_append_left _ h)))), rfl⟩)
theorem vm_pin6 {q : MethodName × Nat} (h : q ∈ lw_privs_6) : Cond.selects q.1.cls q.1 q.1 ∈ lw_tbl := List.mem_append_left _ (List.mem_map.mpr ⟨q, List.mem_append_right _ (List.mem_append_right _ (List.mem_append_right _ (List.mem_append_right _ (List.mem_append_right _ (h))))), rfl⟩)
theorem vm_w1 {w : Cond} (i : Nat) (h : vm_nth tables_1_1 i = some w) (hg : goodWord w = true) : w ∈ vm_WS := List.mem_filter.mpr ⟨vm_in1 (vm_nth_mem h), hg⟩
theorem vm_n1 {w : Cond} (i : Nat) (h : vm_nth tables_1_1 i = some w) (hg : vm_isN w = true) : w ∈ vm_WN := List.mem_filter.mpr ⟨vm_in1 (vm_nth_mem h), hg⟩
theorem vm_w2 {w : Cond} (i : Nat) (h : vm_nth tables_1_2 i = some w) (hg : goodWord w = true) : w ∈ vm_WS := List.mem_filter.mpr ⟨vm_in2 (vm_nth_mem h), hg⟩
theorem vm_n2 {w : Cond} (i : Nat) (h : vm_nth tables_1_2 i = some w) (hg : vm_isN w = true) : w ∈ vm_WN := List.mem_filter.mpr ⟨vm_in2 (vm_nth_mem h), hg⟩
theorem vm_w3 {w : Cond} (i : Nat) (h : vm_nth tables_1_3 i = some w) (hg : goodWord w = true) : w ∈ vm_WS := List.mem_filter.mpr ⟨vm_in3 (vm_nth_mem h), hg⟩
theorem vm_n3 {w : Cond} (i : Nat) (h : vm_nth tables_1_3 i = some w) (hg : vm_isN w = true) : w ∈ vm_WN := List.mem_filter.mpr ⟨vm_in3 (vm_nth_mem h), hg⟩
theorem vm_w4 {w : Cond} (i : Nat) (h : vm_nth tables_1_4 i = some w) (hg : goodWord w = true) : w ∈ vm_WS := List.mem_filter.mpr ⟨vm_in4 (vm_nth_mem h), hg⟩
theorem vm_n4 {w : Cond} (i : Nat) (h : vm_nth tables_1_4 i = some w) (hg : vm_isN w = true) : w ∈ vm_WN := List.mem_filter.mpr ⟨vm_in4 (vm_nth_mem h), hg⟩
theorem vm_w5 {w : Cond} (i : Nat) (h : vm_nth tables_1_5 i = some w) (hg : goodWord w = true) : w ∈ vm_WS := List.mem_filter.mpr ⟨vm_in5 (vm_nth_mem h), hg⟩
theorem vm_n5 {w : Cond} (i : Nat) (h : vm_nth tables_1_5 i = some w) (hg : vm_isN w = true) : w ∈ vm_WN := List.mem_filter.mpr ⟨vm_in5 (vm_nth_mem h), hg⟩
theorem vm_s1 {q : MethodName × Nat} (i : Nat) (h : vm_nth lw_privs_1 i = some q) (hg : goodWord (Cond.selects q.1.cls q.1 q.1) = true) : Cond.selects q.1.cls q.1 q.1 ∈ vm_WS := List.mem_filter.mpr ⟨vm_pin1 (vm_nth_mem h), hg⟩
theorem vm_s2 {q : MethodName × Nat} (i : Nat) (h : vm_nth lw_privs_2 i = some q) (hg : goodWord (Cond.selects q.1.cls q.1 q.1) = true) : Cond.selects q.1.cls q.1 q.1 ∈ vm_WS := List.mem_filter.mpr ⟨vm_pin2 (vm_nth_mem h), hg⟩
theorem vm_s3 {q : MethodName × Nat} (i : Nat) (h : vm_nth lw_privs_3 i = some q) (hg : goodWord (Cond.selects q.1.cls q.1 q.1) = true) : Cond.selects q.1.cls q.1 q.1 ∈ vm_WS := List.mem_filter.mpr ⟨vm_pin3 (vm_nth_mem h), hg⟩
theorem vm_s4 {q : MethodName × Nat} (i : Nat) (h : vm_nth lw_privs_4 i = some q) (hg : goodWord (Cond.selects q.1.cls q.1 q.1) = true) : Cond.selects q.1.cls q.1 q.1 ∈ vm_WS := List.mem_filter.mpr ⟨vm_pin4 (vm_nth_mem h), hg⟩
theorem vm_s5 {q : MethodName × Nat} (i : Nat) (h : vm_nth lw_privs_5 i = some q) (hg : goodWord (Cond.selects q.1.cls q.1 q.1) = true) : Cond.selects q.1.cls q.1 q.1 ∈ vm_WS := List.mem_filter.mpr ⟨vm_pin5 (vm_nth_mem h), hg⟩
theorem vm_s6 {q : MethodName × Nat} (i : Nat) (h : vm_nth lw_privs_6 i = some q) (hg : goodWord (Cond.selects q.1.cls q.1 q.1) = true) : Cond.selects q.1.cls q.1 q.1 ∈ vm_WS := List.mem_filter.mpr ⟨vm_pin6 (vm_nth_mem h), hg⟩
theorem ww_88 : (Cond.initialized "BagCountsLaw") ∈ vm_WS := vm_w1 0 rfl rfl
theorem ww_89 : (Cond.initialized "BagCounts") ∈ vm_WS := vm_w1 1 rfl rfl
theorem ww_90 : (Cond.initialized "BagCounts$Facts") ∈ vm_WS := vm_w1 2 rfl rfl
theorem ww_91 : (Cond.initialized "BagCounts$Logic") ∈ vm_WS := vm_w1 3 rfl rfl
theorem ww_92 : (Cond.initialized "BagCounts$Search") ∈ vm_WS := vm_w1 4 rfl rfl
theorem ww_93 : (Cond.initialized "BagCounts$Rules") ∈ vm_WS := vm_w1 5 rfl rfl
theorem ww_94 : (Cond.initialized "BagCounts$Gaps") ∈ vm_WS := vm_w1 6 rfl rfl
theorem ww_95 : (Cond.initialized "BagCounts$Pad") ∈ vm_WS := vm_w1 7 rfl rfl
theorem ww_96 : (Cond.initialized "BagCounts$States") ∈ vm_WS := vm_w1 8 rfl rfl
theorem ww_97 : (Cond.initialized "BagCountsModel") ∈ vm_WS := vm_w1 9 rfl rfl
theorem ww_98 : (Cond.initialized "java/lang/System") ∈ vm_WS := vm_w1 10 rfl rfl
theorem ww_99 : (Cond.initialized "java/lang/Math") ∈ vm_WS := vm_w1 11 rfl rfl
theorem ww_102 : (Cond.methodLink "BagCountsLaw" (9 : Nat) ({ cls := "BagCounts", name := "<init>", desc := "()V" } : Jvm.MethodName)) ∈ vm_WS := vm_w1 14 rfl rfl
theorem ww_103 : (Cond.instanceMethod ({ cls := "BagCounts", name := "<init>", desc := "()V" } : Jvm.MethodName)) ∈ vm_WS := vm_w1 15 rfl rfl
theorem ww_104 : (Cond.code ({ cls := "BagCounts", name := "<init>", desc := "()V" } : Jvm.MethodName) prog_1_method_1_code (1 : Nat) (Option.none : Option Jvm.ClassFile.FieldType)) ∈ vm_WS := vm_w1 16 rfl rfl
theorem ww_105 : (Cond.methodLink "BagCounts" (1 : Nat) ({ cls := "java/lang/Object", name := "<init>", desc := "()V" } : Jvm.MethodName)) ∈ vm_WS := vm_w1 17 rfl rfl
theorem ww_106 : (Cond.instanceMethod ({ cls := "java/lang/Object", name := "<init>", desc := "()V" } : Jvm.MethodName)) ∈ vm_WS := vm_w1 18 rfl rfl
theorem ww_107 : (Cond.code ({ cls := "java/lang/Object", name := "<init>", desc := "()V" } : Jvm.MethodName) object_method_1_code (1 : Nat) (Option.none : Option Jvm.ClassFile.FieldType)) ∈ vm_WS := vm_w1 19 rfl rfl
theorem ww_110 : (Cond.methodLinkNest "BagCounts" (9 : Nat) ({ cls := "BagCounts$Facts", name := "<init>", desc := "()V" } : Jvm.MethodName) "BagCounts") ∈ vm_WN := vm_n1 22 rfl rfl
theorem ww_111 : (Cond.instanceMethod ({ cls := "BagCounts$Facts", name := "<init>", desc := "()V" } : Jvm.MethodName)) ∈ vm_WS := vm_w1 23 rfl rfl
theorem ww_112 : (Cond.code ({ cls := "BagCounts$Facts", name := "<init>", desc := "()V" } : Jvm.MethodName) prog_2_method_1_code (1 : Nat) (Option.none : Option Jvm.ClassFile.FieldType)) ∈ vm_WS := vm_w1 24 rfl rfl
theorem ww_113 : (Cond.methodLink "BagCounts$Facts" (5 : Nat) ({ cls := "java/lang/Object", name := "<init>", desc := "()V" } : Jvm.MethodName)) ∈ vm_WS := vm_w1 25 rfl rfl
theorem ww_114 : (Cond.fieldLink "BagCounts$Facts" (11 : Nat) "BagCounts$Facts" "numbers" "[I") ∈ vm_WS := vm_w1 26 rfl rfl
theorem ww_115 : (Cond.fieldLink "BagCounts$Facts" (19 : Nat) "BagCounts$Facts" "known" "I") ∈ vm_WS := vm_w1 27 rfl rfl
theorem ww_116 : (Cond.fieldLinkNest "BagCounts" (74 : Nat) "BagCounts$Facts" "known" "I" "BagCounts") ∈ vm_WN := vm_n1 28 rfl rfl
theorem ww_117 : (Cond.fieldLink "BagCounts$Facts" (15 : Nat) "BagCounts$Facts" "most" "I") ∈ vm_WS := vm_w1 29 rfl rfl
theorem ww_118 : (Cond.fieldLinkNest "BagCounts$Gaps" (15 : Nat) "BagCounts$Facts" "most" "I" "BagCounts") ∈ vm_WN := vm_n1 30 rfl rfl
theorem ww_119 : (Cond.fieldLinkNest "BagCounts" (51 : Nat) "BagCounts$Facts" "most" "I" "BagCounts") ∈ vm_WN := vm_n1 31 rfl rfl
theorem ww_120 : (Cond.fieldLinkNest "BagCounts$Logic" (80 : Nat) "BagCounts$Facts" "most" "I" "BagCounts") ∈ vm_WN := vm_n1 32 rfl rfl
theorem ww_121 : (Cond.laysFinal "BagCounts$Facts" "BagCounts$Facts" "numbers" "[I") ∈ vm_WS := vm_w1 33 rfl rfl
theorem ww_123 : (Cond.lays "BagCounts$Facts" "BagCounts$Facts" "known" "I") ∈ vm_WS := vm_w1 35 rfl rfl
theorem ww_125 : (Cond.lays "BagCounts$Facts" "BagCounts$Facts" "most" "I") ∈ vm_WS := vm_w1 37 rfl rfl
theorem ww_128 : (Cond.arrayClass Jvm.ClassFile.FieldType.int) ∈ vm_WS := vm_w1 40 rfl rfl
theorem ww_131 : (Cond.methodLink "BagCounts" (18 : Nat) ({ cls := "BagCounts$Logic", name := "<init>", desc := "(LBagCounts$Facts;)V" } : Jvm.MethodName)) ∈ vm_WS := vm_w1 43 rfl rfl
theorem ww_132 : (Cond.instanceMethod ({ cls := "BagCounts$Logic", name := "<init>", desc := "(LBagCounts$Facts;)V" } : Jvm.MethodName)) ∈ vm_WS := vm_w1 44 rfl rfl
theorem ww_133 : (Cond.code ({ cls := "BagCounts$Logic", name := "<init>", desc := "(LBagCounts$Facts;)V" } : Jvm.MethodName) prog_4_method_1_code (2 : Nat) (Option.none : Option Jvm.ClassFile.FieldType)) ∈ vm_WS := vm_w1 45 rfl rfl
theorem ww_134 : (Cond.methodLink "BagCounts$Logic" (3 : Nat) ({ cls := "java/lang/Object", name := "<init>", desc := "()V" } : Jvm.MethodName)) ∈ vm_WS := vm_w1 46 rfl rfl
theorem ww_137 : (Cond.methodLinkNest "BagCounts$Logic" (11 : Nat) ({ cls := "BagCounts$Search", name := "<init>", desc := "()V" } : Jvm.MethodName) "BagCounts") ∈ vm_WN := vm_n1 49 rfl rfl
theorem ww_138 : (Cond.instanceMethod ({ cls := "BagCounts$Search", name := "<init>", desc := "()V" } : Jvm.MethodName)) ∈ vm_WS := vm_w1 50 rfl rfl
theorem ww_139 : (Cond.code ({ cls := "BagCounts$Search", name := "<init>", desc := "()V" } : Jvm.MethodName) prog_7_method_1_code (1 : Nat) (Option.none : Option Jvm.ClassFile.FieldType)) ∈ vm_WS := vm_w1 51 rfl rfl
theorem ww_140 : (Cond.methodLink "BagCounts$Search" (5 : Nat) ({ cls := "java/lang/Object", name := "<init>", desc := "()V" } : Jvm.MethodName)) ∈ vm_WS := vm_w1 52 rfl rfl
theorem ww_143 : (Cond.methodLinkNest "BagCounts$Search" (13 : Nat) ({ cls := "BagCounts$Rules", name := "<init>", desc := "()V" } : Jvm.MethodName) "BagCounts") ∈ vm_WN := vm_n1 55 rfl rfl
theorem ww_144 : (Cond.instanceMethod ({ cls := "BagCounts$Rules", name := "<init>", desc := "()V" } : Jvm.MethodName)) ∈ vm_WS := vm_w1 56 rfl rfl
theorem ww_145 : (Cond.code ({ cls := "BagCounts$Rules", name := "<init>", desc := "()V" } : Jvm.MethodName) prog_6_method_1_code (1 : Nat) (Option.none : Option Jvm.ClassFile.FieldType)) ∈ vm_WS := vm_w1 57 rfl rfl
theorem ww_146 : (Cond.methodLink "BagCounts$Rules" (3 : Nat) ({ cls := "java/lang/Object", name := "<init>", desc := "()V" } : Jvm.MethodName)) ∈ vm_WS := vm_w1 58 rfl rfl
theorem ww_147 : (Cond.fieldLink "BagCounts$Rules" (11 : Nat) "BagCounts$Rules" "type" "[I") ∈ vm_WS := vm_w1 59 rfl rfl
theorem ww_148 : (Cond.fieldLinkNest "BagCounts$Search" (103 : Nat) "BagCounts$Rules" "type" "[I" "BagCounts") ∈ vm_WN := vm_n1 60 rfl rfl
theorem ww_149 : (Cond.fieldLink "BagCounts$Rules" (15 : Nat) "BagCounts$Rules" "low" "[I") ∈ vm_WS := vm_w1 61 rfl rfl
theorem ww_150 : (Cond.fieldLinkNest "BagCounts$Search" (127 : Nat) "BagCounts$Rules" "low" "[I" "BagCounts") ∈ vm_WN := vm_n1 62 rfl rfl
theorem ww_151 : (Cond.fieldLink "BagCounts$Rules" (18 : Nat) "BagCounts$Rules" "high" "[I") ∈ vm_WS := vm_w1 63 rfl rfl
theorem ww_152 : (Cond.fieldLinkNest "BagCounts$Search" (128 : Nat) "BagCounts$Rules" "high" "[I" "BagCounts") ∈ vm_WN := vm_n1 64 rfl rfl
theorem ww_153 : (Cond.fieldLink "BagCounts$Rules" (21 : Nat) "BagCounts$Rules" "mask" "[I") ∈ vm_WS := vm_w1 65 rfl rfl
theorem ww_154 : (Cond.fieldLinkNest "BagCounts$Search" (85 : Nat) "BagCounts$Rules" "mask" "[I" "BagCounts") ∈ vm_WN := vm_n1 66 rfl rfl
theorem ww_155 : (Cond.fieldLink "BagCounts$Rules" (24 : Nat) "BagCounts$Rules" "terms" "[I") ∈ vm_WS := vm_w1 67 rfl rfl
theorem ww_156 : (Cond.fieldLinkNest "BagCounts$Search" (112 : Nat) "BagCounts$Rules" "terms" "[I" "BagCounts") ∈ vm_WN := vm_n1 68 rfl rfl
theorem ww_157 : (Cond.fieldLink "BagCounts$Rules" (27 : Nat) "BagCounts$Rules" "variable" "[I") ∈ vm_WS := vm_w1 69 rfl rfl
theorem ww_158 : (Cond.fieldLinkNest "BagCounts$Search" (121 : Nat) "BagCounts$Rules" "variable" "[I" "BagCounts") ∈ vm_WN := vm_n1 70 rfl rfl
theorem ww_159 : (Cond.fieldLink "BagCounts$Rules" (30 : Nat) "BagCounts$Rules" "factor" "[I") ∈ vm_WS := vm_w1 71 rfl rfl
theorem ww_160 : (Cond.fieldLinkNest "BagCounts$Search" (124 : Nat) "BagCounts$Rules" "factor" "[I" "BagCounts") ∈ vm_WN := vm_n1 72 rfl rfl
theorem ww_161 : (Cond.fieldLink "BagCounts$Rules" (35 : Nat) "BagCounts$Rules" "weight" "[I") ∈ vm_WS := vm_w1 73 rfl rfl
theorem ww_162 : (Cond.fieldLinkNest "BagCounts$Search" (91 : Nat) "BagCounts$Rules" "weight" "[I" "BagCounts") ∈ vm_WN := vm_n1 74 rfl rfl
theorem ww_163 : (Cond.fieldLink "BagCounts$Rules" (38 : Nat) "BagCounts$Rules" "size" "I") ∈ vm_WS := vm_w1 75 rfl rfl
theorem ww_164 : (Cond.fieldLinkNest "BagCounts$Search" (81 : Nat) "BagCounts$Rules" "size" "I" "BagCounts") ∈ vm_WN := vm_n1 76 rfl rfl
theorem ww_165 : (Cond.laysFinal "BagCounts$Rules" "BagCounts$Rules" "type" "[I") ∈ vm_WS := vm_w1 77 rfl rfl
theorem ww_167 : (Cond.laysFinal "BagCounts$Rules" "BagCounts$Rules" "low" "[I") ∈ vm_WS := vm_w1 79 rfl rfl
theorem ww_169 : (Cond.laysFinal "BagCounts$Rules" "BagCounts$Rules" "high" "[I") ∈ vm_WS := vm_w1 81 rfl rfl
theorem ww_171 : (Cond.laysFinal "BagCounts$Rules" "BagCounts$Rules" "mask" "[I") ∈ vm_WS := vm_w1 83 rfl rfl
theorem ww_173 : (Cond.laysFinal "BagCounts$Rules" "BagCounts$Rules" "terms" "[I") ∈ vm_WS := vm_w1 85 rfl rfl
theorem ww_175 : (Cond.laysFinal "BagCounts$Rules" "BagCounts$Rules" "variable" "[I") ∈ vm_WS := vm_w1 87 rfl rfl
theorem ww_177 : (Cond.laysFinal "BagCounts$Rules" "BagCounts$Rules" "factor" "[I") ∈ vm_WS := vm_w1 89 rfl rfl
theorem ww_179 : (Cond.laysFinal "BagCounts$Rules" "BagCounts$Rules" "weight" "[I") ∈ vm_WS := vm_w1 91 rfl rfl
theorem ww_181 : (Cond.lays "BagCounts$Rules" "BagCounts$Rules" "size" "I") ∈ vm_WS := vm_w1 93 rfl rfl
theorem ww_184 : (Cond.fieldLink "BagCounts$Search" (14 : Nat) "BagCounts$Search" "rules" "LBagCounts$Rules;") ∈ vm_WS := vm_w1 96 rfl rfl
theorem ww_185 : (Cond.fieldLinkNest "BagCounts$Logic" (91 : Nat) "BagCounts$Search" "rules" "LBagCounts$Rules;" "BagCounts") ∈ vm_WN := vm_n1 97 rfl rfl
theorem ww_186 : (Cond.fieldLink "BagCounts$Search" (18 : Nat) "BagCounts$Search" "low" "[I") ∈ vm_WS := vm_w1 98 rfl rfl
theorem ww_187 : (Cond.fieldLinkNest "BagCounts$Logic" (63 : Nat) "BagCounts$Search" "low" "[I" "BagCounts") ∈ vm_WN := vm_n1 99 rfl rfl
theorem ww_188 : (Cond.fieldLink "BagCounts$Search" (22 : Nat) "BagCounts$Search" "high" "[I") ∈ vm_WS := vm_w1 100 rfl rfl
theorem ww_189 : (Cond.fieldLinkNest "BagCounts$Logic" (66 : Nat) "BagCounts$Search" "high" "[I" "BagCounts") ∈ vm_WN := vm_n1 101 rfl rfl
theorem ww_190 : (Cond.fieldLink "BagCounts$Search" (28 : Nat) "BagCounts$Search" "withSizes" "Z") ∈ vm_WS := vm_w1 102 rfl rfl
theorem ww_191 : (Cond.fieldLink "BagCounts$Search" (100 : Nat) "BagCounts$Search" "narrowed" "I") ∈ vm_WS := vm_w1 103 rfl rfl
theorem ww_192 : (Cond.laysFinal "BagCounts$Search" "BagCounts$Search" "rules" "LBagCounts$Rules;") ∈ vm_WS := vm_w1 104 rfl rfl
theorem ww_194 : (Cond.laysFinal "BagCounts$Search" "BagCounts$Search" "low" "[I") ∈ vm_WS := vm_w1 106 rfl rfl
theorem ww_196 : (Cond.laysFinal "BagCounts$Search" "BagCounts$Search" "high" "[I") ∈ vm_WS := vm_w1 108 rfl rfl
theorem ww_198 : (Cond.lays "BagCounts$Search" "BagCounts$Search" "withSizes" "Z") ∈ vm_WS := vm_w1 110 rfl rfl
theorem ww_200 : (Cond.lays "BagCounts$Search" "BagCounts$Search" "narrowed" "I") ∈ vm_WS := vm_w1 112 rfl rfl
theorem ww_205 : (Cond.methodLinkNest "BagCounts$Logic" (20 : Nat) ({ cls := "BagCounts$Gaps", name := "<init>", desc := "()V" } : Jvm.MethodName) "BagCounts") ∈ vm_WN := vm_n1 117 rfl rfl
theorem ww_206 : (Cond.instanceMethod ({ cls := "BagCounts$Gaps", name := "<init>", desc := "()V" } : Jvm.MethodName)) ∈ vm_WS := vm_w1 118 rfl rfl
theorem ww_207 : (Cond.code ({ cls := "BagCounts$Gaps", name := "<init>", desc := "()V" } : Jvm.MethodName) prog_3_method_1_code (1 : Nat) (Option.none : Option Jvm.ClassFile.FieldType)) ∈ vm_WS := vm_w1 119 rfl rfl
theorem ww_208 : (Cond.methodLink "BagCounts$Gaps" (3 : Nat) ({ cls := "java/lang/Object", name := "<init>", desc := "()V" } : Jvm.MethodName)) ∈ vm_WS := vm_w1 120 rfl rfl
theorem ww_209 : (Cond.fieldLink "BagCounts$Gaps" (9 : Nat) "BagCounts$Gaps" "gaps" "[I") ∈ vm_WS := vm_w1 121 rfl rfl
theorem ww_210 : (Cond.fieldLink "BagCounts$Gaps" (21 : Nat) "BagCounts$Gaps" "most" "I") ∈ vm_WS := vm_w1 122 rfl rfl
theorem ww_211 : (Cond.fieldLink "BagCounts$Gaps" (22 : Nat) "BagCounts$Gaps" "isNarrowed" "Z") ∈ vm_WS := vm_w1 123 rfl rfl
theorem ww_212 : (Cond.laysFinal "BagCounts$Gaps" "BagCounts$Gaps" "gaps" "[I") ∈ vm_WS := vm_w1 124 rfl rfl
theorem ww_214 : (Cond.lays "BagCounts$Gaps" "BagCounts$Gaps" "most" "I") ∈ vm_WS := vm_w1 126 rfl rfl
theorem ww_216 : (Cond.lays "BagCounts$Gaps" "BagCounts$Gaps" "isNarrowed" "Z") ∈ vm_WS := vm_w1 128 rfl rfl
theorem ww_219 : (Cond.fieldLink "BagCounts$Logic" (25 : Nat) "BagCounts$Logic" "facts" "LBagCounts$Facts;") ∈ vm_WS := vm_w1 131 rfl rfl
theorem ww_220 : (Cond.fieldLink "BagCounts$Logic" (12 : Nat) "BagCounts$Logic" "search" "LBagCounts$Search;") ∈ vm_WS := vm_w1 132 rfl rfl
theorem ww_221 : (Cond.fieldLink "BagCounts$Logic" (21 : Nat) "BagCounts$Logic" "gaps" "LBagCounts$Gaps;") ∈ vm_WS := vm_w1 133 rfl rfl
theorem ww_222 : (Cond.laysFinal "BagCounts$Logic" "BagCounts$Logic" "facts" "LBagCounts$Facts;") ∈ vm_WS := vm_w1 134 rfl rfl
theorem ww_224 : (Cond.laysFinal "BagCounts$Logic" "BagCounts$Logic" "search" "LBagCounts$Search;") ∈ vm_WS := vm_w1 136 rfl rfl
theorem ww_226 : (Cond.laysFinal "BagCounts$Logic" "BagCounts$Logic" "gaps" "LBagCounts$Gaps;") ∈ vm_WS := vm_w1 138 rfl rfl
theorem ww_231 : (Cond.methodLinkNest "BagCounts" (27 : Nat) ({ cls := "BagCounts$Pad", name := "<init>", desc := "()V" } : Jvm.MethodName) "BagCounts") ∈ vm_WN := vm_n1 143 rfl rfl
theorem ww_232 : (Cond.instanceMethod ({ cls := "BagCounts$Pad", name := "<init>", desc := "()V" } : Jvm.MethodName)) ∈ vm_WS := vm_w1 144 rfl rfl
theorem ww_233 : (Cond.code ({ cls := "BagCounts$Pad", name := "<init>", desc := "()V" } : Jvm.MethodName) prog_5_method_1_code (1 : Nat) (Option.none : Option Jvm.ClassFile.FieldType)) ∈ vm_WS := vm_w1 145 rfl rfl
theorem ww_234 : (Cond.methodLink "BagCounts$Pad" (3 : Nat) ({ cls := "java/lang/Object", name := "<init>", desc := "()V" } : Jvm.MethodName)) ∈ vm_WS := vm_w1 146 rfl rfl
theorem ww_235 : (Cond.fieldLink "BagCounts$Pad" (11 : Nat) "BagCounts$Pad" "text" "[C") ∈ vm_WS := vm_w1 147 rfl rfl
theorem ww_236 : (Cond.fieldLink "BagCounts$Pad" (21 : Nat) "BagCounts$Pad" "length" "I") ∈ vm_WS := vm_w1 148 rfl rfl
theorem ww_237 : (Cond.fieldLinkNest "BagCounts" (81 : Nat) "BagCounts$Pad" "length" "I" "BagCounts") ∈ vm_WN := vm_n1 149 rfl rfl
theorem ww_238 : (Cond.fieldLink "BagCounts$Pad" (29 : Nat) "BagCounts$Pad" "at" "I") ∈ vm_WS := vm_w1 150 rfl rfl
theorem ww_239 : (Cond.fieldLink "BagCounts$Pad" (40 : Nat) "BagCounts$Pad" "form" "I") ∈ vm_WS := vm_w1 151 rfl rfl
theorem ww_240 : (Cond.fieldLink "BagCounts$Pad" (43 : Nat) "BagCounts$Pad" "a" "I") ∈ vm_WS := vm_w1 152 rfl rfl
theorem ww_241 : (Cond.fieldLink "BagCounts$Pad" (46 : Nat) "BagCounts$Pad" "b" "I") ∈ vm_WS := vm_w1 153 rfl rfl
theorem ww_242 : (Cond.fieldLink "BagCounts$Pad" (49 : Nat) "BagCounts$Pad" "c" "I") ∈ vm_WS := vm_w1 154 rfl rfl
theorem ww_243 : (Cond.fieldLink "BagCounts$Pad" (52 : Nat) "BagCounts$Pad" "d" "I") ∈ vm_WS := vm_w1 155 rfl rfl
theorem ww_244 : (Cond.fieldLink "BagCounts$Pad" (55 : Nat) "BagCounts$Pad" "e" "I") ∈ vm_WS := vm_w1 156 rfl rfl
theorem ww_245 : (Cond.laysFinal "BagCounts$Pad" "BagCounts$Pad" "text" "[C") ∈ vm_WS := vm_w1 157 rfl rfl
theorem ww_247 : (Cond.lays "BagCounts$Pad" "BagCounts$Pad" "length" "I") ∈ vm_WS := vm_w1 159 rfl rfl
theorem ww_249 : (Cond.lays "BagCounts$Pad" "BagCounts$Pad" "at" "I") ∈ vm_WS := vm_w1 161 rfl rfl
theorem ww_251 : (Cond.lays "BagCounts$Pad" "BagCounts$Pad" "form" "I") ∈ vm_WS := vm_w1 163 rfl rfl
theorem ww_253 : (Cond.lays "BagCounts$Pad" "BagCounts$Pad" "a" "I") ∈ vm_WS := vm_w1 165 rfl rfl
theorem ww_255 : (Cond.lays "BagCounts$Pad" "BagCounts$Pad" "b" "I") ∈ vm_WS := vm_w1 167 rfl rfl
theorem ww_257 : (Cond.lays "BagCounts$Pad" "BagCounts$Pad" "c" "I") ∈ vm_WS := vm_w1 169 rfl rfl
theorem ww_259 : (Cond.lays "BagCounts$Pad" "BagCounts$Pad" "d" "I") ∈ vm_WS := vm_w1 171 rfl rfl
theorem ww_261 : (Cond.lays "BagCounts$Pad" "BagCounts$Pad" "e" "I") ∈ vm_WS := vm_w1 173 rfl rfl
theorem ww_264 : (Cond.arrayClass Jvm.ClassFile.FieldType.char) ∈ vm_WS := vm_w1 176 rfl rfl
theorem ww_267 : (Cond.methodLink "BagCounts" (34 : Nat) ({ cls := "BagCounts$States", name := "<init>", desc := "(I)V" } : Jvm.MethodName)) ∈ vm_WS := vm_w1 179 rfl rfl
theorem ww_268 : (Cond.instanceMethod ({ cls := "BagCounts$States", name := "<init>", desc := "(I)V" } : Jvm.MethodName)) ∈ vm_WS := vm_w1 180 rfl rfl
theorem ww_269 : (Cond.code ({ cls := "BagCounts$States", name := "<init>", desc := "(I)V" } : Jvm.MethodName) prog_8_method_1_code (2 : Nat) (Option.none : Option Jvm.ClassFile.FieldType)) ∈ vm_WS := vm_w1 181 rfl rfl
theorem ww_270 : (Cond.methodLink "BagCounts$States" (1 : Nat) ({ cls := "java/lang/Object", name := "<init>", desc := "()V" } : Jvm.MethodName)) ∈ vm_WS := vm_w1 182 rfl rfl
theorem ww_271 : (Cond.fieldLink "BagCounts$States" (7 : Nat) "BagCounts$States" "rows" "I") ∈ vm_WS := vm_w1 183 rfl rfl
theorem ww_272 : (Cond.fieldLink "BagCounts$States" (15 : Nat) "BagCounts$States" "cells" "[I") ∈ vm_WS := vm_w1 184 rfl rfl
theorem ww_273 : (Cond.laysFinal "BagCounts$States" "BagCounts$States" "rows" "I") ∈ vm_WS := vm_w1 185 rfl rfl
theorem ww_275 : (Cond.laysFinal "BagCounts$States" "BagCounts$States" "cells" "[I") ∈ vm_WS := vm_w1 187 rfl rfl
theorem ww_278 : (Cond.fieldLink "BagCounts" (10 : Nat) "BagCounts" "facts" "LBagCounts$Facts;") ∈ vm_WS := vm_w1 190 rfl rfl
theorem ww_279 : (Cond.fieldLink "BagCounts" (21 : Nat) "BagCounts" "logic" "LBagCounts$Logic;") ∈ vm_WS := vm_w1 191 rfl rfl
theorem ww_280 : (Cond.fieldLink "BagCounts" (28 : Nat) "BagCounts" "pad" "LBagCounts$Pad;") ∈ vm_WS := vm_w1 192 rfl rfl
theorem ww_281 : (Cond.fieldLink "BagCounts" (37 : Nat) "BagCounts" "history" "LBagCounts$States;") ∈ vm_WS := vm_w1 193 rfl rfl
theorem ww_282 : (Cond.fieldLink "BagCounts" (41 : Nat) "BagCounts" "slots" "LBagCounts$States;") ∈ vm_WS := vm_w1 194 rfl rfl
theorem ww_283 : (Cond.fieldLink "BagCounts" (84 : Nat) "BagCounts" "historySize" "I") ∈ vm_WS := vm_w1 195 rfl rfl
theorem ww_284 : (Cond.fieldLink "BagCounts" (151 : Nat) "BagCounts" "filledSlots" "I") ∈ vm_WS := vm_w1 196 rfl rfl
theorem ww_285 : (Cond.laysFinal "BagCounts" "BagCounts" "facts" "LBagCounts$Facts;") ∈ vm_WS := vm_w1 197 rfl rfl
theorem ww_287 : (Cond.laysFinal "BagCounts" "BagCounts" "logic" "LBagCounts$Logic;") ∈ vm_WS := vm_w1 199 rfl rfl
theorem ww_289 : (Cond.laysFinal "BagCounts" "BagCounts" "pad" "LBagCounts$Pad;") ∈ vm_WS := vm_w1 201 rfl rfl
theorem ww_291 : (Cond.laysFinal "BagCounts" "BagCounts" "history" "LBagCounts$States;") ∈ vm_WS := vm_w1 203 rfl rfl
theorem ww_293 : (Cond.laysFinal "BagCounts" "BagCounts" "slots" "LBagCounts$States;") ∈ vm_WS := vm_w1 205 rfl rfl
theorem ww_295 : (Cond.lays "BagCounts" "BagCounts" "historySize" "I") ∈ vm_WS := vm_w1 207 rfl rfl
theorem ww_297 : (Cond.lays "BagCounts" "BagCounts" "filledSlots" "I") ∈ vm_WS := vm_w1 209 rfl rfl
theorem ww_300 : (Cond.methodLink "BagCountsLaw" (13 : Nat) ({ cls := "BagCounts", name := "most", desc := "(I)I" } : Jvm.MethodName)) ∈ vm_WS := vm_w1 212 rfl rfl
theorem ww_301 : (Cond.instanceMethod ({ cls := "BagCounts", name := "most", desc := "(I)I" } : Jvm.MethodName)) ∈ vm_WS := vm_w1 213 rfl rfl
theorem ww_302 : (Cond.selects "BagCounts" ({ cls := "BagCounts", name := "most", desc := "(I)I" } : Jvm.MethodName) ({ cls := "BagCounts", name := "most", desc := "(I)I" } : Jvm.MethodName)) ∈ vm_WS := vm_w1 214 rfl rfl
theorem ww_303 : (Cond.code ({ cls := "BagCounts", name := "most", desc := "(I)I" } : Jvm.MethodName) prog_1_method_2_code (3 : Nat) (Option.some Jvm.ClassFile.FieldType.int)) ∈ vm_WS := vm_w1 215 rfl rfl
theorem ww_304 : (Cond.methodLink "BagCounts" (44 : Nat) ({ cls := "BagCounts", name := "isWithin", desc := "(III)Z" } : Jvm.MethodName)) ∈ vm_WS := vm_w1 216 rfl rfl
theorem ww_305 : (Cond.static ({ cls := "BagCounts", name := "isWithin", desc := "(III)Z" } : Jvm.MethodName)) ∈ vm_WS := vm_w1 217 rfl rfl
theorem ww_306 : (Cond.code ({ cls := "BagCounts", name := "isWithin", desc := "(III)Z" } : Jvm.MethodName) prog_1_method_27_code (3 : Nat) (Option.some Jvm.ClassFile.FieldType.boolean)) ∈ vm_WS := vm_w1 218 rfl rfl
theorem ww_307 : (Cond.methodLink "BagCounts" (48 : Nat) ({ cls := "BagCounts", name := "recordState", desc := "()V" } : Jvm.MethodName)) ∈ vm_WS := vm_w1 219 rfl rfl
theorem ww_309 : (Cond.instanceMethod ({ cls := "BagCounts", name := "recordState", desc := "()V" } : Jvm.MethodName)) ∈ vm_WS := vm_w1 221 rfl rfl
theorem ww_310 : (Cond.code ({ cls := "BagCounts", name := "recordState", desc := "()V" } : Jvm.MethodName) prog_1_method_23_code (1 : Nat) (Option.none : Option Jvm.ClassFile.FieldType)) ∈ vm_WS := vm_w1 222 rfl rfl
theorem ww_311 : (Cond.methodLink "BagCounts" (154 : Nat) ({ cls := "BagCounts$States", name := "dropFirst", desc := "()V" } : Jvm.MethodName)) ∈ vm_WS := vm_w1 223 rfl rfl
theorem ww_312 : (Cond.instanceMethod ({ cls := "BagCounts$States", name := "dropFirst", desc := "()V" } : Jvm.MethodName)) ∈ vm_WS := vm_w1 224 rfl rfl
theorem ww_313 : (Cond.selects "BagCounts$States" ({ cls := "BagCounts$States", name := "dropFirst", desc := "()V" } : Jvm.MethodName) ({ cls := "BagCounts$States", name := "dropFirst", desc := "()V" } : Jvm.MethodName)) ∈ vm_WS := vm_w1 225 rfl rfl
theorem ww_314 : (Cond.code ({ cls := "BagCounts$States", name := "dropFirst", desc := "()V" } : Jvm.MethodName) prog_8_method_4_code (1 : Nat) (Option.none : Option Jvm.ClassFile.FieldType)) ∈ vm_WS := vm_w1 226 rfl rfl
theorem ww_315 : (Cond.methodLink "BagCounts$States" (32 : Nat) ({ cls := "java/lang/System", name := "arraycopy", desc := "(Ljava/lang/Object;ILjava/lang/Object;II)V" } : Jvm.MethodName)) ∈ vm_WS := vm_w1 227 rfl rfl
theorem ww_316 : (Cond.static ({ cls := "java/lang/System", name := "arraycopy", desc := "(Ljava/lang/Object;ILjava/lang/Object;II)V" } : Jvm.MethodName)) ∈ vm_WS := vm_w1 228 rfl rfl
theorem ww_317 : (Cond.native ({ cls := "java/lang/System", name := "arraycopy", desc := "(Ljava/lang/Object;ILjava/lang/Object;II)V" } : Jvm.MethodName)) ∈ vm_WS := vm_w1 229 rfl rfl
theorem ww_318 : (Cond.methodLink "BagCounts" (148 : Nat) ({ cls := "BagCounts$States", name := "store", desc := "(ILBagCounts$Facts;)V" } : Jvm.MethodName)) ∈ vm_WS := vm_w1 230 rfl rfl
theorem ww_319 : (Cond.instanceMethod ({ cls := "BagCounts$States", name := "store", desc := "(ILBagCounts$Facts;)V" } : Jvm.MethodName)) ∈ vm_WS := vm_w1 231 rfl rfl
theorem ww_320 : (Cond.selects "BagCounts$States" ({ cls := "BagCounts$States", name := "store", desc := "(ILBagCounts$Facts;)V" } : Jvm.MethodName) ({ cls := "BagCounts$States", name := "store", desc := "(ILBagCounts$Facts;)V" } : Jvm.MethodName)) ∈ vm_WS := vm_w1 232 rfl rfl
theorem ww_321 : (Cond.code ({ cls := "BagCounts$States", name := "store", desc := "(ILBagCounts$Facts;)V" } : Jvm.MethodName) prog_8_method_2_code (3 : Nat) (Option.none : Option Jvm.ClassFile.FieldType)) ∈ vm_WS := vm_w1 233 rfl rfl
theorem ww_322 : (Cond.methodLinkNest "BagCounts$States" (19 : Nat) ({ cls := "BagCounts", name := "isWithin", desc := "(III)Z" } : Jvm.MethodName) "BagCounts") ∈ vm_WN := vm_n1 234 rfl rfl
theorem ww_323 : (Cond.methodLink "BagCounts$States" (25 : Nat) ({ cls := "BagCounts$Facts", name := "writeTo", desc := "([II)V" } : Jvm.MethodName)) ∈ vm_WS := vm_w1 235 rfl rfl
theorem ww_324 : (Cond.instanceMethod ({ cls := "BagCounts$Facts", name := "writeTo", desc := "([II)V" } : Jvm.MethodName)) ∈ vm_WS := vm_w1 236 rfl rfl
theorem ww_325 : (Cond.selects "BagCounts$Facts" ({ cls := "BagCounts$Facts", name := "writeTo", desc := "([II)V" } : Jvm.MethodName) ({ cls := "BagCounts$Facts", name := "writeTo", desc := "([II)V" } : Jvm.MethodName)) ∈ vm_WS := vm_w1 237 rfl rfl
theorem ww_326 : (Cond.code ({ cls := "BagCounts$Facts", name := "writeTo", desc := "([II)V" } : Jvm.MethodName) prog_2_method_9_code (3 : Nat) (Option.none : Option Jvm.ClassFile.FieldType)) ∈ vm_WS := vm_w1 238 rfl rfl
theorem ww_327 : (Cond.methodLink "BagCounts$Facts" (34 : Nat) ({ cls := "java/lang/System", name := "arraycopy", desc := "(Ljava/lang/Object;ILjava/lang/Object;II)V" } : Jvm.MethodName)) ∈ vm_WS := vm_w1 239 rfl rfl
theorem ww_328 : (Cond.methodLink "BagCountsLaw" (18 : Nat) ({ cls := "BagCounts", name := "fact", desc := "(IIIIII)I" } : Jvm.MethodName)) ∈ vm_WS := vm_w2 0 rfl rfl
theorem ww_329 : (Cond.instanceMethod ({ cls := "BagCounts", name := "fact", desc := "(IIIIII)I" } : Jvm.MethodName)) ∈ vm_WS := vm_w2 1 rfl rfl
theorem ww_330 : (Cond.selects "BagCounts" ({ cls := "BagCounts", name := "fact", desc := "(IIIIII)I" } : Jvm.MethodName) ({ cls := "BagCounts", name := "fact", desc := "(IIIIII)I" } : Jvm.MethodName)) ∈ vm_WS := vm_w2 2 rfl rfl
theorem ww_331 : (Cond.code ({ cls := "BagCounts", name := "fact", desc := "(IIIIII)I" } : Jvm.MethodName) prog_1_method_3_code (7 : Nat) (Option.some Jvm.ClassFile.FieldType.int)) ∈ vm_WS := vm_w2 3 rfl rfl
theorem ww_332 : (Cond.methodLink "BagCounts" (55 : Nat) ({ cls := "BagCounts$Facts", name := "ask", desc := "(IIIIII)Z" } : Jvm.MethodName)) ∈ vm_WS := vm_w2 4 rfl rfl
theorem ww_333 : (Cond.instanceMethod ({ cls := "BagCounts$Facts", name := "ask", desc := "(IIIIII)Z" } : Jvm.MethodName)) ∈ vm_WS := vm_w2 5 rfl rfl
theorem ww_334 : (Cond.selects "BagCounts$Facts" ({ cls := "BagCounts$Facts", name := "ask", desc := "(IIIIII)Z" } : Jvm.MethodName) ({ cls := "BagCounts$Facts", name := "ask", desc := "(IIIIII)Z" } : Jvm.MethodName)) ∈ vm_WS := vm_w2 6 rfl rfl
theorem ww_335 : (Cond.code ({ cls := "BagCounts$Facts", name := "ask", desc := "(IIIIII)Z" } : Jvm.MethodName) prog_2_method_6_code (8 : Nat) (Option.some Jvm.ClassFile.FieldType.boolean)) ∈ vm_WS := vm_w2 7 rfl rfl
theorem ww_336 : (Cond.methodLink "BagCounts$Facts" (26 : Nat) ({ cls := "BagCounts$Facts", name := "isFact", desc := "(IIIIII)Z" } : Jvm.MethodName)) ∈ vm_WS := vm_w2 8 rfl rfl
theorem ww_337 : (Cond.static ({ cls := "BagCounts$Facts", name := "isFact", desc := "(IIIIII)Z" } : Jvm.MethodName)) ∈ vm_WS := vm_w2 9 rfl rfl
theorem ww_338 : (Cond.code ({ cls := "BagCounts$Facts", name := "isFact", desc := "(IIIIII)Z" } : Jvm.MethodName) prog_2_method_11_code (6 : Nat) (Option.some Jvm.ClassFile.FieldType.boolean)) ∈ vm_WS := vm_w2 10 rfl rfl
theorem ww_339 : (Cond.methodLinkNest "BagCounts$Facts" (44 : Nat) ({ cls := "BagCounts", name := "isBag", desc := "(I)Z" } : Jvm.MethodName) "BagCounts") ∈ vm_WN := vm_n2 11 rfl rfl
theorem ww_340 : (Cond.static ({ cls := "BagCounts", name := "isBag", desc := "(I)Z" } : Jvm.MethodName)) ∈ vm_WS := vm_w2 12 rfl rfl
theorem ww_341 : (Cond.code ({ cls := "BagCounts", name := "isBag", desc := "(I)Z" } : Jvm.MethodName) prog_1_method_25_code (1 : Nat) (Option.some Jvm.ClassFile.FieldType.boolean)) ∈ vm_WS := vm_w2 13 rfl rfl
theorem ww_342 : (Cond.methodLinkNest "BagCounts$Facts" (47 : Nat) ({ cls := "BagCounts", name := "isKind", desc := "(I)Z" } : Jvm.MethodName) "BagCounts") ∈ vm_WN := vm_n2 14 rfl rfl
theorem ww_343 : (Cond.static ({ cls := "BagCounts", name := "isKind", desc := "(I)Z" } : Jvm.MethodName)) ∈ vm_WS := vm_w2 15 rfl rfl
theorem ww_344 : (Cond.code ({ cls := "BagCounts", name := "isKind", desc := "(I)Z" } : Jvm.MethodName) prog_1_method_26_code (1 : Nat) (Option.some Jvm.ClassFile.FieldType.boolean)) ∈ vm_WS := vm_w2 16 rfl rfl
theorem ww_345 : (Cond.methodLink "BagCounts$Facts" (50 : Nat) ({ cls := "BagCounts$Facts", name := "isRange", desc := "(III)Z" } : Jvm.MethodName)) ∈ vm_WS := vm_w2 17 rfl rfl
theorem ww_346 : (Cond.static ({ cls := "BagCounts$Facts", name := "isRange", desc := "(III)Z" } : Jvm.MethodName)) ∈ vm_WS := vm_w2 18 rfl rfl
theorem ww_347 : (Cond.code ({ cls := "BagCounts$Facts", name := "isRange", desc := "(III)Z" } : Jvm.MethodName) prog_2_method_12_code (3 : Nat) (Option.some Jvm.ClassFile.FieldType.boolean)) ∈ vm_WS := vm_w2 19 rfl rfl
theorem ww_348 : (Cond.methodLinkNest "BagCounts$Facts" (22 : Nat) ({ cls := "BagCounts", name := "isWithin", desc := "(III)Z" } : Jvm.MethodName) "BagCounts") ∈ vm_WN := vm_n2 20 rfl rfl
theorem ww_349 : (Cond.methodLink "BagCounts" (59 : Nat) ({ cls := "BagCounts$Facts", name := "isFull", desc := "()Z" } : Jvm.MethodName)) ∈ vm_WS := vm_w2 21 rfl rfl
theorem ww_350 : (Cond.instanceMethod ({ cls := "BagCounts$Facts", name := "isFull", desc := "()Z" } : Jvm.MethodName)) ∈ vm_WS := vm_w2 22 rfl rfl
theorem ww_351 : (Cond.selects "BagCounts$Facts" ({ cls := "BagCounts$Facts", name := "isFull", desc := "()Z" } : Jvm.MethodName) ({ cls := "BagCounts$Facts", name := "isFull", desc := "()Z" } : Jvm.MethodName)) ∈ vm_WS := vm_w2 23 rfl rfl
theorem ww_352 : (Cond.code ({ cls := "BagCounts$Facts", name := "isFull", desc := "()Z" } : Jvm.MethodName) prog_2_method_3_code (1 : Nat) (Option.some Jvm.ClassFile.FieldType.boolean)) ∈ vm_WS := vm_w2 24 rfl rfl
theorem ww_353 : (Cond.methodLink "BagCounts" (63 : Nat) ({ cls := "BagCounts$Facts", name := "keepAsked", desc := "()I" } : Jvm.MethodName)) ∈ vm_WS := vm_w2 25 rfl rfl
theorem ww_354 : (Cond.instanceMethod ({ cls := "BagCounts$Facts", name := "keepAsked", desc := "()I" } : Jvm.MethodName)) ∈ vm_WS := vm_w2 26 rfl rfl
theorem ww_355 : (Cond.selects "BagCounts$Facts" ({ cls := "BagCounts$Facts", name := "keepAsked", desc := "()I" } : Jvm.MethodName) ({ cls := "BagCounts$Facts", name := "keepAsked", desc := "()I" } : Jvm.MethodName)) ∈ vm_WS := vm_w2 27 rfl rfl
theorem ww_356 : (Cond.code ({ cls := "BagCounts$Facts", name := "keepAsked", desc := "()I" } : Jvm.MethodName) prog_2_method_7_code (1 : Nat) (Option.some Jvm.ClassFile.FieldType.int)) ∈ vm_WS := vm_w2 28 rfl rfl
theorem ww_357 : (Cond.methodLink "BagCounts$Facts" (30 : Nat) ({ cls := "BagCounts$Facts", name := "isFull", desc := "()Z" } : Jvm.MethodName)) ∈ vm_WS := vm_w2 29 rfl rfl
theorem ww_358 : (Cond.methodLink "BagCountsLaw" (23 : Nat) ({ cls := "BagCounts", name := "drop", desc := "(I)I" } : Jvm.MethodName)) ∈ vm_WS := vm_w2 30 rfl rfl
theorem ww_359 : (Cond.instanceMethod ({ cls := "BagCounts", name := "drop", desc := "(I)I" } : Jvm.MethodName)) ∈ vm_WS := vm_w2 31 rfl rfl
theorem ww_360 : (Cond.selects "BagCounts" ({ cls := "BagCounts", name := "drop", desc := "(I)I" } : Jvm.MethodName) ({ cls := "BagCounts", name := "drop", desc := "(I)I" } : Jvm.MethodName)) ∈ vm_WS := vm_w2 32 rfl rfl
theorem ww_361 : (Cond.code ({ cls := "BagCounts", name := "drop", desc := "(I)I" } : Jvm.MethodName) prog_1_method_4_code (2 : Nat) (Option.some Jvm.ClassFile.FieldType.int)) ∈ vm_WS := vm_w2 33 rfl rfl
theorem ww_362 : (Cond.methodLink "BagCounts" (67 : Nat) ({ cls := "BagCounts$Facts", name := "has", desc := "(I)Z" } : Jvm.MethodName)) ∈ vm_WS := vm_w2 34 rfl rfl
theorem ww_363 : (Cond.instanceMethod ({ cls := "BagCounts$Facts", name := "has", desc := "(I)Z" } : Jvm.MethodName)) ∈ vm_WS := vm_w2 35 rfl rfl
theorem ww_364 : (Cond.selects "BagCounts$Facts" ({ cls := "BagCounts$Facts", name := "has", desc := "(I)Z" } : Jvm.MethodName) ({ cls := "BagCounts$Facts", name := "has", desc := "(I)Z" } : Jvm.MethodName)) ∈ vm_WS := vm_w2 36 rfl rfl
theorem ww_365 : (Cond.code ({ cls := "BagCounts$Facts", name := "has", desc := "(I)Z" } : Jvm.MethodName) prog_2_method_2_code (2 : Nat) (Option.some Jvm.ClassFile.FieldType.boolean)) ∈ vm_WS := vm_w2 37 rfl rfl
theorem ww_366 : (Cond.methodLink "BagCounts" (71 : Nat) ({ cls := "BagCounts$Facts", name := "remove", desc := "(I)V" } : Jvm.MethodName)) ∈ vm_WS := vm_w2 38 rfl rfl
theorem ww_367 : (Cond.instanceMethod ({ cls := "BagCounts$Facts", name := "remove", desc := "(I)V" } : Jvm.MethodName)) ∈ vm_WS := vm_w2 39 rfl rfl
theorem ww_368 : (Cond.selects "BagCounts$Facts" ({ cls := "BagCounts$Facts", name := "remove", desc := "(I)V" } : Jvm.MethodName) ({ cls := "BagCounts$Facts", name := "remove", desc := "(I)V" } : Jvm.MethodName)) ∈ vm_WS := vm_w2 40 rfl rfl
theorem ww_369 : (Cond.code ({ cls := "BagCounts$Facts", name := "remove", desc := "(I)V" } : Jvm.MethodName) prog_2_method_8_code (3 : Nat) (Option.none : Option Jvm.ClassFile.FieldType)) ∈ vm_WS := vm_w2 41 rfl rfl
theorem ww_370 : (Cond.methodLink "BagCounts$Facts" (40 : Nat) ({ cls := "BagCounts$Facts", name := "has", desc := "(I)Z" } : Jvm.MethodName)) ∈ vm_WS := vm_w2 42 rfl rfl
theorem ww_371 : (Cond.methodLink "BagCountsLaw" (27 : Nat) ({ cls := "BagCounts", name := "ofFact", desc := "(II)I" } : Jvm.MethodName)) ∈ vm_WS := vm_w2 43 rfl rfl
theorem ww_372 : (Cond.instanceMethod ({ cls := "BagCounts", name := "ofFact", desc := "(II)I" } : Jvm.MethodName)) ∈ vm_WS := vm_w2 44 rfl rfl
theorem ww_373 : (Cond.selects "BagCounts" ({ cls := "BagCounts", name := "ofFact", desc := "(II)I" } : Jvm.MethodName) ({ cls := "BagCounts", name := "ofFact", desc := "(II)I" } : Jvm.MethodName)) ∈ vm_WS := vm_w2 45 rfl rfl
theorem ww_374 : (Cond.code ({ cls := "BagCounts", name := "ofFact", desc := "(II)I" } : Jvm.MethodName) prog_1_method_5_code (4 : Nat) (Option.some Jvm.ClassFile.FieldType.int)) ∈ vm_WS := vm_w2 46 rfl rfl
theorem ww_375 : (Cond.methodLink "BagCounts" (77 : Nat) ({ cls := "BagCounts$Facts", name := "number", desc := "(II)I" } : Jvm.MethodName)) ∈ vm_WS := vm_w2 47 rfl rfl
theorem ww_376 : (Cond.instanceMethod ({ cls := "BagCounts$Facts", name := "number", desc := "(II)I" } : Jvm.MethodName)) ∈ vm_WS := vm_w2 48 rfl rfl
theorem ww_377 : (Cond.selects "BagCounts$Facts" ({ cls := "BagCounts$Facts", name := "number", desc := "(II)I" } : Jvm.MethodName) ({ cls := "BagCounts$Facts", name := "number", desc := "(II)I" } : Jvm.MethodName)) ∈ vm_WS := vm_w2 49 rfl rfl
theorem ww_378 : (Cond.code ({ cls := "BagCounts$Facts", name := "number", desc := "(II)I" } : Jvm.MethodName) prog_2_method_5_code (3 : Nat) (Option.some Jvm.ClassFile.FieldType.int)) ∈ vm_WS := vm_w2 50 rfl rfl
theorem ww_379 : (Cond.methodLink "BagCountsLaw" (32 : Nat) ({ cls := "BagCounts", name := "count", desc := "(I)I" } : Jvm.MethodName)) ∈ vm_WS := vm_w2 51 rfl rfl
theorem ww_380 : (Cond.instanceMethod ({ cls := "BagCounts", name := "count", desc := "(I)I" } : Jvm.MethodName)) ∈ vm_WS := vm_w2 52 rfl rfl
theorem ww_381 : (Cond.selects "BagCounts" ({ cls := "BagCounts", name := "count", desc := "(I)I" } : Jvm.MethodName) ({ cls := "BagCounts", name := "count", desc := "(I)I" } : Jvm.MethodName)) ∈ vm_WS := vm_w2 53 rfl rfl
theorem ww_382 : (Cond.code ({ cls := "BagCounts", name := "count", desc := "(I)I" } : Jvm.MethodName) prog_1_method_6_code (2 : Nat) (Option.some Jvm.ClassFile.FieldType.int)) ∈ vm_WS := vm_w2 54 rfl rfl
theorem ww_383 : (Cond.methodLink "BagCountsLaw" (36 : Nat) ({ cls := "BagCounts", name := "isPossible", desc := "()I" } : Jvm.MethodName)) ∈ vm_WS := vm_w2 55 rfl rfl
theorem ww_384 : (Cond.instanceMethod ({ cls := "BagCounts", name := "isPossible", desc := "()I" } : Jvm.MethodName)) ∈ vm_WS := vm_w2 56 rfl rfl
theorem ww_385 : (Cond.selects "BagCounts" ({ cls := "BagCounts", name := "isPossible", desc := "()I" } : Jvm.MethodName) ({ cls := "BagCounts", name := "isPossible", desc := "()I" } : Jvm.MethodName)) ∈ vm_WS := vm_w2 57 rfl rfl
theorem ww_386 : (Cond.code ({ cls := "BagCounts", name := "isPossible", desc := "()I" } : Jvm.MethodName) prog_1_method_7_code (1 : Nat) (Option.some Jvm.ClassFile.FieldType.int)) ∈ vm_WS := vm_w2 58 rfl rfl
theorem ww_387 : (Cond.methodLink "BagCounts" (87 : Nat) ({ cls := "BagCounts$Facts", name := "all", desc := "()I" } : Jvm.MethodName)) ∈ vm_WS := vm_w2 59 rfl rfl
theorem ww_388 : (Cond.instanceMethod ({ cls := "BagCounts$Facts", name := "all", desc := "()I" } : Jvm.MethodName)) ∈ vm_WS := vm_w2 60 rfl rfl
theorem ww_389 : (Cond.selects "BagCounts$Facts" ({ cls := "BagCounts$Facts", name := "all", desc := "()I" } : Jvm.MethodName) ({ cls := "BagCounts$Facts", name := "all", desc := "()I" } : Jvm.MethodName)) ∈ vm_WS := vm_w2 61 rfl rfl
theorem ww_390 : (Cond.code ({ cls := "BagCounts$Facts", name := "all", desc := "()I" } : Jvm.MethodName) prog_2_method_4_code (1 : Nat) (Option.some Jvm.ClassFile.FieldType.int)) ∈ vm_WS := vm_w2 62 rfl rfl
theorem ww_391 : (Cond.methodLink "BagCounts" (90 : Nat) ({ cls := "BagCounts$Logic", name := "canHold", desc := "(I)Z" } : Jvm.MethodName)) ∈ vm_WS := vm_w2 63 rfl rfl
theorem ww_392 : (Cond.instanceMethod ({ cls := "BagCounts$Logic", name := "canHold", desc := "(I)Z" } : Jvm.MethodName)) ∈ vm_WS := vm_w2 64 rfl rfl
theorem ww_393 : (Cond.selects "BagCounts$Logic" ({ cls := "BagCounts$Logic", name := "canHold", desc := "(I)Z" } : Jvm.MethodName) ({ cls := "BagCounts$Logic", name := "canHold", desc := "(I)Z" } : Jvm.MethodName)) ∈ vm_WS := vm_w2 65 rfl rfl
theorem ww_394 : (Cond.code ({ cls := "BagCounts$Logic", name := "canHold", desc := "(I)Z" } : Jvm.MethodName) prog_4_method_2_code (2 : Nat) (Option.some Jvm.ClassFile.FieldType.boolean)) ∈ vm_WS := vm_w2 66 rfl rfl
theorem ww_395 : (Cond.methodLink "BagCounts$Logic" (29 : Nat) ({ cls := "BagCounts$Logic", name := "load", desc := "(IZ)V" } : Jvm.MethodName)) ∈ vm_WS := vm_w2 67 rfl rfl
theorem ww_397 : (Cond.instanceMethod ({ cls := "BagCounts$Logic", name := "load", desc := "(IZ)V" } : Jvm.MethodName)) ∈ vm_WS := vm_w2 69 rfl rfl
theorem ww_398 : (Cond.code ({ cls := "BagCounts$Logic", name := "load", desc := "(IZ)V" } : Jvm.MethodName) prog_4_method_7_code (5 : Nat) (Option.none : Option Jvm.ClassFile.FieldType)) ∈ vm_WS := vm_w2 70 rfl rfl
theorem ww_399 : (Cond.methodLink "BagCounts$Logic" (76 : Nat) ({ cls := "BagCounts$Logic", name := "hasSizeFact", desc := "(I)Z" } : Jvm.MethodName)) ∈ vm_WS := vm_w2 71 rfl rfl
theorem ww_401 : (Cond.instanceMethod ({ cls := "BagCounts$Logic", name := "hasSizeFact", desc := "(I)Z" } : Jvm.MethodName)) ∈ vm_WS := vm_w2 73 rfl rfl
theorem ww_402 : (Cond.code ({ cls := "BagCounts$Logic", name := "hasSizeFact", desc := "(I)Z" } : Jvm.MethodName) prog_4_method_8_code (3 : Nat) (Option.some Jvm.ClassFile.FieldType.boolean)) ∈ vm_WS := vm_w2 74 rfl rfl
theorem ww_403 : (Cond.methodLink "BagCounts$Logic" (39 : Nat) ({ cls := "BagCounts$Facts", name := "number", desc := "(II)I" } : Jvm.MethodName)) ∈ vm_WS := vm_w2 75 rfl rfl
theorem ww_404 : (Cond.methodLink "BagCounts$Logic" (84 : Nat) ({ cls := "BagCounts$Search", name := "begin", desc := "(IZ)V" } : Jvm.MethodName)) ∈ vm_WS := vm_w2 76 rfl rfl
theorem ww_405 : (Cond.instanceMethod ({ cls := "BagCounts$Search", name := "begin", desc := "(IZ)V" } : Jvm.MethodName)) ∈ vm_WS := vm_w2 77 rfl rfl
theorem ww_406 : (Cond.selects "BagCounts$Search" ({ cls := "BagCounts$Search", name := "begin", desc := "(IZ)V" } : Jvm.MethodName) ({ cls := "BagCounts$Search", name := "begin", desc := "(IZ)V" } : Jvm.MethodName)) ∈ vm_WS := vm_w2 78 rfl rfl
theorem ww_407 : (Cond.code ({ cls := "BagCounts$Search", name := "begin", desc := "(IZ)V" } : Jvm.MethodName) prog_7_method_3_code (4 : Nat) (Option.none : Option Jvm.ClassFile.FieldType)) ∈ vm_WS := vm_w2 79 rfl rfl
theorem ww_408 : (Cond.methodLink "BagCounts$Search" (25 : Nat) ({ cls := "BagCounts$Rules", name := "clear", desc := "()V" } : Jvm.MethodName)) ∈ vm_WS := vm_w2 80 rfl rfl
theorem ww_409 : (Cond.instanceMethod ({ cls := "BagCounts$Rules", name := "clear", desc := "()V" } : Jvm.MethodName)) ∈ vm_WS := vm_w2 81 rfl rfl
theorem ww_410 : (Cond.selects "BagCounts$Rules" ({ cls := "BagCounts$Rules", name := "clear", desc := "()V" } : Jvm.MethodName) ({ cls := "BagCounts$Rules", name := "clear", desc := "()V" } : Jvm.MethodName)) ∈ vm_WS := vm_w2 82 rfl rfl
theorem ww_411 : (Cond.code ({ cls := "BagCounts$Rules", name := "clear", desc := "()V" } : Jvm.MethodName) prog_6_method_2_code (2 : Nat) (Option.none : Option Jvm.ClassFile.FieldType)) ∈ vm_WS := vm_w2 83 rfl rfl
theorem ww_412 : (Cond.methodLink "BagCounts$Search" (32 : Nat) ({ cls := "BagCounts$Rules", name := "total", desc := "(I)V" } : Jvm.MethodName)) ∈ vm_WS := vm_w2 84 rfl rfl
theorem ww_413 : (Cond.instanceMethod ({ cls := "BagCounts$Rules", name := "total", desc := "(I)V" } : Jvm.MethodName)) ∈ vm_WS := vm_w2 85 rfl rfl
theorem ww_414 : (Cond.selects "BagCounts$Rules" ({ cls := "BagCounts$Rules", name := "total", desc := "(I)V" } : Jvm.MethodName) ({ cls := "BagCounts$Rules", name := "total", desc := "(I)V" } : Jvm.MethodName)) ∈ vm_WS := vm_w2 86 rfl rfl
theorem ww_415 : (Cond.code ({ cls := "BagCounts$Rules", name := "total", desc := "(I)V" } : Jvm.MethodName) prog_6_method_3_code (3 : Nat) (Option.none : Option Jvm.ClassFile.FieldType)) ∈ vm_WS := vm_w2 87 rfl rfl
theorem ww_416 : (Cond.methodLink "BagCounts$Rules" (42 : Nat) ({ cls := "BagCounts$Rules", name := "open", desc := "(III)V" } : Jvm.MethodName)) ∈ vm_WS := vm_w2 88 rfl rfl
theorem ww_418 : (Cond.instanceMethod ({ cls := "BagCounts$Rules", name := "open", desc := "(III)V" } : Jvm.MethodName)) ∈ vm_WS := vm_w2 90 rfl rfl
theorem ww_419 : (Cond.code ({ cls := "BagCounts$Rules", name := "open", desc := "(III)V" } : Jvm.MethodName) prog_6_method_7_code (4 : Nat) (Option.none : Option Jvm.ClassFile.FieldType)) ∈ vm_WS := vm_w2 91 rfl rfl
theorem ww_420 : (Cond.methodLink "BagCounts$Rules" (46 : Nat) ({ cls := "BagCounts$Search", name := "variable", desc := "(II)I" } : Jvm.MethodName)) ∈ vm_WS := vm_w2 92 rfl rfl
theorem ww_421 : (Cond.static ({ cls := "BagCounts$Search", name := "variable", desc := "(II)I" } : Jvm.MethodName)) ∈ vm_WS := vm_w2 93 rfl rfl
theorem ww_422 : (Cond.code ({ cls := "BagCounts$Search", name := "variable", desc := "(II)I" } : Jvm.MethodName) prog_7_method_2_code (2 : Nat) (Option.some Jvm.ClassFile.FieldType.int)) ∈ vm_WS := vm_w2 94 rfl rfl
theorem ww_423 : (Cond.methodLink "BagCounts$Rules" (49 : Nat) ({ cls := "BagCounts$Rules", name := "plus", desc := "(II)V" } : Jvm.MethodName)) ∈ vm_WS := vm_w2 95 rfl rfl
theorem ww_425 : (Cond.instanceMethod ({ cls := "BagCounts$Rules", name := "plus", desc := "(II)V" } : Jvm.MethodName)) ∈ vm_WS := vm_w2 97 rfl rfl
theorem ww_426 : (Cond.code ({ cls := "BagCounts$Rules", name := "plus", desc := "(II)V" } : Jvm.MethodName) prog_6_method_8_code (5 : Nat) (Option.none : Option Jvm.ClassFile.FieldType)) ∈ vm_WS := vm_w2 98 rfl rfl
theorem ww_427 : (Cond.methodLink "BagCounts$Rules" (53 : Nat) ({ cls := "BagCounts$Rules", name := "addTerm", desc := "(II)V" } : Jvm.MethodName)) ∈ vm_WS := vm_w2 99 rfl rfl
theorem ww_429 : (Cond.instanceMethod ({ cls := "BagCounts$Rules", name := "addTerm", desc := "(II)V" } : Jvm.MethodName)) ∈ vm_WS := vm_w2 101 rfl rfl
theorem ww_430 : (Cond.code ({ cls := "BagCounts$Rules", name := "addTerm", desc := "(II)V" } : Jvm.MethodName) prog_6_method_9_code (5 : Nat) (Option.none : Option Jvm.ClassFile.FieldType)) ∈ vm_WS := vm_w2 102 rfl rfl
theorem ww_431 : (Cond.methodLink "BagCounts$Logic" (87 : Nat) ({ cls := "BagCounts$Gaps", name := "close", desc := "(LBagCounts$Facts;I)V" } : Jvm.MethodName)) ∈ vm_WS := vm_w2 103 rfl rfl
theorem ww_432 : (Cond.instanceMethod ({ cls := "BagCounts$Gaps", name := "close", desc := "(LBagCounts$Facts;I)V" } : Jvm.MethodName)) ∈ vm_WS := vm_w2 104 rfl rfl
theorem ww_433 : (Cond.selects "BagCounts$Gaps" ({ cls := "BagCounts$Gaps", name := "close", desc := "(LBagCounts$Facts;I)V" } : Jvm.MethodName) ({ cls := "BagCounts$Gaps", name := "close", desc := "(LBagCounts$Facts;I)V" } : Jvm.MethodName)) ∈ vm_WS := vm_w2 105 rfl rfl
theorem ww_434 : (Cond.code ({ cls := "BagCounts$Gaps", name := "close", desc := "(LBagCounts$Facts;I)V" } : Jvm.MethodName) prog_3_method_2_code (5 : Nat) (Option.none : Option Jvm.ClassFile.FieldType)) ∈ vm_WS := vm_w2 106 rfl rfl
theorem ww_435 : (Cond.methodLink "BagCounts$Gaps" (26 : Nat) ({ cls := "BagCounts$Gaps", name := "apply", desc := "(LBagCounts$Facts;I)V" } : Jvm.MethodName)) ∈ vm_WS := vm_w2 107 rfl rfl
theorem ww_437 : (Cond.instanceMethod ({ cls := "BagCounts$Gaps", name := "apply", desc := "(LBagCounts$Facts;I)V" } : Jvm.MethodName)) ∈ vm_WS := vm_w2 109 rfl rfl
theorem ww_438 : (Cond.code ({ cls := "BagCounts$Gaps", name := "apply", desc := "(LBagCounts$Facts;I)V" } : Jvm.MethodName) prog_3_method_7_code (9 : Nat) (Option.none : Option Jvm.ClassFile.FieldType)) ∈ vm_WS := vm_w2 110 rfl rfl
theorem ww_439 : (Cond.methodLink "BagCounts$Gaps" (54 : Nat) ({ cls := "BagCounts$Facts", name := "number", desc := "(II)I" } : Jvm.MethodName)) ∈ vm_WS := vm_w2 111 rfl rfl
theorem ww_440 : (Cond.methodLink "BagCounts$Gaps" (50 : Nat) ({ cls := "BagCounts$Gaps", name := "narrow", desc := "(IIII)V" } : Jvm.MethodName)) ∈ vm_WS := vm_w2 112 rfl rfl
theorem ww_442 : (Cond.instanceMethod ({ cls := "BagCounts$Gaps", name := "narrow", desc := "(IIII)V" } : Jvm.MethodName)) ∈ vm_WS := vm_w2 114 rfl rfl
theorem ww_443 : (Cond.code ({ cls := "BagCounts$Gaps", name := "narrow", desc := "(IIII)V" } : Jvm.MethodName) prog_3_method_5_code (6 : Nat) (Option.none : Option Jvm.ClassFile.FieldType)) ∈ vm_WS := vm_w2 115 rfl rfl
theorem ww_444 : (Cond.methodLink "BagCounts$Gaps" (34 : Nat) ({ cls := "BagCounts$Gaps", name := "of", desc := "(III)I" } : Jvm.MethodName)) ∈ vm_WS := vm_w2 116 rfl rfl
theorem ww_446 : (Cond.instanceMethod ({ cls := "BagCounts$Gaps", name := "of", desc := "(III)I" } : Jvm.MethodName)) ∈ vm_WS := vm_w2 118 rfl rfl
theorem ww_447 : (Cond.code ({ cls := "BagCounts$Gaps", name := "of", desc := "(III)I" } : Jvm.MethodName) prog_3_method_4_code (4 : Nat) (Option.some Jvm.ClassFile.FieldType.int)) ∈ vm_WS := vm_w2 119 rfl rfl
theorem ww_448 : (Cond.methodLink "BagCounts$Gaps" (57 : Nat) ({ cls := "java/lang/Math", name := "max", desc := "(II)I" } : Jvm.MethodName)) ∈ vm_WS := vm_w2 120 rfl rfl
theorem ww_449 : (Cond.static ({ cls := "java/lang/Math", name := "max", desc := "(II)I" } : Jvm.MethodName)) ∈ vm_WS := vm_w2 121 rfl rfl
theorem ww_450 : (Cond.code ({ cls := "java/lang/Math", name := "max", desc := "(II)I" } : Jvm.MethodName) prog_11_method_65_code (2 : Nat) (Option.some Jvm.ClassFile.FieldType.int)) ∈ vm_WS := vm_w2 122 rfl rfl
theorem ww_451 : (Cond.methodLink "BagCounts$Gaps" (30 : Nat) ({ cls := "BagCounts$Gaps", name := "chain", desc := "(I)V" } : Jvm.MethodName)) ∈ vm_WS := vm_w2 123 rfl rfl
theorem ww_453 : (Cond.instanceMethod ({ cls := "BagCounts$Gaps", name := "chain", desc := "(I)V" } : Jvm.MethodName)) ∈ vm_WS := vm_w2 125 rfl rfl
theorem ww_454 : (Cond.code ({ cls := "BagCounts$Gaps", name := "chain", desc := "(I)V" } : Jvm.MethodName) prog_3_method_6_code (5 : Nat) (Option.none : Option Jvm.ClassFile.FieldType)) ∈ vm_WS := vm_w2 126 rfl rfl
theorem ww_455 : (Cond.methodLink "BagCounts$Logic" (95 : Nat) ({ cls := "BagCounts$Gaps", name := "addTo", desc := "(LBagCounts$Rules;Z)V" } : Jvm.MethodName)) ∈ vm_WS := vm_w2 127 rfl rfl
theorem ww_456 : (Cond.instanceMethod ({ cls := "BagCounts$Gaps", name := "addTo", desc := "(LBagCounts$Rules;Z)V" } : Jvm.MethodName)) ∈ vm_WS := vm_w2 128 rfl rfl
theorem ww_457 : (Cond.selects "BagCounts$Gaps" ({ cls := "BagCounts$Gaps", name := "addTo", desc := "(LBagCounts$Rules;Z)V" } : Jvm.MethodName) ({ cls := "BagCounts$Gaps", name := "addTo", desc := "(LBagCounts$Rules;Z)V" } : Jvm.MethodName)) ∈ vm_WS := vm_w2 129 rfl rfl
theorem ww_458 : (Cond.code ({ cls := "BagCounts$Gaps", name := "addTo", desc := "(LBagCounts$Rules;Z)V" } : Jvm.MethodName) prog_3_method_3_code (8 : Nat) (Option.none : Option Jvm.ClassFile.FieldType)) ∈ vm_WS := vm_w2 130 rfl rfl
theorem ww_459 : (Cond.methodLink "BagCounts$Gaps" (38 : Nat) ({ cls := "BagCounts$Search", name := "variable", desc := "(II)I" } : Jvm.MethodName)) ∈ vm_WS := vm_w2 131 rfl rfl
theorem ww_460 : (Cond.methodLink "BagCounts$Gaps" (44 : Nat) ({ cls := "BagCounts$Rules", name := "difference", desc := "(III)V" } : Jvm.MethodName)) ∈ vm_WS := vm_w2 132 rfl rfl
theorem ww_461 : (Cond.instanceMethod ({ cls := "BagCounts$Rules", name := "difference", desc := "(III)V" } : Jvm.MethodName)) ∈ vm_WS := vm_w2 133 rfl rfl
theorem ww_462 : (Cond.selects "BagCounts$Rules" ({ cls := "BagCounts$Rules", name := "difference", desc := "(III)V" } : Jvm.MethodName) ({ cls := "BagCounts$Rules", name := "difference", desc := "(III)V" } : Jvm.MethodName)) ∈ vm_WS := vm_w2 134 rfl rfl
theorem ww_463 : (Cond.code ({ cls := "BagCounts$Rules", name := "difference", desc := "(III)V" } : Jvm.MethodName) prog_6_method_4_code (4 : Nat) (Option.none : Option Jvm.ClassFile.FieldType)) ∈ vm_WS := vm_w2 135 rfl rfl
theorem ww_464 : (Cond.methodLink "BagCounts$Logic" (99 : Nat) ({ cls := "BagCounts$Logic", name := "addFact", desc := "(IZ)V" } : Jvm.MethodName)) ∈ vm_WS := vm_w2 136 rfl rfl
theorem ww_466 : (Cond.instanceMethod ({ cls := "BagCounts$Logic", name := "addFact", desc := "(IZ)V" } : Jvm.MethodName)) ∈ vm_WS := vm_w2 138 rfl rfl
theorem ww_467 : (Cond.code ({ cls := "BagCounts$Logic", name := "addFact", desc := "(IZ)V" } : Jvm.MethodName) prog_4_method_9_code (9 : Nat) (Option.none : Option Jvm.ClassFile.FieldType)) ∈ vm_WS := vm_w2 139 rfl rfl
theorem ww_468 : (Cond.methodLink "BagCounts$Logic" (102 : Nat) ({ cls := "BagCounts$Search", name := "variable", desc := "(II)I" } : Jvm.MethodName)) ∈ vm_WS := vm_w2 140 rfl rfl
theorem ww_469 : (Cond.methodLink "BagCounts$Logic" (105 : Nat) ({ cls := "BagCounts$Search", name := "restrict", desc := "(III)V" } : Jvm.MethodName)) ∈ vm_WS := vm_w2 141 rfl rfl
theorem ww_470 : (Cond.instanceMethod ({ cls := "BagCounts$Search", name := "restrict", desc := "(III)V" } : Jvm.MethodName)) ∈ vm_WS := vm_w2 142 rfl rfl
theorem ww_471 : (Cond.selects "BagCounts$Search" ({ cls := "BagCounts$Search", name := "restrict", desc := "(III)V" } : Jvm.MethodName) ({ cls := "BagCounts$Search", name := "restrict", desc := "(III)V" } : Jvm.MethodName)) ∈ vm_WS := vm_w2 143 rfl rfl
theorem ww_472 : (Cond.code ({ cls := "BagCounts$Search", name := "restrict", desc := "(III)V" } : Jvm.MethodName) prog_7_method_4_code (4 : Nat) (Option.none : Option Jvm.ClassFile.FieldType)) ∈ vm_WS := vm_w2 144 rfl rfl
theorem ww_473 : (Cond.methodLinkNest "BagCounts$Search" (36 : Nat) ({ cls := "BagCounts", name := "isWithin", desc := "(III)Z" } : Jvm.MethodName) "BagCounts") ∈ vm_WN := vm_n2 145 rfl rfl
theorem ww_474 : (Cond.methodLink "BagCounts$Search" (40 : Nat) ({ cls := "java/lang/Math", name := "max", desc := "(II)I" } : Jvm.MethodName)) ∈ vm_WS := vm_w2 146 rfl rfl
theorem ww_475 : (Cond.methodLink "BagCounts$Search" (46 : Nat) ({ cls := "java/lang/Math", name := "min", desc := "(II)I" } : Jvm.MethodName)) ∈ vm_WS := vm_w2 147 rfl rfl
theorem ww_476 : (Cond.static ({ cls := "java/lang/Math", name := "min", desc := "(II)I" } : Jvm.MethodName)) ∈ vm_WS := vm_w2 148 rfl rfl
theorem ww_477 : (Cond.code ({ cls := "java/lang/Math", name := "min", desc := "(II)I" } : Jvm.MethodName) prog_11_method_69_code (2 : Nat) (Option.some Jvm.ClassFile.FieldType.int)) ∈ vm_WS := vm_w2 149 rfl rfl
theorem ww_478 : (Cond.methodLink "BagCounts$Logic" (109 : Nat) ({ cls := "BagCounts$Rules", name := "difference", desc := "(III)V" } : Jvm.MethodName)) ∈ vm_WS := vm_w2 150 rfl rfl
theorem ww_479 : (Cond.methodLink "BagCounts$Logic" (114 : Nat) ({ cls := "BagCounts$Logic", name := "addColumn", desc := "(IIIII)V" } : Jvm.MethodName)) ∈ vm_WS := vm_w2 151 rfl rfl
theorem ww_481 : (Cond.instanceMethod ({ cls := "BagCounts$Logic", name := "addColumn", desc := "(IIIII)V" } : Jvm.MethodName)) ∈ vm_WS := vm_w2 153 rfl rfl
theorem ww_482 : (Cond.code ({ cls := "BagCounts$Logic", name := "addColumn", desc := "(IIIII)V" } : Jvm.MethodName) prog_4_method_10_code (9 : Nat) (Option.none : Option Jvm.ClassFile.FieldType)) ∈ vm_WS := vm_w2 154 rfl rfl
theorem ww_483 : (Cond.methodLink "BagCounts$Logic" (118 : Nat) ({ cls := "BagCounts$Rules", name := "sum", desc := "(IIIII)V" } : Jvm.MethodName)) ∈ vm_WS := vm_w2 155 rfl rfl
theorem ww_484 : (Cond.instanceMethod ({ cls := "BagCounts$Rules", name := "sum", desc := "(IIIII)V" } : Jvm.MethodName)) ∈ vm_WS := vm_w2 156 rfl rfl
theorem ww_485 : (Cond.selects "BagCounts$Rules" ({ cls := "BagCounts$Rules", name := "sum", desc := "(IIIII)V" } : Jvm.MethodName) ({ cls := "BagCounts$Rules", name := "sum", desc := "(IIIII)V" } : Jvm.MethodName)) ∈ vm_WS := vm_w2 157 rfl rfl
theorem ww_486 : (Cond.code ({ cls := "BagCounts$Rules", name := "sum", desc := "(IIIII)V" } : Jvm.MethodName) prog_6_method_5_code (6 : Nat) (Option.none : Option Jvm.ClassFile.FieldType)) ∈ vm_WS := vm_w2 158 rfl rfl
theorem ww_487 : (Cond.methodLink "BagCounts$Logic" (121 : Nat) ({ cls := "BagCounts$Rules", name := "choice", desc := "(IIII)V" } : Jvm.MethodName)) ∈ vm_WS := vm_w2 159 rfl rfl
theorem ww_488 : (Cond.instanceMethod ({ cls := "BagCounts$Rules", name := "choice", desc := "(IIII)V" } : Jvm.MethodName)) ∈ vm_WS := vm_w2 160 rfl rfl
theorem ww_489 : (Cond.selects "BagCounts$Rules" ({ cls := "BagCounts$Rules", name := "choice", desc := "(IIII)V" } : Jvm.MethodName) ({ cls := "BagCounts$Rules", name := "choice", desc := "(IIII)V" } : Jvm.MethodName)) ∈ vm_WS := vm_w2 161 rfl rfl
theorem ww_490 : (Cond.code ({ cls := "BagCounts$Rules", name := "choice", desc := "(IIII)V" } : Jvm.MethodName) prog_6_method_6_code (5 : Nat) (Option.none : Option Jvm.ClassFile.FieldType)) ∈ vm_WS := vm_w2 162 rfl rfl
theorem ww_491 : (Cond.methodLink "BagCounts$Logic" (33 : Nat) ({ cls := "BagCounts$Search", name := "howMany", desc := "(I)I" } : Jvm.MethodName)) ∈ vm_WS := vm_w2 163 rfl rfl
theorem ww_492 : (Cond.instanceMethod ({ cls := "BagCounts$Search", name := "howMany", desc := "(I)I" } : Jvm.MethodName)) ∈ vm_WS := vm_w2 164 rfl rfl
theorem ww_493 : (Cond.selects "BagCounts$Search" ({ cls := "BagCounts$Search", name := "howMany", desc := "(I)I" } : Jvm.MethodName) ({ cls := "BagCounts$Search", name := "howMany", desc := "(I)I" } : Jvm.MethodName)) ∈ vm_WS := vm_w2 165 rfl rfl
theorem ww_494 : (Cond.code ({ cls := "BagCounts$Search", name := "howMany", desc := "(I)I" } : Jvm.MethodName) prog_7_method_7_code (2 : Nat) (Option.some Jvm.ClassFile.FieldType.int)) ∈ vm_WS := vm_w2 166 rfl rfl
theorem ww_495 : (Cond.methodLink "BagCounts$Search" (58 : Nat) ({ cls := "BagCounts$Search", name := "settleAll", desc := "()Z" } : Jvm.MethodName)) ∈ vm_WS := vm_w2 167 rfl rfl
theorem ww_496 : (Cond.instanceMethod ({ cls := "BagCounts$Search", name := "settleAll", desc := "()Z" } : Jvm.MethodName)) ∈ vm_WS := vm_w2 168 rfl rfl
theorem ww_497 : (Cond.selects "BagCounts$Search" ({ cls := "BagCounts$Search", name := "settleAll", desc := "()Z" } : Jvm.MethodName) ({ cls := "BagCounts$Search", name := "settleAll", desc := "()Z" } : Jvm.MethodName)) ∈ vm_WS := vm_w2 169 rfl rfl
theorem ww_498 : (Cond.code ({ cls := "BagCounts$Search", name := "settleAll", desc := "()Z" } : Jvm.MethodName) prog_7_method_5_code (2 : Nat) (Option.some Jvm.ClassFile.FieldType.boolean)) ∈ vm_WS := vm_w2 170 rfl rfl
theorem ww_499 : (Cond.constant "BagCounts$Search" (49 : Nat) (65535 : Int32)) ∈ vm_WS := vm_w2 171 rfl rfl
theorem ww_500 : (Cond.methodLink "BagCounts$Search" (50 : Nat) ({ cls := "BagCounts$Search", name := "settle", desc := "(II)Z" } : Jvm.MethodName)) ∈ vm_WS := vm_w2 172 rfl rfl
theorem ww_502 : (Cond.instanceMethod ({ cls := "BagCounts$Search", name := "settle", desc := "(II)Z" } : Jvm.MethodName)) ∈ vm_WS := vm_w2 174 rfl rfl
theorem ww_503 : (Cond.code ({ cls := "BagCounts$Search", name := "settle", desc := "(II)Z" } : Jvm.MethodName) prog_7_method_15_code (7 : Nat) (Option.some Jvm.ClassFile.FieldType.boolean)) ∈ vm_WS := vm_w2 175 rfl rfl
theorem ww_504 : (Cond.methodLink "BagCounts$Search" (106 : Nat) ({ cls := "BagCounts$Search", name := "tightenLinear", desc := "(II)Z" } : Jvm.MethodName)) ∈ vm_WS := vm_w2 176 rfl rfl
theorem ww_506 : (Cond.instanceMethod ({ cls := "BagCounts$Search", name := "tightenLinear", desc := "(II)Z" } : Jvm.MethodName)) ∈ vm_WS := vm_w2 178 rfl rfl
theorem ww_507 : (Cond.code ({ cls := "BagCounts$Search", name := "tightenLinear", desc := "(II)Z" } : Jvm.MethodName) prog_7_method_16_code (11 : Nat) (Option.some Jvm.ClassFile.FieldType.boolean)) ∈ vm_WS := vm_w2 179 rfl rfl
theorem ww_508 : (Cond.methodLink "BagCounts$Search" (115 : Nat) ({ cls := "BagCounts$Search", name := "leastTerm", desc := "(II)I" } : Jvm.MethodName)) ∈ vm_WS := vm_w2 180 rfl rfl
theorem ww_510 : (Cond.instanceMethod ({ cls := "BagCounts$Search", name := "leastTerm", desc := "(II)I" } : Jvm.MethodName)) ∈ vm_WS := vm_w2 182 rfl rfl
theorem ww_511 : (Cond.code ({ cls := "BagCounts$Search", name := "leastTerm", desc := "(II)I" } : Jvm.MethodName) prog_7_method_19_code (4 : Nat) (Option.some Jvm.ClassFile.FieldType.int)) ∈ vm_WS := vm_w2 183 rfl rfl
theorem ww_512 : (Cond.methodLink "BagCounts$Search" (118 : Nat) ({ cls := "BagCounts$Search", name := "greatestTerm", desc := "(II)I" } : Jvm.MethodName)) ∈ vm_WS := vm_w2 184 rfl rfl
theorem ww_514 : (Cond.instanceMethod ({ cls := "BagCounts$Search", name := "greatestTerm", desc := "(II)I" } : Jvm.MethodName)) ∈ vm_WS := vm_w2 186 rfl rfl
theorem ww_515 : (Cond.code ({ cls := "BagCounts$Search", name := "greatestTerm", desc := "(II)I" } : Jvm.MethodName) prog_7_method_20_code (4 : Nat) (Option.some Jvm.ClassFile.FieldType.int)) ∈ vm_WS := vm_w2 187 rfl rfl
theorem ww_516 : (Cond.methodLink "BagCounts$Search" (129 : Nat) ({ cls := "BagCounts$Search", name := "keep", desc := "(IIII)Z" } : Jvm.MethodName)) ∈ vm_WS := vm_w2 188 rfl rfl
theorem ww_518 : (Cond.instanceMethod ({ cls := "BagCounts$Search", name := "keep", desc := "(IIII)Z" } : Jvm.MethodName)) ∈ vm_WS := vm_w2 190 rfl rfl
theorem ww_519 : (Cond.code ({ cls := "BagCounts$Search", name := "keep", desc := "(IIII)Z" } : Jvm.MethodName) prog_7_method_21_code (7 : Nat) (Option.some Jvm.ClassFile.FieldType.boolean)) ∈ vm_WS := vm_w2 191 rfl rfl
theorem ww_520 : (Cond.methodLink "BagCounts$Search" (109 : Nat) ({ cls := "BagCounts$Search", name := "tightenChoice", desc := "(II)Z" } : Jvm.MethodName)) ∈ vm_WS := vm_w2 192 rfl rfl
theorem ww_522 : (Cond.instanceMethod ({ cls := "BagCounts$Search", name := "tightenChoice", desc := "(II)Z" } : Jvm.MethodName)) ∈ vm_WS := vm_w2 194 rfl rfl
theorem ww_523 : (Cond.code ({ cls := "BagCounts$Search", name := "tightenChoice", desc := "(II)Z" } : Jvm.MethodName) prog_7_method_17_code (7 : Nat) (Option.some Jvm.ClassFile.FieldType.boolean)) ∈ vm_WS := vm_w2 195 rfl rfl
theorem ww_524 : (Cond.methodLink "BagCounts$Search" (62 : Nat) ({ cls := "BagCounts$Search", name := "waysFrom", desc := "(II)I" } : Jvm.MethodName)) ∈ vm_WS := vm_w2 196 rfl rfl
theorem ww_526 : (Cond.instanceMethod ({ cls := "BagCounts$Search", name := "waysFrom", desc := "(II)I" } : Jvm.MethodName)) ∈ vm_WS := vm_w2 198 rfl rfl
theorem ww_527 : (Cond.code ({ cls := "BagCounts$Search", name := "waysFrom", desc := "(II)I" } : Jvm.MethodName) prog_7_method_9_code (4 : Nat) (Option.some Jvm.ClassFile.FieldType.int)) ∈ vm_WS := vm_w2 199 rfl rfl
theorem ww_528 : (Cond.methodLink "BagCounts$Search" (68 : Nat) ({ cls := "BagCounts$Search", name := "ways", desc := "(LBagCounts$Search;III)I" } : Jvm.MethodName)) ∈ vm_WS := vm_w2 200 rfl rfl
theorem ww_529 : (Cond.static ({ cls := "BagCounts$Search", name := "ways", desc := "(LBagCounts$Search;III)I" } : Jvm.MethodName)) ∈ vm_WS := vm_w2 201 rfl rfl
theorem ww_530 : (Cond.code ({ cls := "BagCounts$Search", name := "ways", desc := "(LBagCounts$Search;III)I" } : Jvm.MethodName) prog_7_method_10_code (13 : Nat) (Option.some Jvm.ClassFile.FieldType.int)) ∈ vm_WS := vm_w2 202 rfl rfl
theorem ww_531 : (Cond.methodLink "BagCounts$Search" (72 : Nat) ({ cls := "BagCounts$Search", name := "unfixed", desc := "(II)I" } : Jvm.MethodName)) ∈ vm_WS := vm_w2 203 rfl rfl
theorem ww_533 : (Cond.instanceMethod ({ cls := "BagCounts$Search", name := "unfixed", desc := "(II)I" } : Jvm.MethodName)) ∈ vm_WS := vm_w2 205 rfl rfl
theorem ww_534 : (Cond.code ({ cls := "BagCounts$Search", name := "unfixed", desc := "(II)I" } : Jvm.MethodName) prog_7_method_11_code (6 : Nat) (Option.some Jvm.ClassFile.FieldType.int)) ∈ vm_WS := vm_w2 206 rfl rfl
theorem ww_535 : (Cond.methodLink "BagCounts$Search" (75 : Nat) ({ cls := "BagCounts$Search", name := "partOf", desc := "(II)I" } : Jvm.MethodName)) ∈ vm_WS := vm_w2 207 rfl rfl
theorem ww_537 : (Cond.instanceMethod ({ cls := "BagCounts$Search", name := "partOf", desc := "(II)I" } : Jvm.MethodName)) ∈ vm_WS := vm_w2 209 rfl rfl
theorem ww_538 : (Cond.code ({ cls := "BagCounts$Search", name := "partOf", desc := "(II)I" } : Jvm.MethodName) prog_7_method_12_code (8 : Nat) (Option.some Jvm.ClassFile.FieldType.int)) ∈ vm_WS := vm_w2 210 rfl rfl
theorem ww_539 : (Cond.methodLink "BagCounts$Search" (88 : Nat) ({ cls := "BagCounts$Search", name := "isSure", desc := "(II)Z" } : Jvm.MethodName)) ∈ vm_WS := vm_w2 211 rfl rfl
theorem ww_541 : (Cond.instanceMethod ({ cls := "BagCounts$Search", name := "isSure", desc := "(II)Z" } : Jvm.MethodName)) ∈ vm_WS := vm_w2 213 rfl rfl
theorem ww_542 : (Cond.code ({ cls := "BagCounts$Search", name := "isSure", desc := "(II)Z" } : Jvm.MethodName) prog_7_method_18_code (7 : Nat) (Option.some Jvm.ClassFile.FieldType.boolean)) ∈ vm_WS := vm_w2 214 rfl rfl
theorem ww_543 : (Cond.methodLink "BagCounts$Search" (78 : Nat) ({ cls := "BagCounts$Search", name := "choose", desc := "(II)I" } : Jvm.MethodName)) ∈ vm_WS := vm_w2 215 rfl rfl
theorem ww_545 : (Cond.instanceMethod ({ cls := "BagCounts$Search", name := "choose", desc := "(II)I" } : Jvm.MethodName)) ∈ vm_WS := vm_w2 217 rfl rfl
theorem ww_546 : (Cond.code ({ cls := "BagCounts$Search", name := "choose", desc := "(II)I" } : Jvm.MethodName) prog_7_method_13_code (7 : Nat) (Option.some Jvm.ClassFile.FieldType.int)) ∈ vm_WS := vm_w2 218 rfl rfl
theorem ww_547 : (Cond.methodLink "BagCounts$Search" (65 : Nat) ({ cls := "BagCounts$Search", name := "fix", desc := "(III)V" } : Jvm.MethodName)) ∈ vm_WS := vm_w2 219 rfl rfl
theorem ww_549 : (Cond.instanceMethod ({ cls := "BagCounts$Search", name := "fix", desc := "(III)V" } : Jvm.MethodName)) ∈ vm_WS := vm_w2 221 rfl rfl
theorem ww_550 : (Cond.code ({ cls := "BagCounts$Search", name := "fix", desc := "(III)V" } : Jvm.MethodName) prog_7_method_14_code (6 : Nat) (Option.none : Option Jvm.ClassFile.FieldType)) ∈ vm_WS := vm_w2 222 rfl rfl
theorem ww_551 : (Cond.methodLink "BagCounts$Search" (94 : Nat) ({ cls := "java/lang/System", name := "arraycopy", desc := "(Ljava/lang/Object;ILjava/lang/Object;II)V" } : Jvm.MethodName)) ∈ vm_WS := vm_w2 223 rfl rfl
theorem ww_552 : (Cond.methodLink "BagCountsLaw" (41 : Nat) ({ cls := "BagCounts", name := "bound", desc := "(III)I" } : Jvm.MethodName)) ∈ vm_WS := vm_w2 224 rfl rfl
theorem ww_553 : (Cond.instanceMethod ({ cls := "BagCounts", name := "bound", desc := "(III)I" } : Jvm.MethodName)) ∈ vm_WS := vm_w2 225 rfl rfl
theorem ww_554 : (Cond.selects "BagCounts" ({ cls := "BagCounts", name := "bound", desc := "(III)I" } : Jvm.MethodName) ({ cls := "BagCounts", name := "bound", desc := "(III)I" } : Jvm.MethodName)) ∈ vm_WS := vm_w2 226 rfl rfl
theorem ww_555 : (Cond.code ({ cls := "BagCounts", name := "bound", desc := "(III)I" } : Jvm.MethodName) prog_1_method_8_code (5 : Nat) (Option.some Jvm.ClassFile.FieldType.int)) ∈ vm_WS := vm_w2 227 rfl rfl
theorem ww_556 : (Cond.methodLink "BagCounts" (93 : Nat) ({ cls := "BagCounts", name := "refusalOfBound", desc := "(III)I" } : Jvm.MethodName)) ∈ vm_WS := vm_w2 228 rfl rfl
theorem ww_557 : (Cond.static ({ cls := "BagCounts", name := "refusalOfBound", desc := "(III)I" } : Jvm.MethodName)) ∈ vm_WS := vm_w2 229 rfl rfl
theorem ww_558 : (Cond.code ({ cls := "BagCounts", name := "refusalOfBound", desc := "(III)I" } : Jvm.MethodName) prog_1_method_24_code (3 : Nat) (Option.some Jvm.ClassFile.FieldType.int)) ∈ vm_WS := vm_w2 230 rfl rfl
theorem ww_559 : (Cond.methodLink "BagCounts" (106 : Nat) ({ cls := "BagCounts", name := "isBag", desc := "(I)Z" } : Jvm.MethodName)) ∈ vm_WS := vm_w2 231 rfl rfl
theorem ww_560 : (Cond.methodLink "BagCounts" (109 : Nat) ({ cls := "BagCounts", name := "isKind", desc := "(I)Z" } : Jvm.MethodName)) ∈ vm_WS := vm_w2 232 rfl rfl
theorem ww_561 : (Cond.methodLink "BagCounts" (97 : Nat) ({ cls := "BagCounts$Search", name := "variable", desc := "(II)I" } : Jvm.MethodName)) ∈ vm_WS := vm_w2 233 rfl rfl
theorem ww_562 : (Cond.methodLink "BagCounts" (102 : Nat) ({ cls := "BagCounts$Logic", name := "extreme", desc := "(IIZ)I" } : Jvm.MethodName)) ∈ vm_WS := vm_w2 234 rfl rfl
theorem ww_563 : (Cond.instanceMethod ({ cls := "BagCounts$Logic", name := "extreme", desc := "(IIZ)I" } : Jvm.MethodName)) ∈ vm_WS := vm_w2 235 rfl rfl
theorem ww_564 : (Cond.selects "BagCounts$Logic" ({ cls := "BagCounts$Logic", name := "extreme", desc := "(IIZ)I" } : Jvm.MethodName) ({ cls := "BagCounts$Logic", name := "extreme", desc := "(IIZ)I" } : Jvm.MethodName)) ∈ vm_WS := vm_w2 236 rfl rfl
theorem ww_565 : (Cond.code ({ cls := "BagCounts$Logic", name := "extreme", desc := "(IIZ)I" } : Jvm.MethodName) prog_4_method_5_code (8 : Nat) (Option.some Jvm.ClassFile.FieldType.int)) ∈ vm_WS := vm_w2 237 rfl rfl
theorem ww_566 : (Cond.methodLink "BagCounts$Logic" (59 : Nat) ({ cls := "BagCounts$Search", name := "settleAll", desc := "()Z" } : Jvm.MethodName)) ∈ vm_WS := vm_w2 238 rfl rfl
theorem ww_567 : (Cond.methodLink "BagCounts$Logic" (69 : Nat) ({ cls := "BagCounts$Search", name := "canBe", desc := "(II)Z" } : Jvm.MethodName)) ∈ vm_WS := vm_w2 239 rfl rfl
theorem ww_568 : (Cond.instanceMethod ({ cls := "BagCounts$Search", name := "canBe", desc := "(II)Z" } : Jvm.MethodName)) ∈ vm_WS := vm_w3 0 rfl rfl
theorem ww_569 : (Cond.selects "BagCounts$Search" ({ cls := "BagCounts$Search", name := "canBe", desc := "(II)Z" } : Jvm.MethodName) ({ cls := "BagCounts$Search", name := "canBe", desc := "(II)Z" } : Jvm.MethodName)) ∈ vm_WS := vm_w3 1 rfl rfl
theorem ww_570 : (Cond.code ({ cls := "BagCounts$Search", name := "canBe", desc := "(II)Z" } : Jvm.MethodName) prog_7_method_8_code (3 : Nat) (Option.some Jvm.ClassFile.FieldType.boolean)) ∈ vm_WS := vm_w3 2 rfl rfl
theorem ww_571 : (Cond.methodLink "BagCountsLaw" (46 : Nat) ({ cls := "BagCounts", name := "sizeOf", desc := "(II)I" } : Jvm.MethodName)) ∈ vm_WS := vm_w3 3 rfl rfl
theorem ww_572 : (Cond.instanceMethod ({ cls := "BagCounts", name := "sizeOf", desc := "(II)I" } : Jvm.MethodName)) ∈ vm_WS := vm_w3 4 rfl rfl
theorem ww_573 : (Cond.selects "BagCounts" ({ cls := "BagCounts", name := "sizeOf", desc := "(II)I" } : Jvm.MethodName) ({ cls := "BagCounts", name := "sizeOf", desc := "(II)I" } : Jvm.MethodName)) ∈ vm_WS := vm_w3 5 rfl rfl
theorem ww_574 : (Cond.code ({ cls := "BagCounts", name := "sizeOf", desc := "(II)I" } : Jvm.MethodName) prog_1_method_9_code (4 : Nat) (Option.some Jvm.ClassFile.FieldType.int)) ∈ vm_WS := vm_w3 6 rfl rfl
theorem ww_575 : (Cond.methodLink "BagCountsLaw" (50 : Nat) ({ cls := "BagCounts", name := "least", desc := "(II)I" } : Jvm.MethodName)) ∈ vm_WS := vm_w3 7 rfl rfl
theorem ww_576 : (Cond.instanceMethod ({ cls := "BagCounts", name := "least", desc := "(II)I" } : Jvm.MethodName)) ∈ vm_WS := vm_w3 8 rfl rfl
theorem ww_577 : (Cond.selects "BagCounts" ({ cls := "BagCounts", name := "least", desc := "(II)I" } : Jvm.MethodName) ({ cls := "BagCounts", name := "least", desc := "(II)I" } : Jvm.MethodName)) ∈ vm_WS := vm_w3 9 rfl rfl
theorem ww_578 : (Cond.code ({ cls := "BagCounts", name := "least", desc := "(II)I" } : Jvm.MethodName) prog_1_method_10_code (3 : Nat) (Option.some Jvm.ClassFile.FieldType.int)) ∈ vm_WS := vm_w3 10 rfl rfl
theorem ww_579 : (Cond.methodLink "BagCounts" (112 : Nat) ({ cls := "BagCounts$Logic", name := "inLeastSolution", desc := "(I)I" } : Jvm.MethodName)) ∈ vm_WS := vm_w3 11 rfl rfl
theorem ww_580 : (Cond.instanceMethod ({ cls := "BagCounts$Logic", name := "inLeastSolution", desc := "(I)I" } : Jvm.MethodName)) ∈ vm_WS := vm_w3 12 rfl rfl
theorem ww_581 : (Cond.selects "BagCounts$Logic" ({ cls := "BagCounts$Logic", name := "inLeastSolution", desc := "(I)I" } : Jvm.MethodName) ({ cls := "BagCounts$Logic", name := "inLeastSolution", desc := "(I)I" } : Jvm.MethodName)) ∈ vm_WS := vm_w3 13 rfl rfl
theorem ww_582 : (Cond.code ({ cls := "BagCounts$Logic", name := "inLeastSolution", desc := "(I)I" } : Jvm.MethodName) prog_4_method_6_code (5 : Nat) (Option.some Jvm.ClassFile.FieldType.int)) ∈ vm_WS := vm_w3 14 rfl rfl
theorem ww_583 : (Cond.methodLink "BagCounts$Logic" (55 : Nat) ({ cls := "BagCounts$Facts", name := "all", desc := "()I" } : Jvm.MethodName)) ∈ vm_WS := vm_w3 15 rfl rfl
theorem ww_584 : (Cond.methodLink "BagCounts$Logic" (73 : Nat) ({ cls := "BagCounts$Search", name := "settleOn", desc := "(II)V" } : Jvm.MethodName)) ∈ vm_WS := vm_w3 16 rfl rfl
theorem ww_585 : (Cond.instanceMethod ({ cls := "BagCounts$Search", name := "settleOn", desc := "(II)V" } : Jvm.MethodName)) ∈ vm_WS := vm_w3 17 rfl rfl
theorem ww_586 : (Cond.selects "BagCounts$Search" ({ cls := "BagCounts$Search", name := "settleOn", desc := "(II)V" } : Jvm.MethodName) ({ cls := "BagCounts$Search", name := "settleOn", desc := "(II)V" } : Jvm.MethodName)) ∈ vm_WS := vm_w3 18 rfl rfl
theorem ww_587 : (Cond.code ({ cls := "BagCounts$Search", name := "settleOn", desc := "(II)V" } : Jvm.MethodName) prog_7_method_6_code (3 : Nat) (Option.none : Option Jvm.ClassFile.FieldType)) ∈ vm_WS := vm_w3 19 rfl rfl
theorem ww_588 : (Cond.methodLink "BagCounts$Search" (54 : Nat) ({ cls := "BagCounts$Search", name := "restrict", desc := "(III)V" } : Jvm.MethodName)) ∈ vm_WS := vm_w3 20 rfl rfl
theorem ww_589 : (Cond.methodLink "BagCountsLaw" (54 : Nat) ({ cls := "BagCounts", name := "solutions", desc := "(I)I" } : Jvm.MethodName)) ∈ vm_WS := vm_w3 21 rfl rfl
theorem ww_590 : (Cond.instanceMethod ({ cls := "BagCounts", name := "solutions", desc := "(I)I" } : Jvm.MethodName)) ∈ vm_WS := vm_w3 22 rfl rfl
theorem ww_591 : (Cond.selects "BagCounts" ({ cls := "BagCounts", name := "solutions", desc := "(I)I" } : Jvm.MethodName) ({ cls := "BagCounts", name := "solutions", desc := "(I)I" } : Jvm.MethodName)) ∈ vm_WS := vm_w3 23 rfl rfl
theorem ww_592 : (Cond.code ({ cls := "BagCounts", name := "solutions", desc := "(I)I" } : Jvm.MethodName) prog_1_method_11_code (2 : Nat) (Option.some Jvm.ClassFile.FieldType.int)) ∈ vm_WS := vm_w3 24 rfl rfl
theorem ww_593 : (Cond.methodLink "BagCounts" (116 : Nat) ({ cls := "BagCounts$Logic", name := "howMany", desc := "(I)I" } : Jvm.MethodName)) ∈ vm_WS := vm_w3 25 rfl rfl
theorem ww_594 : (Cond.instanceMethod ({ cls := "BagCounts$Logic", name := "howMany", desc := "(I)I" } : Jvm.MethodName)) ∈ vm_WS := vm_w3 26 rfl rfl
theorem ww_595 : (Cond.selects "BagCounts$Logic" ({ cls := "BagCounts$Logic", name := "howMany", desc := "(I)I" } : Jvm.MethodName) ({ cls := "BagCounts$Logic", name := "howMany", desc := "(I)I" } : Jvm.MethodName)) ∈ vm_WS := vm_w3 27 rfl rfl
theorem ww_596 : (Cond.code ({ cls := "BagCounts$Logic", name := "howMany", desc := "(I)I" } : Jvm.MethodName) prog_4_method_4_code (2 : Nat) (Option.some Jvm.ClassFile.FieldType.int)) ∈ vm_WS := vm_w3 28 rfl rfl
theorem ww_597 : (Cond.methodLink "BagCountsLaw" (58 : Nat) ({ cls := "BagCounts", name := "follows", desc := "(IIIIII)I" } : Jvm.MethodName)) ∈ vm_WS := vm_w3 29 rfl rfl
theorem ww_598 : (Cond.instanceMethod ({ cls := "BagCounts", name := "follows", desc := "(IIIIII)I" } : Jvm.MethodName)) ∈ vm_WS := vm_w3 30 rfl rfl
theorem ww_599 : (Cond.selects "BagCounts" ({ cls := "BagCounts", name := "follows", desc := "(IIIIII)I" } : Jvm.MethodName) ({ cls := "BagCounts", name := "follows", desc := "(IIIIII)I" } : Jvm.MethodName)) ∈ vm_WS := vm_w3 31 rfl rfl
theorem ww_600 : (Cond.code ({ cls := "BagCounts", name := "follows", desc := "(IIIIII)I" } : Jvm.MethodName) prog_1_method_12_code (7 : Nat) (Option.some Jvm.ClassFile.FieldType.int)) ∈ vm_WS := vm_w3 32 rfl rfl
theorem ww_601 : (Cond.methodLink "BagCounts" (119 : Nat) ({ cls := "BagCounts$Logic", name := "canFail", desc := "(II)Z" } : Jvm.MethodName)) ∈ vm_WS := vm_w3 33 rfl rfl
theorem ww_602 : (Cond.instanceMethod ({ cls := "BagCounts$Logic", name := "canFail", desc := "(II)Z" } : Jvm.MethodName)) ∈ vm_WS := vm_w3 34 rfl rfl
theorem ww_603 : (Cond.selects "BagCounts$Logic" ({ cls := "BagCounts$Logic", name := "canFail", desc := "(II)Z" } : Jvm.MethodName) ({ cls := "BagCounts$Logic", name := "canFail", desc := "(II)Z" } : Jvm.MethodName)) ∈ vm_WS := vm_w3 35 rfl rfl
theorem ww_604 : (Cond.code ({ cls := "BagCounts$Logic", name := "canFail", desc := "(II)Z" } : Jvm.MethodName) prog_4_method_3_code (6 : Nat) (Option.some Jvm.ClassFile.FieldType.boolean)) ∈ vm_WS := vm_w3 36 rfl rfl
theorem ww_605 : (Cond.methodLinkNest "BagCounts$Logic" (43 : Nat) ({ cls := "BagCounts", name := "isWithin", desc := "(III)Z" } : Jvm.MethodName) "BagCounts") ∈ vm_WN := vm_n3 37 rfl rfl
theorem ww_606 : (Cond.fieldLink "BagCounts$Logic" (47 : Nat) "BagCounts$Logic" "OPPOSITES" "[I") ∈ vm_WS := vm_w3 38 rfl rfl
theorem ww_608 : (Cond.methodLink "BagCounts$Logic" (51 : Nat) ({ cls := "BagCounts$Logic", name := "addOpposite", desc := "(II)V" } : Jvm.MethodName)) ∈ vm_WS := vm_w3 40 rfl rfl
theorem ww_610 : (Cond.instanceMethod ({ cls := "BagCounts$Logic", name := "addOpposite", desc := "(II)V" } : Jvm.MethodName)) ∈ vm_WS := vm_w3 42 rfl rfl
theorem ww_611 : (Cond.code ({ cls := "BagCounts$Logic", name := "addOpposite", desc := "(II)V" } : Jvm.MethodName) prog_4_method_11_code (9 : Nat) (Option.none : Option Jvm.ClassFile.FieldType)) ∈ vm_WS := vm_w3 43 rfl rfl
theorem ww_612 : (Cond.methodLink "BagCounts$Logic" (125 : Nat) ({ cls := "BagCounts$Logic", name := "restrictOutside", desc := "(IIII)V" } : Jvm.MethodName)) ∈ vm_WS := vm_w3 44 rfl rfl
theorem ww_614 : (Cond.instanceMethod ({ cls := "BagCounts$Logic", name := "restrictOutside", desc := "(IIII)V" } : Jvm.MethodName)) ∈ vm_WS := vm_w3 46 rfl rfl
theorem ww_615 : (Cond.code ({ cls := "BagCounts$Logic", name := "restrictOutside", desc := "(IIII)V" } : Jvm.MethodName) prog_4_method_12_code (5 : Nat) (Option.none : Option Jvm.ClassFile.FieldType)) ∈ vm_WS := vm_w3 47 rfl rfl
theorem ww_616 : (Cond.methodLink "BagCounts$Logic" (128 : Nat) ({ cls := "BagCounts$Logic", name := "addOppositeOfKind", desc := "(IIIII)V" } : Jvm.MethodName)) ∈ vm_WS := vm_w3 48 rfl rfl
theorem ww_618 : (Cond.instanceMethod ({ cls := "BagCounts$Logic", name := "addOppositeOfKind", desc := "(IIIII)V" } : Jvm.MethodName)) ∈ vm_WS := vm_w3 50 rfl rfl
theorem ww_619 : (Cond.code ({ cls := "BagCounts$Logic", name := "addOppositeOfKind", desc := "(IIIII)V" } : Jvm.MethodName) prog_4_method_13_code (8 : Nat) (Option.none : Option Jvm.ClassFile.FieldType)) ∈ vm_WS := vm_w3 51 rfl rfl
theorem ww_620 : (Cond.methodLink "BagCountsLaw" (62 : Nat) ({ cls := "BagCounts", name := "contradiction", desc := "()I" } : Jvm.MethodName)) ∈ vm_WS := vm_w3 52 rfl rfl
theorem ww_621 : (Cond.instanceMethod ({ cls := "BagCounts", name := "contradiction", desc := "()I" } : Jvm.MethodName)) ∈ vm_WS := vm_w3 53 rfl rfl
theorem ww_622 : (Cond.selects "BagCounts" ({ cls := "BagCounts", name := "contradiction", desc := "()I" } : Jvm.MethodName) ({ cls := "BagCounts", name := "contradiction", desc := "()I" } : Jvm.MethodName)) ∈ vm_WS := vm_w3 54 rfl rfl
theorem ww_623 : (Cond.code ({ cls := "BagCounts", name := "contradiction", desc := "()I" } : Jvm.MethodName) prog_1_method_13_code (4 : Nat) (Option.some Jvm.ClassFile.FieldType.int)) ∈ vm_WS := vm_w3 55 rfl rfl
theorem ww_624 : (Cond.methodLink "BagCountsLaw" (66 : Nat) ({ cls := "BagCounts", name := "reason", desc := "(III)I" } : Jvm.MethodName)) ∈ vm_WS := vm_w3 56 rfl rfl
theorem ww_625 : (Cond.instanceMethod ({ cls := "BagCounts", name := "reason", desc := "(III)I" } : Jvm.MethodName)) ∈ vm_WS := vm_w3 57 rfl rfl
theorem ww_626 : (Cond.selects "BagCounts" ({ cls := "BagCounts", name := "reason", desc := "(III)I" } : Jvm.MethodName) ({ cls := "BagCounts", name := "reason", desc := "(III)I" } : Jvm.MethodName)) ∈ vm_WS := vm_w3 58 rfl rfl
theorem ww_627 : (Cond.code ({ cls := "BagCounts", name := "reason", desc := "(III)I" } : Jvm.MethodName) prog_1_method_14_code (10 : Nat) (Option.some Jvm.ClassFile.FieldType.int)) ∈ vm_WS := vm_w3 59 rfl rfl
theorem ww_628 : (Cond.methodLink "BagCountsLaw" (70 : Nat) ({ cls := "BagCounts", name := "needless", desc := "()I" } : Jvm.MethodName)) ∈ vm_WS := vm_w3 60 rfl rfl
theorem ww_629 : (Cond.instanceMethod ({ cls := "BagCounts", name := "needless", desc := "()I" } : Jvm.MethodName)) ∈ vm_WS := vm_w3 61 rfl rfl
theorem ww_630 : (Cond.selects "BagCounts" ({ cls := "BagCounts", name := "needless", desc := "()I" } : Jvm.MethodName) ({ cls := "BagCounts", name := "needless", desc := "()I" } : Jvm.MethodName)) ∈ vm_WS := vm_w3 62 rfl rfl
theorem ww_631 : (Cond.code ({ cls := "BagCounts", name := "needless", desc := "()I" } : Jvm.MethodName) prog_1_method_15_code (4 : Nat) (Option.some Jvm.ClassFile.FieldType.int)) ∈ vm_WS := vm_w3 63 rfl rfl
theorem ww_632 : (Cond.methodLink "BagCountsLaw" (76 : Nat) ({ cls := "BagCounts", name := "put", desc := "(J)I" } : Jvm.MethodName)) ∈ vm_WS := vm_w3 64 rfl rfl
theorem ww_633 : (Cond.instanceMethod ({ cls := "BagCounts", name := "put", desc := "(J)I" } : Jvm.MethodName)) ∈ vm_WS := vm_w3 65 rfl rfl
theorem ww_634 : (Cond.selects "BagCounts" ({ cls := "BagCounts", name := "put", desc := "(J)I" } : Jvm.MethodName) ({ cls := "BagCounts", name := "put", desc := "(J)I" } : Jvm.MethodName)) ∈ vm_WS := vm_w3 66 rfl rfl
theorem ww_635 : (Cond.code ({ cls := "BagCounts", name := "put", desc := "(J)I" } : Jvm.MethodName) prog_1_method_16_code (4 : Nat) (Option.some Jvm.ClassFile.FieldType.int)) ∈ vm_WS := vm_w3 67 rfl rfl
theorem ww_636 : (Cond.methodLink "BagCounts" (123 : Nat) ({ cls := "BagCounts$Pad", name := "lengthOf", desc := "(J)I" } : Jvm.MethodName)) ∈ vm_WS := vm_w3 68 rfl rfl
theorem ww_637 : (Cond.static ({ cls := "BagCounts$Pad", name := "lengthOf", desc := "(J)I" } : Jvm.MethodName)) ∈ vm_WS := vm_w3 69 rfl rfl
theorem ww_638 : (Cond.code ({ cls := "BagCounts$Pad", name := "lengthOf", desc := "(J)I" } : Jvm.MethodName) prog_5_method_2_code (7 : Nat) (Option.some Jvm.ClassFile.FieldType.int)) ∈ vm_WS := vm_w3 70 rfl rfl
theorem ww_639 : (Cond.constantLong "BagCounts$Pad" (15 : Nat) (255 : Int64)) ∈ vm_WS := vm_w3 71 rfl rfl
theorem ww_640 : (Cond.methodLinkNest "BagCounts$Pad" (17 : Nat) ({ cls := "BagCounts", name := "isWithin", desc := "(III)Z" } : Jvm.MethodName) "BagCounts") ∈ vm_WN := vm_n3 72 rfl rfl
theorem ww_641 : (Cond.methodLink "BagCounts" (127 : Nat) ({ cls := "BagCounts$Pad", name := "hasRoomFor", desc := "(I)Z" } : Jvm.MethodName)) ∈ vm_WS := vm_w3 73 rfl rfl
theorem ww_642 : (Cond.instanceMethod ({ cls := "BagCounts$Pad", name := "hasRoomFor", desc := "(I)Z" } : Jvm.MethodName)) ∈ vm_WS := vm_w3 74 rfl rfl
theorem ww_643 : (Cond.selects "BagCounts$Pad" ({ cls := "BagCounts$Pad", name := "hasRoomFor", desc := "(I)Z" } : Jvm.MethodName) ({ cls := "BagCounts$Pad", name := "hasRoomFor", desc := "(I)Z" } : Jvm.MethodName)) ∈ vm_WS := vm_w3 75 rfl rfl
theorem ww_644 : (Cond.code ({ cls := "BagCounts$Pad", name := "hasRoomFor", desc := "(I)Z" } : Jvm.MethodName) prog_5_method_3_code (2 : Nat) (Option.some Jvm.ClassFile.FieldType.boolean)) ∈ vm_WS := vm_w3 76 rfl rfl
theorem ww_645 : (Cond.methodLink "BagCounts" (130 : Nat) ({ cls := "BagCounts$Pad", name := "append", desc := "(JI)V" } : Jvm.MethodName)) ∈ vm_WS := vm_w3 77 rfl rfl
theorem ww_646 : (Cond.instanceMethod ({ cls := "BagCounts$Pad", name := "append", desc := "(JI)V" } : Jvm.MethodName)) ∈ vm_WS := vm_w3 78 rfl rfl
theorem ww_647 : (Cond.selects "BagCounts$Pad" ({ cls := "BagCounts$Pad", name := "append", desc := "(JI)V" } : Jvm.MethodName) ({ cls := "BagCounts$Pad", name := "append", desc := "(JI)V" } : Jvm.MethodName)) ∈ vm_WS := vm_w3 79 rfl rfl
theorem ww_648 : (Cond.code ({ cls := "BagCounts$Pad", name := "append", desc := "(JI)V" } : Jvm.MethodName) prog_5_method_4_code (7 : Nat) (Option.none : Option Jvm.ClassFile.FieldType)) ∈ vm_WS := vm_w3 80 rfl rfl
theorem ww_649 : (Cond.methodLink "BagCounts$Pad" (25 : Nat) ({ cls := "BagCounts$Pad", name := "hasRoomFor", desc := "(I)Z" } : Jvm.MethodName)) ∈ vm_WS := vm_w3 81 rfl rfl
theorem ww_650 : (Cond.methodLink "BagCountsLaw" (81 : Nat) ({ cls := "BagCounts", name := "wipe", desc := "()I" } : Jvm.MethodName)) ∈ vm_WS := vm_w3 82 rfl rfl
theorem ww_651 : (Cond.instanceMethod ({ cls := "BagCounts", name := "wipe", desc := "()I" } : Jvm.MethodName)) ∈ vm_WS := vm_w3 83 rfl rfl
theorem ww_652 : (Cond.selects "BagCounts" ({ cls := "BagCounts", name := "wipe", desc := "()I" } : Jvm.MethodName) ({ cls := "BagCounts", name := "wipe", desc := "()I" } : Jvm.MethodName)) ∈ vm_WS := vm_w3 84 rfl rfl
theorem ww_653 : (Cond.code ({ cls := "BagCounts", name := "wipe", desc := "()I" } : Jvm.MethodName) prog_1_method_17_code (1 : Nat) (Option.some Jvm.ClassFile.FieldType.int)) ∈ vm_WS := vm_w3 85 rfl rfl
theorem ww_654 : (Cond.methodLink "BagCounts" (134 : Nat) ({ cls := "BagCounts$Pad", name := "clear", desc := "()I" } : Jvm.MethodName)) ∈ vm_WS := vm_w3 86 rfl rfl
theorem ww_655 : (Cond.instanceMethod ({ cls := "BagCounts$Pad", name := "clear", desc := "()I" } : Jvm.MethodName)) ∈ vm_WS := vm_w3 87 rfl rfl
theorem ww_656 : (Cond.selects "BagCounts$Pad" ({ cls := "BagCounts$Pad", name := "clear", desc := "()I" } : Jvm.MethodName) ({ cls := "BagCounts$Pad", name := "clear", desc := "()I" } : Jvm.MethodName)) ∈ vm_WS := vm_w3 88 rfl rfl
theorem ww_657 : (Cond.code ({ cls := "BagCounts$Pad", name := "clear", desc := "()I" } : Jvm.MethodName) prog_5_method_5_code (2 : Nat) (Option.some Jvm.ClassFile.FieldType.int)) ∈ vm_WS := vm_w3 89 rfl rfl
theorem ww_658 : (Cond.methodLink "BagCountsLaw" (85 : Nat) ({ cls := "BagCounts", name := "fault", desc := "()I" } : Jvm.MethodName)) ∈ vm_WS := vm_w3 90 rfl rfl
theorem ww_659 : (Cond.instanceMethod ({ cls := "BagCounts", name := "fault", desc := "()I" } : Jvm.MethodName)) ∈ vm_WS := vm_w3 91 rfl rfl
theorem ww_660 : (Cond.selects "BagCounts" ({ cls := "BagCounts", name := "fault", desc := "()I" } : Jvm.MethodName) ({ cls := "BagCounts", name := "fault", desc := "()I" } : Jvm.MethodName)) ∈ vm_WS := vm_w3 92 rfl rfl
theorem ww_661 : (Cond.code ({ cls := "BagCounts", name := "fault", desc := "()I" } : Jvm.MethodName) prog_1_method_18_code (1 : Nat) (Option.some Jvm.ClassFile.FieldType.int)) ∈ vm_WS := vm_w3 93 rfl rfl
theorem ww_662 : (Cond.methodLink "BagCounts" (137 : Nat) ({ cls := "BagCounts$Pad", name := "firstFault", desc := "()I" } : Jvm.MethodName)) ∈ vm_WS := vm_w3 94 rfl rfl
theorem ww_663 : (Cond.instanceMethod ({ cls := "BagCounts$Pad", name := "firstFault", desc := "()I" } : Jvm.MethodName)) ∈ vm_WS := vm_w3 95 rfl rfl
theorem ww_664 : (Cond.selects "BagCounts$Pad" ({ cls := "BagCounts$Pad", name := "firstFault", desc := "()I" } : Jvm.MethodName) ({ cls := "BagCounts$Pad", name := "firstFault", desc := "()I" } : Jvm.MethodName)) ∈ vm_WS := vm_w3 96 rfl rfl
theorem ww_665 : (Cond.code ({ cls := "BagCounts$Pad", name := "firstFault", desc := "()I" } : Jvm.MethodName) prog_5_method_6_code (2 : Nat) (Option.some Jvm.ClassFile.FieldType.int)) ∈ vm_WS := vm_w3 97 rfl rfl
theorem ww_666 : (Cond.methodLink "BagCounts$Pad" (32 : Nat) ({ cls := "BagCounts$Pad", name := "readFact", desc := "()Z" } : Jvm.MethodName)) ∈ vm_WS := vm_w3 98 rfl rfl
theorem ww_668 : (Cond.instanceMethod ({ cls := "BagCounts$Pad", name := "readFact", desc := "()Z" } : Jvm.MethodName)) ∈ vm_WS := vm_w3 100 rfl rfl
theorem ww_669 : (Cond.code ({ cls := "BagCounts$Pad", name := "readFact", desc := "()Z" } : Jvm.MethodName) prog_5_method_8_code (1 : Nat) (Option.some Jvm.ClassFile.FieldType.boolean)) ∈ vm_WS := vm_w3 101 rfl rfl
theorem ww_670 : (Cond.methodLink "BagCounts$Pad" (36 : Nat) ({ cls := "BagCounts$Pad", name := "skip", desc := "(C)Z" } : Jvm.MethodName)) ∈ vm_WS := vm_w3 102 rfl rfl
theorem ww_672 : (Cond.instanceMethod ({ cls := "BagCounts$Pad", name := "skip", desc := "(C)Z" } : Jvm.MethodName)) ∈ vm_WS := vm_w3 104 rfl rfl
theorem ww_673 : (Cond.code ({ cls := "BagCounts$Pad", name := "skip", desc := "(C)Z" } : Jvm.MethodName) prog_5_method_16_code (2 : Nat) (Option.some Jvm.ClassFile.FieldType.boolean)) ∈ vm_WS := vm_w3 105 rfl rfl
theorem ww_674 : (Cond.methodLink "BagCounts$Pad" (74 : Nat) ({ cls := "BagCounts$Pad", name := "take", desc := "(CC)I" } : Jvm.MethodName)) ∈ vm_WS := vm_w3 106 rfl rfl
theorem ww_676 : (Cond.instanceMethod ({ cls := "BagCounts$Pad", name := "take", desc := "(CC)I" } : Jvm.MethodName)) ∈ vm_WS := vm_w3 108 rfl rfl
theorem ww_677 : (Cond.code ({ cls := "BagCounts$Pad", name := "take", desc := "(CC)I" } : Jvm.MethodName) prog_5_method_17_code (4 : Nat) (Option.some Jvm.ClassFile.FieldType.int)) ∈ vm_WS := vm_w3 109 rfl rfl
theorem ww_678 : (Cond.methodLink "BagCounts$Pad" (71 : Nat) ({ cls := "BagCounts$Pad", name := "readSize", desc := "()Z" } : Jvm.MethodName)) ∈ vm_WS := vm_w3 110 rfl rfl
theorem ww_680 : (Cond.instanceMethod ({ cls := "BagCounts$Pad", name := "readSize", desc := "()Z" } : Jvm.MethodName)) ∈ vm_WS := vm_w3 112 rfl rfl
theorem ww_681 : (Cond.code ({ cls := "BagCounts$Pad", name := "readSize", desc := "()Z" } : Jvm.MethodName) prog_5_method_9_code (1 : Nat) (Option.some Jvm.ClassFile.FieldType.boolean)) ∈ vm_WS := vm_w3 113 rfl rfl
theorem ww_682 : (Cond.methodLink "BagCounts$Pad" (84 : Nat) ({ cls := "BagCounts$Pad", name := "takeNumber", desc := "()I" } : Jvm.MethodName)) ∈ vm_WS := vm_w3 114 rfl rfl
theorem ww_684 : (Cond.instanceMethod ({ cls := "BagCounts$Pad", name := "takeNumber", desc := "()I" } : Jvm.MethodName)) ∈ vm_WS := vm_w3 116 rfl rfl
theorem ww_685 : (Cond.code ({ cls := "BagCounts$Pad", name := "takeNumber", desc := "()I" } : Jvm.MethodName) prog_5_method_15_code (3 : Nat) (Option.some Jvm.ClassFile.FieldType.int)) ∈ vm_WS := vm_w3 117 rfl rfl
theorem ww_686 : (Cond.methodLink "BagCounts$Pad" (87 : Nat) ({ cls := "BagCounts$Pad", name := "takeRangeEnd", desc := "(I)I" } : Jvm.MethodName)) ∈ vm_WS := vm_w3 118 rfl rfl
theorem ww_688 : (Cond.instanceMethod ({ cls := "BagCounts$Pad", name := "takeRangeEnd", desc := "(I)I" } : Jvm.MethodName)) ∈ vm_WS := vm_w3 120 rfl rfl
theorem ww_689 : (Cond.code ({ cls := "BagCounts$Pad", name := "takeRangeEnd", desc := "(I)I" } : Jvm.MethodName) prog_5_method_14_code (2 : Nat) (Option.some Jvm.ClassFile.FieldType.int)) ∈ vm_WS := vm_w3 121 rfl rfl
theorem ww_690 : (Cond.methodLink "BagCounts$Pad" (78 : Nat) ({ cls := "BagCounts$Pad", name := "readOfKind", desc := "()Z" } : Jvm.MethodName)) ∈ vm_WS := vm_w3 122 rfl rfl
theorem ww_692 : (Cond.instanceMethod ({ cls := "BagCounts$Pad", name := "readOfKind", desc := "()Z" } : Jvm.MethodName)) ∈ vm_WS := vm_w3 124 rfl rfl
theorem ww_693 : (Cond.code ({ cls := "BagCounts$Pad", name := "readOfKind", desc := "()Z" } : Jvm.MethodName) prog_5_method_11_code (1 : Nat) (Option.some Jvm.ClassFile.FieldType.boolean)) ∈ vm_WS := vm_w3 125 rfl rfl
theorem ww_694 : (Cond.methodLink "BagCounts$Pad" (94 : Nat) ({ cls := "BagCounts$Pad", name := "readDifference", desc := "()Z" } : Jvm.MethodName)) ∈ vm_WS := vm_w3 126 rfl rfl
theorem ww_696 : (Cond.instanceMethod ({ cls := "BagCounts$Pad", name := "readDifference", desc := "()Z" } : Jvm.MethodName)) ∈ vm_WS := vm_w3 128 rfl rfl
theorem ww_697 : (Cond.code ({ cls := "BagCounts$Pad", name := "readDifference", desc := "()Z" } : Jvm.MethodName) prog_5_method_12_code (2 : Nat) (Option.some Jvm.ClassFile.FieldType.boolean)) ∈ vm_WS := vm_w3 129 rfl rfl
theorem ww_698 : (Cond.methodLink "BagCounts$Pad" (81 : Nat) ({ cls := "BagCounts$Pad", name := "readOfThreeBags", desc := "()Z" } : Jvm.MethodName)) ∈ vm_WS := vm_w3 130 rfl rfl
theorem ww_700 : (Cond.instanceMethod ({ cls := "BagCounts$Pad", name := "readOfThreeBags", desc := "()Z" } : Jvm.MethodName)) ∈ vm_WS := vm_w3 132 rfl rfl
theorem ww_701 : (Cond.code ({ cls := "BagCounts$Pad", name := "readOfThreeBags", desc := "()Z" } : Jvm.MethodName) prog_5_method_10_code (1 : Nat) (Option.some Jvm.ClassFile.FieldType.boolean)) ∈ vm_WS := vm_w3 133 rfl rfl
theorem ww_702 : (Cond.methodLink "BagCounts$Pad" (91 : Nat) ({ cls := "BagCounts$Pad", name := "takeSign", desc := "()I" } : Jvm.MethodName)) ∈ vm_WS := vm_w3 134 rfl rfl
theorem ww_704 : (Cond.instanceMethod ({ cls := "BagCounts$Pad", name := "takeSign", desc := "()I" } : Jvm.MethodName)) ∈ vm_WS := vm_w3 136 rfl rfl
theorem ww_705 : (Cond.code ({ cls := "BagCounts$Pad", name := "takeSign", desc := "()I" } : Jvm.MethodName) prog_5_method_13_code (1 : Nat) (Option.some Jvm.ClassFile.FieldType.int)) ∈ vm_WS := vm_w3 137 rfl rfl
theorem ww_706 : (Cond.methodLink "BagCountsLaw" (89 : Nat) ({ cls := "BagCounts", name := "tell", desc := "()I" } : Jvm.MethodName)) ∈ vm_WS := vm_w3 138 rfl rfl
theorem ww_707 : (Cond.instanceMethod ({ cls := "BagCounts", name := "tell", desc := "()I" } : Jvm.MethodName)) ∈ vm_WS := vm_w3 139 rfl rfl
theorem ww_708 : (Cond.selects "BagCounts" ({ cls := "BagCounts", name := "tell", desc := "()I" } : Jvm.MethodName) ({ cls := "BagCounts", name := "tell", desc := "()I" } : Jvm.MethodName)) ∈ vm_WS := vm_w3 140 rfl rfl
theorem ww_709 : (Cond.code ({ cls := "BagCounts", name := "tell", desc := "()I" } : Jvm.MethodName) prog_1_method_19_code (2 : Nat) (Option.some Jvm.ClassFile.FieldType.int)) ∈ vm_WS := vm_w3 141 rfl rfl
theorem ww_710 : (Cond.methodLink "BagCounts" (140 : Nat) ({ cls := "BagCounts$Pad", name := "tellAll", desc := "(LBagCounts$Facts;)I" } : Jvm.MethodName)) ∈ vm_WS := vm_w3 142 rfl rfl
theorem ww_711 : (Cond.instanceMethod ({ cls := "BagCounts$Pad", name := "tellAll", desc := "(LBagCounts$Facts;)I" } : Jvm.MethodName)) ∈ vm_WS := vm_w3 143 rfl rfl
theorem ww_712 : (Cond.selects "BagCounts$Pad" ({ cls := "BagCounts$Pad", name := "tellAll", desc := "(LBagCounts$Facts;)I" } : Jvm.MethodName) ({ cls := "BagCounts$Pad", name := "tellAll", desc := "(LBagCounts$Facts;)I" } : Jvm.MethodName)) ∈ vm_WS := vm_w3 144 rfl rfl
theorem ww_713 : (Cond.code ({ cls := "BagCounts$Pad", name := "tellAll", desc := "(LBagCounts$Facts;)I" } : Jvm.MethodName) prog_5_method_7_code (4 : Nat) (Option.some Jvm.ClassFile.FieldType.int)) ∈ vm_WS := vm_w3 145 rfl rfl
theorem ww_714 : (Cond.methodLink "BagCounts$Pad" (58 : Nat) ({ cls := "BagCounts$Facts", name := "ask", desc := "(IIIIII)Z" } : Jvm.MethodName)) ∈ vm_WS := vm_w3 146 rfl rfl
theorem ww_715 : (Cond.methodLink "BagCounts$Pad" (64 : Nat) ({ cls := "BagCounts$Facts", name := "isFull", desc := "()Z" } : Jvm.MethodName)) ∈ vm_WS := vm_w3 147 rfl rfl
theorem ww_716 : (Cond.methodLink "BagCounts$Pad" (67 : Nat) ({ cls := "BagCounts$Facts", name := "keepAsked", desc := "()I" } : Jvm.MethodName)) ∈ vm_WS := vm_w3 148 rfl rfl
theorem ww_717 : (Cond.methodLink "BagCountsLaw" (93 : Nat) ({ cls := "BagCounts", name := "undo", desc := "()I" } : Jvm.MethodName)) ∈ vm_WS := vm_w3 149 rfl rfl
theorem ww_718 : (Cond.instanceMethod ({ cls := "BagCounts", name := "undo", desc := "()I" } : Jvm.MethodName)) ∈ vm_WS := vm_w3 150 rfl rfl
theorem ww_719 : (Cond.selects "BagCounts" ({ cls := "BagCounts", name := "undo", desc := "()I" } : Jvm.MethodName) ({ cls := "BagCounts", name := "undo", desc := "()I" } : Jvm.MethodName)) ∈ vm_WS := vm_w3 151 rfl rfl
theorem ww_720 : (Cond.code ({ cls := "BagCounts", name := "undo", desc := "()I" } : Jvm.MethodName) prog_1_method_20_code (1 : Nat) (Option.some Jvm.ClassFile.FieldType.int)) ∈ vm_WS := vm_w3 152 rfl rfl
theorem ww_721 : (Cond.methodLink "BagCounts" (144 : Nat) ({ cls := "BagCounts$States", name := "load", desc := "(ILBagCounts$Facts;)V" } : Jvm.MethodName)) ∈ vm_WS := vm_w3 153 rfl rfl
theorem ww_722 : (Cond.instanceMethod ({ cls := "BagCounts$States", name := "load", desc := "(ILBagCounts$Facts;)V" } : Jvm.MethodName)) ∈ vm_WS := vm_w3 154 rfl rfl
theorem ww_723 : (Cond.selects "BagCounts$States" ({ cls := "BagCounts$States", name := "load", desc := "(ILBagCounts$Facts;)V" } : Jvm.MethodName) ({ cls := "BagCounts$States", name := "load", desc := "(ILBagCounts$Facts;)V" } : Jvm.MethodName)) ∈ vm_WS := vm_w3 155 rfl rfl
theorem ww_724 : (Cond.code ({ cls := "BagCounts$States", name := "load", desc := "(ILBagCounts$Facts;)V" } : Jvm.MethodName) prog_8_method_3_code (3 : Nat) (Option.none : Option Jvm.ClassFile.FieldType)) ∈ vm_WS := vm_w3 156 rfl rfl
theorem ww_725 : (Cond.methodLink "BagCounts$States" (29 : Nat) ({ cls := "BagCounts$Facts", name := "readFrom", desc := "([II)V" } : Jvm.MethodName)) ∈ vm_WS := vm_w3 157 rfl rfl
theorem ww_726 : (Cond.instanceMethod ({ cls := "BagCounts$Facts", name := "readFrom", desc := "([II)V" } : Jvm.MethodName)) ∈ vm_WS := vm_w3 158 rfl rfl
theorem ww_727 : (Cond.selects "BagCounts$Facts" ({ cls := "BagCounts$Facts", name := "readFrom", desc := "([II)V" } : Jvm.MethodName) ({ cls := "BagCounts$Facts", name := "readFrom", desc := "([II)V" } : Jvm.MethodName)) ∈ vm_WS := vm_w3 159 rfl rfl
theorem ww_728 : (Cond.code ({ cls := "BagCounts$Facts", name := "readFrom", desc := "([II)V" } : Jvm.MethodName) prog_2_method_10_code (3 : Nat) (Option.none : Option Jvm.ClassFile.FieldType)) ∈ vm_WS := vm_w3 160 rfl rfl
theorem ww_729 : (Cond.methodLink "BagCountsLaw" (97 : Nat) ({ cls := "BagCounts", name := "save", desc := "(I)I" } : Jvm.MethodName)) ∈ vm_WS := vm_w3 161 rfl rfl
theorem ww_730 : (Cond.instanceMethod ({ cls := "BagCounts", name := "save", desc := "(I)I" } : Jvm.MethodName)) ∈ vm_WS := vm_w3 162 rfl rfl
theorem ww_731 : (Cond.selects "BagCounts" ({ cls := "BagCounts", name := "save", desc := "(I)I" } : Jvm.MethodName) ({ cls := "BagCounts", name := "save", desc := "(I)I" } : Jvm.MethodName)) ∈ vm_WS := vm_w3 163 rfl rfl
theorem ww_732 : (Cond.code ({ cls := "BagCounts", name := "save", desc := "(I)I" } : Jvm.MethodName) prog_1_method_21_code (2 : Nat) (Option.some Jvm.ClassFile.FieldType.int)) ∈ vm_WS := vm_w3 164 rfl rfl
theorem ww_733 : (Cond.methodLink "BagCountsLaw" (101 : Nat) ({ cls := "BagCounts", name := "restore", desc := "(I)I" } : Jvm.MethodName)) ∈ vm_WS := vm_w3 165 rfl rfl
theorem ww_734 : (Cond.instanceMethod ({ cls := "BagCounts", name := "restore", desc := "(I)I" } : Jvm.MethodName)) ∈ vm_WS := vm_w3 166 rfl rfl
theorem ww_735 : (Cond.selects "BagCounts" ({ cls := "BagCounts", name := "restore", desc := "(I)I" } : Jvm.MethodName) ({ cls := "BagCounts", name := "restore", desc := "(I)I" } : Jvm.MethodName)) ∈ vm_WS := vm_w3 167 rfl rfl
theorem ww_736 : (Cond.code ({ cls := "BagCounts", name := "restore", desc := "(I)I" } : Jvm.MethodName) prog_1_method_22_code (2 : Nat) (Option.some Jvm.ClassFile.FieldType.int)) ∈ vm_WS := vm_w3 168 rfl rfl
theorem ww_739 : (Cond.methodLink "BagCountsLaw" (12 : Nat) ({ cls := "BagCountsModel", name := "<init>", desc := "()V" } : Jvm.MethodName)) ∈ vm_WS := vm_w3 171 rfl rfl
theorem ww_740 : (Cond.instanceMethod ({ cls := "BagCountsModel", name := "<init>", desc := "()V" } : Jvm.MethodName)) ∈ vm_WS := vm_w3 172 rfl rfl
theorem ww_741 : (Cond.code ({ cls := "BagCountsModel", name := "<init>", desc := "()V" } : Jvm.MethodName) prog_10_method_1_code (1 : Nat) (Option.none : Option Jvm.ClassFile.FieldType)) ∈ vm_WS := vm_w3 173 rfl rfl
theorem ww_742 : (Cond.methodLink "BagCountsModel" (1 : Nat) ({ cls := "java/lang/Object", name := "<init>", desc := "()V" } : Jvm.MethodName)) ∈ vm_WS := vm_w3 174 rfl rfl
theorem ww_743 : (Cond.fieldLink "BagCountsModel" (7 : Nat) "BagCountsModel" "at" "[I") ∈ vm_WS := vm_w3 175 rfl rfl
theorem ww_744 : (Cond.fieldLink "BagCountsModel" (13 : Nat) "BagCountsModel" "past" "[I") ∈ vm_WS := vm_w3 176 rfl rfl
theorem ww_745 : (Cond.fieldLink "BagCountsModel" (58 : Nat) "BagCountsModel" "pastFirst" "I") ∈ vm_WS := vm_w3 177 rfl rfl
theorem ww_746 : (Cond.fieldLink "BagCountsModel" (54 : Nat) "BagCountsModel" "pastMany" "I") ∈ vm_WS := vm_w3 178 rfl rfl
theorem ww_747 : (Cond.fieldLink "BagCountsModel" (16 : Nat) "BagCountsModel" "slots" "[I") ∈ vm_WS := vm_w3 179 rfl rfl
theorem ww_748 : (Cond.fieldLink "BagCountsModel" (19 : Nat) "BagCountsModel" "isSaved" "[Z") ∈ vm_WS := vm_w3 180 rfl rfl
theorem ww_749 : (Cond.fieldLink "BagCountsModel" (23 : Nat) "BagCountsModel" "lo" "[I") ∈ vm_WS := vm_w3 181 rfl rfl
theorem ww_750 : (Cond.fieldLink "BagCountsModel" (26 : Nat) "BagCountsModel" "hi" "[I") ∈ vm_WS := vm_w3 182 rfl rfl
theorem ww_751 : (Cond.fieldLink "BagCountsModel" (29 : Nat) "BagCountsModel" "extra" "[I") ∈ vm_WS := vm_w3 183 rfl rfl
theorem ww_752 : (Cond.fieldLink "BagCountsModel" (125 : Nat) "BagCountsModel" "extras" "I") ∈ vm_WS := vm_w3 184 rfl rfl
theorem ww_753 : (Cond.fieldLink "BagCountsModel" (115 : Nat) "BagCountsModel" "used" "I") ∈ vm_WS := vm_w3 185 rfl rfl
theorem ww_754 : (Cond.fieldLink "BagCountsModel" (64 : Nat) "BagCountsModel" "changed" "Z") ∈ vm_WS := vm_w3 186 rfl rfl
theorem ww_755 : (Cond.fieldLink "BagCountsModel" (139 : Nat) "BagCountsModel" "failed" "I") ∈ vm_WS := vm_w3 187 rfl rfl
theorem ww_756 : (Cond.fieldLink "BagCountsModel" (32 : Nat) "BagCountsModel" "wasLo" "[I") ∈ vm_WS := vm_w3 188 rfl rfl
theorem ww_757 : (Cond.fieldLink "BagCountsModel" (35 : Nat) "BagCountsModel" "wasHi" "[I") ∈ vm_WS := vm_w3 189 rfl rfl
theorem ww_758 : (Cond.fieldLink "BagCountsModel" (38 : Nat) "BagCountsModel" "tried" "[I") ∈ vm_WS := vm_w3 190 rfl rfl
theorem ww_759 : (Cond.fieldLink "BagCountsModel" (41 : Nat) "BagCountsModel" "first" "[I") ∈ vm_WS := vm_w3 191 rfl rfl
theorem ww_760 : (Cond.fieldLink "BagCountsModel" (44 : Nat) "BagCountsModel" "pad" "[I") ∈ vm_WS := vm_w3 192 rfl rfl
theorem ww_761 : (Cond.fieldLink "BagCountsModel" (210 : Nat) "BagCountsModel" "padMany" "I") ∈ vm_WS := vm_w3 193 rfl rfl
theorem ww_762 : (Cond.fieldLink "BagCountsModel" (238 : Nat) "BagCountsModel" "spot" "I") ∈ vm_WS := vm_w3 194 rfl rfl
theorem ww_763 : (Cond.fieldLink "BagCountsModel" (244 : Nat) "BagCountsModel" "isWrong" "Z") ∈ vm_WS := vm_w3 195 rfl rfl
theorem ww_764 : (Cond.fieldLink "BagCountsModel" (241 : Nat) "BagCountsModel" "read" "I") ∈ vm_WS := vm_w3 196 rfl rfl
theorem ww_765 : (Cond.fieldLink "BagCountsModel" (47 : Nat) "BagCountsModel" "numbers" "[I") ∈ vm_WS := vm_w3 197 rfl rfl
theorem ww_766 : (Cond.laysFinal "BagCountsModel" "BagCountsModel" "at" "[I") ∈ vm_WS := vm_w3 198 rfl rfl
theorem ww_768 : (Cond.laysFinal "BagCountsModel" "BagCountsModel" "past" "[I") ∈ vm_WS := vm_w3 200 rfl rfl
theorem ww_770 : (Cond.lays "BagCountsModel" "BagCountsModel" "pastFirst" "I") ∈ vm_WS := vm_w3 202 rfl rfl
theorem ww_772 : (Cond.lays "BagCountsModel" "BagCountsModel" "pastMany" "I") ∈ vm_WS := vm_w3 204 rfl rfl
theorem ww_774 : (Cond.laysFinal "BagCountsModel" "BagCountsModel" "slots" "[I") ∈ vm_WS := vm_w3 206 rfl rfl
theorem ww_776 : (Cond.laysFinal "BagCountsModel" "BagCountsModel" "isSaved" "[Z") ∈ vm_WS := vm_w3 208 rfl rfl
theorem ww_778 : (Cond.laysFinal "BagCountsModel" "BagCountsModel" "lo" "[I") ∈ vm_WS := vm_w3 210 rfl rfl
theorem ww_780 : (Cond.laysFinal "BagCountsModel" "BagCountsModel" "hi" "[I") ∈ vm_WS := vm_w3 212 rfl rfl
theorem ww_782 : (Cond.laysFinal "BagCountsModel" "BagCountsModel" "extra" "[I") ∈ vm_WS := vm_w3 214 rfl rfl
theorem ww_784 : (Cond.lays "BagCountsModel" "BagCountsModel" "extras" "I") ∈ vm_WS := vm_w3 216 rfl rfl
theorem ww_786 : (Cond.lays "BagCountsModel" "BagCountsModel" "used" "I") ∈ vm_WS := vm_w3 218 rfl rfl
theorem ww_788 : (Cond.lays "BagCountsModel" "BagCountsModel" "changed" "Z") ∈ vm_WS := vm_w3 220 rfl rfl
theorem ww_790 : (Cond.lays "BagCountsModel" "BagCountsModel" "failed" "I") ∈ vm_WS := vm_w3 222 rfl rfl
theorem ww_792 : (Cond.laysFinal "BagCountsModel" "BagCountsModel" "wasLo" "[I") ∈ vm_WS := vm_w3 224 rfl rfl
theorem ww_794 : (Cond.laysFinal "BagCountsModel" "BagCountsModel" "wasHi" "[I") ∈ vm_WS := vm_w3 226 rfl rfl
theorem ww_796 : (Cond.laysFinal "BagCountsModel" "BagCountsModel" "tried" "[I") ∈ vm_WS := vm_w3 228 rfl rfl
theorem ww_798 : (Cond.laysFinal "BagCountsModel" "BagCountsModel" "first" "[I") ∈ vm_WS := vm_w3 230 rfl rfl
theorem ww_800 : (Cond.laysFinal "BagCountsModel" "BagCountsModel" "pad" "[I") ∈ vm_WS := vm_w3 232 rfl rfl
theorem ww_802 : (Cond.lays "BagCountsModel" "BagCountsModel" "padMany" "I") ∈ vm_WS := vm_w3 234 rfl rfl
theorem ww_804 : (Cond.lays "BagCountsModel" "BagCountsModel" "spot" "I") ∈ vm_WS := vm_w3 236 rfl rfl
theorem ww_806 : (Cond.lays "BagCountsModel" "BagCountsModel" "isWrong" "Z") ∈ vm_WS := vm_w3 238 rfl rfl
theorem ww_808 : (Cond.lays "BagCountsModel" "BagCountsModel" "read" "I") ∈ vm_WS := vm_w4 0 rfl rfl
theorem ww_810 : (Cond.laysFinal "BagCountsModel" "BagCountsModel" "numbers" "[I") ∈ vm_WS := vm_w4 2 rfl rfl
theorem ww_813 : (Cond.arrayClass Jvm.ClassFile.FieldType.boolean) ∈ vm_WS := vm_w4 5 rfl rfl
theorem ww_814 : (Cond.methodLink "BagCountsLaw" (17 : Nat) ({ cls := "BagCountsModel", name := "most", desc := "(I)I" } : Jvm.MethodName)) ∈ vm_WS := vm_w4 6 rfl rfl
theorem ww_815 : (Cond.instanceMethod ({ cls := "BagCountsModel", name := "most", desc := "(I)I" } : Jvm.MethodName)) ∈ vm_WS := vm_w4 7 rfl rfl
theorem ww_816 : (Cond.selects "BagCountsModel" ({ cls := "BagCountsModel", name := "most", desc := "(I)I" } : Jvm.MethodName) ({ cls := "BagCountsModel", name := "most", desc := "(I)I" } : Jvm.MethodName)) ∈ vm_WS := vm_w4 8 rfl rfl
theorem ww_817 : (Cond.code ({ cls := "BagCountsModel", name := "most", desc := "(I)I" } : Jvm.MethodName) prog_10_method_44_code (3 : Nat) (Option.some Jvm.ClassFile.FieldType.int)) ∈ vm_WS := vm_w4 9 rfl rfl
theorem ww_818 : (Cond.methodLink "BagCountsModel" (50 : Nat) ({ cls := "BagCountsModel", name := "in", desc := "(III)Z" } : Jvm.MethodName)) ∈ vm_WS := vm_w4 10 rfl rfl
theorem ww_819 : (Cond.static ({ cls := "BagCountsModel", name := "in", desc := "(III)Z" } : Jvm.MethodName)) ∈ vm_WS := vm_w4 11 rfl rfl
theorem ww_820 : (Cond.code ({ cls := "BagCountsModel", name := "in", desc := "(III)Z" } : Jvm.MethodName) prog_10_method_3_code (3 : Nat) (Option.some Jvm.ClassFile.FieldType.boolean)) ∈ vm_WS := vm_w4 12 rfl rfl
theorem ww_821 : (Cond.methodLink "BagCountsModel" (61 : Nat) ({ cls := "BagCountsModel", name := "keep", desc := "()V" } : Jvm.MethodName)) ∈ vm_WS := vm_w4 13 rfl rfl
theorem ww_823 : (Cond.instanceMethod ({ cls := "BagCountsModel", name := "keep", desc := "()V" } : Jvm.MethodName)) ∈ vm_WS := vm_w4 15 rfl rfl
theorem ww_824 : (Cond.code ({ cls := "BagCountsModel", name := "keep", desc := "()V" } : Jvm.MethodName) prog_10_method_8_code (3 : Nat) (Option.none : Option Jvm.ClassFile.FieldType)) ∈ vm_WS := vm_w4 16 rfl rfl
theorem ww_825 : (Cond.methodLink "BagCountsLaw" (22 : Nat) ({ cls := "BagCountsModel", name := "fact", desc := "(IIIIII)I" } : Jvm.MethodName)) ∈ vm_WS := vm_w4 17 rfl rfl
theorem ww_826 : (Cond.instanceMethod ({ cls := "BagCountsModel", name := "fact", desc := "(IIIIII)I" } : Jvm.MethodName)) ∈ vm_WS := vm_w4 18 rfl rfl
theorem ww_827 : (Cond.selects "BagCountsModel" ({ cls := "BagCountsModel", name := "fact", desc := "(IIIIII)I" } : Jvm.MethodName) ({ cls := "BagCountsModel", name := "fact", desc := "(IIIIII)I" } : Jvm.MethodName)) ∈ vm_WS := vm_w4 19 rfl rfl
theorem ww_828 : (Cond.code ({ cls := "BagCountsModel", name := "fact", desc := "(IIIIII)I" } : Jvm.MethodName) prog_10_method_46_code (7 : Nat) (Option.some Jvm.ClassFile.FieldType.int)) ∈ vm_WS := vm_w4 20 rfl rfl
theorem ww_829 : (Cond.methodLink "BagCountsModel" (203 : Nat) ({ cls := "BagCountsModel", name := "tryFact", desc := "(IIIIIIZ)I" } : Jvm.MethodName)) ∈ vm_WS := vm_w4 21 rfl rfl
theorem ww_831 : (Cond.instanceMethod ({ cls := "BagCountsModel", name := "tryFact", desc := "(IIIIIIZ)I" } : Jvm.MethodName)) ∈ vm_WS := vm_w4 23 rfl rfl
theorem ww_832 : (Cond.code ({ cls := "BagCountsModel", name := "tryFact", desc := "(IIIIIIZ)I" } : Jvm.MethodName) prog_10_method_45_code (9 : Nat) (Option.some Jvm.ClassFile.FieldType.int)) ∈ vm_WS := vm_w4 24 rfl rfl
theorem ww_833 : (Cond.methodLink "BagCountsModel" (196 : Nat) ({ cls := "BagCountsModel", name := "isFact", desc := "(IIIIII)Z" } : Jvm.MethodName)) ∈ vm_WS := vm_w4 25 rfl rfl
theorem ww_834 : (Cond.static ({ cls := "BagCountsModel", name := "isFact", desc := "(IIIIII)Z" } : Jvm.MethodName)) ∈ vm_WS := vm_w4 26 rfl rfl
theorem ww_835 : (Cond.code ({ cls := "BagCountsModel", name := "isFact", desc := "(IIIIII)Z" } : Jvm.MethodName) prog_10_method_43_code (6 : Nat) (Option.some Jvm.ClassFile.FieldType.boolean)) ∈ vm_WS := vm_w4 27 rfl rfl
theorem ww_836 : (Cond.methodLink "BagCountsModel" (190 : Nat) ({ cls := "BagCountsModel", name := "isBag", desc := "(I)Z" } : Jvm.MethodName)) ∈ vm_WS := vm_w4 28 rfl rfl
theorem ww_837 : (Cond.static ({ cls := "BagCountsModel", name := "isBag", desc := "(I)Z" } : Jvm.MethodName)) ∈ vm_WS := vm_w4 29 rfl rfl
theorem ww_838 : (Cond.code ({ cls := "BagCountsModel", name := "isBag", desc := "(I)Z" } : Jvm.MethodName) prog_10_method_4_code (1 : Nat) (Option.some Jvm.ClassFile.FieldType.boolean)) ∈ vm_WS := vm_w4 30 rfl rfl
theorem ww_839 : (Cond.methodLink "BagCountsModel" (193 : Nat) ({ cls := "BagCountsModel", name := "isKind", desc := "(I)Z" } : Jvm.MethodName)) ∈ vm_WS := vm_w4 31 rfl rfl
theorem ww_840 : (Cond.static ({ cls := "BagCountsModel", name := "isKind", desc := "(I)Z" } : Jvm.MethodName)) ∈ vm_WS := vm_w4 32 rfl rfl
theorem ww_841 : (Cond.code ({ cls := "BagCountsModel", name := "isKind", desc := "(I)Z" } : Jvm.MethodName) prog_10_method_5_code (1 : Nat) (Option.some Jvm.ClassFile.FieldType.boolean)) ∈ vm_WS := vm_w4 33 rfl rfl
theorem ww_842 : (Cond.methodLink "BagCountsModel" (199 : Nat) ({ cls := "BagCountsModel", name := "keepIf", desc := "(Z)V" } : Jvm.MethodName)) ∈ vm_WS := vm_w4 34 rfl rfl
theorem ww_844 : (Cond.instanceMethod ({ cls := "BagCountsModel", name := "keepIf", desc := "(Z)V" } : Jvm.MethodName)) ∈ vm_WS := vm_w4 36 rfl rfl
theorem ww_845 : (Cond.code ({ cls := "BagCountsModel", name := "keepIf", desc := "(Z)V" } : Jvm.MethodName) prog_10_method_9_code (2 : Nat) (Option.none : Option Jvm.ClassFile.FieldType)) ∈ vm_WS := vm_w4 37 rfl rfl
theorem ww_846 : (Cond.methodLink "BagCountsLaw" (26 : Nat) ({ cls := "BagCountsModel", name := "drop", desc := "(I)I" } : Jvm.MethodName)) ∈ vm_WS := vm_w4 38 rfl rfl
theorem ww_847 : (Cond.instanceMethod ({ cls := "BagCountsModel", name := "drop", desc := "(I)I" } : Jvm.MethodName)) ∈ vm_WS := vm_w4 39 rfl rfl
theorem ww_848 : (Cond.selects "BagCountsModel" ({ cls := "BagCountsModel", name := "drop", desc := "(I)I" } : Jvm.MethodName) ({ cls := "BagCountsModel", name := "drop", desc := "(I)I" } : Jvm.MethodName)) ∈ vm_WS := vm_w4 40 rfl rfl
theorem ww_849 : (Cond.code ({ cls := "BagCountsModel", name := "drop", desc := "(I)I" } : Jvm.MethodName) prog_10_method_48_code (3 : Nat) (Option.some Jvm.ClassFile.FieldType.int)) ∈ vm_WS := vm_w4 41 rfl rfl
theorem ww_850 : (Cond.methodLink "BagCountsModel" (207 : Nat) ({ cls := "BagCountsModel", name := "isToldFact", desc := "(I)Z" } : Jvm.MethodName)) ∈ vm_WS := vm_w4 42 rfl rfl
theorem ww_852 : (Cond.instanceMethod ({ cls := "BagCountsModel", name := "isToldFact", desc := "(I)Z" } : Jvm.MethodName)) ∈ vm_WS := vm_w4 44 rfl rfl
theorem ww_853 : (Cond.code ({ cls := "BagCountsModel", name := "isToldFact", desc := "(I)Z" } : Jvm.MethodName) prog_10_method_47_code (2 : Nat) (Option.some Jvm.ClassFile.FieldType.boolean)) ∈ vm_WS := vm_w4 45 rfl rfl
theorem ww_854 : (Cond.methodLink "BagCountsLaw" (31 : Nat) ({ cls := "BagCountsModel", name := "ofFact", desc := "(II)I" } : Jvm.MethodName)) ∈ vm_WS := vm_w4 46 rfl rfl
theorem ww_855 : (Cond.instanceMethod ({ cls := "BagCountsModel", name := "ofFact", desc := "(II)I" } : Jvm.MethodName)) ∈ vm_WS := vm_w4 47 rfl rfl
theorem ww_856 : (Cond.selects "BagCountsModel" ({ cls := "BagCountsModel", name := "ofFact", desc := "(II)I" } : Jvm.MethodName) ({ cls := "BagCountsModel", name := "ofFact", desc := "(II)I" } : Jvm.MethodName)) ∈ vm_WS := vm_w4 48 rfl rfl
theorem ww_857 : (Cond.code ({ cls := "BagCountsModel", name := "ofFact", desc := "(II)I" } : Jvm.MethodName) prog_10_method_49_code (3 : Nat) (Option.some Jvm.ClassFile.FieldType.int)) ∈ vm_WS := vm_w4 49 rfl rfl
theorem ww_858 : (Cond.methodLink "BagCountsModel" (118 : Nat) ({ cls := "BagCountsModel", name := "of", desc := "(II)I" } : Jvm.MethodName)) ∈ vm_WS := vm_w4 50 rfl rfl
theorem ww_860 : (Cond.instanceMethod ({ cls := "BagCountsModel", name := "of", desc := "(II)I" } : Jvm.MethodName)) ∈ vm_WS := vm_w4 52 rfl rfl
theorem ww_861 : (Cond.code ({ cls := "BagCountsModel", name := "of", desc := "(II)I" } : Jvm.MethodName) prog_10_method_6_code (3 : Nat) (Option.some Jvm.ClassFile.FieldType.int)) ∈ vm_WS := vm_w4 53 rfl rfl
theorem ww_862 : (Cond.methodLink "BagCountsLaw" (35 : Nat) ({ cls := "BagCountsModel", name := "count", desc := "(I)I" } : Jvm.MethodName)) ∈ vm_WS := vm_w4 54 rfl rfl
theorem ww_863 : (Cond.instanceMethod ({ cls := "BagCountsModel", name := "count", desc := "(I)I" } : Jvm.MethodName)) ∈ vm_WS := vm_w4 55 rfl rfl
theorem ww_864 : (Cond.selects "BagCountsModel" ({ cls := "BagCountsModel", name := "count", desc := "(I)I" } : Jvm.MethodName) ({ cls := "BagCountsModel", name := "count", desc := "(I)I" } : Jvm.MethodName)) ∈ vm_WS := vm_w4 56 rfl rfl
theorem ww_865 : (Cond.code ({ cls := "BagCountsModel", name := "count", desc := "(I)I" } : Jvm.MethodName) prog_10_method_50_code (2 : Nat) (Option.some Jvm.ClassFile.FieldType.int)) ∈ vm_WS := vm_w4 57 rfl rfl
theorem ww_866 : (Cond.methodLink "BagCountsLaw" (40 : Nat) ({ cls := "BagCountsModel", name := "isPossible", desc := "()I" } : Jvm.MethodName)) ∈ vm_WS := vm_w4 58 rfl rfl
theorem ww_867 : (Cond.instanceMethod ({ cls := "BagCountsModel", name := "isPossible", desc := "()I" } : Jvm.MethodName)) ∈ vm_WS := vm_w4 59 rfl rfl
theorem ww_868 : (Cond.selects "BagCountsModel" ({ cls := "BagCountsModel", name := "isPossible", desc := "()I" } : Jvm.MethodName) ({ cls := "BagCountsModel", name := "isPossible", desc := "()I" } : Jvm.MethodName)) ∈ vm_WS := vm_w4 60 rfl rfl
theorem ww_869 : (Cond.code ({ cls := "BagCountsModel", name := "isPossible", desc := "()I" } : Jvm.MethodName) prog_10_method_51_code (1 : Nat) (Option.some Jvm.ClassFile.FieldType.int)) ∈ vm_WS := vm_w4 61 rfl rfl
theorem ww_870 : (Cond.methodLink "BagCountsModel" (213 : Nat) ({ cls := "BagCountsModel", name := "isSolvedNow", desc := "()Z" } : Jvm.MethodName)) ∈ vm_WS := vm_w4 62 rfl rfl
theorem ww_872 : (Cond.instanceMethod ({ cls := "BagCountsModel", name := "isSolvedNow", desc := "()Z" } : Jvm.MethodName)) ∈ vm_WS := vm_w4 64 rfl rfl
theorem ww_873 : (Cond.code ({ cls := "BagCountsModel", name := "isSolvedNow", desc := "()Z" } : Jvm.MethodName) prog_10_method_37_code (1 : Nat) (Option.some Jvm.ClassFile.FieldType.boolean)) ∈ vm_WS := vm_w4 65 rfl rfl
theorem ww_874 : (Cond.methodLink "BagCountsModel" (167 : Nat) ({ cls := "BagCountsModel", name := "allFacts", desc := "()I" } : Jvm.MethodName)) ∈ vm_WS := vm_w4 66 rfl rfl
theorem ww_876 : (Cond.instanceMethod ({ cls := "BagCountsModel", name := "allFacts", desc := "()I" } : Jvm.MethodName)) ∈ vm_WS := vm_w4 68 rfl rfl
theorem ww_877 : (Cond.code ({ cls := "BagCountsModel", name := "allFacts", desc := "()I" } : Jvm.MethodName) prog_10_method_7_code (1 : Nat) (Option.some Jvm.ClassFile.FieldType.int)) ∈ vm_WS := vm_w4 69 rfl rfl
theorem ww_878 : (Cond.methodLink "BagCountsModel" (171 : Nat) ({ cls := "BagCountsModel", name := "isSolved", desc := "(I)Z" } : Jvm.MethodName)) ∈ vm_WS := vm_w4 70 rfl rfl
theorem ww_880 : (Cond.instanceMethod ({ cls := "BagCountsModel", name := "isSolved", desc := "(I)Z" } : Jvm.MethodName)) ∈ vm_WS := vm_w4 72 rfl rfl
theorem ww_881 : (Cond.code ({ cls := "BagCountsModel", name := "isSolved", desc := "(I)Z" } : Jvm.MethodName) prog_10_method_36_code (2 : Nat) (Option.some Jvm.ClassFile.FieldType.boolean)) ∈ vm_WS := vm_w4 73 rfl rfl
theorem ww_882 : (Cond.methodLink "BagCountsModel" (161 : Nat) ({ cls := "BagCountsModel", name := "layAll", desc := "()V" } : Jvm.MethodName)) ∈ vm_WS := vm_w4 74 rfl rfl
theorem ww_884 : (Cond.instanceMethod ({ cls := "BagCountsModel", name := "layAll", desc := "()V" } : Jvm.MethodName)) ∈ vm_WS := vm_w4 76 rfl rfl
theorem ww_885 : (Cond.code ({ cls := "BagCountsModel", name := "layAll", desc := "()V" } : Jvm.MethodName) prog_10_method_34_code (2 : Nat) (Option.none : Option Jvm.ClassFile.FieldType)) ∈ vm_WS := vm_w4 77 rfl rfl
theorem ww_886 : (Cond.methodLink "BagCountsModel" (164 : Nat) ({ cls := "BagCountsModel", name := "isSolvedByParts", desc := "()Z" } : Jvm.MethodName)) ∈ vm_WS := vm_w4 78 rfl rfl
theorem ww_888 : (Cond.instanceMethod ({ cls := "BagCountsModel", name := "isSolvedByParts", desc := "()Z" } : Jvm.MethodName)) ∈ vm_WS := vm_w4 80 rfl rfl
theorem ww_889 : (Cond.code ({ cls := "BagCountsModel", name := "isSolvedByParts", desc := "()Z" } : Jvm.MethodName) prog_10_method_35_code (5 : Nat) (Option.some Jvm.ClassFile.FieldType.boolean)) ∈ vm_WS := vm_w4 81 rfl rfl
theorem ww_890 : (Cond.methodLink "BagCountsModel" (142 : Nat) ({ cls := "BagCountsModel", name := "narrow", desc := "()Z" } : Jvm.MethodName)) ∈ vm_WS := vm_w4 82 rfl rfl
theorem ww_892 : (Cond.instanceMethod ({ cls := "BagCountsModel", name := "narrow", desc := "()Z" } : Jvm.MethodName)) ∈ vm_WS := vm_w4 84 rfl rfl
theorem ww_893 : (Cond.code ({ cls := "BagCountsModel", name := "narrow", desc := "()Z" } : Jvm.MethodName) prog_10_method_25_code (3 : Nat) (Option.some Jvm.ClassFile.FieldType.boolean)) ∈ vm_WS := vm_w4 85 rfl rfl
theorem ww_894 : (Cond.methodLink "BagCountsModel" (111 : Nat) ({ cls := "BagCountsModel", name := "isEmpty", desc := "()Z" } : Jvm.MethodName)) ∈ vm_WS := vm_w4 86 rfl rfl
theorem ww_896 : (Cond.instanceMethod ({ cls := "BagCountsModel", name := "isEmpty", desc := "()Z" } : Jvm.MethodName)) ∈ vm_WS := vm_w4 88 rfl rfl
theorem ww_897 : (Cond.code ({ cls := "BagCountsModel", name := "isEmpty", desc := "()Z" } : Jvm.MethodName) prog_10_method_24_code (3 : Nat) (Option.some Jvm.ClassFile.FieldType.boolean)) ∈ vm_WS := vm_w4 89 rfl rfl
theorem ww_898 : (Cond.methodLink "BagCountsModel" (121 : Nat) ({ cls := "BagCountsModel", name := "narrowBy", desc := "(IIIIII)V" } : Jvm.MethodName)) ∈ vm_WS := vm_w4 90 rfl rfl
theorem ww_900 : (Cond.instanceMethod ({ cls := "BagCountsModel", name := "narrowBy", desc := "(IIIIII)V" } : Jvm.MethodName)) ∈ vm_WS := vm_w4 92 rfl rfl
theorem ww_901 : (Cond.code ({ cls := "BagCountsModel", name := "narrowBy", desc := "(IIIIII)V" } : Jvm.MethodName) prog_10_method_23_code (8 : Nat) (Option.none : Option Jvm.ClassFile.FieldType)) ∈ vm_WS := vm_w4 93 rfl rfl
theorem ww_902 : (Cond.methodLink "BagCountsModel" (68 : Nat) ({ cls := "BagCountsModel", name := "raise", desc := "(II)V" } : Jvm.MethodName)) ∈ vm_WS := vm_w4 94 rfl rfl
theorem ww_904 : (Cond.instanceMethod ({ cls := "BagCountsModel", name := "raise", desc := "(II)V" } : Jvm.MethodName)) ∈ vm_WS := vm_w4 96 rfl rfl
theorem ww_905 : (Cond.code ({ cls := "BagCountsModel", name := "raise", desc := "(II)V" } : Jvm.MethodName) prog_10_method_10_code (3 : Nat) (Option.none : Option Jvm.ClassFile.FieldType)) ∈ vm_WS := vm_w4 97 rfl rfl
theorem ww_906 : (Cond.methodLink "BagCountsModel" (72 : Nat) ({ cls := "BagCountsModel", name := "lower", desc := "(II)V" } : Jvm.MethodName)) ∈ vm_WS := vm_w4 98 rfl rfl
theorem ww_908 : (Cond.instanceMethod ({ cls := "BagCountsModel", name := "lower", desc := "(II)V" } : Jvm.MethodName)) ∈ vm_WS := vm_w4 100 rfl rfl
theorem ww_909 : (Cond.code ({ cls := "BagCountsModel", name := "lower", desc := "(II)V" } : Jvm.MethodName) prog_10_method_11_code (3 : Nat) (Option.none : Option Jvm.ClassFile.FieldType)) ∈ vm_WS := vm_w4 101 rfl rfl
theorem ww_910 : (Cond.methodLink "BagCountsModel" (98 : Nat) ({ cls := "BagCountsModel", name := "narrowSize", desc := "(III)V" } : Jvm.MethodName)) ∈ vm_WS := vm_w4 102 rfl rfl
theorem ww_912 : (Cond.instanceMethod ({ cls := "BagCountsModel", name := "narrowSize", desc := "(III)V" } : Jvm.MethodName)) ∈ vm_WS := vm_w4 104 rfl rfl
theorem ww_913 : (Cond.code ({ cls := "BagCountsModel", name := "narrowSize", desc := "(III)V" } : Jvm.MethodName) prog_10_method_14_code (10 : Nat) (Option.none : Option Jvm.ClassFile.FieldType)) ∈ vm_WS := vm_w4 105 rfl rfl
theorem ww_914 : (Cond.methodLink "BagCountsModel" (78 : Nat) ({ cls := "BagCountsModel", name := "narrowMore", desc := "(III)V" } : Jvm.MethodName)) ∈ vm_WS := vm_w4 106 rfl rfl
theorem ww_916 : (Cond.instanceMethod ({ cls := "BagCountsModel", name := "narrowMore", desc := "(III)V" } : Jvm.MethodName)) ∈ vm_WS := vm_w4 108 rfl rfl
theorem ww_917 : (Cond.code ({ cls := "BagCountsModel", name := "narrowMore", desc := "(III)V" } : Jvm.MethodName) prog_10_method_19_code (4 : Nat) (Option.none : Option Jvm.ClassFile.FieldType)) ∈ vm_WS := vm_w4 109 rfl rfl
theorem ww_918 : (Cond.methodLink "BagCountsModel" (101 : Nat) ({ cls := "BagCountsModel", name := "narrowBelow", desc := "(III)V" } : Jvm.MethodName)) ∈ vm_WS := vm_w4 110 rfl rfl
theorem ww_920 : (Cond.instanceMethod ({ cls := "BagCountsModel", name := "narrowBelow", desc := "(III)V" } : Jvm.MethodName)) ∈ vm_WS := vm_w4 112 rfl rfl
theorem ww_921 : (Cond.code ({ cls := "BagCountsModel", name := "narrowBelow", desc := "(III)V" } : Jvm.MethodName) prog_10_method_20_code (4 : Nat) (Option.none : Option Jvm.ClassFile.FieldType)) ∈ vm_WS := vm_w4 113 rfl rfl
theorem ww_922 : (Cond.methodLink "BagCountsModel" (104 : Nat) ({ cls := "BagCountsModel", name := "narrowAbove", desc := "(III)V" } : Jvm.MethodName)) ∈ vm_WS := vm_w4 114 rfl rfl
theorem ww_924 : (Cond.instanceMethod ({ cls := "BagCountsModel", name := "narrowAbove", desc := "(III)V" } : Jvm.MethodName)) ∈ vm_WS := vm_w4 116 rfl rfl
theorem ww_925 : (Cond.code ({ cls := "BagCountsModel", name := "narrowAbove", desc := "(III)V" } : Jvm.MethodName) prog_10_method_21_code (4 : Nat) (Option.none : Option Jvm.ClassFile.FieldType)) ∈ vm_WS := vm_w4 117 rfl rfl
theorem ww_926 : (Cond.methodLink "BagCountsModel" (107 : Nat) ({ cls := "BagCountsModel", name := "narrowKind", desc := "(IIII)V" } : Jvm.MethodName)) ∈ vm_WS := vm_w4 118 rfl rfl
theorem ww_928 : (Cond.instanceMethod ({ cls := "BagCountsModel", name := "narrowKind", desc := "(IIII)V" } : Jvm.MethodName)) ∈ vm_WS := vm_w4 120 rfl rfl
theorem ww_929 : (Cond.code ({ cls := "BagCountsModel", name := "narrowKind", desc := "(IIII)V" } : Jvm.MethodName) prog_10_method_22_code (5 : Nat) (Option.none : Option Jvm.ClassFile.FieldType)) ∈ vm_WS := vm_w4 121 rfl rfl
theorem ww_930 : (Cond.methodLink "BagCountsModel" (89 : Nat) ({ cls := "BagCountsModel", name := "narrowSum", desc := "(III)V" } : Jvm.MethodName)) ∈ vm_WS := vm_w4 122 rfl rfl
theorem ww_932 : (Cond.instanceMethod ({ cls := "BagCountsModel", name := "narrowSum", desc := "(III)V" } : Jvm.MethodName)) ∈ vm_WS := vm_w4 124 rfl rfl
theorem ww_933 : (Cond.code ({ cls := "BagCountsModel", name := "narrowSum", desc := "(III)V" } : Jvm.MethodName) prog_10_method_16_code (4 : Nat) (Option.none : Option Jvm.ClassFile.FieldType)) ∈ vm_WS := vm_w4 125 rfl rfl
theorem ww_934 : (Cond.methodLink "BagCountsModel" (75 : Nat) ({ cls := "BagCountsModel", name := "narrowTwice", desc := "(II)V" } : Jvm.MethodName)) ∈ vm_WS := vm_w4 126 rfl rfl
theorem ww_936 : (Cond.instanceMethod ({ cls := "BagCountsModel", name := "narrowTwice", desc := "(II)V" } : Jvm.MethodName)) ∈ vm_WS := vm_w4 128 rfl rfl
theorem ww_937 : (Cond.code ({ cls := "BagCountsModel", name := "narrowTwice", desc := "(II)V" } : Jvm.MethodName) prog_10_method_15_code (3 : Nat) (Option.none : Option Jvm.ClassFile.FieldType)) ∈ vm_WS := vm_w4 129 rfl rfl
theorem ww_938 : (Cond.methodLink "BagCountsModel" (92 : Nat) ({ cls := "BagCountsModel", name := "narrowGreatest", desc := "(III)V" } : Jvm.MethodName)) ∈ vm_WS := vm_w4 130 rfl rfl
theorem ww_940 : (Cond.instanceMethod ({ cls := "BagCountsModel", name := "narrowGreatest", desc := "(III)V" } : Jvm.MethodName)) ∈ vm_WS := vm_w4 132 rfl rfl
theorem ww_941 : (Cond.code ({ cls := "BagCountsModel", name := "narrowGreatest", desc := "(III)V" } : Jvm.MethodName) prog_10_method_17_code (4 : Nat) (Option.none : Option Jvm.ClassFile.FieldType)) ∈ vm_WS := vm_w4 133 rfl rfl
theorem ww_942 : (Cond.methodLink "BagCountsModel" (82 : Nat) ({ cls := "BagCountsModel", name := "greater", desc := "(II)I" } : Jvm.MethodName)) ∈ vm_WS := vm_w4 134 rfl rfl
theorem ww_943 : (Cond.static ({ cls := "BagCountsModel", name := "greater", desc := "(II)I" } : Jvm.MethodName)) ∈ vm_WS := vm_w4 135 rfl rfl
theorem ww_944 : (Cond.code ({ cls := "BagCountsModel", name := "greater", desc := "(II)I" } : Jvm.MethodName) prog_10_method_13_code (2 : Nat) (Option.some Jvm.ClassFile.FieldType.int)) ∈ vm_WS := vm_w4 136 rfl rfl
theorem ww_945 : (Cond.methodLink "BagCountsModel" (95 : Nat) ({ cls := "BagCountsModel", name := "narrowLeast", desc := "(III)V" } : Jvm.MethodName)) ∈ vm_WS := vm_w4 137 rfl rfl
theorem ww_947 : (Cond.instanceMethod ({ cls := "BagCountsModel", name := "narrowLeast", desc := "(III)V" } : Jvm.MethodName)) ∈ vm_WS := vm_w4 139 rfl rfl
theorem ww_948 : (Cond.code ({ cls := "BagCountsModel", name := "narrowLeast", desc := "(III)V" } : Jvm.MethodName) prog_10_method_18_code (4 : Nat) (Option.none : Option Jvm.ClassFile.FieldType)) ∈ vm_WS := vm_w4 140 rfl rfl
theorem ww_949 : (Cond.methodLink "BagCountsModel" (86 : Nat) ({ cls := "BagCountsModel", name := "lesser", desc := "(II)I" } : Jvm.MethodName)) ∈ vm_WS := vm_w4 141 rfl rfl
theorem ww_950 : (Cond.static ({ cls := "BagCountsModel", name := "lesser", desc := "(II)I" } : Jvm.MethodName)) ∈ vm_WS := vm_w4 142 rfl rfl
theorem ww_951 : (Cond.code ({ cls := "BagCountsModel", name := "lesser", desc := "(II)I" } : Jvm.MethodName) prog_10_method_12_code (2 : Nat) (Option.some Jvm.ClassFile.FieldType.int)) ∈ vm_WS := vm_w4 143 rfl rfl
theorem ww_952 : (Cond.methodLink "BagCountsModel" (155 : Nat) ({ cls := "BagCountsModel", name := "part", desc := "(I)I" } : Jvm.MethodName)) ∈ vm_WS := vm_w4 144 rfl rfl
theorem ww_954 : (Cond.instanceMethod ({ cls := "BagCountsModel", name := "part", desc := "(I)I" } : Jvm.MethodName)) ∈ vm_WS := vm_w4 146 rfl rfl
theorem ww_955 : (Cond.code ({ cls := "BagCountsModel", name := "part", desc := "(I)I" } : Jvm.MethodName) prog_10_method_29_code (5 : Nat) (Option.some Jvm.ClassFile.FieldType.int)) ∈ vm_WS := vm_w4 147 rfl rfl
theorem ww_956 : (Cond.methodLink "BagCountsModel" (136 : Nat) ({ cls := "BagCountsModel", name := "joinedTo", desc := "(I)I" } : Jvm.MethodName)) ∈ vm_WS := vm_w4 148 rfl rfl
theorem ww_958 : (Cond.instanceMethod ({ cls := "BagCountsModel", name := "joinedTo", desc := "(I)I" } : Jvm.MethodName)) ∈ vm_WS := vm_w4 150 rfl rfl
theorem ww_959 : (Cond.code ({ cls := "BagCountsModel", name := "joinedTo", desc := "(I)I" } : Jvm.MethodName) prog_10_method_28_code (5 : Nat) (Option.some Jvm.ClassFile.FieldType.int)) ∈ vm_WS := vm_w4 151 rfl rfl
theorem ww_960 : (Cond.methodLink "BagCountsModel" (132 : Nat) ({ cls := "BagCountsModel", name := "joined", desc := "(IIIIII)I" } : Jvm.MethodName)) ∈ vm_WS := vm_w4 152 rfl rfl
theorem ww_961 : (Cond.static ({ cls := "BagCountsModel", name := "joined", desc := "(IIIIII)I" } : Jvm.MethodName)) ∈ vm_WS := vm_w4 153 rfl rfl
theorem ww_962 : (Cond.code ({ cls := "BagCountsModel", name := "joined", desc := "(IIIIII)I" } : Jvm.MethodName) prog_10_method_27_code (8 : Nat) (Option.some Jvm.ClassFile.FieldType.int)) ∈ vm_WS := vm_w4 154 rfl rfl
theorem ww_963 : (Cond.methodLink "BagCountsModel" (128 : Nat) ({ cls := "BagCountsModel", name := "bagBit", desc := "(I)I" } : Jvm.MethodName)) ∈ vm_WS := vm_w4 155 rfl rfl
theorem ww_964 : (Cond.static ({ cls := "BagCountsModel", name := "bagBit", desc := "(I)I" } : Jvm.MethodName)) ∈ vm_WS := vm_w4 156 rfl rfl
theorem ww_965 : (Cond.code ({ cls := "BagCountsModel", name := "bagBit", desc := "(I)I" } : Jvm.MethodName) prog_10_method_26_code (1 : Nat) (Option.some Jvm.ClassFile.FieldType.int)) ∈ vm_WS := vm_w4 157 rfl rfl
theorem ww_966 : (Cond.methodLink "BagCountsModel" (158 : Nat) ({ cls := "BagCountsModel", name := "search", desc := "(II)I" } : Jvm.MethodName)) ∈ vm_WS := vm_w4 158 rfl rfl
theorem ww_968 : (Cond.instanceMethod ({ cls := "BagCountsModel", name := "search", desc := "(II)I" } : Jvm.MethodName)) ∈ vm_WS := vm_w4 160 rfl rfl
theorem ww_969 : (Cond.code ({ cls := "BagCountsModel", name := "search", desc := "(II)I" } : Jvm.MethodName) prog_10_method_33_code (9 : Nat) (Option.some Jvm.ClassFile.FieldType.int)) ∈ vm_WS := vm_w4 161 rfl rfl
theorem ww_970 : (Cond.methodLink "BagCountsModel" (145 : Nat) ({ cls := "BagCountsModel", name := "narrowest", desc := "(I)I" } : Jvm.MethodName)) ∈ vm_WS := vm_w4 162 rfl rfl
theorem ww_972 : (Cond.instanceMethod ({ cls := "BagCountsModel", name := "narrowest", desc := "(I)I" } : Jvm.MethodName)) ∈ vm_WS := vm_w4 164 rfl rfl
theorem ww_973 : (Cond.code ({ cls := "BagCountsModel", name := "narrowest", desc := "(I)I" } : Jvm.MethodName) prog_10_method_30_code (4 : Nat) (Option.some Jvm.ClassFile.FieldType.int)) ∈ vm_WS := vm_w4 165 rfl rfl
theorem ww_974 : (Cond.methodLink "BagCountsModel" (148 : Nat) ({ cls := "BagCountsModel", name := "push", desc := "(I)V" } : Jvm.MethodName)) ∈ vm_WS := vm_w4 166 rfl rfl
theorem ww_976 : (Cond.instanceMethod ({ cls := "BagCountsModel", name := "push", desc := "(I)V" } : Jvm.MethodName)) ∈ vm_WS := vm_w4 168 rfl rfl
theorem ww_977 : (Cond.code ({ cls := "BagCountsModel", name := "push", desc := "(I)V" } : Jvm.MethodName) prog_10_method_31_code (3 : Nat) (Option.none : Option Jvm.ClassFile.FieldType)) ∈ vm_WS := vm_w4 169 rfl rfl
theorem ww_978 : (Cond.methodLink "BagCountsModel" (152 : Nat) ({ cls := "BagCountsModel", name := "pull", desc := "(I)V" } : Jvm.MethodName)) ∈ vm_WS := vm_w4 170 rfl rfl
theorem ww_980 : (Cond.instanceMethod ({ cls := "BagCountsModel", name := "pull", desc := "(I)V" } : Jvm.MethodName)) ∈ vm_WS := vm_w4 172 rfl rfl
theorem ww_981 : (Cond.code ({ cls := "BagCountsModel", name := "pull", desc := "(I)V" } : Jvm.MethodName) prog_10_method_32_code (3 : Nat) (Option.none : Option Jvm.ClassFile.FieldType)) ∈ vm_WS := vm_w4 173 rfl rfl
theorem ww_982 : (Cond.methodLink "BagCountsLaw" (45 : Nat) ({ cls := "BagCountsModel", name := "bound", desc := "(III)I" } : Jvm.MethodName)) ∈ vm_WS := vm_w4 174 rfl rfl
theorem ww_983 : (Cond.instanceMethod ({ cls := "BagCountsModel", name := "bound", desc := "(III)I" } : Jvm.MethodName)) ∈ vm_WS := vm_w4 175 rfl rfl
theorem ww_984 : (Cond.selects "BagCountsModel" ({ cls := "BagCountsModel", name := "bound", desc := "(III)I" } : Jvm.MethodName) ({ cls := "BagCountsModel", name := "bound", desc := "(III)I" } : Jvm.MethodName)) ∈ vm_WS := vm_w4 176 rfl rfl
theorem ww_985 : (Cond.code ({ cls := "BagCountsModel", name := "bound", desc := "(III)I" } : Jvm.MethodName) prog_10_method_54_code (5 : Nat) (Option.some Jvm.ClassFile.FieldType.int)) ∈ vm_WS := vm_w4 177 rfl rfl
theorem ww_986 : (Cond.methodLink "BagCountsModel" (216 : Nat) ({ cls := "BagCountsModel", name := "whyNotBound", desc := "(III)I" } : Jvm.MethodName)) ∈ vm_WS := vm_w4 178 rfl rfl
theorem ww_987 : (Cond.static ({ cls := "BagCountsModel", name := "whyNotBound", desc := "(III)I" } : Jvm.MethodName)) ∈ vm_WS := vm_w4 179 rfl rfl
theorem ww_988 : (Cond.code ({ cls := "BagCountsModel", name := "whyNotBound", desc := "(III)I" } : Jvm.MethodName) prog_10_method_53_code (3 : Nat) (Option.some Jvm.ClassFile.FieldType.int)) ∈ vm_WS := vm_w4 180 rfl rfl
theorem ww_989 : (Cond.methodLink "BagCountsModel" (220 : Nat) ({ cls := "BagCountsModel", name := "boundBy", desc := "(IIII)I" } : Jvm.MethodName)) ∈ vm_WS := vm_w4 181 rfl rfl
theorem ww_991 : (Cond.instanceMethod ({ cls := "BagCountsModel", name := "boundBy", desc := "(IIII)I" } : Jvm.MethodName)) ∈ vm_WS := vm_w4 183 rfl rfl
theorem ww_992 : (Cond.code ({ cls := "BagCountsModel", name := "boundBy", desc := "(IIII)I" } : Jvm.MethodName) prog_10_method_52_code (7 : Nat) (Option.some Jvm.ClassFile.FieldType.int)) ∈ vm_WS := vm_w4 184 rfl rfl
theorem ww_993 : (Cond.methodLink "BagCountsModel" (178 : Nat) ({ cls := "BagCountsModel", name := "isSolvedWith", desc := "(IIIIIII)Z" } : Jvm.MethodName)) ∈ vm_WS := vm_w4 185 rfl rfl
theorem ww_995 : (Cond.instanceMethod ({ cls := "BagCountsModel", name := "isSolvedWith", desc := "(IIIIIII)Z" } : Jvm.MethodName)) ∈ vm_WS := vm_w4 187 rfl rfl
theorem ww_996 : (Cond.code ({ cls := "BagCountsModel", name := "isSolvedWith", desc := "(IIIIIII)Z" } : Jvm.MethodName) prog_10_method_39_code (8 : Nat) (Option.some Jvm.ClassFile.FieldType.boolean)) ∈ vm_WS := vm_w4 188 rfl rfl
theorem ww_997 : (Cond.methodLink "BagCountsModel" (175 : Nat) ({ cls := "BagCountsModel", name := "add", desc := "(IIIIII)V" } : Jvm.MethodName)) ∈ vm_WS := vm_w4 189 rfl rfl
theorem ww_999 : (Cond.instanceMethod ({ cls := "BagCountsModel", name := "add", desc := "(IIIIII)V" } : Jvm.MethodName)) ∈ vm_WS := vm_w4 191 rfl rfl
theorem ww_1000 : (Cond.code ({ cls := "BagCountsModel", name := "add", desc := "(IIIIII)V" } : Jvm.MethodName) prog_10_method_38_code (8 : Nat) (Option.none : Option Jvm.ClassFile.FieldType)) ∈ vm_WS := vm_w4 192 rfl rfl
theorem ww_1001 : (Cond.methodLink "BagCountsLaw" (49 : Nat) ({ cls := "BagCountsModel", name := "sizeOf", desc := "(II)I" } : Jvm.MethodName)) ∈ vm_WS := vm_w4 193 rfl rfl
theorem ww_1002 : (Cond.instanceMethod ({ cls := "BagCountsModel", name := "sizeOf", desc := "(II)I" } : Jvm.MethodName)) ∈ vm_WS := vm_w4 194 rfl rfl
theorem ww_1003 : (Cond.selects "BagCountsModel" ({ cls := "BagCountsModel", name := "sizeOf", desc := "(II)I" } : Jvm.MethodName) ({ cls := "BagCountsModel", name := "sizeOf", desc := "(II)I" } : Jvm.MethodName)) ∈ vm_WS := vm_w4 195 rfl rfl
theorem ww_1004 : (Cond.code ({ cls := "BagCountsModel", name := "sizeOf", desc := "(II)I" } : Jvm.MethodName) prog_10_method_55_code (6 : Nat) (Option.some Jvm.ClassFile.FieldType.int)) ∈ vm_WS := vm_w4 196 rfl rfl
theorem ww_1005 : (Cond.methodLink "BagCountsLaw" (53 : Nat) ({ cls := "BagCountsModel", name := "least", desc := "(II)I" } : Jvm.MethodName)) ∈ vm_WS := vm_w4 197 rfl rfl
theorem ww_1006 : (Cond.instanceMethod ({ cls := "BagCountsModel", name := "least", desc := "(II)I" } : Jvm.MethodName)) ∈ vm_WS := vm_w4 198 rfl rfl
theorem ww_1007 : (Cond.selects "BagCountsModel" ({ cls := "BagCountsModel", name := "least", desc := "(II)I" } : Jvm.MethodName) ({ cls := "BagCountsModel", name := "least", desc := "(II)I" } : Jvm.MethodName)) ∈ vm_WS := vm_w4 199 rfl rfl
theorem ww_1008 : (Cond.code ({ cls := "BagCountsModel", name := "least", desc := "(II)I" } : Jvm.MethodName) prog_10_method_58_code (3 : Nat) (Option.some Jvm.ClassFile.FieldType.int)) ∈ vm_WS := vm_w4 200 rfl rfl
theorem ww_1009 : (Cond.methodLink "BagCountsModel" (227 : Nat) ({ cls := "BagCountsModel", name := "findFirst", desc := "()V" } : Jvm.MethodName)) ∈ vm_WS := vm_w4 201 rfl rfl
theorem ww_1011 : (Cond.instanceMethod ({ cls := "BagCountsModel", name := "findFirst", desc := "()V" } : Jvm.MethodName)) ∈ vm_WS := vm_w4 203 rfl rfl
theorem ww_1012 : (Cond.code ({ cls := "BagCountsModel", name := "findFirst", desc := "()V" } : Jvm.MethodName) prog_10_method_57_code (2 : Nat) (Option.none : Option Jvm.ClassFile.FieldType)) ∈ vm_WS := vm_w4 204 rfl rfl
theorem ww_1013 : (Cond.methodLink "BagCountsModel" (224 : Nat) ({ cls := "BagCountsModel", name := "isSolvedFrom", desc := "(I)Z" } : Jvm.MethodName)) ∈ vm_WS := vm_w4 205 rfl rfl
theorem ww_1015 : (Cond.instanceMethod ({ cls := "BagCountsModel", name := "isSolvedFrom", desc := "(I)Z" } : Jvm.MethodName)) ∈ vm_WS := vm_w4 207 rfl rfl
theorem ww_1016 : (Cond.code ({ cls := "BagCountsModel", name := "isSolvedFrom", desc := "(I)Z" } : Jvm.MethodName) prog_10_method_56_code (3 : Nat) (Option.some Jvm.ClassFile.FieldType.boolean)) ∈ vm_WS := vm_w4 208 rfl rfl
theorem ww_1017 : (Cond.methodLink "BagCountsLaw" (57 : Nat) ({ cls := "BagCountsModel", name := "solutions", desc := "(I)I" } : Jvm.MethodName)) ∈ vm_WS := vm_w4 209 rfl rfl
theorem ww_1018 : (Cond.instanceMethod ({ cls := "BagCountsModel", name := "solutions", desc := "(I)I" } : Jvm.MethodName)) ∈ vm_WS := vm_w4 210 rfl rfl
theorem ww_1019 : (Cond.selects "BagCountsModel" ({ cls := "BagCountsModel", name := "solutions", desc := "(I)I" } : Jvm.MethodName) ({ cls := "BagCountsModel", name := "solutions", desc := "(I)I" } : Jvm.MethodName)) ∈ vm_WS := vm_w4 211 rfl rfl
theorem ww_1020 : (Cond.code ({ cls := "BagCountsModel", name := "solutions", desc := "(I)I" } : Jvm.MethodName) prog_10_method_59_code (2 : Nat) (Option.some Jvm.ClassFile.FieldType.int)) ∈ vm_WS := vm_w4 212 rfl rfl
theorem ww_1021 : (Cond.methodLink "BagCountsModel" (230 : Nat) ({ cls := "BagCountsModel", name := "countAll", desc := "(I)I" } : Jvm.MethodName)) ∈ vm_WS := vm_w4 213 rfl rfl
theorem ww_1023 : (Cond.instanceMethod ({ cls := "BagCountsModel", name := "countAll", desc := "(I)I" } : Jvm.MethodName)) ∈ vm_WS := vm_w4 215 rfl rfl
theorem ww_1024 : (Cond.code ({ cls := "BagCountsModel", name := "countAll", desc := "(I)I" } : Jvm.MethodName) prog_10_method_60_code (6 : Nat) (Option.some Jvm.ClassFile.FieldType.int)) ∈ vm_WS := vm_w4 216 rfl rfl
theorem ww_1025 : (Cond.methodLink "BagCountsLaw" (61 : Nat) ({ cls := "BagCountsModel", name := "follows", desc := "(IIIIII)I" } : Jvm.MethodName)) ∈ vm_WS := vm_w4 217 rfl rfl
theorem ww_1026 : (Cond.instanceMethod ({ cls := "BagCountsModel", name := "follows", desc := "(IIIIII)I" } : Jvm.MethodName)) ∈ vm_WS := vm_w4 218 rfl rfl
theorem ww_1027 : (Cond.selects "BagCountsModel" ({ cls := "BagCountsModel", name := "follows", desc := "(IIIIII)I" } : Jvm.MethodName) ({ cls := "BagCountsModel", name := "follows", desc := "(IIIIII)I" } : Jvm.MethodName)) ∈ vm_WS := vm_w4 219 rfl rfl
theorem ww_1028 : (Cond.code ({ cls := "BagCountsModel", name := "follows", desc := "(IIIIII)I" } : Jvm.MethodName) prog_10_method_61_code (8 : Nat) (Option.some Jvm.ClassFile.FieldType.int)) ∈ vm_WS := vm_w4 220 rfl rfl
theorem ww_1029 : (Cond.methodLink "BagCountsModel" (233 : Nat) ({ cls := "BagCountsModel", name := "canFail", desc := "(IIIIIII)Z" } : Jvm.MethodName)) ∈ vm_WS := vm_w4 221 rfl rfl
theorem ww_1031 : (Cond.instanceMethod ({ cls := "BagCountsModel", name := "canFail", desc := "(IIIIIII)Z" } : Jvm.MethodName)) ∈ vm_WS := vm_w4 223 rfl rfl
theorem ww_1032 : (Cond.code ({ cls := "BagCountsModel", name := "canFail", desc := "(IIIIIII)Z" } : Jvm.MethodName) prog_10_method_42_code (10 : Nat) (Option.some Jvm.ClassFile.FieldType.boolean)) ∈ vm_WS := vm_w4 224 rfl rfl
theorem ww_1033 : (Cond.methodLink "BagCountsModel" (186 : Nat) ({ cls := "BagCountsModel", name := "failsAt", desc := "(IIIIII)Z" } : Jvm.MethodName)) ∈ vm_WS := vm_w4 225 rfl rfl
theorem ww_1035 : (Cond.instanceMethod ({ cls := "BagCountsModel", name := "failsAt", desc := "(IIIIII)Z" } : Jvm.MethodName)) ∈ vm_WS := vm_w4 227 rfl rfl
theorem ww_1036 : (Cond.code ({ cls := "BagCountsModel", name := "failsAt", desc := "(IIIIII)Z" } : Jvm.MethodName) prog_10_method_41_code (7 : Nat) (Option.some Jvm.ClassFile.FieldType.boolean)) ∈ vm_WS := vm_w4 228 rfl rfl
theorem ww_1037 : (Cond.methodLink "BagCountsModel" (182 : Nat) ({ cls := "BagCountsModel", name := "isSolvedWithBoth", desc := "(IIIIIZ)Z" } : Jvm.MethodName)) ∈ vm_WS := vm_w4 229 rfl rfl
theorem ww_1039 : (Cond.instanceMethod ({ cls := "BagCountsModel", name := "isSolvedWithBoth", desc := "(IIIIIZ)Z" } : Jvm.MethodName)) ∈ vm_WS := vm_w4 231 rfl rfl
theorem ww_1040 : (Cond.code ({ cls := "BagCountsModel", name := "isSolvedWithBoth", desc := "(IIIIIZ)Z" } : Jvm.MethodName) prog_10_method_40_code (7 : Nat) (Option.some Jvm.ClassFile.FieldType.boolean)) ∈ vm_WS := vm_w4 232 rfl rfl
theorem ww_1041 : (Cond.methodLink "BagCountsLaw" (65 : Nat) ({ cls := "BagCountsModel", name := "contradiction", desc := "()I" } : Jvm.MethodName)) ∈ vm_WS := vm_w4 233 rfl rfl
theorem ww_1042 : (Cond.instanceMethod ({ cls := "BagCountsModel", name := "contradiction", desc := "()I" } : Jvm.MethodName)) ∈ vm_WS := vm_w4 234 rfl rfl
theorem ww_1043 : (Cond.selects "BagCountsModel" ({ cls := "BagCountsModel", name := "contradiction", desc := "()I" } : Jvm.MethodName) ({ cls := "BagCountsModel", name := "contradiction", desc := "()I" } : Jvm.MethodName)) ∈ vm_WS := vm_w4 235 rfl rfl
theorem ww_1044 : (Cond.code ({ cls := "BagCountsModel", name := "contradiction", desc := "()I" } : Jvm.MethodName) prog_10_method_62_code (3 : Nat) (Option.some Jvm.ClassFile.FieldType.int)) ∈ vm_WS := vm_w4 236 rfl rfl
theorem ww_1045 : (Cond.methodLink "BagCountsLaw" (69 : Nat) ({ cls := "BagCountsModel", name := "reason", desc := "(III)I" } : Jvm.MethodName)) ∈ vm_WS := vm_w4 237 rfl rfl
theorem ww_1046 : (Cond.instanceMethod ({ cls := "BagCountsModel", name := "reason", desc := "(III)I" } : Jvm.MethodName)) ∈ vm_WS := vm_w4 238 rfl rfl
theorem ww_1047 : (Cond.selects "BagCountsModel" ({ cls := "BagCountsModel", name := "reason", desc := "(III)I" } : Jvm.MethodName) ({ cls := "BagCountsModel", name := "reason", desc := "(III)I" } : Jvm.MethodName)) ∈ vm_WS := vm_w4 239 rfl rfl
theorem ww_1048 : (Cond.code ({ cls := "BagCountsModel", name := "reason", desc := "(III)I" } : Jvm.MethodName) prog_10_method_63_code (8 : Nat) (Option.some Jvm.ClassFile.FieldType.int)) ∈ vm_WS := vm_w5 0 rfl rfl
theorem ww_1049 : (Cond.methodLink "BagCountsLaw" (73 : Nat) ({ cls := "BagCountsModel", name := "needless", desc := "()I" } : Jvm.MethodName)) ∈ vm_WS := vm_w5 1 rfl rfl
theorem ww_1050 : (Cond.instanceMethod ({ cls := "BagCountsModel", name := "needless", desc := "()I" } : Jvm.MethodName)) ∈ vm_WS := vm_w5 2 rfl rfl
theorem ww_1051 : (Cond.selects "BagCountsModel" ({ cls := "BagCountsModel", name := "needless", desc := "()I" } : Jvm.MethodName) ({ cls := "BagCountsModel", name := "needless", desc := "()I" } : Jvm.MethodName)) ∈ vm_WS := vm_w5 3 rfl rfl
theorem ww_1052 : (Cond.code ({ cls := "BagCountsModel", name := "needless", desc := "()I" } : Jvm.MethodName) prog_10_method_64_code (4 : Nat) (Option.some Jvm.ClassFile.FieldType.int)) ∈ vm_WS := vm_w5 4 rfl rfl
theorem ww_1053 : (Cond.methodLink "BagCountsLaw" (80 : Nat) ({ cls := "BagCountsModel", name := "put", desc := "(J)I" } : Jvm.MethodName)) ∈ vm_WS := vm_w5 5 rfl rfl
theorem ww_1054 : (Cond.instanceMethod ({ cls := "BagCountsModel", name := "put", desc := "(J)I" } : Jvm.MethodName)) ∈ vm_WS := vm_w5 6 rfl rfl
theorem ww_1055 : (Cond.selects "BagCountsModel" ({ cls := "BagCountsModel", name := "put", desc := "(J)I" } : Jvm.MethodName) ({ cls := "BagCountsModel", name := "put", desc := "(J)I" } : Jvm.MethodName)) ∈ vm_WS := vm_w5 7 rfl rfl
theorem ww_1056 : (Cond.code ({ cls := "BagCountsModel", name := "put", desc := "(J)I" } : Jvm.MethodName) prog_10_method_65_code (7 : Nat) (Option.some Jvm.ClassFile.FieldType.int)) ∈ vm_WS := vm_w5 8 rfl rfl
theorem ww_1057 : (Cond.constantLong "BagCountsModel" (236 : Nat) (255 : Int64)) ∈ vm_WS := vm_w5 9 rfl rfl
theorem ww_1058 : (Cond.methodLink "BagCountsLaw" (84 : Nat) ({ cls := "BagCountsModel", name := "wipe", desc := "()I" } : Jvm.MethodName)) ∈ vm_WS := vm_w5 10 rfl rfl
theorem ww_1059 : (Cond.instanceMethod ({ cls := "BagCountsModel", name := "wipe", desc := "()I" } : Jvm.MethodName)) ∈ vm_WS := vm_w5 11 rfl rfl
theorem ww_1060 : (Cond.selects "BagCountsModel" ({ cls := "BagCountsModel", name := "wipe", desc := "()I" } : Jvm.MethodName) ({ cls := "BagCountsModel", name := "wipe", desc := "()I" } : Jvm.MethodName)) ∈ vm_WS := vm_w5 12 rfl rfl
theorem ww_1061 : (Cond.code ({ cls := "BagCountsModel", name := "wipe", desc := "()I" } : Jvm.MethodName) prog_10_method_66_code (2 : Nat) (Option.some Jvm.ClassFile.FieldType.int)) ∈ vm_WS := vm_w5 13 rfl rfl
theorem ww_1062 : (Cond.methodLink "BagCountsLaw" (88 : Nat) ({ cls := "BagCountsModel", name := "fault", desc := "()I" } : Jvm.MethodName)) ∈ vm_WS := vm_w5 14 rfl rfl
theorem ww_1063 : (Cond.instanceMethod ({ cls := "BagCountsModel", name := "fault", desc := "()I" } : Jvm.MethodName)) ∈ vm_WS := vm_w5 15 rfl rfl
theorem ww_1064 : (Cond.selects "BagCountsModel" ({ cls := "BagCountsModel", name := "fault", desc := "()I" } : Jvm.MethodName) ({ cls := "BagCountsModel", name := "fault", desc := "()I" } : Jvm.MethodName)) ∈ vm_WS := vm_w5 16 rfl rfl
theorem ww_1065 : (Cond.code ({ cls := "BagCountsModel", name := "fault", desc := "()I" } : Jvm.MethodName) prog_10_method_78_code (1 : Nat) (Option.some Jvm.ClassFile.FieldType.int)) ∈ vm_WS := vm_w5 17 rfl rfl
theorem ww_1066 : (Cond.methodLink "BagCountsModel" (277 : Nat) ({ cls := "BagCountsModel", name := "takeFact", desc := "()V" } : Jvm.MethodName)) ∈ vm_WS := vm_w5 18 rfl rfl
theorem ww_1068 : (Cond.instanceMethod ({ cls := "BagCountsModel", name := "takeFact", desc := "()V" } : Jvm.MethodName)) ∈ vm_WS := vm_w5 20 rfl rfl
theorem ww_1069 : (Cond.code ({ cls := "BagCountsModel", name := "takeFact", desc := "()V" } : Jvm.MethodName) prog_10_method_77_code (2 : Nat) (Option.none : Option Jvm.ClassFile.FieldType)) ∈ vm_WS := vm_w5 21 rfl rfl
theorem ww_1070 : (Cond.methodLink "BagCountsModel" (250 : Nat) ({ cls := "BagCountsModel", name := "enter", desc := "(II)V" } : Jvm.MethodName)) ∈ vm_WS := vm_w5 22 rfl rfl
theorem ww_1072 : (Cond.instanceMethod ({ cls := "BagCountsModel", name := "enter", desc := "(II)V" } : Jvm.MethodName)) ∈ vm_WS := vm_w5 24 rfl rfl
theorem ww_1073 : (Cond.code ({ cls := "BagCountsModel", name := "enter", desc := "(II)V" } : Jvm.MethodName) prog_10_method_68_code (3 : Nat) (Option.none : Option Jvm.ClassFile.FieldType)) ∈ vm_WS := vm_w5 25 rfl rfl
theorem ww_1074 : (Cond.methodLink "BagCountsModel" (247 : Nat) ({ cls := "BagCountsModel", name := "next", desc := "()I" } : Jvm.MethodName)) ∈ vm_WS := vm_w5 26 rfl rfl
theorem ww_1076 : (Cond.instanceMethod ({ cls := "BagCountsModel", name := "next", desc := "()I" } : Jvm.MethodName)) ∈ vm_WS := vm_w5 28 rfl rfl
theorem ww_1077 : (Cond.code ({ cls := "BagCountsModel", name := "next", desc := "()I" } : Jvm.MethodName) prog_10_method_67_code (1 : Nat) (Option.some Jvm.ClassFile.FieldType.int)) ∈ vm_WS := vm_w5 29 rfl rfl
theorem ww_1078 : (Cond.methodLink "BagCountsModel" (253 : Nat) ({ cls := "BagCountsModel", name := "takeOne", desc := "(III)V" } : Jvm.MethodName)) ∈ vm_WS := vm_w5 30 rfl rfl
theorem ww_1080 : (Cond.instanceMethod ({ cls := "BagCountsModel", name := "takeOne", desc := "(III)V" } : Jvm.MethodName)) ∈ vm_WS := vm_w5 32 rfl rfl
theorem ww_1081 : (Cond.code ({ cls := "BagCountsModel", name := "takeOne", desc := "(III)V" } : Jvm.MethodName) prog_10_method_70_code (4 : Nat) (Option.none : Option Jvm.ClassFile.FieldType)) ∈ vm_WS := vm_w5 33 rfl rfl
theorem ww_1082 : (Cond.methodLink "BagCountsModel" (262 : Nat) ({ cls := "BagCountsModel", name := "takeSign", desc := "(I)V" } : Jvm.MethodName)) ∈ vm_WS := vm_w5 34 rfl rfl
theorem ww_1084 : (Cond.instanceMethod ({ cls := "BagCountsModel", name := "takeSign", desc := "(I)V" } : Jvm.MethodName)) ∈ vm_WS := vm_w5 36 rfl rfl
theorem ww_1085 : (Cond.code ({ cls := "BagCountsModel", name := "takeSign", desc := "(I)V" } : Jvm.MethodName) prog_10_method_69_code (2 : Nat) (Option.none : Option Jvm.ClassFile.FieldType)) ∈ vm_WS := vm_w5 37 rfl rfl
theorem ww_1086 : (Cond.methodLink "BagCountsModel" (265 : Nat) ({ cls := "BagCountsModel", name := "takeRange", desc := "(I)V" } : Jvm.MethodName)) ∈ vm_WS := vm_w5 38 rfl rfl
theorem ww_1088 : (Cond.instanceMethod ({ cls := "BagCountsModel", name := "takeRange", desc := "(I)V" } : Jvm.MethodName)) ∈ vm_WS := vm_w5 40 rfl rfl
theorem ww_1089 : (Cond.code ({ cls := "BagCountsModel", name := "takeRange", desc := "(I)V" } : Jvm.MethodName) prog_10_method_72_code (2 : Nat) (Option.none : Option Jvm.ClassFile.FieldType)) ∈ vm_WS := vm_w5 41 rfl rfl
theorem ww_1090 : (Cond.methodLink "BagCountsModel" (256 : Nat) ({ cls := "BagCountsModel", name := "takeNumber", desc := "(I)V" } : Jvm.MethodName)) ∈ vm_WS := vm_w5 42 rfl rfl
theorem ww_1092 : (Cond.instanceMethod ({ cls := "BagCountsModel", name := "takeNumber", desc := "(I)V" } : Jvm.MethodName)) ∈ vm_WS := vm_w5 44 rfl rfl
theorem ww_1093 : (Cond.code ({ cls := "BagCountsModel", name := "takeNumber", desc := "(I)V" } : Jvm.MethodName) prog_10_method_71_code (4 : Nat) (Option.none : Option Jvm.ClassFile.FieldType)) ∈ vm_WS := vm_w5 45 rfl rfl
theorem ww_1094 : (Cond.methodLink "BagCountsModel" (274 : Nat) ({ cls := "BagCountsModel", name := "takeBag", desc := "()V" } : Jvm.MethodName)) ∈ vm_WS := vm_w5 46 rfl rfl
theorem ww_1096 : (Cond.instanceMethod ({ cls := "BagCountsModel", name := "takeBag", desc := "()V" } : Jvm.MethodName)) ∈ vm_WS := vm_w5 48 rfl rfl
theorem ww_1097 : (Cond.code ({ cls := "BagCountsModel", name := "takeBag", desc := "()V" } : Jvm.MethodName) prog_10_method_76_code (1 : Nat) (Option.none : Option Jvm.ClassFile.FieldType)) ∈ vm_WS := vm_w5 49 rfl rfl
theorem ww_1098 : (Cond.methodLink "BagCountsModel" (268 : Nat) ({ cls := "BagCountsModel", name := "takeBags", desc := "(I)V" } : Jvm.MethodName)) ∈ vm_WS := vm_w5 50 rfl rfl
theorem ww_1100 : (Cond.instanceMethod ({ cls := "BagCountsModel", name := "takeBags", desc := "(I)V" } : Jvm.MethodName)) ∈ vm_WS := vm_w5 52 rfl rfl
theorem ww_1101 : (Cond.code ({ cls := "BagCountsModel", name := "takeBags", desc := "(I)V" } : Jvm.MethodName) prog_10_method_75_code (3 : Nat) (Option.none : Option Jvm.ClassFile.FieldType)) ∈ vm_WS := vm_w5 53 rfl rfl
theorem ww_1102 : (Cond.methodLink "BagCountsModel" (271 : Nat) ({ cls := "BagCountsModel", name := "takeKind", desc := "()V" } : Jvm.MethodName)) ∈ vm_WS := vm_w5 54 rfl rfl
theorem ww_1104 : (Cond.instanceMethod ({ cls := "BagCountsModel", name := "takeKind", desc := "()V" } : Jvm.MethodName)) ∈ vm_WS := vm_w5 56 rfl rfl
theorem ww_1105 : (Cond.code ({ cls := "BagCountsModel", name := "takeKind", desc := "()V" } : Jvm.MethodName) prog_10_method_74_code (1 : Nat) (Option.none : Option Jvm.ClassFile.FieldType)) ∈ vm_WS := vm_w5 57 rfl rfl
theorem ww_1106 : (Cond.methodLink "BagCountsModel" (259 : Nat) ({ cls := "BagCountsModel", name := "takeMore", desc := "()V" } : Jvm.MethodName)) ∈ vm_WS := vm_w5 58 rfl rfl
theorem ww_1108 : (Cond.instanceMethod ({ cls := "BagCountsModel", name := "takeMore", desc := "()V" } : Jvm.MethodName)) ∈ vm_WS := vm_w5 60 rfl rfl
theorem ww_1109 : (Cond.code ({ cls := "BagCountsModel", name := "takeMore", desc := "()V" } : Jvm.MethodName) prog_10_method_73_code (2 : Nat) (Option.none : Option Jvm.ClassFile.FieldType)) ∈ vm_WS := vm_w5 61 rfl rfl
theorem ww_1110 : (Cond.methodLink "BagCountsLaw" (92 : Nat) ({ cls := "BagCountsModel", name := "tell", desc := "()I" } : Jvm.MethodName)) ∈ vm_WS := vm_w5 62 rfl rfl
theorem ww_1111 : (Cond.instanceMethod ({ cls := "BagCountsModel", name := "tell", desc := "()I" } : Jvm.MethodName)) ∈ vm_WS := vm_w5 63 rfl rfl
theorem ww_1112 : (Cond.selects "BagCountsModel" ({ cls := "BagCountsModel", name := "tell", desc := "()I" } : Jvm.MethodName) ({ cls := "BagCountsModel", name := "tell", desc := "()I" } : Jvm.MethodName)) ∈ vm_WS := vm_w5 64 rfl rfl
theorem ww_1113 : (Cond.code ({ cls := "BagCountsModel", name := "tell", desc := "()I" } : Jvm.MethodName) prog_10_method_80_code (2 : Nat) (Option.some Jvm.ClassFile.FieldType.int)) ∈ vm_WS := vm_w5 65 rfl rfl
theorem ww_1114 : (Cond.methodLink "BagCountsModel" (280 : Nat) ({ cls := "BagCountsModel", name := "fault", desc := "()I" } : Jvm.MethodName)) ∈ vm_WS := vm_w5 66 rfl rfl
theorem ww_1115 : (Cond.methodLink "BagCountsModel" (283 : Nat) ({ cls := "BagCountsModel", name := "tellOne", desc := "(I)I" } : Jvm.MethodName)) ∈ vm_WS := vm_w5 67 rfl rfl
theorem ww_1117 : (Cond.instanceMethod ({ cls := "BagCountsModel", name := "tellOne", desc := "(I)I" } : Jvm.MethodName)) ∈ vm_WS := vm_w5 69 rfl rfl
theorem ww_1118 : (Cond.code ({ cls := "BagCountsModel", name := "tellOne", desc := "(I)I" } : Jvm.MethodName) prog_10_method_79_code (3 : Nat) (Option.some Jvm.ClassFile.FieldType.int)) ∈ vm_WS := vm_w5 70 rfl rfl
theorem ww_1119 : (Cond.methodLink "BagCountsLaw" (96 : Nat) ({ cls := "BagCountsModel", name := "undo", desc := "()I" } : Jvm.MethodName)) ∈ vm_WS := vm_w5 71 rfl rfl
theorem ww_1120 : (Cond.instanceMethod ({ cls := "BagCountsModel", name := "undo", desc := "()I" } : Jvm.MethodName)) ∈ vm_WS := vm_w5 72 rfl rfl
theorem ww_1121 : (Cond.selects "BagCountsModel" ({ cls := "BagCountsModel", name := "undo", desc := "()I" } : Jvm.MethodName) ({ cls := "BagCountsModel", name := "undo", desc := "()I" } : Jvm.MethodName)) ∈ vm_WS := vm_w5 73 rfl rfl
theorem ww_1122 : (Cond.code ({ cls := "BagCountsModel", name := "undo", desc := "()I" } : Jvm.MethodName) prog_10_method_81_code (3 : Nat) (Option.some Jvm.ClassFile.FieldType.int)) ∈ vm_WS := vm_w5 74 rfl rfl
theorem ww_1123 : (Cond.methodLink "BagCountsLaw" (100 : Nat) ({ cls := "BagCountsModel", name := "save", desc := "(I)I" } : Jvm.MethodName)) ∈ vm_WS := vm_w5 75 rfl rfl
theorem ww_1124 : (Cond.instanceMethod ({ cls := "BagCountsModel", name := "save", desc := "(I)I" } : Jvm.MethodName)) ∈ vm_WS := vm_w5 76 rfl rfl
theorem ww_1125 : (Cond.selects "BagCountsModel" ({ cls := "BagCountsModel", name := "save", desc := "(I)I" } : Jvm.MethodName) ({ cls := "BagCountsModel", name := "save", desc := "(I)I" } : Jvm.MethodName)) ∈ vm_WS := vm_w5 77 rfl rfl
theorem ww_1126 : (Cond.code ({ cls := "BagCountsModel", name := "save", desc := "(I)I" } : Jvm.MethodName) prog_10_method_82_code (3 : Nat) (Option.some Jvm.ClassFile.FieldType.int)) ∈ vm_WS := vm_w5 78 rfl rfl
theorem ww_1127 : (Cond.methodLink "BagCountsLaw" (104 : Nat) ({ cls := "BagCountsModel", name := "restore", desc := "(I)I" } : Jvm.MethodName)) ∈ vm_WS := vm_w5 79 rfl rfl
theorem ww_1128 : (Cond.instanceMethod ({ cls := "BagCountsModel", name := "restore", desc := "(I)I" } : Jvm.MethodName)) ∈ vm_WS := vm_w5 80 rfl rfl
theorem ww_1129 : (Cond.selects "BagCountsModel" ({ cls := "BagCountsModel", name := "restore", desc := "(I)I" } : Jvm.MethodName) ({ cls := "BagCountsModel", name := "restore", desc := "(I)I" } : Jvm.MethodName)) ∈ vm_WS := vm_w5 81 rfl rfl
theorem ww_1130 : (Cond.code ({ cls := "BagCountsModel", name := "restore", desc := "(I)I" } : Jvm.MethodName) prog_10_method_83_code (3 : Nat) (Option.some Jvm.ClassFile.FieldType.int)) ∈ vm_WS := vm_w5 82 rfl rfl
theorem ww_1131 : (Cond.constantLong "BagCountsLaw" (74 : Nat) (4294967295 : Int64)) ∈ vm_WS := vm_w5 83 rfl rfl
theorem ww_0 : Cond.selects yX7_recordState.cls yX7_recordState yX7_recordState ∈ vm_WS := vm_s1 (q := (yX7_recordState, _)) 0 rfl rfl
theorem ww_1 : Cond.selects yX2_load.cls yX2_load yX2_load ∈ vm_WS := vm_s1 (q := (yX2_load, _)) 1 rfl rfl
theorem ww_2 : Cond.selects yX2_hasSizeFact.cls yX2_hasSizeFact yX2_hasSizeFact ∈ vm_WS := vm_s1 (q := (yX2_hasSizeFact, _)) 2 rfl rfl
theorem ww_3 : Cond.selects yX4_open.cls yX4_open yX4_open ∈ vm_WS := vm_s1 (q := (yX4_open, _)) 3 rfl rfl
theorem ww_4 : Cond.selects yX4_plus.cls yX4_plus yX4_plus ∈ vm_WS := vm_s1 (q := (yX4_plus, _)) 4 rfl rfl
theorem ww_5 : Cond.selects yX4_addTerm.cls yX4_addTerm yX4_addTerm ∈ vm_WS := vm_s1 (q := (yX4_addTerm, _)) 5 rfl rfl
theorem ww_6 : Cond.selects yX1_apply.cls yX1_apply yX1_apply ∈ vm_WS := vm_s1 (q := (yX1_apply, _)) 6 rfl rfl
theorem ww_7 : Cond.selects yX1_narrow.cls yX1_narrow yX1_narrow ∈ vm_WS := vm_s1 (q := (yX1_narrow, _)) 7 rfl rfl
theorem ww_8 : Cond.selects yX1_of.cls yX1_of yX1_of ∈ vm_WS := vm_s1 (q := (yX1_of, _)) 8 rfl rfl
theorem ww_9 : Cond.selects yX1_chain.cls yX1_chain yX1_chain ∈ vm_WS := vm_s1 (q := (yX1_chain, _)) 9 rfl rfl
theorem ww_10 : Cond.selects yX2_addFact.cls yX2_addFact yX2_addFact ∈ vm_WS := vm_s1 (q := (yX2_addFact, _)) 10 rfl rfl
theorem ww_11 : Cond.selects yX2_addColumn.cls yX2_addColumn yX2_addColumn ∈ vm_WS := vm_s1 (q := (yX2_addColumn, _)) 11 rfl rfl
theorem ww_12 : Cond.selects yX5_settle.cls yX5_settle yX5_settle ∈ vm_WS := vm_s1 (q := (yX5_settle, _)) 12 rfl rfl
theorem ww_13 : Cond.selects yX5_tightenLinear.cls yX5_tightenLinear yX5_tightenLinear ∈ vm_WS := vm_s1 (q := (yX5_tightenLinear, _)) 13 rfl rfl
theorem ww_14 : Cond.selects yX5_leastTerm.cls yX5_leastTerm yX5_leastTerm ∈ vm_WS := vm_s1 (q := (yX5_leastTerm, _)) 14 rfl rfl
theorem ww_15 : Cond.selects yX5_greatestTerm.cls yX5_greatestTerm yX5_greatestTerm ∈ vm_WS := vm_s1 (q := (yX5_greatestTerm, _)) 15 rfl rfl
theorem ww_16 : Cond.selects yX5_keep.cls yX5_keep yX5_keep ∈ vm_WS := vm_s2 (q := (yX5_keep, _)) 0 rfl rfl
theorem ww_17 : Cond.selects yX5_tightenChoice.cls yX5_tightenChoice yX5_tightenChoice ∈ vm_WS := vm_s2 (q := (yX5_tightenChoice, _)) 1 rfl rfl
theorem ww_18 : Cond.selects yX5_waysFrom.cls yX5_waysFrom yX5_waysFrom ∈ vm_WS := vm_s2 (q := (yX5_waysFrom, _)) 2 rfl rfl
theorem ww_19 : Cond.selects yX5_unfixed.cls yX5_unfixed yX5_unfixed ∈ vm_WS := vm_s2 (q := (yX5_unfixed, _)) 3 rfl rfl
theorem ww_20 : Cond.selects yX5_partOf.cls yX5_partOf yX5_partOf ∈ vm_WS := vm_s2 (q := (yX5_partOf, _)) 4 rfl rfl
theorem ww_21 : Cond.selects yX5_isSure.cls yX5_isSure yX5_isSure ∈ vm_WS := vm_s2 (q := (yX5_isSure, _)) 5 rfl rfl
theorem ww_22 : Cond.selects yX5_choose.cls yX5_choose yX5_choose ∈ vm_WS := vm_s2 (q := (yX5_choose, _)) 6 rfl rfl
theorem ww_23 : Cond.selects yX5_fix.cls yX5_fix yX5_fix ∈ vm_WS := vm_s2 (q := (yX5_fix, _)) 7 rfl rfl
theorem ww_24 : Cond.selects yX2_addOpposite.cls yX2_addOpposite yX2_addOpposite ∈ vm_WS := vm_s2 (q := (yX2_addOpposite, _)) 8 rfl rfl
theorem ww_25 : Cond.selects yX2_restrictOutside.cls yX2_restrictOutside yX2_restrictOutside ∈ vm_WS := vm_s2 (q := (yX2_restrictOutside, _)) 9 rfl rfl
theorem ww_26 : Cond.selects yX2_addOppositeOfKind.cls yX2_addOppositeOfKind yX2_addOppositeOfKind ∈ vm_WS := vm_s2 (q := (yX2_addOppositeOfKind, _)) 10 rfl rfl
theorem ww_27 : Cond.selects yX3_readFact.cls yX3_readFact yX3_readFact ∈ vm_WS := vm_s2 (q := (yX3_readFact, _)) 11 rfl rfl
theorem ww_28 : Cond.selects yX3_skip.cls yX3_skip yX3_skip ∈ vm_WS := vm_s2 (q := (yX3_skip, _)) 12 rfl rfl
theorem ww_29 : Cond.selects yX3_take.cls yX3_take yX3_take ∈ vm_WS := vm_s2 (q := (yX3_take, _)) 13 rfl rfl
theorem ww_30 : Cond.selects yX3_readSize.cls yX3_readSize yX3_readSize ∈ vm_WS := vm_s2 (q := (yX3_readSize, _)) 14 rfl rfl
theorem ww_31 : Cond.selects yX3_takeNumber.cls yX3_takeNumber yX3_takeNumber ∈ vm_WS := vm_s2 (q := (yX3_takeNumber, _)) 15 rfl rfl
theorem ww_32 : Cond.selects yX3_takeRangeEnd.cls yX3_takeRangeEnd yX3_takeRangeEnd ∈ vm_WS := vm_s3 (q := (yX3_takeRangeEnd, _)) 0 rfl rfl
theorem ww_33 : Cond.selects yX3_readOfKind.cls yX3_readOfKind yX3_readOfKind ∈ vm_WS := vm_s3 (q := (yX3_readOfKind, _)) 1 rfl rfl
theorem ww_34 : Cond.selects yX3_readDifference.cls yX3_readDifference yX3_readDifference ∈ vm_WS := vm_s3 (q := (yX3_readDifference, _)) 2 rfl rfl
theorem ww_35 : Cond.selects yX3_readOfThreeBags.cls yX3_readOfThreeBags yX3_readOfThreeBags ∈ vm_WS := vm_s3 (q := (yX3_readOfThreeBags, _)) 3 rfl rfl
theorem ww_36 : Cond.selects yX3_takeSign.cls yX3_takeSign yX3_takeSign ∈ vm_WS := vm_s3 (q := (yX3_takeSign, _)) 4 rfl rfl
theorem ww_37 : Cond.selects yX8_keep.cls yX8_keep yX8_keep ∈ vm_WS := vm_s3 (q := (yX8_keep, _)) 5 rfl rfl
theorem ww_38 : Cond.selects yX8_tryFact.cls yX8_tryFact yX8_tryFact ∈ vm_WS := vm_s3 (q := (yX8_tryFact, _)) 6 rfl rfl
theorem ww_39 : Cond.selects yX8_keepIf.cls yX8_keepIf yX8_keepIf ∈ vm_WS := vm_s3 (q := (yX8_keepIf, _)) 7 rfl rfl
theorem ww_40 : Cond.selects yX8_isToldFact.cls yX8_isToldFact yX8_isToldFact ∈ vm_WS := vm_s3 (q := (yX8_isToldFact, _)) 8 rfl rfl
theorem ww_41 : Cond.selects yX8_of.cls yX8_of yX8_of ∈ vm_WS := vm_s3 (q := (yX8_of, _)) 9 rfl rfl
theorem ww_42 : Cond.selects yX8_isSolvedNow.cls yX8_isSolvedNow yX8_isSolvedNow ∈ vm_WS := vm_s3 (q := (yX8_isSolvedNow, _)) 10 rfl rfl
theorem ww_43 : Cond.selects yX8_allFacts.cls yX8_allFacts yX8_allFacts ∈ vm_WS := vm_s3 (q := (yX8_allFacts, _)) 11 rfl rfl
theorem ww_44 : Cond.selects yX8_isSolved.cls yX8_isSolved yX8_isSolved ∈ vm_WS := vm_s3 (q := (yX8_isSolved, _)) 12 rfl rfl
theorem ww_45 : Cond.selects yX8_layAll.cls yX8_layAll yX8_layAll ∈ vm_WS := vm_s3 (q := (yX8_layAll, _)) 13 rfl rfl
theorem ww_46 : Cond.selects yX8_isSolvedByParts.cls yX8_isSolvedByParts yX8_isSolvedByParts ∈ vm_WS := vm_s3 (q := (yX8_isSolvedByParts, _)) 14 rfl rfl
theorem ww_47 : Cond.selects yX8_narrow.cls yX8_narrow yX8_narrow ∈ vm_WS := vm_s3 (q := (yX8_narrow, _)) 15 rfl rfl
theorem ww_48 : Cond.selects yX8_isEmpty.cls yX8_isEmpty yX8_isEmpty ∈ vm_WS := vm_s4 (q := (yX8_isEmpty, _)) 0 rfl rfl
theorem ww_49 : Cond.selects yX8_narrowBy.cls yX8_narrowBy yX8_narrowBy ∈ vm_WS := vm_s4 (q := (yX8_narrowBy, _)) 1 rfl rfl
theorem ww_50 : Cond.selects yX8_raise.cls yX8_raise yX8_raise ∈ vm_WS := vm_s4 (q := (yX8_raise, _)) 2 rfl rfl
theorem ww_51 : Cond.selects yX8_lower.cls yX8_lower yX8_lower ∈ vm_WS := vm_s4 (q := (yX8_lower, _)) 3 rfl rfl
theorem ww_52 : Cond.selects yX8_narrowSize.cls yX8_narrowSize yX8_narrowSize ∈ vm_WS := vm_s4 (q := (yX8_narrowSize, _)) 4 rfl rfl
theorem ww_53 : Cond.selects yX8_narrowMore.cls yX8_narrowMore yX8_narrowMore ∈ vm_WS := vm_s4 (q := (yX8_narrowMore, _)) 5 rfl rfl
theorem ww_54 : Cond.selects yX8_narrowBelow.cls yX8_narrowBelow yX8_narrowBelow ∈ vm_WS := vm_s4 (q := (yX8_narrowBelow, _)) 6 rfl rfl
theorem ww_55 : Cond.selects yX8_narrowAbove.cls yX8_narrowAbove yX8_narrowAbove ∈ vm_WS := vm_s4 (q := (yX8_narrowAbove, _)) 7 rfl rfl
theorem ww_56 : Cond.selects yX8_narrowKind.cls yX8_narrowKind yX8_narrowKind ∈ vm_WS := vm_s4 (q := (yX8_narrowKind, _)) 8 rfl rfl
theorem ww_57 : Cond.selects yX8_narrowSum.cls yX8_narrowSum yX8_narrowSum ∈ vm_WS := vm_s4 (q := (yX8_narrowSum, _)) 9 rfl rfl
theorem ww_58 : Cond.selects yX8_narrowTwice.cls yX8_narrowTwice yX8_narrowTwice ∈ vm_WS := vm_s4 (q := (yX8_narrowTwice, _)) 10 rfl rfl
theorem ww_59 : Cond.selects yX8_narrowGreatest.cls yX8_narrowGreatest yX8_narrowGreatest ∈ vm_WS := vm_s4 (q := (yX8_narrowGreatest, _)) 11 rfl rfl
theorem ww_60 : Cond.selects yX8_narrowLeast.cls yX8_narrowLeast yX8_narrowLeast ∈ vm_WS := vm_s4 (q := (yX8_narrowLeast, _)) 12 rfl rfl
theorem ww_61 : Cond.selects yX8_part.cls yX8_part yX8_part ∈ vm_WS := vm_s4 (q := (yX8_part, _)) 13 rfl rfl
theorem ww_62 : Cond.selects yX8_joinedTo.cls yX8_joinedTo yX8_joinedTo ∈ vm_WS := vm_s4 (q := (yX8_joinedTo, _)) 14 rfl rfl
theorem ww_63 : Cond.selects yX8_search.cls yX8_search yX8_search ∈ vm_WS := vm_s4 (q := (yX8_search, _)) 15 rfl rfl
theorem ww_64 : Cond.selects yX8_narrowest.cls yX8_narrowest yX8_narrowest ∈ vm_WS := vm_s5 (q := (yX8_narrowest, _)) 0 rfl rfl
theorem ww_65 : Cond.selects yX8_push.cls yX8_push yX8_push ∈ vm_WS := vm_s5 (q := (yX8_push, _)) 1 rfl rfl
theorem ww_66 : Cond.selects yX8_pull.cls yX8_pull yX8_pull ∈ vm_WS := vm_s5 (q := (yX8_pull, _)) 2 rfl rfl
theorem ww_67 : Cond.selects yX8_boundBy.cls yX8_boundBy yX8_boundBy ∈ vm_WS := vm_s5 (q := (yX8_boundBy, _)) 3 rfl rfl
theorem ww_68 : Cond.selects yX8_isSolvedWith.cls yX8_isSolvedWith yX8_isSolvedWith ∈ vm_WS := vm_s5 (q := (yX8_isSolvedWith, _)) 4 rfl rfl
theorem ww_69 : Cond.selects yX8_add.cls yX8_add yX8_add ∈ vm_WS := vm_s5 (q := (yX8_add, _)) 5 rfl rfl
theorem ww_70 : Cond.selects yX8_findFirst.cls yX8_findFirst yX8_findFirst ∈ vm_WS := vm_s5 (q := (yX8_findFirst, _)) 6 rfl rfl
theorem ww_71 : Cond.selects yX8_isSolvedFrom.cls yX8_isSolvedFrom yX8_isSolvedFrom ∈ vm_WS := vm_s5 (q := (yX8_isSolvedFrom, _)) 7 rfl rfl
theorem ww_72 : Cond.selects yX8_countAll.cls yX8_countAll yX8_countAll ∈ vm_WS := vm_s5 (q := (yX8_countAll, _)) 8 rfl rfl
theorem ww_73 : Cond.selects yX8_canFail.cls yX8_canFail yX8_canFail ∈ vm_WS := vm_s5 (q := (yX8_canFail, _)) 9 rfl rfl
theorem ww_74 : Cond.selects yX8_failsAt.cls yX8_failsAt yX8_failsAt ∈ vm_WS := vm_s5 (q := (yX8_failsAt, _)) 10 rfl rfl
theorem ww_75 : Cond.selects yX8_isSolvedWithBoth.cls yX8_isSolvedWithBoth yX8_isSolvedWithBoth ∈ vm_WS := vm_s5 (q := (yX8_isSolvedWithBoth, _)) 11 rfl rfl
theorem ww_76 : Cond.selects yX8_takeFact.cls yX8_takeFact yX8_takeFact ∈ vm_WS := vm_s5 (q := (yX8_takeFact, _)) 12 rfl rfl
theorem ww_77 : Cond.selects yX8_enter.cls yX8_enter yX8_enter ∈ vm_WS := vm_s5 (q := (yX8_enter, _)) 13 rfl rfl
theorem ww_78 : Cond.selects yX8_next.cls yX8_next yX8_next ∈ vm_WS := vm_s5 (q := (yX8_next, _)) 14 rfl rfl
theorem ww_79 : Cond.selects yX8_takeOne.cls yX8_takeOne yX8_takeOne ∈ vm_WS := vm_s5 (q := (yX8_takeOne, _)) 15 rfl rfl
theorem ww_80 : Cond.selects yX8_takeSign.cls yX8_takeSign yX8_takeSign ∈ vm_WS := vm_s6 (q := (yX8_takeSign, _)) 0 rfl rfl
theorem ww_81 : Cond.selects yX8_takeRange.cls yX8_takeRange yX8_takeRange ∈ vm_WS := vm_s6 (q := (yX8_takeRange, _)) 1 rfl rfl
theorem ww_82 : Cond.selects yX8_takeNumber.cls yX8_takeNumber yX8_takeNumber ∈ vm_WS := vm_s6 (q := (yX8_takeNumber, _)) 2 rfl rfl
theorem ww_83 : Cond.selects yX8_takeBag.cls yX8_takeBag yX8_takeBag ∈ vm_WS := vm_s6 (q := (yX8_takeBag, _)) 3 rfl rfl
theorem ww_84 : Cond.selects yX8_takeBags.cls yX8_takeBags yX8_takeBags ∈ vm_WS := vm_s6 (q := (yX8_takeBags, _)) 4 rfl rfl
theorem ww_85 : Cond.selects yX8_takeKind.cls yX8_takeKind yX8_takeKind ∈ vm_WS := vm_s6 (q := (yX8_takeKind, _)) 5 rfl rfl
theorem ww_86 : Cond.selects yX8_takeMore.cls yX8_takeMore yX8_takeMore ∈ vm_WS := vm_s6 (q := (yX8_takeMore, _)) 6 rfl rfl
theorem ww_87 : Cond.selects yX8_tellOne.cls yX8_tellOne yX8_tellOne ∈ vm_WS := vm_s6 (q := (yX8_tellOne, _)) 7 rfl rfl
theorem inw0 : ∀ w ∈ u_ws RX0 TX0 3, w ∈ vm_WS := List.forall_mem_cons.mpr ⟨ww_121, List.forall_mem_cons.mpr ⟨ww_123, List.forall_mem_cons.mpr ⟨ww_125, fun _ h => absurd h List.not_mem_nil⟩⟩⟩
theorem clk0 : vm_clk 0 RX0 TX0 3 tyX0 := ⟨rfl, inw0, tyX0_ok, nmX0, rfl⟩
theorem inw1 : ∀ w ∈ u_ws RX1 TX1 3, w ∈ vm_WS := List.forall_mem_cons.mpr ⟨ww_212, List.forall_mem_cons.mpr ⟨ww_214, List.forall_mem_cons.mpr ⟨ww_216, fun _ h => absurd h List.not_mem_nil⟩⟩⟩
theorem clk1 : vm_clk 1 RX1 TX1 3 tyX1 := ⟨rfl, inw1, tyX1_ok, nmX1, rfl⟩
theorem inw2 : ∀ w ∈ u_ws RX2 TX2 3, w ∈ vm_WS := List.forall_mem_cons.mpr ⟨ww_222, List.forall_mem_cons.mpr ⟨ww_224, List.forall_mem_cons.mpr ⟨ww_226, fun _ h => absurd h List.not_mem_nil⟩⟩⟩
theorem clk2 : vm_clk 2 RX2 TX2 3 tyX2 := ⟨rfl, inw2, tyX2_ok, nmX2, rfl⟩
theorem inw3 : ∀ w ∈ u_ws RX3 TX3 9, w ∈ vm_WS := List.forall_mem_cons.mpr ⟨ww_245, List.forall_mem_cons.mpr ⟨ww_247, List.forall_mem_cons.mpr ⟨ww_249, List.forall_mem_cons.mpr ⟨ww_251, List.forall_mem_cons.mpr ⟨ww_253, List.forall_mem_cons.mpr ⟨ww_255, List.forall_mem_cons.mpr ⟨ww_257, List.forall_mem_cons.mpr ⟨ww_259, List.forall_mem_cons.mpr ⟨ww_261, fun _ h => absurd h List.not_mem_nil⟩⟩⟩⟩⟩⟩⟩⟩⟩
theorem clk3 : vm_clk 3 RX3 TX3 9 tyX3 := ⟨rfl, inw3, tyX3_ok, nmX3, rfl⟩
theorem inw4 : ∀ w ∈ u_ws RX4 TX4 9, w ∈ vm_WS := List.forall_mem_cons.mpr ⟨ww_165, List.forall_mem_cons.mpr ⟨ww_167, List.forall_mem_cons.mpr ⟨ww_169, List.forall_mem_cons.mpr ⟨ww_171, List.forall_mem_cons.mpr ⟨ww_173, List.forall_mem_cons.mpr ⟨ww_175, List.forall_mem_cons.mpr ⟨ww_177, List.forall_mem_cons.mpr ⟨ww_179, List.forall_mem_cons.mpr ⟨ww_181, fun _ h => absurd h List.not_mem_nil⟩⟩⟩⟩⟩⟩⟩⟩⟩
theorem clk4 : vm_clk 4 RX4 TX4 9 tyX4 := ⟨rfl, inw4, tyX4_ok, nmX4, rfl⟩
theorem inw5 : ∀ w ∈ u_ws RX5 TX5 5, w ∈ vm_WS := List.forall_mem_cons.mpr ⟨ww_192, List.forall_mem_cons.mpr ⟨ww_194, List.forall_mem_cons.mpr ⟨ww_196, List.forall_mem_cons.mpr ⟨ww_198, List.forall_mem_cons.mpr ⟨ww_200, fun _ h => absurd h List.not_mem_nil⟩⟩⟩⟩⟩
theorem clk5 : vm_clk 5 RX5 TX5 5 tyX5 := ⟨rfl, inw5, tyX5_ok, nmX5, rfl⟩
theorem inw6 : ∀ w ∈ u_ws RX6 TX6 2, w ∈ vm_WS := List.forall_mem_cons.mpr ⟨ww_273, List.forall_mem_cons.mpr ⟨ww_275, fun _ h => absurd h List.not_mem_nil⟩⟩
theorem clk6 : vm_clk 6 RX6 TX6 2 tyX6 := ⟨rfl, inw6, tyX6_ok, nmX6, rfl⟩
theorem inw7 : ∀ w ∈ u_ws RX7 TX7 7, w ∈ vm_WS := List.forall_mem_cons.mpr ⟨ww_285, List.forall_mem_cons.mpr ⟨ww_287, List.forall_mem_cons.mpr ⟨ww_289, List.forall_mem_cons.mpr ⟨ww_291, List.forall_mem_cons.mpr ⟨ww_293, List.forall_mem_cons.mpr ⟨ww_295, List.forall_mem_cons.mpr ⟨ww_297, fun _ h => absurd h List.not_mem_nil⟩⟩⟩⟩⟩⟩⟩
theorem clk7 : vm_clk 7 RX7 TX7 7 tyX7 := ⟨rfl, inw7, tyX7_ok, nmX7, rfl⟩
theorem inw8 : ∀ w ∈ u_ws RX8 TX8 23, w ∈ vm_WS := List.forall_mem_cons.mpr ⟨ww_766, List.forall_mem_cons.mpr ⟨ww_768, List.forall_mem_cons.mpr ⟨ww_770, List.forall_mem_cons.mpr ⟨ww_772, List.forall_mem_cons.mpr ⟨ww_774, List.forall_mem_cons.mpr ⟨ww_776, List.forall_mem_cons.mpr ⟨ww_778, List.forall_mem_cons.mpr ⟨ww_780, List.forall_mem_cons.mpr ⟨ww_782, List.forall_mem_cons.mpr ⟨ww_784, List.forall_mem_cons.mpr ⟨ww_786, List.forall_mem_cons.mpr ⟨ww_788, List.forall_mem_cons.mpr ⟨ww_790, List.forall_mem_cons.mpr ⟨ww_792, List.forall_mem_cons.mpr ⟨ww_794, List.forall_mem_cons.mpr ⟨ww_796, List.forall_mem_cons.mpr ⟨ww_798, List.forall_mem_cons.mpr ⟨ww_800, List.forall_mem_cons.mpr ⟨ww_802, List.forall_mem_cons.mpr ⟨ww_804, List.forall_mem_cons.mpr ⟨ww_806, List.forall_mem_cons.mpr ⟨ww_808, List.forall_mem_cons.mpr ⟨ww_810, fun _ h => absurd h List.not_mem_nil⟩⟩⟩⟩⟩⟩⟩⟩⟩⟩⟩⟩⟩⟩⟩⟩⟩⟩⟩⟩⟩⟩⟩
theorem clk8 : vm_clk 8 RX8 TX8 23 tyX8 := ⟨rfl, inw8, tyX8_ok, nmX8, rfl⟩
end
section
theorem vm_okM_of {M : vm_Me} (h : M.code.all (fun e => decide (decode M.bytes e.1 = .ok (e.2.1, e.2.2.1))) = true) : vm_okM M := fun e he => of_decide_eq_true (List.all_eq_true.mp h e he)
def mX0_has : vm_Me := (yX0_has, cX0_has, 2, (some .boolean), [(0, .iload_n 1, 1, []), (1, .ifCond .lt 15, 3, []), (4, .iload_n 1, 1, []), (5, .aload_n 0, 1, []), (6, .getfield 19, 3, []), (9, .if_icmp .ge 7, 3, []), (12, .iconst 1, 1, []), (13, .goto 4, 3, []), (16, .iconst 0, 1, []), (17, .ireturn, 1, [])])
theorem okX0_has : vm_okM mX0_has := vm_okM_of (by decide +kernel)
theorem calX0_has : vm_calI mX0_has 1 := ⟨⟨ww_363, ww_364⟩, ww_365, ww_90, by decide +kernel, by decide⟩
def mX0_isFull : vm_Me := (yX0_isFull, cX0_isFull, 1, (some .boolean), [(0, .aload_n 0, 1, []), (1, .getfield 19, 3, []), (4, .bipush 10, 2, []), (6, .if_icmp .lt 7, 3, []), (9, .iconst 1, 1, []), (10, .goto 4, 3, []), (13, .iconst 0, 1, []), (14, .ireturn, 1, [])])
theorem okX0_isFull : vm_okM mX0_isFull := vm_okM_of (by decide +kernel)
theorem calX0_isFull : vm_calI mX0_isFull 0 := ⟨⟨ww_350, ww_351⟩, ww_352, ww_90, by decide +kernel, by decide⟩
def mX0_all : vm_Me := (yX0_all, cX0_all, 1, (some .int), [(0, .iconst 1, 1, []), (1, .aload_n 0, 1, []), (2, .getfield 19, 3, []), (5, .ishl, 1, []), (6, .iconst 1, 1, []), (7, .isub, 1, []), (8, .ireturn, 1, [])])
theorem okX0_all : vm_okM mX0_all := vm_okM_of (by decide +kernel)
theorem calX0_all : vm_calI mX0_all 0 := ⟨⟨ww_388, ww_389⟩, ww_390, ww_90, by decide +kernel, by decide⟩
def mX0_number : vm_Me := (yX0_number, cX0_number, 3, (some .int), [(0, .iload_n 1, 1, []), (1, .iconst 0, 1, []), (2, .bipush 10, 2, []), (4, .invokestatic 22, 3, []), (7, .ifCond .eq 26, 3, []), (10, .iload_n 2, 1, []), (11, .iconst 0, 1, []), (12, .iconst 5, 1, []), (13, .invokestatic 22, 3, []), (16, .ifCond .eq 17, 3, []), (19, .aload_n 0, 1, []), (20, .getfield 11, 3, []), (23, .iload_n 1, 1, []), (24, .bipush 6, 2, []), (26, .imul, 1, []), (27, .iload_n 2, 1, []), (28, .iadd, 1, []), (29, .iaload, 1, []), (30, .goto 4, 3, []), (33, .iconst 0, 1, []), (34, .ireturn, 1, [])])
theorem okX0_number : vm_okM mX0_number := vm_okM_of (by decide +kernel)
theorem calX0_number : vm_calI mX0_number 2 := ⟨⟨ww_376, ww_377⟩, ww_378, ww_90, by decide +kernel, by decide⟩
def mX0_ask : vm_Me := (yX0_ask, cX0_ask, 8, (some .boolean), [(0, .iload_n 1, 1, []), (1, .iload_n 2, 1, []), (2, .iload_n 3, 1, []), (3, .iload 4, 2, []), (5, .iload 5, 2, []), (7, .iload 6, 2, []), (9, .invokestatic 26, 3, []), (12, .ifCond .ne 5, 3, []), (15, .iconst 0, 1, []), (16, .ireturn, 1, []), (17, .bipush 60, 2, []), (19, .istore 7, 2, []), (21, .aload_n 0, 1, []), (22, .getfield 11, 3, []), (25, .iload 7, 2, []), (27, .iconst 0, 1, []), (28, .iadd, 1, []), (29, .iload_n 1, 1, []), (30, .iastore, 1, []), (31, .aload_n 0, 1, []), (32, .getfield 11, 3, []), (35, .iload 7, 2, []), (37, .iconst 1, 1, []), (38, .iadd, 1, []), (39, .iload_n 2, 1, []), (40, .iastore, 1, []), (41, .aload_n 0, 1, []), (42, .getfield 11, 3, []), (45, .iload 7, 2, []), (47, .iconst 2, 1, []), (48, .iadd, 1, []), (49, .iload_n 3, 1, []), (50, .iastore, 1, []), (51, .aload_n 0, 1, []), (52, .getfield 11, 3, []), (55, .iload 7, 2, []), (57, .iconst 3, 1, []), (58, .iadd, 1, []), (59, .iload 4, 2, []), (61, .iastore, 1, []), (62, .aload_n 0, 1, []), (63, .getfield 11, 3, []), (66, .iload 7, 2, []), (68, .iconst 4, 1, []), (69, .iadd, 1, []), (70, .iload 5, 2, []), (72, .iastore, 1, []), (73, .aload_n 0, 1, []), (74, .getfield 11, 3, []), (77, .iload 7, 2, []), (79, .iconst 5, 1, []), (80, .iadd, 1, []), (81, .iload 6, 2, []), (83, .iastore, 1, []), (84, .iconst 1, 1, []), (85, .ireturn, 1, [])])
theorem okX0_ask : vm_okM mX0_ask := vm_okM_of (by decide +kernel)
theorem calX0_ask : vm_calI mX0_ask 6 := ⟨⟨ww_333, ww_334⟩, ww_335, ww_90, by decide +kernel, by decide⟩
def mX0_keepAsked : vm_Me := (yX0_keepAsked, cX0_keepAsked, 1, (some .int), [(0, .aload_n 0, 1, []), (1, .invokevirtual 30, 3, []), (4, .ifCond .eq 6, 3, []), (7, .bipush (-4), 2, []), (9, .ireturn, 1, []), (10, .aload_n 0, 1, []), (11, .getfield 11, 3, []), (14, .bipush 60, 2, []), (16, .aload_n 0, 1, []), (17, .getfield 11, 3, []), (20, .aload_n 0, 1, []), (21, .getfield 19, 3, []), (24, .bipush 6, 2, []), (26, .imul, 1, []), (27, .bipush 6, 2, []), (29, .invokestatic 34, 3, []), (32, .aload_n 0, 1, []), (33, .dup, 1, []), (34, .getfield 19, 3, []), (37, .iconst 1, 1, []), (38, .iadd, 1, []), (39, .putfield 19, 3, []), (42, .aload_n 0, 1, []), (43, .getfield 19, 3, []), (46, .iconst 1, 1, []), (47, .isub, 1, []), (48, .ireturn, 1, [])])
theorem okX0_keepAsked : vm_okM mX0_keepAsked := vm_okM_of (by decide +kernel)
theorem calX0_keepAsked : vm_calI mX0_keepAsked 0 := ⟨⟨ww_354, ww_355⟩, ww_356, ww_90, by decide +kernel, by decide⟩
def mX0_remove : vm_Me := (yX0_remove, cX0_remove, 3, none, [(0, .aload_n 0, 1, []), (1, .iload_n 1, 1, []), (2, .invokevirtual 40, 3, []), (5, .ifCond .ne 4, 3, []), (8, .return_, 1, []), (9, .iload_n 1, 1, []), (10, .bipush 6, 2, []), (12, .imul, 1, []), (13, .istore_n 2, 1, []), (14, .aload_n 0, 1, []), (15, .getfield 11, 3, []), (18, .iload_n 2, 1, []), (19, .bipush 6, 2, []), (21, .iadd, 1, []), (22, .aload_n 0, 1, []), (23, .getfield 11, 3, []), (26, .iload_n 2, 1, []), (27, .aload_n 0, 1, []), (28, .getfield 19, 3, []), (31, .bipush 6, 2, []), (33, .imul, 1, []), (34, .iload_n 2, 1, []), (35, .isub, 1, []), (36, .bipush 6, 2, []), (38, .isub, 1, []), (39, .invokestatic 34, 3, []), (42, .aload_n 0, 1, []), (43, .dup, 1, []), (44, .getfield 19, 3, []), (47, .iconst 1, 1, []), (48, .isub, 1, []), (49, .putfield 19, 3, []), (52, .return_, 1, [])])
theorem okX0_remove : vm_okM mX0_remove := vm_okM_of (by decide +kernel)
theorem calX0_remove : vm_calI mX0_remove 1 := ⟨⟨ww_367, ww_368⟩, ww_369, ww_90, by decide +kernel, by decide⟩
def mX0_writeTo : vm_Me := (yX0_writeTo, cX0_writeTo, 3, none, [(0, .aload_n 1, 1, []), (1, .iload_n 2, 1, []), (2, .aload_n 0, 1, []), (3, .getfield 15, 3, []), (6, .iastore, 1, []), (7, .aload_n 1, 1, []), (8, .iload_n 2, 1, []), (9, .iconst 1, 1, []), (10, .iadd, 1, []), (11, .aload_n 0, 1, []), (12, .getfield 19, 3, []), (15, .iastore, 1, []), (16, .aload_n 0, 1, []), (17, .getfield 11, 3, []), (20, .iconst 0, 1, []), (21, .aload_n 1, 1, []), (22, .iload_n 2, 1, []), (23, .iconst 2, 1, []), (24, .iadd, 1, []), (25, .bipush 60, 2, []), (27, .invokestatic 34, 3, []), (30, .return_, 1, [])])
theorem okX0_writeTo : vm_okM mX0_writeTo := vm_okM_of (by decide +kernel)
theorem calX0_writeTo : vm_calI mX0_writeTo 2 := ⟨⟨ww_324, ww_325⟩, ww_326, ww_90, by decide +kernel, by decide⟩
def mX0_readFrom : vm_Me := (yX0_readFrom, cX0_readFrom, 3, none, [(0, .aload_n 0, 1, []), (1, .aload_n 1, 1, []), (2, .iload_n 2, 1, []), (3, .iaload, 1, []), (4, .putfield 15, 3, []), (7, .aload_n 0, 1, []), (8, .aload_n 1, 1, []), (9, .iload_n 2, 1, []), (10, .iconst 1, 1, []), (11, .iadd, 1, []), (12, .iaload, 1, []), (13, .putfield 19, 3, []), (16, .aload_n 1, 1, []), (17, .iload_n 2, 1, []), (18, .iconst 2, 1, []), (19, .iadd, 1, []), (20, .aload_n 0, 1, []), (21, .getfield 11, 3, []), (24, .iconst 0, 1, []), (25, .bipush 60, 2, []), (27, .invokestatic 34, 3, []), (30, .return_, 1, [])])
theorem okX0_readFrom : vm_okM mX0_readFrom := vm_okM_of (by decide +kernel)
theorem calX0_readFrom : vm_calI mX0_readFrom 2 := ⟨⟨ww_726, ww_727⟩, ww_728, ww_90, by decide +kernel, by decide⟩
def mX0_isFact : vm_Me := (yX0_isFact, cX0_isFact, 6, (some .boolean), [(0, .iload_n 1, 1, []), (1, .invokestatic 44, 3, []), (4, .ifCond .ne 5, 3, []), (7, .iconst 0, 1, []), (8, .ireturn, 1, []), (9, .iload_n 0, 1, []), (10, .tableswitch 194 0 6 #[42, 71, 97, 97, 97, 127, 154], 42, []), (52, .iload_n 2, 1, []), (53, .invokestatic 47, 3, []), (56, .ifCond .eq 23, 3, []), (59, .iload_n 3, 1, []), (60, .iload 4, 2, []), (62, .bipush 6, 2, []), (64, .invokestatic 50, 3, []), (67, .ifCond .eq 12, 3, []), (70, .iload 5, 2, []), (72, .ifCond .ne 7, 3, []), (75, .iconst 1, 1, []), (76, .goto 4, 3, []), (79, .iconst 0, 1, []), (80, .ireturn, 1, []), (81, .iload_n 2, 1, []), (82, .iload_n 3, 1, []), (83, .bipush 18, 2, []), (85, .invokestatic 50, 3, []), (88, .ifCond .eq 17, 3, []), (91, .iload 4, 2, []), (93, .ifCond .ne 12, 3, []), (96, .iload 5, 2, []), (98, .ifCond .ne 7, 3, []), (101, .iconst 1, 1, []), (102, .goto 4, 3, []), (105, .iconst 0, 1, []), (106, .ireturn, 1, []), (107, .iload_n 2, 1, []), (108, .invokestatic 44, 3, []), (111, .ifCond .eq 24, 3, []), (114, .iload_n 3, 1, []), (115, .invokestatic 44, 3, []), (118, .ifCond .eq 17, 3, []), (121, .iload 4, 2, []), (123, .ifCond .ne 12, 3, []), (126, .iload 5, 2, []), (128, .ifCond .ne 7, 3, []), (131, .iconst 1, 1, []), (132, .goto 4, 3, []), (135, .iconst 0, 1, []), (136, .ireturn, 1, []), (137, .iload_n 2, 1, []), (138, .invokestatic 44, 3, []), (141, .ifCond .eq 21, 3, []), (144, .iload_n 3, 1, []), (145, .ifCond .ne 17, 3, []), (148, .iload 4, 2, []), (150, .ifCond .ne 12, 3, []), (153, .iload 5, 2, []), (155, .ifCond .ne 7, 3, []), (158, .iconst 1, 1, []), (159, .goto 4, 3, []), (162, .iconst 0, 1, []), (163, .ireturn, 1, []), (164, .iload_n 2, 1, []), (165, .invokestatic 47, 3, []), (168, .ifCond .eq 34, 3, []), (171, .iload_n 3, 1, []), (172, .invokestatic 44, 3, []), (175, .ifCond .eq 27, 3, []), (178, .iload 4, 2, []), (180, .invokestatic 47, 3, []), (183, .ifCond .eq 19, 3, []), (186, .iload 5, 2, []), (188, .bipush (-6), 2, []), (190, .bipush 6, 2, []), (192, .invokestatic 22, 3, []), (195, .ifCond .eq 7, 3, []), (198, .iconst 1, 1, []), (199, .goto 4, 3, []), (202, .iconst 0, 1, []), (203, .ireturn, 1, []), (204, .iconst 0, 1, []), (205, .ireturn, 1, [])])
theorem okX0_isFact : vm_okM mX0_isFact := vm_okM_of (by decide +kernel)
theorem calX0_isFact : vm_calS mX0_isFact 6 := ⟨ww_337, ww_338, ww_90, by decide +kernel, by decide⟩
def mX0_isRange : vm_Me := (yX0_isRange, cX0_isRange, 3, (some .boolean), [(0, .iload_n 0, 1, []), (1, .ifCond .lt 17, 3, []), (4, .iload_n 0, 1, []), (5, .iload_n 1, 1, []), (6, .if_icmp .gt 12, 3, []), (9, .iload_n 1, 1, []), (10, .iload_n 2, 1, []), (11, .if_icmp .gt 7, 3, []), (14, .iconst 1, 1, []), (15, .goto 4, 3, []), (18, .iconst 0, 1, []), (19, .ireturn, 1, [])])
theorem okX0_isRange : vm_okM mX0_isRange := vm_okM_of (by decide +kernel)
theorem calX0_isRange : vm_calS mX0_isRange 3 := ⟨ww_346, ww_347, ww_90, by decide +kernel, by decide⟩
def mX1_close : vm_Me := (yX1_close, cX1_close, 5, none, [(0, .aload_n 0, 1, []), (1, .aload_n 1, 1, []), (2, .getfield 15, 3, []), (5, .putfield 21, 3, []), (8, .iconst 0, 1, []), (9, .istore_n 3, 1, []), (10, .iload_n 3, 1, []), (11, .aload_n 0, 1, []), (12, .getfield 9, 3, []), (15, .arraylength, 1, []), (16, .if_icmp .ge 34, 3, []), (19, .aload_n 0, 1, []), (20, .getfield 9, 3, []), (23, .iload_n 3, 1, []), (24, .iload_n 3, 1, []), (25, .iconst 4, 1, []), (26, .idiv, 1, []), (27, .iconst 4, 1, []), (28, .irem, 1, []), (29, .iload_n 3, 1, []), (30, .iconst 4, 1, []), (31, .irem, 1, []), (32, .if_icmp .ne 7, 3, []), (35, .iconst 0, 1, []), (36, .goto 7, 3, []), (39, .aload_n 0, 1, []), (40, .getfield 21, 3, []), (43, .iastore, 1, []), (44, .iinc 3 1, 3, []), (47, .goto (-37), 3, []), (50, .aload_n 0, 1, []), (51, .iconst 1, 1, []), (52, .putfield 22, 3, []), (55, .iconst 0, 1, []), (56, .istore_n 3, 1, []), (57, .iload_n 3, 1, []), (58, .sipush 1000, 3, []), (61, .if_icmp .ge 81, 3, []), (64, .aload_n 0, 1, []), (65, .getfield 22, 3, []), (68, .ifCond .eq 74, 3, []), (71, .aload_n 0, 1, []), (72, .iconst 0, 1, []), (73, .putfield 22, 3, []), (76, .iconst 0, 1, []), (77, .istore 4, 2, []), (79, .iload 4, 2, []), (81, .bipush 10, 2, []), (83, .if_icmp .gt 25, 3, []), (86, .iload_n 2, 1, []), (87, .iconst 1, 1, []), (88, .iload 4, 2, []), (90, .ishl, 1, []), (91, .iand, 1, []), (92, .ifCond .eq 10, 3, []), (95, .aload_n 0, 1, []), (96, .aload_n 1, 1, []), (97, .iload 4, 2, []), (99, .invokevirtual 26, 3, []), (102, .iinc 4 1, 3, []), (105, .goto (-26), 3, []), (108, .iconst 0, 1, []), (109, .istore 4, 2, []), (111, .iload 4, 2, []), (113, .iconst 3, 1, []), (114, .if_icmp .ge 22, 3, []), (117, .aload_n 0, 1, []), (118, .getfield 22, 3, []), (121, .ifCond .eq 15, 3, []), (124, .aload_n 0, 1, []), (125, .iload 4, 2, []), (127, .invokevirtual 30, 3, []), (130, .iinc 4 1, 3, []), (133, .goto (-22), 3, []), (136, .iinc 3 1, 3, []), (139, .goto (-82), 3, []), (142, .return_, 1, [])])
theorem okX1_close : vm_okM mX1_close := vm_okM_of (by decide +kernel)
theorem calX1_close : vm_calI mX1_close 2 := ⟨⟨ww_432, ww_433⟩, ww_434, ww_94, by decide +kernel, by decide⟩
def mX1_addTo : vm_Me := (yX1_addTo, cX1_addTo, 8, none, [(0, .iconst 0, 1, []), (1, .istore_n 3, 1, []), (2, .iload_n 3, 1, []), (3, .iconst 4, 1, []), (4, .if_icmp .ge 138, 3, []), (7, .iconst 0, 1, []), (8, .istore 4, 2, []), (10, .iload 4, 2, []), (12, .iconst 4, 1, []), (13, .if_icmp .ge 123, 3, []), (16, .iconst 0, 1, []), (17, .istore 5, 2, []), (19, .iconst 0, 1, []), (20, .istore 6, 2, []), (22, .iload 6, 2, []), (24, .iconst 3, 1, []), (25, .if_icmp .ge 66, 3, []), (28, .aload_n 0, 1, []), (29, .iload 6, 2, []), (31, .iload_n 3, 1, []), (32, .iload 4, 2, []), (34, .invokevirtual 34, 3, []), (37, .istore 7, 2, []), (39, .iload 5, 2, []), (41, .iload 7, 2, []), (43, .iadd, 1, []), (44, .istore 5, 2, []), (46, .iload 7, 2, []), (48, .iload_n 3, 1, []), (49, .iload 4, 2, []), (51, .if_icmp .ne 7, 3, []), (54, .iconst 0, 1, []), (55, .goto 7, 3, []), (58, .aload_n 0, 1, []), (59, .getfield 21, 3, []), (62, .if_icmp .ge 23, 3, []), (65, .aload_n 1, 1, []), (66, .iload 4, 2, []), (68, .iload 6, 2, []), (70, .invokestatic 38, 3, []), (73, .iload_n 3, 1, []), (74, .iload 6, 2, []), (76, .invokestatic 38, 3, []), (79, .iload 7, 2, []), (81, .ineg, 1, []), (82, .invokevirtual 44, 3, []), (85, .iinc 6 1, 3, []), (88, .goto (-66), 3, []), (91, .iload_n 2, 1, []), (92, .ifCond .eq 38, 3, []), (95, .iload_n 3, 1, []), (96, .iload 4, 2, []), (98, .if_icmp .eq 32, 3, []), (101, .iload 5, 2, []), (103, .iconst 3, 1, []), (104, .aload_n 0, 1, []), (105, .getfield 21, 3, []), (108, .imul, 1, []), (109, .if_icmp .ge 21, 3, []), (112, .aload_n 1, 1, []), (113, .iload 4, 2, []), (115, .iconst 3, 1, []), (116, .invokestatic 38, 3, []), (119, .iload_n 3, 1, []), (120, .iconst 3, 1, []), (121, .invokestatic 38, 3, []), (124, .iload 5, 2, []), (126, .ineg, 1, []), (127, .invokevirtual 44, 3, []), (130, .iinc 4 1, 3, []), (133, .goto (-123), 3, []), (136, .iinc 3 1, 3, []), (139, .goto (-137), 3, []), (142, .return_, 1, [])])
theorem okX1_addTo : vm_okM mX1_addTo := vm_okM_of (by decide +kernel)
theorem calX1_addTo : vm_calI mX1_addTo 2 := ⟨⟨ww_456, ww_457⟩, ww_458, ww_94, by decide +kernel, by decide⟩
def mX1_of : vm_Me := (yX1_of, cX1_of, 4, (some .int), [(0, .aload_n 0, 1, []), (1, .getfield 9, 3, []), (4, .iload_n 1, 1, []), (5, .iconst 4, 1, []), (6, .imul, 1, []), (7, .iload_n 2, 1, []), (8, .iadd, 1, []), (9, .iconst 4, 1, []), (10, .imul, 1, []), (11, .iload_n 3, 1, []), (12, .iadd, 1, []), (13, .iaload, 1, []), (14, .ireturn, 1, [])])
theorem okX1_of : vm_okM mX1_of := vm_okM_of (by decide +kernel)
theorem calX1_of : vm_calI mX1_of 3 := ⟨⟨ww_446, ww_8⟩, ww_447, ww_94, by decide +kernel, by decide⟩
def mX1_narrow : vm_Me := (yX1_narrow, cX1_narrow, 6, none, [(0, .iload_n 1, 1, []), (1, .iconst 4, 1, []), (2, .imul, 1, []), (3, .iload_n 2, 1, []), (4, .iadd, 1, []), (5, .iconst 4, 1, []), (6, .imul, 1, []), (7, .iload_n 3, 1, []), (8, .iadd, 1, []), (9, .istore 5, 2, []), (11, .iload 4, 2, []), (13, .aload_n 0, 1, []), (14, .getfield 9, 3, []), (17, .iload 5, 2, []), (19, .iaload, 1, []), (20, .if_icmp .ge 32, 3, []), (23, .aload_n 0, 1, []), (24, .getfield 9, 3, []), (27, .iload 5, 2, []), (29, .iaload, 1, []), (30, .aload_n 0, 1, []), (31, .getfield 21, 3, []), (34, .ineg, 1, []), (35, .if_icmp .lt 17, 3, []), (38, .aload_n 0, 1, []), (39, .getfield 9, 3, []), (42, .iload 5, 2, []), (44, .iload 4, 2, []), (46, .iastore, 1, []), (47, .aload_n 0, 1, []), (48, .iconst 1, 1, []), (49, .putfield 22, 3, []), (52, .return_, 1, [])])
theorem okX1_narrow : vm_okM mX1_narrow := vm_okM_of (by decide +kernel)
theorem calX1_narrow : vm_calI mX1_narrow 4 := ⟨⟨ww_442, ww_7⟩, ww_443, ww_94, by decide +kernel, by decide⟩
def mX1_chain : vm_Me := (yX1_chain, cX1_chain, 5, none, [(0, .iconst 0, 1, []), (1, .istore_n 2, 1, []), (2, .iload_n 2, 1, []), (3, .iconst 4, 1, []), (4, .if_icmp .ge 61, 3, []), (7, .iconst 0, 1, []), (8, .istore_n 3, 1, []), (9, .iload_n 3, 1, []), (10, .iconst 4, 1, []), (11, .if_icmp .ge 48, 3, []), (14, .iconst 0, 1, []), (15, .istore 4, 2, []), (17, .iload 4, 2, []), (19, .iconst 4, 1, []), (20, .if_icmp .ge 33, 3, []), (23, .aload_n 0, 1, []), (24, .iload_n 1, 1, []), (25, .iload_n 3, 1, []), (26, .iload 4, 2, []), (28, .aload_n 0, 1, []), (29, .iload_n 1, 1, []), (30, .iload_n 3, 1, []), (31, .iload_n 2, 1, []), (32, .invokevirtual 34, 3, []), (35, .aload_n 0, 1, []), (36, .iload_n 1, 1, []), (37, .iload_n 2, 1, []), (38, .iload 4, 2, []), (40, .invokevirtual 34, 3, []), (43, .iadd, 1, []), (44, .invokevirtual 50, 3, []), (47, .iinc 4 1, 3, []), (50, .goto (-33), 3, []), (53, .iinc 3 1, 3, []), (56, .goto (-47), 3, []), (59, .iinc 2 1, 3, []), (62, .goto (-60), 3, []), (65, .return_, 1, [])])
theorem okX1_chain : vm_okM mX1_chain := vm_okM_of (by decide +kernel)
theorem calX1_chain : vm_calI mX1_chain 1 := ⟨⟨ww_453, ww_9⟩, ww_454, ww_94, by decide +kernel, by decide⟩
def mX1_apply : vm_Me := (yX1_apply, cX1_apply, 9, none, [(0, .aload_n 1, 1, []), (1, .iload_n 2, 1, []), (2, .iconst 0, 1, []), (3, .invokevirtual 54, 3, []), (6, .istore_n 3, 1, []), (7, .aload_n 1, 1, []), (8, .iload_n 2, 1, []), (9, .iconst 1, 1, []), (10, .invokevirtual 54, 3, []), (13, .istore 4, 2, []), (15, .aload_n 1, 1, []), (16, .iload_n 2, 1, []), (17, .iconst 2, 1, []), (18, .invokevirtual 54, 3, []), (21, .istore 5, 2, []), (23, .aload_n 1, 1, []), (24, .iload_n 2, 1, []), (25, .iconst 3, 1, []), (26, .invokevirtual 54, 3, []), (29, .istore 6, 2, []), (31, .iload_n 3, 1, []), (32, .bipush 6, 2, []), (34, .if_icmp .ne 31, 3, []), (37, .iload 5, 2, []), (39, .aload_n 1, 1, []), (40, .iload_n 2, 1, []), (41, .iconst 4, 1, []), (42, .invokevirtual 54, 3, []), (45, .if_icmp .ne 20, 3, []), (48, .aload_n 0, 1, []), (49, .iload 5, 2, []), (51, .iload 6, 2, []), (53, .iload 4, 2, []), (55, .aload_n 1, 1, []), (56, .iload_n 2, 1, []), (57, .iconst 5, 1, []), (58, .invokevirtual 54, 3, []), (61, .ineg, 1, []), (62, .invokevirtual 50, 3, []), (65, .iconst 0, 1, []), (66, .istore 7, 2, []), (68, .iload 7, 2, []), (70, .iconst 3, 1, []), (71, .if_icmp .ge 172, 3, []), (74, .iload_n 3, 1, []), (75, .iconst 5, 1, []), (76, .if_icmp .eq 8, 3, []), (79, .iload_n 3, 1, []), (80, .iconst 4, 1, []), (81, .if_icmp .ne 14, 3, []), (84, .aload_n 0, 1, []), (85, .iload 7, 2, []), (87, .iload 4, 2, []), (89, .iload 5, 2, []), (91, .iconst 0, 1, []), (92, .invokevirtual 50, 3, []), (95, .iload_n 3, 1, []), (96, .iconst 4, 1, []), (97, .if_icmp .ne 14, 3, []), (100, .aload_n 0, 1, []), (101, .iload 7, 2, []), (103, .iload 4, 2, []), (105, .iload 6, 2, []), (107, .iconst 0, 1, []), (108, .invokevirtual 50, 3, []), (111, .iload_n 3, 1, []), (112, .iconst 2, 1, []), (113, .if_icmp .eq 8, 3, []), (116, .iload_n 3, 1, []), (117, .iconst 3, 1, []), (118, .if_icmp .ne 25, 3, []), (121, .aload_n 0, 1, []), (122, .iload 7, 2, []), (124, .iload 5, 2, []), (126, .iload 4, 2, []), (128, .iconst 0, 1, []), (129, .invokevirtual 50, 3, []), (132, .aload_n 0, 1, []), (133, .iload 7, 2, []), (135, .iload 6, 2, []), (137, .iload 4, 2, []), (139, .iconst 0, 1, []), (140, .invokevirtual 50, 3, []), (143, .iconst 0, 1, []), (144, .istore 8, 2, []), (146, .iload 8, 2, []), (148, .iconst 4, 1, []), (149, .if_icmp .ge 88, 3, []), (152, .iload_n 3, 1, []), (153, .iconst 3, 1, []), (154, .if_icmp .ne 39, 3, []), (157, .aload_n 0, 1, []), (158, .iload 7, 2, []), (160, .iload 4, 2, []), (162, .iload 8, 2, []), (164, .aload_n 0, 1, []), (165, .iload 7, 2, []), (167, .iload 5, 2, []), (169, .iload 8, 2, []), (171, .invokevirtual 34, 3, []), (174, .aload_n 0, 1, []), (175, .iload 7, 2, []), (177, .iload 6, 2, []), (179, .iload 8, 2, []), (181, .invokevirtual 34, 3, []), (184, .invokestatic 57, 3, []), (187, .invokevirtual 50, 3, []), (190, .goto 41, 3, []), (193, .iload_n 3, 1, []), (194, .iconst 4, 1, []), (195, .if_icmp .ne 36, 3, []), (198, .aload_n 0, 1, []), (199, .iload 7, 2, []), (201, .iload 8, 2, []), (203, .iload 4, 2, []), (205, .aload_n 0, 1, []), (206, .iload 7, 2, []), (208, .iload 8, 2, []), (210, .iload 5, 2, []), (212, .invokevirtual 34, 3, []), (215, .aload_n 0, 1, []), (216, .iload 7, 2, []), (218, .iload 8, 2, []), (220, .iload 6, 2, []), (222, .invokevirtual 34, 3, []), (225, .invokestatic 57, 3, []), (228, .invokevirtual 50, 3, []), (231, .iinc 8 1, 3, []), (234, .goto (-88), 3, []), (237, .iinc 7 1, 3, []), (240, .goto (-172), 3, []), (243, .return_, 1, [])])
theorem okX1_apply : vm_okM mX1_apply := vm_okM_of (by decide +kernel)
theorem calX1_apply : vm_calI mX1_apply 2 := ⟨⟨ww_437, ww_6⟩, ww_438, ww_94, by decide +kernel, by decide⟩
def mX2_canHold : vm_Me := (yX2_canHold, cX2_canHold, 2, (some .boolean), [(0, .aload_n 0, 1, []), (1, .iload_n 1, 1, []), (2, .iconst 0, 1, []), (3, .invokevirtual 29, 3, []), (6, .aload_n 0, 1, []), (7, .getfield 12, 3, []), (10, .iconst 1, 1, []), (11, .invokevirtual 33, 3, []), (14, .ifCond .eq 7, 3, []), (17, .iconst 1, 1, []), (18, .goto 4, 3, []), (21, .iconst 0, 1, []), (22, .ireturn, 1, [])])
theorem okX2_canHold : vm_okM mX2_canHold := vm_okM_of (by decide +kernel)
theorem calX2_canHold : vm_calI mX2_canHold 1 := ⟨⟨ww_392, ww_393⟩, ww_394, ww_91, by decide +kernel, by decide⟩
def mX2_canFail : vm_Me := (yX2_canFail, cX2_canFail, 6, (some .boolean), [(0, .aload_n 0, 1, []), (1, .getfield 25, 3, []), (4, .iload_n 1, 1, []), (5, .iconst 0, 1, []), (6, .invokevirtual 39, 3, []), (9, .istore_n 3, 1, []), (10, .iload_n 3, 1, []), (11, .iconst 0, 1, []), (12, .bipush 6, 2, []), (14, .invokestatic 43, 3, []), (17, .ifCond .eq 11, 3, []), (20, .getstatic 47, 3, []), (23, .iload_n 3, 1, []), (24, .iaload, 1, []), (25, .goto 4, 3, []), (28, .iconst 0, 1, []), (29, .istore 4, 2, []), (31, .iconst 0, 1, []), (32, .istore 5, 2, []), (34, .iload 5, 2, []), (36, .iload 4, 2, []), (38, .if_icmp .ge 44, 3, []), (41, .aload_n 0, 1, []), (42, .iload_n 2, 1, []), (43, .iload_n 3, 1, []), (44, .iconst 1, 1, []), (45, .if_icmp .ne 7, 3, []), (48, .iconst 1, 1, []), (49, .goto 4, 3, []), (52, .iconst 0, 1, []), (53, .invokevirtual 29, 3, []), (56, .aload_n 0, 1, []), (57, .iload_n 1, 1, []), (58, .iload 5, 2, []), (60, .invokevirtual 51, 3, []), (63, .aload_n 0, 1, []), (64, .getfield 12, 3, []), (67, .iconst 1, 1, []), (68, .invokevirtual 33, 3, []), (71, .ifCond .eq 5, 3, []), (74, .iconst 1, 1, []), (75, .ireturn, 1, []), (76, .iinc 5 1, 3, []), (79, .goto (-45), 3, []), (82, .iconst 0, 1, []), (83, .ireturn, 1, [])])
theorem okX2_canFail : vm_okM mX2_canFail := vm_okM_of (by decide +kernel)
theorem calX2_canFail : vm_calI mX2_canFail 2 := ⟨⟨ww_602, ww_603⟩, ww_604, ww_91, by decide +kernel, by decide⟩
def mX2_howMany : vm_Me := (yX2_howMany, cX2_howMany, 2, (some .int), [(0, .aload_n 0, 1, []), (1, .aload_n 0, 1, []), (2, .getfield 25, 3, []), (5, .invokevirtual 55, 3, []), (8, .iconst 0, 1, []), (9, .invokevirtual 29, 3, []), (12, .aload_n 0, 1, []), (13, .getfield 12, 3, []), (16, .iload_n 1, 1, []), (17, .invokevirtual 33, 3, []), (20, .ireturn, 1, [])])
theorem okX2_howMany : vm_okM mX2_howMany := vm_okM_of (by decide +kernel)
theorem calX2_howMany : vm_calI mX2_howMany 1 := ⟨⟨ww_594, ww_595⟩, ww_596, ww_91, by decide +kernel, by decide⟩
def mX2_extreme : vm_Me := (yX2_extreme, cX2_extreme, 8, (some .int), [(0, .aload_n 0, 1, []), (1, .iload_n 1, 1, []), (2, .iload_n 2, 1, []), (3, .iconst 4, 1, []), (4, .irem, 1, []), (5, .iconst 3, 1, []), (6, .if_icmp .ne 7, 3, []), (9, .iconst 1, 1, []), (10, .goto 4, 3, []), (13, .iconst 0, 1, []), (14, .invokevirtual 29, 3, []), (17, .aload_n 0, 1, []), (18, .getfield 12, 3, []), (21, .invokevirtual 59, 3, []), (24, .ifCond .ne 6, 3, []), (27, .bipush (-6), 2, []), (29, .ireturn, 1, []), (30, .aload_n 0, 1, []), (31, .getfield 12, 3, []), (34, .getfield 63, 3, []), (37, .iload_n 2, 1, []), (38, .iaload, 1, []), (39, .istore 4, 2, []), (41, .aload_n 0, 1, []), (42, .getfield 12, 3, []), (45, .getfield 66, 3, []), (48, .iload_n 2, 1, []), (49, .iaload, 1, []), (50, .istore 5, 2, []), (52, .iconst 0, 1, []), (53, .istore 6, 2, []), (55, .iload 6, 2, []), (57, .iload 5, 2, []), (59, .iload 4, 2, []), (61, .isub, 1, []), (62, .if_icmp .gt 44, 3, []), (65, .iload_n 3, 1, []), (66, .ifCond .eq 11, 3, []), (69, .iload 5, 2, []), (71, .iload 6, 2, []), (73, .isub, 1, []), (74, .goto 8, 3, []), (77, .iload 4, 2, []), (79, .iload 6, 2, []), (81, .iadd, 1, []), (82, .istore 7, 2, []), (84, .aload_n 0, 1, []), (85, .getfield 12, 3, []), (88, .iload_n 2, 1, []), (89, .iload 7, 2, []), (91, .invokevirtual 69, 3, []), (94, .ifCond .eq 6, 3, []), (97, .iload 7, 2, []), (99, .ireturn, 1, []), (100, .iinc 6 1, 3, []), (103, .goto (-48), 3, []), (106, .bipush (-6), 2, []), (108, .ireturn, 1, [])])
theorem okX2_extreme : vm_okM mX2_extreme := vm_okM_of (by decide +kernel)
theorem calX2_extreme : vm_calI mX2_extreme 3 := ⟨⟨ww_563, ww_564⟩, ww_565, ww_91, by decide +kernel, by decide⟩
def mX2_inLeastSolution : vm_Me := (yX2_inLeastSolution, cX2_inLeastSolution, 5, (some .int), [(0, .aload_n 0, 1, []), (1, .aload_n 0, 1, []), (2, .getfield 25, 3, []), (5, .invokevirtual 55, 3, []), (8, .iconst 0, 1, []), (9, .invokevirtual 29, 3, []), (12, .aload_n 0, 1, []), (13, .getfield 12, 3, []), (16, .iconst 1, 1, []), (17, .invokevirtual 33, 3, []), (20, .ifCond .ne 6, 3, []), (23, .bipush (-6), 2, []), (25, .ireturn, 1, []), (26, .iconst 0, 1, []), (27, .istore_n 2, 1, []), (28, .iload_n 2, 1, []), (29, .iload_n 1, 1, []), (30, .if_icmp .gt 67, 3, []), (33, .aload_n 0, 1, []), (34, .getfield 12, 3, []), (37, .getfield 66, 3, []), (40, .iload_n 2, 1, []), (41, .iaload, 1, []), (42, .istore_n 3, 1, []), (43, .aload_n 0, 1, []), (44, .getfield 12, 3, []), (47, .getfield 63, 3, []), (50, .iload_n 2, 1, []), (51, .iaload, 1, []), (52, .istore 4, 2, []), (54, .iload 4, 2, []), (56, .iload_n 3, 1, []), (57, .if_icmp .ge 25, 3, []), (60, .aload_n 0, 1, []), (61, .getfield 12, 3, []), (64, .iload_n 2, 1, []), (65, .iload 4, 2, []), (67, .invokevirtual 69, 3, []), (70, .ifCond .eq 6, 3, []), (73, .iload 4, 2, []), (75, .istore_n 3, 1, []), (76, .iinc 4 1, 3, []), (79, .goto (-25), 3, []), (82, .aload_n 0, 1, []), (83, .getfield 12, 3, []), (86, .iload_n 2, 1, []), (87, .iload_n 3, 1, []), (88, .invokevirtual 73, 3, []), (91, .iinc 2 1, 3, []), (94, .goto (-66), 3, []), (97, .aload_n 0, 1, []), (98, .getfield 12, 3, []), (101, .getfield 63, 3, []), (104, .iload_n 1, 1, []), (105, .iaload, 1, []), (106, .ireturn, 1, [])])
theorem okX2_inLeastSolution : vm_okM mX2_inLeastSolution := vm_okM_of (by decide +kernel)
theorem calX2_inLeastSolution : vm_calI mX2_inLeastSolution 1 := ⟨⟨ww_580, ww_581⟩, ww_582, ww_91, by decide +kernel, by decide⟩
def mX2_load : vm_Me := (yX2_load, cX2_load, 5, none, [(0, .iload_n 2, 1, []), (1, .ifCond .ne 11, 3, []), (4, .aload_n 0, 1, []), (5, .iload_n 1, 1, []), (6, .invokevirtual 76, 3, []), (9, .ifCond .eq 7, 3, []), (12, .iconst 1, 1, []), (13, .goto 4, 3, []), (16, .iconst 0, 1, []), (17, .istore_n 3, 1, []), (18, .aload_n 0, 1, []), (19, .getfield 12, 3, []), (22, .aload_n 0, 1, []), (23, .getfield 25, 3, []), (26, .getfield 80, 3, []), (29, .iload_n 3, 1, []), (30, .invokevirtual 84, 3, []), (33, .aload_n 0, 1, []), (34, .getfield 21, 3, []), (37, .aload_n 0, 1, []), (38, .getfield 25, 3, []), (41, .iload_n 1, 1, []), (42, .invokevirtual 87, 3, []), (45, .aload_n 0, 1, []), (46, .getfield 21, 3, []), (49, .aload_n 0, 1, []), (50, .getfield 12, 3, []), (53, .getfield 91, 3, []), (56, .iload_n 3, 1, []), (57, .invokevirtual 95, 3, []), (60, .iconst 0, 1, []), (61, .istore 4, 2, []), (63, .iload 4, 2, []), (65, .bipush 10, 2, []), (67, .if_icmp .gt 25, 3, []), (70, .iload_n 1, 1, []), (71, .iconst 1, 1, []), (72, .iload 4, 2, []), (74, .ishl, 1, []), (75, .iand, 1, []), (76, .ifCond .eq 10, 3, []), (79, .aload_n 0, 1, []), (80, .iload 4, 2, []), (82, .iload_n 3, 1, []), (83, .invokevirtual 99, 3, []), (86, .iinc 4 1, 3, []), (89, .goto (-26), 3, []), (92, .return_, 1, [])])
theorem okX2_load : vm_okM mX2_load := vm_okM_of (by decide +kernel)
theorem calX2_load : vm_calI mX2_load 2 := ⟨⟨ww_397, ww_1⟩, ww_398, ww_91, by decide +kernel, by decide⟩
def mX2_hasSizeFact : vm_Me := (yX2_hasSizeFact, cX2_hasSizeFact, 3, (some .boolean), [(0, .iconst 0, 1, []), (1, .istore_n 2, 1, []), (2, .iload_n 2, 1, []), (3, .bipush 10, 2, []), (5, .if_icmp .gt 32, 3, []), (8, .iload_n 1, 1, []), (9, .iconst 1, 1, []), (10, .iload_n 2, 1, []), (11, .ishl, 1, []), (12, .iand, 1, []), (13, .ifCond .eq 18, 3, []), (16, .aload_n 0, 1, []), (17, .getfield 25, 3, []), (20, .iload_n 2, 1, []), (21, .iconst 0, 1, []), (22, .invokevirtual 39, 3, []), (25, .iconst 1, 1, []), (26, .if_icmp .ne 5, 3, []), (29, .iconst 1, 1, []), (30, .ireturn, 1, []), (31, .iinc 2 1, 3, []), (34, .goto (-32), 3, []), (37, .iconst 0, 1, []), (38, .ireturn, 1, [])])
theorem okX2_hasSizeFact : vm_okM mX2_hasSizeFact := vm_okM_of (by decide +kernel)
theorem calX2_hasSizeFact : vm_calI mX2_hasSizeFact 1 := ⟨⟨ww_401, ww_2⟩, ww_402, ww_91, by decide +kernel, by decide⟩
def mX2_addFact : vm_Me := (yX2_addFact, cX2_addFact, 9, none, [(0, .aload_n 0, 1, []), (1, .getfield 25, 3, []), (4, .iload_n 1, 1, []), (5, .iconst 0, 1, []), (6, .invokevirtual 39, 3, []), (9, .istore_n 3, 1, []), (10, .aload_n 0, 1, []), (11, .getfield 25, 3, []), (14, .iload_n 1, 1, []), (15, .iconst 1, 1, []), (16, .invokevirtual 39, 3, []), (19, .istore 4, 2, []), (21, .aload_n 0, 1, []), (22, .getfield 25, 3, []), (25, .iload_n 1, 1, []), (26, .iconst 2, 1, []), (27, .invokevirtual 39, 3, []), (30, .istore 5, 2, []), (32, .aload_n 0, 1, []), (33, .getfield 25, 3, []), (36, .iload_n 1, 1, []), (37, .iconst 3, 1, []), (38, .invokevirtual 39, 3, []), (41, .istore 6, 2, []), (43, .aload_n 0, 1, []), (44, .getfield 25, 3, []), (47, .iload_n 1, 1, []), (48, .iconst 4, 1, []), (49, .invokevirtual 39, 3, []), (52, .istore 7, 2, []), (54, .iload_n 3, 1, []), (55, .ifCond .ne 24, 3, []), (58, .aload_n 0, 1, []), (59, .getfield 12, 3, []), (62, .iload 4, 2, []), (64, .iload 5, 2, []), (66, .invokestatic 102, 3, []), (69, .iload 6, 2, []), (71, .iload 7, 2, []), (73, .invokevirtual 105, 3, []), (76, .goto 132, 3, []), (79, .iload_n 3, 1, []), (80, .iconst 1, 1, []), (81, .if_icmp .ne 23, 3, []), (84, .aload_n 0, 1, []), (85, .getfield 12, 3, []), (88, .iload 4, 2, []), (90, .iconst 3, 1, []), (91, .invokestatic 102, 3, []), (94, .iload 5, 2, []), (96, .iload 6, 2, []), (98, .invokevirtual 105, 3, []), (101, .goto 107, 3, []), (104, .iload_n 3, 1, []), (105, .bipush 6, 2, []), (107, .if_icmp .ne 50, 3, []), (110, .iload 5, 2, []), (112, .iload 7, 2, []), (114, .if_icmp .eq 43, 3, []), (117, .aload_n 0, 1, []), (118, .getfield 25, 3, []), (121, .iload_n 1, 1, []), (122, .iconst 5, 1, []), (123, .invokevirtual 39, 3, []), (126, .istore 8, 2, []), (128, .aload_n 0, 1, []), (129, .getfield 12, 3, []), (132, .getfield 91, 3, []), (135, .iload 4, 2, []), (137, .iload 5, 2, []), (139, .invokestatic 102, 3, []), (142, .iload 6, 2, []), (144, .iload 7, 2, []), (146, .invokestatic 102, 3, []), (149, .iload 8, 2, []), (151, .invokevirtual 109, 3, []), (154, .goto 54, 3, []), (157, .iload_n 3, 1, []), (158, .iconst 2, 1, []), (159, .if_icmp .eq 13, 3, []), (162, .iload_n 3, 1, []), (163, .iconst 3, 1, []), (164, .if_icmp .eq 8, 3, []), (167, .iload_n 3, 1, []), (168, .iconst 4, 1, []), (169, .if_icmp .ne 39, 3, []), (172, .iconst 0, 1, []), (173, .istore 8, 2, []), (175, .iload 8, 2, []), (177, .iload_n 2, 1, []), (178, .ifCond .eq 7, 3, []), (181, .iconst 4, 1, []), (182, .goto 4, 3, []), (185, .iconst 3, 1, []), (186, .if_icmp .ge 22, 3, []), (189, .aload_n 0, 1, []), (190, .iload_n 3, 1, []), (191, .iload 8, 2, []), (193, .iload 4, 2, []), (195, .iload 5, 2, []), (197, .iload 6, 2, []), (199, .invokevirtual 114, 3, []), (202, .iinc 8 1, 3, []), (205, .goto (-30), 3, []), (208, .return_, 1, [])])
theorem okX2_addFact : vm_okM mX2_addFact := vm_okM_of (by decide +kernel)
theorem calX2_addFact : vm_calI mX2_addFact 2 := ⟨⟨ww_466, ww_10⟩, ww_467, ww_91, by decide +kernel, by decide⟩
def mX2_addColumn : vm_Me := (yX2_addColumn, cX2_addColumn, 9, none, [(0, .iload_n 3, 1, []), (1, .iload_n 2, 1, []), (2, .invokestatic 102, 3, []), (5, .istore 6, 2, []), (7, .iload 4, 2, []), (9, .iload_n 2, 1, []), (10, .invokestatic 102, 3, []), (13, .istore 7, 2, []), (15, .iload 5, 2, []), (17, .iload_n 2, 1, []), (18, .invokestatic 102, 3, []), (21, .istore 8, 2, []), (23, .iload_n 1, 1, []), (24, .iconst 2, 1, []), (25, .if_icmp .ne 24, 3, []), (28, .aload_n 0, 1, []), (29, .getfield 12, 3, []), (32, .getfield 91, 3, []), (35, .iload 6, 2, []), (37, .iload 7, 2, []), (39, .iload 8, 2, []), (41, .iconst 0, 1, []), (42, .iconst 0, 1, []), (43, .invokevirtual 118, 3, []), (46, .goto 34, 3, []), (49, .iload_n 2, 1, []), (50, .iconst 3, 1, []), (51, .if_icmp .eq 29, 3, []), (54, .aload_n 0, 1, []), (55, .getfield 12, 3, []), (58, .getfield 91, 3, []), (61, .iload_n 1, 1, []), (62, .iconst 3, 1, []), (63, .if_icmp .ne 7, 3, []), (66, .iconst 1, 1, []), (67, .goto 4, 3, []), (70, .iconst 2, 1, []), (71, .iload 6, 2, []), (73, .iload 7, 2, []), (75, .iload 8, 2, []), (77, .invokevirtual 121, 3, []), (80, .return_, 1, [])])
theorem okX2_addColumn : vm_okM mX2_addColumn := vm_okM_of (by decide +kernel)
theorem calX2_addColumn : vm_calI mX2_addColumn 5 := ⟨⟨ww_481, ww_11⟩, ww_482, ww_91, by decide +kernel, by decide⟩
def mX2_addOpposite : vm_Me := (yX2_addOpposite, cX2_addOpposite, 9, none, [(0, .aload_n 0, 1, []), (1, .getfield 25, 3, []), (4, .iload_n 1, 1, []), (5, .iconst 0, 1, []), (6, .invokevirtual 39, 3, []), (9, .istore_n 3, 1, []), (10, .aload_n 0, 1, []), (11, .getfield 25, 3, []), (14, .iload_n 1, 1, []), (15, .iconst 1, 1, []), (16, .invokevirtual 39, 3, []), (19, .istore 4, 2, []), (21, .aload_n 0, 1, []), (22, .getfield 25, 3, []), (25, .iload_n 1, 1, []), (26, .iconst 2, 1, []), (27, .invokevirtual 39, 3, []), (30, .istore 5, 2, []), (32, .aload_n 0, 1, []), (33, .getfield 25, 3, []), (36, .iload_n 1, 1, []), (37, .iconst 3, 1, []), (38, .invokevirtual 39, 3, []), (41, .istore 6, 2, []), (43, .aload_n 0, 1, []), (44, .getfield 25, 3, []), (47, .iload_n 1, 1, []), (48, .iconst 4, 1, []), (49, .invokevirtual 39, 3, []), (52, .istore 7, 2, []), (54, .iload_n 3, 1, []), (55, .ifCond .ne 22, 3, []), (58, .aload_n 0, 1, []), (59, .iload 4, 2, []), (61, .iload 5, 2, []), (63, .invokestatic 102, 3, []), (66, .iload 6, 2, []), (68, .iload 7, 2, []), (70, .iload_n 2, 1, []), (71, .invokevirtual 125, 3, []), (74, .goto 108, 3, []), (77, .iload_n 3, 1, []), (78, .iconst 1, 1, []), (79, .if_icmp .ne 21, 3, []), (82, .aload_n 0, 1, []), (83, .iload 4, 2, []), (85, .iconst 3, 1, []), (86, .invokestatic 102, 3, []), (89, .iload 5, 2, []), (91, .iload 6, 2, []), (93, .iload_n 2, 1, []), (94, .invokevirtual 125, 3, []), (97, .goto 85, 3, []), (100, .iload_n 3, 1, []), (101, .bipush 6, 2, []), (103, .if_icmp .ne 45, 3, []), (106, .aload_n 0, 1, []), (107, .getfield 25, 3, []), (110, .iload_n 1, 1, []), (111, .iconst 5, 1, []), (112, .invokevirtual 39, 3, []), (115, .istore 8, 2, []), (117, .aload_n 0, 1, []), (118, .getfield 12, 3, []), (121, .getfield 91, 3, []), (124, .iload 6, 2, []), (126, .iload 7, 2, []), (128, .invokestatic 102, 3, []), (131, .iload 4, 2, []), (133, .iload 5, 2, []), (135, .invokestatic 102, 3, []), (138, .iconst 1, 1, []), (139, .iload 8, 2, []), (141, .isub, 1, []), (142, .invokevirtual 109, 3, []), (145, .goto 37, 3, []), (148, .iload_n 2, 1, []), (149, .iconst 3, 1, []), (150, .irem, 1, []), (151, .istore 8, 2, []), (153, .aload_n 0, 1, []), (154, .iload_n 3, 1, []), (155, .iload_n 2, 1, []), (156, .iconst 3, 1, []), (157, .idiv, 1, []), (158, .iload 4, 2, []), (160, .iload 8, 2, []), (162, .invokestatic 102, 3, []), (165, .iload 5, 2, []), (167, .iload 8, 2, []), (169, .invokestatic 102, 3, []), (172, .iload 6, 2, []), (174, .iload 8, 2, []), (176, .invokestatic 102, 3, []), (179, .invokevirtual 128, 3, []), (182, .return_, 1, [])])
theorem okX2_addOpposite : vm_okM mX2_addOpposite := vm_okM_of (by decide +kernel)
theorem calX2_addOpposite : vm_calI mX2_addOpposite 2 := ⟨⟨ww_610, ww_24⟩, ww_611, ww_91, by decide +kernel, by decide⟩
def mX2_restrictOutside : vm_Me := (yX2_restrictOutside, cX2_restrictOutside, 5, none, [(0, .iload 4, 2, []), (2, .ifCond .ne 18, 3, []), (5, .aload_n 0, 1, []), (6, .getfield 12, 3, []), (9, .iload_n 1, 1, []), (10, .iconst 0, 1, []), (11, .iload_n 2, 1, []), (12, .iconst 1, 1, []), (13, .isub, 1, []), (14, .invokevirtual 105, 3, []), (17, .goto 16, 3, []), (20, .aload_n 0, 1, []), (21, .getfield 12, 3, []), (24, .iload_n 1, 1, []), (25, .iload_n 3, 1, []), (26, .iconst 1, 1, []), (27, .iadd, 1, []), (28, .bipush 18, 2, []), (30, .invokevirtual 105, 3, []), (33, .return_, 1, [])])
theorem okX2_restrictOutside : vm_okM mX2_restrictOutside := vm_okM_of (by decide +kernel)
theorem calX2_restrictOutside : vm_calI mX2_restrictOutside 4 := ⟨⟨ww_614, ww_25⟩, ww_615, ww_91, by decide +kernel, by decide⟩
def mX2_addOppositeOfKind : vm_Me := (yX2_addOppositeOfKind, cX2_addOppositeOfKind, 8, none, [(0, .aload_n 0, 1, []), (1, .getfield 12, 3, []), (4, .getfield 91, 3, []), (7, .astore 6, 2, []), (9, .iload_n 2, 1, []), (10, .ifCond .ne 8, 3, []), (13, .iload 4, 2, []), (15, .goto 5, 3, []), (18, .iload 5, 2, []), (20, .istore 7, 2, []), (22, .iload_n 1, 1, []), (23, .iconst 5, 1, []), (24, .if_icmp .ne 15, 3, []), (27, .aload 6, 2, []), (29, .iload_n 3, 1, []), (30, .iload 4, 2, []), (32, .iconst 1, 1, []), (33, .invokevirtual 109, 3, []), (36, .goto 121, 3, []), (39, .iload_n 1, 1, []), (40, .iconst 2, 1, []), (41, .if_icmp .ne 36, 3, []), (44, .aload 6, 2, []), (46, .iload_n 3, 1, []), (47, .iload 4, 2, []), (49, .iload 5, 2, []), (51, .iload_n 2, 1, []), (52, .ifCond .ne 7, 3, []), (55, .iconst 1, 1, []), (56, .goto 5, 3, []), (59, .bipush (-18), 2, []), (61, .iload_n 2, 1, []), (62, .ifCond .ne 8, 3, []), (65, .bipush 18, 2, []), (67, .goto 4, 3, []), (70, .iconst (-1), 1, []), (71, .invokevirtual 118, 3, []), (74, .goto 83, 3, []), (77, .iload_n 2, 1, []), (78, .iconst 2, 1, []), (79, .if_icmp .ge 34, 3, []), (82, .aload 6, 2, []), (84, .iload_n 1, 1, []), (85, .iconst 3, 1, []), (86, .if_icmp .ne 8, 3, []), (89, .iload 7, 2, []), (91, .goto 4, 3, []), (94, .iload_n 3, 1, []), (95, .iload_n 1, 1, []), (96, .iconst 3, 1, []), (97, .if_icmp .ne 7, 3, []), (100, .iload_n 3, 1, []), (101, .goto 5, 3, []), (104, .iload 7, 2, []), (106, .iconst 1, 1, []), (107, .invokevirtual 109, 3, []), (110, .goto 47, 3, []), (113, .iload_n 1, 1, []), (114, .iconst 3, 1, []), (115, .if_icmp .ne 24, 3, []), (118, .aload 6, 2, []), (120, .iload_n 3, 1, []), (121, .iload 4, 2, []), (123, .iconst 1, 1, []), (124, .invokevirtual 109, 3, []), (127, .aload 6, 2, []), (129, .iload_n 3, 1, []), (130, .iload 5, 2, []), (132, .iconst 1, 1, []), (133, .invokevirtual 109, 3, []), (136, .goto 21, 3, []), (139, .aload 6, 2, []), (141, .iload 4, 2, []), (143, .iload_n 3, 1, []), (144, .iconst 1, 1, []), (145, .invokevirtual 109, 3, []), (148, .aload 6, 2, []), (150, .iload 5, 2, []), (152, .iload_n 3, 1, []), (153, .iconst 1, 1, []), (154, .invokevirtual 109, 3, []), (157, .return_, 1, [])])
theorem okX2_addOppositeOfKind : vm_okM mX2_addOppositeOfKind := vm_okM_of (by decide +kernel)
theorem calX2_addOppositeOfKind : vm_calI mX2_addOppositeOfKind 5 := ⟨⟨ww_618, ww_26⟩, ww_619, ww_91, by decide +kernel, by decide⟩
def mX3_lengthOf : vm_Me := (yX3_lengthOf, cX3_lengthOf, 7, (some .int), [(0, .iconst 0, 1, []), (1, .istore_n 2, 1, []), (2, .lload_n 0, 1, []), (3, .lstore_n 3, 1, []), (4, .iconst 0, 1, []), (5, .istore 5, 2, []), (7, .iload 5, 2, []), (9, .bipush 8, 2, []), (11, .if_icmp .ge 45, 3, []), (14, .lload_n 3, 1, []), (15, .lconst 0, 1, []), (16, .lcmp, 1, []), (17, .ifCond .eq 39, 3, []), (20, .lload_n 3, 1, []), (21, .ldc2_w 15, 3, []), (24, .land, 1, []), (25, .l2i, 1, []), (26, .istore 6, 2, []), (28, .iload 6, 2, []), (30, .bipush 33, 2, []), (32, .bipush 126, 2, []), (34, .invokestatic 17, 3, []), (37, .ifCond .ne 5, 3, []), (40, .iconst 0, 1, []), (41, .ireturn, 1, []), (42, .iinc 2 1, 3, []), (45, .lload_n 3, 1, []), (46, .bipush 8, 2, []), (48, .lushr, 1, []), (49, .lstore_n 3, 1, []), (50, .iinc 5 1, 3, []), (53, .goto (-46), 3, []), (56, .iload_n 2, 1, []), (57, .ireturn, 1, [])])
theorem okX3_lengthOf : vm_okM mX3_lengthOf := vm_okM_of (by decide +kernel)
theorem calX3_lengthOf : vm_calS mX3_lengthOf 1 := ⟨ww_637, ww_638, ww_95, by decide +kernel, by decide⟩
def mX3_hasRoomFor : vm_Me := (yX3_hasRoomFor, cX3_hasRoomFor, 2, (some .boolean), [(0, .iload_n 1, 1, []), (1, .bipush 80, 2, []), (3, .aload_n 0, 1, []), (4, .getfield 21, 3, []), (7, .isub, 1, []), (8, .if_icmp .gt 7, 3, []), (11, .iconst 1, 1, []), (12, .goto 4, 3, []), (15, .iconst 0, 1, []), (16, .ireturn, 1, [])])
theorem okX3_hasRoomFor : vm_okM mX3_hasRoomFor := vm_okM_of (by decide +kernel)
theorem calX3_hasRoomFor : vm_calI mX3_hasRoomFor 1 := ⟨⟨ww_642, ww_643⟩, ww_644, ww_95, by decide +kernel, by decide⟩
def mX3_append : vm_Me := (yX3_append, cX3_append, 7, none, [(0, .aload_n 0, 1, []), (1, .iload_n 3, 1, []), (2, .invokevirtual 25, 3, []), (5, .ifCond .ne 4, 3, []), (8, .return_, 1, []), (9, .lload_n 1, 1, []), (10, .lstore 4, 2, []), (12, .aload_n 0, 1, []), (13, .getfield 21, 3, []), (16, .iload_n 3, 1, []), (17, .iadd, 1, []), (18, .iconst 1, 1, []), (19, .isub, 1, []), (20, .istore 6, 2, []), (22, .iload 6, 2, []), (24, .aload_n 0, 1, []), (25, .getfield 21, 3, []), (28, .if_icmp .lt 31, 3, []), (31, .aload_n 0, 1, []), (32, .getfield 11, 3, []), (35, .iload 6, 2, []), (37, .lload 4, 2, []), (39, .ldc2_w 15, 3, []), (42, .land, 1, []), (43, .l2i, 1, []), (44, .i2c, 1, []), (45, .castore, 1, []), (46, .lload 4, 2, []), (48, .bipush 8, 2, []), (50, .lushr, 1, []), (51, .lstore 4, 2, []), (53, .iinc 6 (-1), 3, []), (56, .goto (-34), 3, []), (59, .aload_n 0, 1, []), (60, .dup, 1, []), (61, .getfield 21, 3, []), (64, .iload_n 3, 1, []), (65, .iadd, 1, []), (66, .putfield 21, 3, []), (69, .return_, 1, [])])
theorem okX3_append : vm_okM mX3_append := vm_okM_of (by decide +kernel)
theorem calX3_append : vm_calI mX3_append 2 := ⟨⟨ww_646, ww_647⟩, ww_648, ww_95, by decide +kernel, by decide⟩
def mX3_clear : vm_Me := (yX3_clear, cX3_clear, 2, (some .int), [(0, .aload_n 0, 1, []), (1, .getfield 21, 3, []), (4, .istore_n 1, 1, []), (5, .aload_n 0, 1, []), (6, .iconst 0, 1, []), (7, .putfield 21, 3, []), (10, .iload_n 1, 1, []), (11, .ireturn, 1, [])])
theorem okX3_clear : vm_okM mX3_clear := vm_okM_of (by decide +kernel)
theorem calX3_clear : vm_calI mX3_clear 0 := ⟨⟨ww_655, ww_656⟩, ww_657, ww_95, by decide +kernel, by decide⟩
def mX3_firstFault : vm_Me := (yX3_firstFault, cX3_firstFault, 2, (some .int), [(0, .aload_n 0, 1, []), (1, .iconst 0, 1, []), (2, .putfield 29, 3, []), (5, .iconst 0, 1, []), (6, .istore_n 1, 1, []), (7, .iload_n 1, 1, []), (8, .bipush 80, 2, []), (10, .if_icmp .ge 49, 3, []), (13, .aload_n 0, 1, []), (14, .invokevirtual 32, 3, []), (17, .ifCond .ne 8, 3, []), (20, .aload_n 0, 1, []), (21, .getfield 29, 3, []), (24, .ireturn, 1, []), (25, .aload_n 0, 1, []), (26, .getfield 29, 3, []), (29, .aload_n 0, 1, []), (30, .getfield 21, 3, []), (33, .if_icmp .ne 6, 3, []), (36, .bipush (-6), 2, []), (38, .ireturn, 1, []), (39, .aload_n 0, 1, []), (40, .bipush 59, 2, []), (42, .invokevirtual 36, 3, []), (45, .ifCond .ne 8, 3, []), (48, .aload_n 0, 1, []), (49, .getfield 29, 3, []), (52, .ireturn, 1, []), (53, .iinc 1 1, 3, []), (56, .goto (-49), 3, []), (59, .aload_n 0, 1, []), (60, .getfield 29, 3, []), (63, .ireturn, 1, [])])
theorem okX3_firstFault : vm_okM mX3_firstFault := vm_okM_of (by decide +kernel)
theorem calX3_firstFault : vm_calI mX3_firstFault 0 := ⟨⟨ww_663, ww_664⟩, ww_665, ww_95, by decide +kernel, by decide⟩
def mX3_tellAll : vm_Me := (yX3_tellAll, cX3_tellAll, 4, (some .int), [(0, .aload_n 0, 1, []), (1, .iconst 0, 1, []), (2, .putfield 29, 3, []), (5, .iconst 0, 1, []), (6, .istore_n 2, 1, []), (7, .iconst 0, 1, []), (8, .istore_n 3, 1, []), (9, .iload_n 3, 1, []), (10, .bipush 80, 2, []), (12, .if_icmp .ge 75, 3, []), (15, .aload_n 0, 1, []), (16, .invokevirtual 32, 3, []), (19, .ifCond .eq 68, 3, []), (22, .aload_n 1, 1, []), (23, .aload_n 0, 1, []), (24, .getfield 40, 3, []), (27, .aload_n 0, 1, []), (28, .getfield 43, 3, []), (31, .aload_n 0, 1, []), (32, .getfield 46, 3, []), (35, .aload_n 0, 1, []), (36, .getfield 49, 3, []), (39, .aload_n 0, 1, []), (40, .getfield 52, 3, []), (43, .aload_n 0, 1, []), (44, .getfield 55, 3, []), (47, .invokevirtual 58, 3, []), (50, .ifCond .eq 10, 3, []), (53, .aload_n 1, 1, []), (54, .invokevirtual 64, 3, []), (57, .ifCond .eq 5, 3, []), (60, .iload_n 2, 1, []), (61, .ireturn, 1, []), (62, .aload_n 1, 1, []), (63, .invokevirtual 67, 3, []), (66, .pop, 1, []), (67, .iinc 2 1, 3, []), (70, .aload_n 0, 1, []), (71, .bipush 59, 2, []), (73, .invokevirtual 36, 3, []), (76, .ifCond .ne 5, 3, []), (79, .iload_n 2, 1, []), (80, .ireturn, 1, []), (81, .iinc 3 1, 3, []), (84, .goto (-75), 3, []), (87, .iload_n 2, 1, []), (88, .ireturn, 1, [])])
theorem okX3_tellAll : vm_okM mX3_tellAll := vm_okM_of (by decide +kernel)
theorem calX3_tellAll : vm_calI mX3_tellAll 1 := ⟨⟨ww_711, ww_712⟩, ww_713, ww_95, by decide +kernel, by decide⟩
def mX3_readFact : vm_Me := (yX3_readFact, cX3_readFact, 1, (some .boolean), [(0, .aload_n 0, 1, []), (1, .iconst 0, 1, []), (2, .putfield 46, 3, []), (5, .aload_n 0, 1, []), (6, .iconst 0, 1, []), (7, .putfield 49, 3, []), (10, .aload_n 0, 1, []), (11, .iconst 0, 1, []), (12, .putfield 52, 3, []), (15, .aload_n 0, 1, []), (16, .iconst 0, 1, []), (17, .putfield 55, 3, []), (20, .aload_n 0, 1, []), (21, .bipush 35, 2, []), (23, .invokevirtual 36, 3, []), (26, .ifCond .eq 8, 3, []), (29, .aload_n 0, 1, []), (30, .invokevirtual 71, 3, []), (33, .ireturn, 1, []), (34, .aload_n 0, 1, []), (35, .aload_n 0, 1, []), (36, .bipush 65, 2, []), (38, .bipush 68, 2, []), (40, .invokevirtual 74, 3, []), (43, .putfield 43, 3, []), (46, .aload_n 0, 1, []), (47, .getfield 43, 3, []), (50, .ifCond .ge 5, 3, []), (53, .iconst 0, 1, []), (54, .ireturn, 1, []), (55, .aload_n 0, 1, []), (56, .aload_n 0, 1, []), (57, .bipush 120, 2, []), (59, .bipush 122, 2, []), (61, .invokevirtual 74, 3, []), (64, .putfield 46, 3, []), (67, .aload_n 0, 1, []), (68, .getfield 46, 3, []), (71, .ifCond .lt 8, 3, []), (74, .aload_n 0, 1, []), (75, .invokevirtual 78, 3, []), (78, .ireturn, 1, []), (79, .aload_n 0, 1, []), (80, .bipush 60, 2, []), (82, .invokevirtual 36, 3, []), (85, .ifCond .eq 33, 3, []), (88, .aload_n 0, 1, []), (89, .iconst 5, 1, []), (90, .putfield 40, 3, []), (93, .aload_n 0, 1, []), (94, .aload_n 0, 1, []), (95, .bipush 65, 2, []), (97, .bipush 68, 2, []), (99, .invokevirtual 74, 3, []), (102, .putfield 46, 3, []), (105, .aload_n 0, 1, []), (106, .getfield 46, 3, []), (109, .ifCond .lt 7, 3, []), (112, .iconst 1, 1, []), (113, .goto 4, 3, []), (116, .iconst 0, 1, []), (117, .ireturn, 1, []), (118, .aload_n 0, 1, []), (119, .invokevirtual 81, 3, []), (122, .ireturn, 1, [])])
theorem okX3_readFact : vm_okM mX3_readFact := vm_okM_of (by decide +kernel)
theorem calX3_readFact : vm_calI mX3_readFact 0 := ⟨⟨ww_668, ww_27⟩, ww_669, ww_95, by decide +kernel, by decide⟩
def mX3_readSize : vm_Me := (yX3_readSize, cX3_readSize, 1, (some .boolean), [(0, .aload_n 0, 1, []), (1, .iconst 1, 1, []), (2, .putfield 40, 3, []), (5, .aload_n 0, 1, []), (6, .aload_n 0, 1, []), (7, .bipush 65, 2, []), (9, .bipush 68, 2, []), (11, .invokevirtual 74, 3, []), (14, .putfield 43, 3, []), (17, .aload_n 0, 1, []), (18, .getfield 43, 3, []), (21, .ifCond .lt 12, 3, []), (24, .aload_n 0, 1, []), (25, .bipush 61, 2, []), (27, .invokevirtual 36, 3, []), (30, .ifCond .ne 5, 3, []), (33, .iconst 0, 1, []), (34, .ireturn, 1, []), (35, .aload_n 0, 1, []), (36, .aload_n 0, 1, []), (37, .invokevirtual 84, 3, []), (40, .putfield 46, 3, []), (43, .aload_n 0, 1, []), (44, .aload_n 0, 1, []), (45, .aload_n 0, 1, []), (46, .getfield 46, 3, []), (49, .invokevirtual 87, 3, []), (52, .putfield 49, 3, []), (55, .aload_n 0, 1, []), (56, .getfield 49, 3, []), (59, .ifCond .lt 7, 3, []), (62, .iconst 1, 1, []), (63, .goto 4, 3, []), (66, .iconst 0, 1, []), (67, .ireturn, 1, [])])
theorem okX3_readSize : vm_okM mX3_readSize := vm_okM_of (by decide +kernel)
theorem calX3_readSize : vm_calI mX3_readSize 0 := ⟨⟨ww_680, ww_30⟩, ww_681, ww_95, by decide +kernel, by decide⟩
def mX3_readOfThreeBags : vm_Me := (yX3_readOfThreeBags, cX3_readOfThreeBags, 1, (some .boolean), [(0, .aload_n 0, 1, []), (1, .aload_n 0, 1, []), (2, .invokevirtual 91, 3, []), (5, .putfield 40, 3, []), (8, .aload_n 0, 1, []), (9, .getfield 40, 3, []), (12, .ifCond .ge 5, 3, []), (15, .iconst 0, 1, []), (16, .ireturn, 1, []), (17, .aload_n 0, 1, []), (18, .aload_n 0, 1, []), (19, .getfield 43, 3, []), (22, .putfield 46, 3, []), (25, .aload_n 0, 1, []), (26, .aload_n 0, 1, []), (27, .bipush 65, 2, []), (29, .bipush 68, 2, []), (31, .invokevirtual 74, 3, []), (34, .putfield 49, 3, []), (37, .aload_n 0, 1, []), (38, .getfield 49, 3, []), (41, .ifCond .lt 12, 3, []), (44, .aload_n 0, 1, []), (45, .bipush 61, 2, []), (47, .invokevirtual 36, 3, []), (50, .ifCond .ne 5, 3, []), (53, .iconst 0, 1, []), (54, .ireturn, 1, []), (55, .aload_n 0, 1, []), (56, .aload_n 0, 1, []), (57, .bipush 65, 2, []), (59, .bipush 68, 2, []), (61, .invokevirtual 74, 3, []), (64, .putfield 43, 3, []), (67, .aload_n 0, 1, []), (68, .getfield 43, 3, []), (71, .ifCond .lt 7, 3, []), (74, .iconst 1, 1, []), (75, .goto 4, 3, []), (78, .iconst 0, 1, []), (79, .ireturn, 1, [])])
theorem okX3_readOfThreeBags : vm_okM mX3_readOfThreeBags := vm_okM_of (by decide +kernel)
theorem calX3_readOfThreeBags : vm_calI mX3_readOfThreeBags 0 := ⟨⟨ww_700, ww_35⟩, ww_701, ww_95, by decide +kernel, by decide⟩
def mX3_readOfKind : vm_Me := (yX3_readOfKind, cX3_readOfKind, 1, (some .boolean), [(0, .aload_n 0, 1, []), (1, .bipush 61, 2, []), (3, .invokevirtual 36, 3, []), (6, .ifCond .eq 41, 3, []), (9, .aload_n 0, 1, []), (10, .iconst 0, 1, []), (11, .putfield 40, 3, []), (14, .aload_n 0, 1, []), (15, .aload_n 0, 1, []), (16, .invokevirtual 84, 3, []), (19, .putfield 49, 3, []), (22, .aload_n 0, 1, []), (23, .aload_n 0, 1, []), (24, .aload_n 0, 1, []), (25, .getfield 49, 3, []), (28, .invokevirtual 87, 3, []), (31, .putfield 52, 3, []), (34, .aload_n 0, 1, []), (35, .getfield 52, 3, []), (38, .ifCond .lt 7, 3, []), (41, .iconst 1, 1, []), (42, .goto 4, 3, []), (45, .iconst 0, 1, []), (46, .ireturn, 1, []), (47, .aload_n 0, 1, []), (48, .bipush 6, 2, []), (50, .putfield 40, 3, []), (53, .aload_n 0, 1, []), (54, .bipush 62, 2, []), (56, .invokevirtual 36, 3, []), (59, .ifCond .ne 5, 3, []), (62, .iconst 0, 1, []), (63, .ireturn, 1, []), (64, .aload_n 0, 1, []), (65, .aload_n 0, 1, []), (66, .bipush 65, 2, []), (68, .bipush 68, 2, []), (70, .invokevirtual 74, 3, []), (73, .putfield 49, 3, []), (76, .aload_n 0, 1, []), (77, .getfield 49, 3, []), (80, .ifCond .ge 5, 3, []), (83, .iconst 0, 1, []), (84, .ireturn, 1, []), (85, .aload_n 0, 1, []), (86, .aload_n 0, 1, []), (87, .bipush 120, 2, []), (89, .bipush 122, 2, []), (91, .invokevirtual 74, 3, []), (94, .putfield 52, 3, []), (97, .aload_n 0, 1, []), (98, .getfield 52, 3, []), (101, .ifCond .lt 14, 3, []), (104, .aload_n 0, 1, []), (105, .invokevirtual 94, 3, []), (108, .ifCond .eq 7, 3, []), (111, .iconst 1, 1, []), (112, .goto 4, 3, []), (115, .iconst 0, 1, []), (116, .ireturn, 1, [])])
theorem okX3_readOfKind : vm_okM mX3_readOfKind := vm_okM_of (by decide +kernel)
theorem calX3_readOfKind : vm_calI mX3_readOfKind 0 := ⟨⟨ww_692, ww_33⟩, ww_693, ww_95, by decide +kernel, by decide⟩
def mX3_readDifference : vm_Me := (yX3_readDifference, cX3_readDifference, 2, (some .boolean), [(0, .aload_n 0, 1, []), (1, .bipush 43, 2, []), (3, .invokevirtual 36, 3, []), (6, .ifCond .eq 28, 3, []), (9, .aload_n 0, 1, []), (10, .aload_n 0, 1, []), (11, .bipush 48, 2, []), (13, .bipush 54, 2, []), (15, .invokevirtual 74, 3, []), (18, .putfield 55, 3, []), (21, .aload_n 0, 1, []), (22, .getfield 55, 3, []), (25, .ifCond .lt 7, 3, []), (28, .iconst 1, 1, []), (29, .goto 4, 3, []), (32, .iconst 0, 1, []), (33, .ireturn, 1, []), (34, .aload_n 0, 1, []), (35, .bipush 45, 2, []), (37, .invokevirtual 36, 3, []), (40, .ifCond .eq 28, 3, []), (43, .aload_n 0, 1, []), (44, .bipush 48, 2, []), (46, .bipush 54, 2, []), (48, .invokevirtual 74, 3, []), (51, .istore_n 1, 1, []), (52, .aload_n 0, 1, []), (53, .iload_n 1, 1, []), (54, .ineg, 1, []), (55, .putfield 55, 3, []), (58, .iload_n 1, 1, []), (59, .ifCond .lt 7, 3, []), (62, .iconst 1, 1, []), (63, .goto 4, 3, []), (66, .iconst 0, 1, []), (67, .ireturn, 1, []), (68, .iconst 1, 1, []), (69, .ireturn, 1, [])])
theorem okX3_readDifference : vm_okM mX3_readDifference := vm_okM_of (by decide +kernel)
theorem calX3_readDifference : vm_calI mX3_readDifference 0 := ⟨⟨ww_696, ww_34⟩, ww_697, ww_95, by decide +kernel, by decide⟩
def mX3_takeSign : vm_Me := (yX3_takeSign, cX3_takeSign, 1, (some .int), [(0, .aload_n 0, 1, []), (1, .bipush 43, 2, []), (3, .invokevirtual 36, 3, []), (6, .ifCond .eq 5, 3, []), (9, .iconst 2, 1, []), (10, .ireturn, 1, []), (11, .aload_n 0, 1, []), (12, .bipush 124, 2, []), (14, .invokevirtual 36, 3, []), (17, .ifCond .eq 5, 3, []), (20, .iconst 3, 1, []), (21, .ireturn, 1, []), (22, .aload_n 0, 1, []), (23, .bipush 38, 2, []), (25, .invokevirtual 36, 3, []), (28, .ifCond .eq 7, 3, []), (31, .iconst 4, 1, []), (32, .goto 4, 3, []), (35, .iconst (-1), 1, []), (36, .ireturn, 1, [])])
theorem okX3_takeSign : vm_okM mX3_takeSign := vm_okM_of (by decide +kernel)
theorem calX3_takeSign : vm_calI mX3_takeSign 0 := ⟨⟨ww_704, ww_36⟩, ww_705, ww_95, by decide +kernel, by decide⟩
def mX3_takeRangeEnd : vm_Me := (yX3_takeRangeEnd, cX3_takeRangeEnd, 2, (some .int), [(0, .iload_n 1, 1, []), (1, .ifCond .ge 5, 3, []), (4, .iconst (-1), 1, []), (5, .ireturn, 1, []), (6, .aload_n 0, 1, []), (7, .bipush 45, 2, []), (9, .invokevirtual 36, 3, []), (12, .ifCond .eq 10, 3, []), (15, .aload_n 0, 1, []), (16, .invokevirtual 84, 3, []), (19, .goto 4, 3, []), (22, .iload_n 1, 1, []), (23, .ireturn, 1, [])])
theorem okX3_takeRangeEnd : vm_okM mX3_takeRangeEnd := vm_okM_of (by decide +kernel)
theorem calX3_takeRangeEnd : vm_calI mX3_takeRangeEnd 1 := ⟨⟨ww_688, ww_32⟩, ww_689, ww_95, by decide +kernel, by decide⟩
def mX3_takeNumber : vm_Me := (yX3_takeNumber, cX3_takeNumber, 3, (some .int), [(0, .aload_n 0, 1, []), (1, .bipush 48, 2, []), (3, .bipush 57, 2, []), (5, .invokevirtual 74, 3, []), (8, .istore_n 1, 1, []), (9, .iload_n 1, 1, []), (10, .iconst 1, 1, []), (11, .if_icmp .eq 5, 3, []), (14, .iload_n 1, 1, []), (15, .ireturn, 1, []), (16, .aload_n 0, 1, []), (17, .bipush 48, 2, []), (19, .bipush 56, 2, []), (21, .invokevirtual 74, 3, []), (24, .istore_n 2, 1, []), (25, .iload_n 2, 1, []), (26, .ifCond .ge 7, 3, []), (29, .iconst 1, 1, []), (30, .goto 7, 3, []), (33, .bipush 10, 2, []), (35, .iload_n 2, 1, []), (36, .iadd, 1, []), (37, .ireturn, 1, [])])
theorem okX3_takeNumber : vm_okM mX3_takeNumber := vm_okM_of (by decide +kernel)
theorem calX3_takeNumber : vm_calI mX3_takeNumber 0 := ⟨⟨ww_684, ww_31⟩, ww_685, ww_95, by decide +kernel, by decide⟩
def mX3_skip : vm_Me := (yX3_skip, cX3_skip, 2, (some .boolean), [(0, .aload_n 0, 1, []), (1, .iload_n 1, 1, []), (2, .iload_n 1, 1, []), (3, .invokevirtual 74, 3, []), (6, .ifCond .ne 7, 3, []), (9, .iconst 1, 1, []), (10, .goto 4, 3, []), (13, .iconst 0, 1, []), (14, .ireturn, 1, [])])
theorem okX3_skip : vm_okM mX3_skip := vm_okM_of (by decide +kernel)
theorem calX3_skip : vm_calI mX3_skip 1 := ⟨⟨ww_672, ww_28⟩, ww_673, ww_95, by decide +kernel, by decide⟩
def mX3_take : vm_Me := (yX3_take, cX3_take, 4, (some .int), [(0, .aload_n 0, 1, []), (1, .getfield 29, 3, []), (4, .ifCond .lt 23, 3, []), (7, .aload_n 0, 1, []), (8, .getfield 29, 3, []), (11, .aload_n 0, 1, []), (12, .getfield 21, 3, []), (15, .if_icmp .ge 12, 3, []), (18, .aload_n 0, 1, []), (19, .getfield 29, 3, []), (22, .bipush 80, 2, []), (24, .if_icmp .lt 5, 3, []), (27, .iconst (-1), 1, []), (28, .ireturn, 1, []), (29, .aload_n 0, 1, []), (30, .getfield 11, 3, []), (33, .aload_n 0, 1, []), (34, .getfield 29, 3, []), (37, .caload, 1, []), (38, .istore_n 3, 1, []), (39, .iload_n 3, 1, []), (40, .iload_n 1, 1, []), (41, .if_icmp .lt 8, 3, []), (44, .iload_n 3, 1, []), (45, .iload_n 2, 1, []), (46, .if_icmp .le 5, 3, []), (49, .iconst (-1), 1, []), (50, .ireturn, 1, []), (51, .aload_n 0, 1, []), (52, .dup, 1, []), (53, .getfield 29, 3, []), (56, .iconst 1, 1, []), (57, .iadd, 1, []), (58, .putfield 29, 3, []), (61, .iload_n 3, 1, []), (62, .iload_n 1, 1, []), (63, .isub, 1, []), (64, .ireturn, 1, [])])
theorem okX3_take : vm_okM mX3_take := vm_okM_of (by decide +kernel)
theorem calX3_take : vm_calI mX3_take 2 := ⟨⟨ww_676, ww_29⟩, ww_677, ww_95, by decide +kernel, by decide⟩
def mX4_clear : vm_Me := (yX4_clear, cX4_clear, 2, none, [(0, .aload_n 0, 1, []), (1, .iconst 0, 1, []), (2, .putfield 38, 3, []), (5, .iconst 0, 1, []), (6, .istore_n 1, 1, []), (7, .iload_n 1, 1, []), (8, .bipush 16, 2, []), (10, .if_icmp .ge 16, 3, []), (13, .aload_n 0, 1, []), (14, .getfield 35, 3, []), (17, .iload_n 1, 1, []), (18, .iconst 0, 1, []), (19, .iastore, 1, []), (20, .iinc 1 1, 3, []), (23, .goto (-16), 3, []), (26, .return_, 1, [])])
theorem okX4_clear : vm_okM mX4_clear := vm_okM_of (by decide +kernel)
theorem calX4_clear : vm_calI mX4_clear 0 := ⟨⟨ww_409, ww_410⟩, ww_411, ww_93, by decide +kernel, by decide⟩
def mX4_total : vm_Me := (yX4_total, cX4_total, 3, none, [(0, .aload_n 0, 1, []), (1, .iconst 0, 1, []), (2, .iconst 0, 1, []), (3, .iconst 0, 1, []), (4, .invokevirtual 42, 3, []), (7, .iconst 0, 1, []), (8, .istore_n 2, 1, []), (9, .iload_n 2, 1, []), (10, .iconst 3, 1, []), (11, .if_icmp .ge 19, 3, []), (14, .aload_n 0, 1, []), (15, .iconst 1, 1, []), (16, .iload_n 1, 1, []), (17, .iload_n 2, 1, []), (18, .invokestatic 46, 3, []), (21, .invokevirtual 49, 3, []), (24, .iinc 2 1, 3, []), (27, .goto (-18), 3, []), (30, .aload_n 0, 1, []), (31, .iconst (-1), 1, []), (32, .iload_n 1, 1, []), (33, .iconst 3, 1, []), (34, .invokestatic 46, 3, []), (37, .invokevirtual 49, 3, []), (40, .return_, 1, [])])
theorem okX4_total : vm_okM mX4_total := vm_okM_of (by decide +kernel)
theorem calX4_total : vm_calI mX4_total 1 := ⟨⟨ww_413, ww_414⟩, ww_415, ww_93, by decide +kernel, by decide⟩
def mX4_difference : vm_Me := (yX4_difference, cX4_difference, 4, none, [(0, .aload_n 0, 1, []), (1, .iconst 0, 1, []), (2, .iload_n 3, 1, []), (3, .bipush 18, 2, []), (5, .invokevirtual 42, 3, []), (8, .aload_n 0, 1, []), (9, .iconst 1, 1, []), (10, .iload_n 1, 1, []), (11, .invokevirtual 49, 3, []), (14, .aload_n 0, 1, []), (15, .iconst (-1), 1, []), (16, .iload_n 2, 1, []), (17, .invokevirtual 49, 3, []), (20, .return_, 1, [])])
theorem okX4_difference : vm_okM mX4_difference := vm_okM_of (by decide +kernel)
theorem calX4_difference : vm_calI mX4_difference 3 := ⟨⟨ww_461, ww_462⟩, ww_463, ww_93, by decide +kernel, by decide⟩
def mX4_sum : vm_Me := (yX4_sum, cX4_sum, 6, none, [(0, .aload_n 0, 1, []), (1, .iconst 0, 1, []), (2, .iload 4, 2, []), (4, .iload 5, 2, []), (6, .invokevirtual 42, 3, []), (9, .aload_n 0, 1, []), (10, .iconst 1, 1, []), (11, .iload_n 1, 1, []), (12, .invokevirtual 49, 3, []), (15, .aload_n 0, 1, []), (16, .iconst (-1), 1, []), (17, .iload_n 2, 1, []), (18, .invokevirtual 49, 3, []), (21, .aload_n 0, 1, []), (22, .iconst (-1), 1, []), (23, .iload_n 3, 1, []), (24, .invokevirtual 49, 3, []), (27, .return_, 1, [])])
theorem okX4_sum : vm_okM mX4_sum := vm_okM_of (by decide +kernel)
theorem calX4_sum : vm_calI mX4_sum 5 := ⟨⟨ww_484, ww_485⟩, ww_486, ww_93, by decide +kernel, by decide⟩
def mX4_choice : vm_Me := (yX4_choice, cX4_choice, 5, none, [(0, .aload_n 0, 1, []), (1, .iload_n 1, 1, []), (2, .iconst 0, 1, []), (3, .iconst 0, 1, []), (4, .invokevirtual 42, 3, []), (7, .aload_n 0, 1, []), (8, .iconst 1, 1, []), (9, .iload_n 2, 1, []), (10, .invokevirtual 53, 3, []), (13, .aload_n 0, 1, []), (14, .iconst 1, 1, []), (15, .iload_n 3, 1, []), (16, .invokevirtual 53, 3, []), (19, .aload_n 0, 1, []), (20, .iconst 1, 1, []), (21, .iload 4, 2, []), (23, .invokevirtual 53, 3, []), (26, .return_, 1, [])])
theorem okX4_choice : vm_okM mX4_choice := vm_okM_of (by decide +kernel)
theorem calX4_choice : vm_calI mX4_choice 4 := ⟨⟨ww_488, ww_489⟩, ww_490, ww_93, by decide +kernel, by decide⟩
def mX4_open : vm_Me := (yX4_open, cX4_open, 4, none, [(0, .aload_n 0, 1, []), (1, .getfield 38, 3, []), (4, .sipush 128, 3, []), (7, .if_icmp .lt 4, 3, []), (10, .return_, 1, []), (11, .aload_n 0, 1, []), (12, .getfield 11, 3, []), (15, .aload_n 0, 1, []), (16, .getfield 38, 3, []), (19, .iload_n 1, 1, []), (20, .iastore, 1, []), (21, .aload_n 0, 1, []), (22, .getfield 15, 3, []), (25, .aload_n 0, 1, []), (26, .getfield 38, 3, []), (29, .iload_n 2, 1, []), (30, .iastore, 1, []), (31, .aload_n 0, 1, []), (32, .getfield 18, 3, []), (35, .aload_n 0, 1, []), (36, .getfield 38, 3, []), (39, .iload_n 3, 1, []), (40, .iastore, 1, []), (41, .aload_n 0, 1, []), (42, .getfield 21, 3, []), (45, .aload_n 0, 1, []), (46, .getfield 38, 3, []), (49, .iconst 0, 1, []), (50, .iastore, 1, []), (51, .aload_n 0, 1, []), (52, .getfield 24, 3, []), (55, .aload_n 0, 1, []), (56, .getfield 38, 3, []), (59, .iconst 0, 1, []), (60, .iastore, 1, []), (61, .aload_n 0, 1, []), (62, .dup, 1, []), (63, .getfield 38, 3, []), (66, .iconst 1, 1, []), (67, .iadd, 1, []), (68, .putfield 38, 3, []), (71, .return_, 1, [])])
theorem okX4_open : vm_okM mX4_open := vm_okM_of (by decide +kernel)
theorem calX4_open : vm_calI mX4_open 3 := ⟨⟨ww_418, ww_3⟩, ww_419, ww_93, by decide +kernel, by decide⟩
def mX4_plus : vm_Me := (yX4_plus, cX4_plus, 5, none, [(0, .aload_n 0, 1, []), (1, .getfield 38, 3, []), (4, .iconst 1, 1, []), (5, .isub, 1, []), (6, .istore_n 3, 1, []), (7, .iload_n 3, 1, []), (8, .ifCond .ge 4, 3, []), (11, .return_, 1, []), (12, .iload_n 3, 1, []), (13, .iconst 4, 1, []), (14, .imul, 1, []), (15, .istore 4, 2, []), (17, .iload 4, 2, []), (19, .iload_n 3, 1, []), (20, .iconst 4, 1, []), (21, .imul, 1, []), (22, .aload_n 0, 1, []), (23, .getfield 24, 3, []), (26, .iload_n 3, 1, []), (27, .iaload, 1, []), (28, .iadd, 1, []), (29, .if_icmp .ge 32, 3, []), (32, .aload_n 0, 1, []), (33, .getfield 27, 3, []), (36, .iload 4, 2, []), (38, .iaload, 1, []), (39, .iload_n 2, 1, []), (40, .if_icmp .ne 15, 3, []), (43, .aload_n 0, 1, []), (44, .getfield 30, 3, []), (47, .iload 4, 2, []), (49, .dup2, 1, []), (50, .iaload, 1, []), (51, .iload_n 1, 1, []), (52, .iadd, 1, []), (53, .iastore, 1, []), (54, .return_, 1, []), (55, .iinc 4 1, 3, []), (58, .goto (-41), 3, []), (61, .aload_n 0, 1, []), (62, .iload_n 1, 1, []), (63, .iload_n 2, 1, []), (64, .invokevirtual 53, 3, []), (67, .return_, 1, [])])
theorem okX4_plus : vm_okM mX4_plus := vm_okM_of (by decide +kernel)
theorem calX4_plus : vm_calI mX4_plus 2 := ⟨⟨ww_425, ww_4⟩, ww_426, ww_93, by decide +kernel, by decide⟩
def mX4_addTerm : vm_Me := (yX4_addTerm, cX4_addTerm, 5, none, [(0, .aload_n 0, 1, []), (1, .getfield 38, 3, []), (4, .iconst 1, 1, []), (5, .isub, 1, []), (6, .istore_n 3, 1, []), (7, .iload_n 3, 1, []), (8, .ifCond .lt 23, 3, []), (11, .aload_n 0, 1, []), (12, .getfield 24, 3, []), (15, .iload_n 3, 1, []), (16, .iaload, 1, []), (17, .iconst 4, 1, []), (18, .if_icmp .ge 13, 3, []), (21, .iload_n 2, 1, []), (22, .ifCond .lt 9, 3, []), (25, .iload_n 2, 1, []), (26, .bipush 16, 2, []), (28, .if_icmp .lt 4, 3, []), (31, .return_, 1, []), (32, .iload_n 3, 1, []), (33, .iconst 4, 1, []), (34, .imul, 1, []), (35, .aload_n 0, 1, []), (36, .getfield 24, 3, []), (39, .iload_n 3, 1, []), (40, .iaload, 1, []), (41, .iadd, 1, []), (42, .istore 4, 2, []), (44, .aload_n 0, 1, []), (45, .getfield 27, 3, []), (48, .iload 4, 2, []), (50, .iload_n 2, 1, []), (51, .iastore, 1, []), (52, .aload_n 0, 1, []), (53, .getfield 30, 3, []), (56, .iload 4, 2, []), (58, .iload_n 1, 1, []), (59, .iastore, 1, []), (60, .aload_n 0, 1, []), (61, .getfield 24, 3, []), (64, .iload_n 3, 1, []), (65, .dup2, 1, []), (66, .iaload, 1, []), (67, .iconst 1, 1, []), (68, .iadd, 1, []), (69, .iastore, 1, []), (70, .aload_n 0, 1, []), (71, .getfield 21, 3, []), (74, .iload_n 3, 1, []), (75, .dup2, 1, []), (76, .iaload, 1, []), (77, .iconst 1, 1, []), (78, .iload_n 2, 1, []), (79, .ishl, 1, []), (80, .ior, 1, []), (81, .iastore, 1, []), (82, .aload_n 0, 1, []), (83, .getfield 35, 3, []), (86, .iload_n 2, 1, []), (87, .dup2, 1, []), (88, .iaload, 1, []), (89, .iconst 1, 1, []), (90, .iadd, 1, []), (91, .iastore, 1, []), (92, .return_, 1, [])])
theorem okX4_addTerm : vm_okM mX4_addTerm := vm_okM_of (by decide +kernel)
theorem calX4_addTerm : vm_calI mX4_addTerm 2 := ⟨⟨ww_429, ww_5⟩, ww_430, ww_93, by decide +kernel, by decide⟩
def mX5_variable : vm_Me := (yX5_variable, cX5_variable, 2, (some .int), [(0, .iload_n 0, 1, []), (1, .iconst 4, 1, []), (2, .imul, 1, []), (3, .iload_n 1, 1, []), (4, .iadd, 1, []), (5, .ireturn, 1, [])])
theorem okX5_variable : vm_okM mX5_variable := vm_okM_of (by decide +kernel)
theorem calX5_variable : vm_calS mX5_variable 2 := ⟨ww_421, ww_422, ww_92, by decide +kernel, by decide⟩
def mX5_begin : vm_Me := (yX5_begin, cX5_begin, 4, none, [(0, .aload_n 0, 1, []), (1, .getfield 14, 3, []), (4, .invokevirtual 25, 3, []), (7, .aload_n 0, 1, []), (8, .iload_n 2, 1, []), (9, .putfield 28, 3, []), (12, .iconst 0, 1, []), (13, .istore_n 3, 1, []), (14, .iload_n 3, 1, []), (15, .bipush 16, 2, []), (17, .if_icmp .ge 44, 3, []), (20, .aload_n 0, 1, []), (21, .getfield 18, 3, []), (24, .iload_n 3, 1, []), (25, .iconst 0, 1, []), (26, .iastore, 1, []), (27, .aload_n 0, 1, []), (28, .getfield 22, 3, []), (31, .iload_n 3, 1, []), (32, .iload_n 3, 1, []), (33, .iconst 4, 1, []), (34, .irem, 1, []), (35, .iconst 3, 1, []), (36, .if_icmp .eq 7, 3, []), (39, .iload_n 1, 1, []), (40, .goto 14, 3, []), (43, .iload_n 2, 1, []), (44, .ifCond .eq 9, 3, []), (47, .iconst 3, 1, []), (48, .iload_n 1, 1, []), (49, .imul, 1, []), (50, .goto 4, 3, []), (53, .iconst 0, 1, []), (54, .iastore, 1, []), (55, .iinc 3 1, 3, []), (58, .goto (-44), 3, []), (61, .iconst 0, 1, []), (62, .istore_n 3, 1, []), (63, .iload_n 3, 1, []), (64, .iconst 4, 1, []), (65, .if_icmp .ge 21, 3, []), (68, .iload_n 2, 1, []), (69, .ifCond .eq 17, 3, []), (72, .aload_n 0, 1, []), (73, .getfield 14, 3, []), (76, .iload_n 3, 1, []), (77, .invokevirtual 32, 3, []), (80, .iinc 3 1, 3, []), (83, .goto (-20), 3, []), (86, .return_, 1, [])])
theorem okX5_begin : vm_okM mX5_begin := vm_okM_of (by decide +kernel)
theorem calX5_begin : vm_calI mX5_begin 2 := ⟨⟨ww_405, ww_406⟩, ww_407, ww_92, by decide +kernel, by decide⟩
def mX5_restrict : vm_Me := (yX5_restrict, cX5_restrict, 4, none, [(0, .iload_n 1, 1, []), (1, .iconst 0, 1, []), (2, .bipush 15, 2, []), (4, .invokestatic 36, 3, []), (7, .ifCond .eq 35, 3, []), (10, .aload_n 0, 1, []), (11, .getfield 18, 3, []), (14, .iload_n 1, 1, []), (15, .aload_n 0, 1, []), (16, .getfield 18, 3, []), (19, .iload_n 1, 1, []), (20, .iaload, 1, []), (21, .iload_n 2, 1, []), (22, .invokestatic 40, 3, []), (25, .iastore, 1, []), (26, .aload_n 0, 1, []), (27, .getfield 22, 3, []), (30, .iload_n 1, 1, []), (31, .aload_n 0, 1, []), (32, .getfield 22, 3, []), (35, .iload_n 1, 1, []), (36, .iaload, 1, []), (37, .iload_n 3, 1, []), (38, .invokestatic 46, 3, []), (41, .iastore, 1, []), (42, .return_, 1, [])])
theorem okX5_restrict : vm_okM mX5_restrict := vm_okM_of (by decide +kernel)
theorem calX5_restrict : vm_calI mX5_restrict 3 := ⟨⟨ww_470, ww_471⟩, ww_472, ww_92, by decide +kernel, by decide⟩
def mX5_settleAll : vm_Me := (yX5_settleAll, cX5_settleAll, 2, (some .boolean), [(0, .iconst 0, 1, []), (1, .istore_n 1, 1, []), (2, .iload_n 1, 1, []), (3, .bipush 16, 2, []), (5, .if_icmp .ge 26, 3, []), (8, .aload_n 0, 1, []), (9, .getfield 18, 3, []), (12, .iload_n 1, 1, []), (13, .iaload, 1, []), (14, .aload_n 0, 1, []), (15, .getfield 22, 3, []), (18, .iload_n 1, 1, []), (19, .iaload, 1, []), (20, .if_icmp .le 5, 3, []), (23, .iconst 0, 1, []), (24, .ireturn, 1, []), (25, .iinc 1 1, 3, []), (28, .goto (-26), 3, []), (31, .aload_n 0, 1, []), (32, .iconst 0, 1, []), (33, .ldc 49, 2, []), (35, .invokevirtual 50, 3, []), (38, .ireturn, 1, [])])
theorem okX5_settleAll : vm_okM mX5_settleAll := vm_okM_of (by decide +kernel)
theorem calX5_settleAll : vm_calI mX5_settleAll 0 := ⟨⟨ww_496, ww_497⟩, ww_498, ww_92, by decide +kernel, by decide⟩
def mX5_settleOn : vm_Me := (yX5_settleOn, cX5_settleOn, 3, none, [(0, .aload_n 0, 1, []), (1, .iload_n 1, 1, []), (2, .iload_n 2, 1, []), (3, .iload_n 2, 1, []), (4, .invokevirtual 54, 3, []), (7, .aload_n 0, 1, []), (8, .iconst 0, 1, []), (9, .iconst 1, 1, []), (10, .iload_n 1, 1, []), (11, .ishl, 1, []), (12, .invokevirtual 50, 3, []), (15, .pop, 1, []), (16, .return_, 1, [])])
theorem okX5_settleOn : vm_okM mX5_settleOn := vm_okM_of (by decide +kernel)
theorem calX5_settleOn : vm_calI mX5_settleOn 2 := ⟨⟨ww_585, ww_586⟩, ww_587, ww_92, by decide +kernel, by decide⟩
def mX5_howMany : vm_Me := (yX5_howMany, cX5_howMany, 2, (some .int), [(0, .aload_n 0, 1, []), (1, .invokevirtual 58, 3, []), (4, .ifCond .eq 12, 3, []), (7, .aload_n 0, 1, []), (8, .iconst 0, 1, []), (9, .iload_n 1, 1, []), (10, .invokevirtual 62, 3, []), (13, .goto 4, 3, []), (16, .iconst 0, 1, []), (17, .ireturn, 1, [])])
theorem okX5_howMany : vm_okM mX5_howMany := vm_okM_of (by decide +kernel)
theorem calX5_howMany : vm_calI mX5_howMany 1 := ⟨⟨ww_492, ww_493⟩, ww_494, ww_92, by decide +kernel, by decide⟩
def mX5_canBe : vm_Me := (yX5_canBe, cX5_canBe, 3, (some .boolean), [(0, .aload_n 0, 1, []), (1, .iconst 0, 1, []), (2, .iload_n 1, 1, []), (3, .iload_n 2, 1, []), (4, .invokevirtual 65, 3, []), (7, .aload_n 0, 1, []), (8, .iconst 1, 1, []), (9, .iconst 1, 1, []), (10, .iload_n 1, 1, []), (11, .ishl, 1, []), (12, .invokevirtual 50, 3, []), (15, .ifCond .eq 16, 3, []), (18, .aload_n 0, 1, []), (19, .iconst 1, 1, []), (20, .iconst 1, 1, []), (21, .invokevirtual 62, 3, []), (24, .ifCond .eq 7, 3, []), (27, .iconst 1, 1, []), (28, .goto 4, 3, []), (31, .iconst 0, 1, []), (32, .ireturn, 1, [])])
theorem okX5_canBe : vm_okM mX5_canBe := vm_okM_of (by decide +kernel)
theorem calX5_canBe : vm_calI mX5_canBe 2 := ⟨⟨ww_568, ww_569⟩, ww_570, ww_92, by decide +kernel, by decide⟩
def mX5_waysFrom : vm_Me := (yX5_waysFrom, cX5_waysFrom, 4, (some .int), [(0, .iconst 0, 1, []), (1, .istore_n 3, 1, []), (2, .iload_n 3, 1, []), (3, .iconst 3, 1, []), (4, .if_icmp .ge 32, 3, []), (7, .aload_n 0, 1, []), (8, .getfield 28, 3, []), (11, .ifCond .eq 25, 3, []), (14, .aload_n 0, 1, []), (15, .iload_n 1, 1, []), (16, .sipush 4369, 3, []), (19, .iload_n 3, 1, []), (20, .ishl, 1, []), (21, .iconst 1, 1, []), (22, .invokestatic 68, 3, []), (25, .ifCond .ne 5, 3, []), (28, .iconst 0, 1, []), (29, .ireturn, 1, []), (30, .iinc 3 1, 3, []), (33, .goto (-31), 3, []), (36, .aload_n 0, 1, []), (37, .iload_n 1, 1, []), (38, .ldc 49, 2, []), (40, .iload_n 2, 1, []), (41, .invokestatic 68, 3, []), (44, .ireturn, 1, [])])
theorem okX5_waysFrom : vm_okM mX5_waysFrom := vm_okM_of (by decide +kernel)
theorem calX5_waysFrom : vm_calI mX5_waysFrom 2 := ⟨⟨ww_526, ww_18⟩, ww_527, ww_92, by decide +kernel, by decide⟩
def mX5_ways : vm_Me := (yX5_ways, cX5_ways, 13, (some .int), [(0, .aload_n 0, 1, []), (1, .iload_n 1, 1, []), (2, .iload_n 2, 1, []), (3, .invokevirtual 72, 3, []), (6, .istore 4, 2, []), (8, .iload_n 1, 1, []), (9, .ifCond .lt 9, 3, []), (12, .iload_n 1, 1, []), (13, .bipush 16, 2, []), (15, .if_icmp .lt 14, 3, []), (18, .iload 4, 2, []), (20, .ifCond .ne 7, 3, []), (23, .iconst 1, 1, []), (24, .goto 4, 3, []), (27, .iconst 0, 1, []), (28, .ireturn, 1, []), (29, .iconst 1, 1, []), (30, .istore 5, 2, []), (32, .iconst 0, 1, []), (33, .istore 6, 2, []), (35, .iload 6, 2, []), (37, .bipush 16, 2, []), (39, .if_icmp .ge 172, 3, []), (42, .iload 4, 2, []), (44, .ifCond .eq 167, 3, []), (47, .aload_n 0, 1, []), (48, .iload_n 1, 1, []), (49, .iload 4, 2, []), (51, .invokevirtual 75, 3, []), (54, .istore 7, 2, []), (56, .iload 4, 2, []), (58, .iload 7, 2, []), (60, .iconst (-1), 1, []), (61, .ixor, 1, []), (62, .iand, 1, []), (63, .istore 4, 2, []), (65, .aload_n 0, 1, []), (66, .iload_n 1, 1, []), (67, .iload 7, 2, []), (69, .invokevirtual 78, 3, []), (72, .istore 8, 2, []), (74, .aload_n 0, 1, []), (75, .getfield 22, 3, []), (78, .iload_n 1, 1, []), (79, .bipush 16, 2, []), (81, .imul, 1, []), (82, .iload 8, 2, []), (84, .iadd, 1, []), (85, .iaload, 1, []), (86, .istore 9, 2, []), (88, .iload 5, 2, []), (90, .iload_n 3, 1, []), (91, .if_icmp .ge 7, 3, []), (94, .iload_n 3, 1, []), (95, .goto 4, 3, []), (98, .iconst 1, 1, []), (99, .istore 10, 2, []), (101, .iconst 0, 1, []), (102, .istore 11, 2, []), (104, .aload_n 0, 1, []), (105, .getfield 18, 3, []), (108, .iload_n 1, 1, []), (109, .bipush 16, 2, []), (111, .imul, 1, []), (112, .iload 8, 2, []), (114, .iadd, 1, []), (115, .iaload, 1, []), (116, .istore 12, 2, []), (118, .iload 12, 2, []), (120, .iload 9, 2, []), (122, .if_icmp .gt 65, 3, []), (125, .iload 11, 2, []), (127, .iload 10, 2, []), (129, .if_icmp .ge 58, 3, []), (132, .aload_n 0, 1, []), (133, .iload_n 1, 1, []), (134, .iload 8, 2, []), (136, .iload 12, 2, []), (138, .invokevirtual 65, 3, []), (141, .aload_n 0, 1, []), (142, .iload_n 1, 1, []), (143, .iconst 1, 1, []), (144, .iadd, 1, []), (145, .iconst 1, 1, []), (146, .iload 8, 2, []), (148, .ishl, 1, []), (149, .invokevirtual 50, 3, []), (152, .ifCond .eq 29, 3, []), (155, .iload 11, 2, []), (157, .aload_n 0, 1, []), (158, .iload_n 1, 1, []), (159, .iconst 1, 1, []), (160, .iadd, 1, []), (161, .iload 7, 2, []), (163, .iconst 1, 1, []), (164, .iload 8, 2, []), (166, .ishl, 1, []), (167, .iconst (-1), 1, []), (168, .ixor, 1, []), (169, .iand, 1, []), (170, .iload 10, 2, []), (172, .iload 11, 2, []), (174, .isub, 1, []), (175, .invokestatic 68, 3, []), (178, .iadd, 1, []), (179, .istore 11, 2, []), (181, .iinc 12 1, 3, []), (184, .goto (-66), 3, []), (187, .iload 11, 2, []), (189, .ifCond .ne 5, 3, []), (192, .iconst 0, 1, []), (193, .ireturn, 1, []), (194, .iload_n 3, 1, []), (195, .iload 5, 2, []), (197, .iload 11, 2, []), (199, .imul, 1, []), (200, .invokestatic 46, 3, []), (203, .istore 5, 2, []), (205, .iinc 6 1, 3, []), (208, .goto (-173), 3, []), (211, .iload 5, 2, []), (213, .ireturn, 1, [])])
theorem okX5_ways : vm_okM mX5_ways := vm_okM_of (by decide +kernel)
theorem calX5_ways : vm_calS mX5_ways 4 := ⟨ww_529, ww_530, ww_92, by decide +kernel, by decide⟩
def mX5_unfixed : vm_Me := (yX5_unfixed, cX5_unfixed, 6, (some .int), [(0, .iconst 0, 1, []), (1, .istore_n 3, 1, []), (2, .iconst 0, 1, []), (3, .istore 4, 2, []), (5, .iload 4, 2, []), (7, .bipush 16, 2, []), (9, .if_icmp .ge 42, 3, []), (12, .iload_n 1, 1, []), (13, .bipush 16, 2, []), (15, .imul, 1, []), (16, .iload 4, 2, []), (18, .iadd, 1, []), (19, .istore 5, 2, []), (21, .aload_n 0, 1, []), (22, .getfield 18, 3, []), (25, .iload 5, 2, []), (27, .iaload, 1, []), (28, .aload_n 0, 1, []), (29, .getfield 22, 3, []), (32, .iload 5, 2, []), (34, .iaload, 1, []), (35, .if_icmp .ge 10, 3, []), (38, .iload_n 3, 1, []), (39, .iconst 1, 1, []), (40, .iload 4, 2, []), (42, .ishl, 1, []), (43, .ior, 1, []), (44, .istore_n 3, 1, []), (45, .iinc 4 1, 3, []), (48, .goto (-43), 3, []), (51, .iload_n 3, 1, []), (52, .iload_n 2, 1, []), (53, .iand, 1, []), (54, .ireturn, 1, [])])
theorem okX5_unfixed : vm_okM mX5_unfixed := vm_okM_of (by decide +kernel)
theorem calX5_unfixed : vm_calI mX5_unfixed 2 := ⟨⟨ww_533, ww_19⟩, ww_534, ww_92, by decide +kernel, by decide⟩
def mX5_partOf : vm_Me := (yX5_partOf, cX5_partOf, 8, (some .int), [(0, .iload_n 2, 1, []), (1, .iload_n 2, 1, []), (2, .ineg, 1, []), (3, .iand, 1, []), (4, .istore_n 3, 1, []), (5, .iconst 0, 1, []), (6, .istore 4, 2, []), (8, .iconst 0, 1, []), (9, .istore 5, 2, []), (11, .iload 5, 2, []), (13, .bipush 16, 2, []), (15, .if_icmp .ge 87, 3, []), (18, .iload_n 3, 1, []), (19, .iload 4, 2, []), (21, .if_icmp .eq 81, 3, []), (24, .iload_n 3, 1, []), (25, .istore 4, 2, []), (27, .iconst 0, 1, []), (28, .istore 6, 2, []), (30, .iload 6, 2, []), (32, .aload_n 0, 1, []), (33, .getfield 14, 3, []), (36, .getfield 81, 3, []), (39, .if_icmp .ge 57, 3, []), (42, .aload_n 0, 1, []), (43, .getfield 14, 3, []), (46, .getfield 85, 3, []), (49, .iload 6, 2, []), (51, .iaload, 1, []), (52, .iload_n 2, 1, []), (53, .iand, 1, []), (54, .istore 7, 2, []), (56, .iload 7, 2, []), (58, .iload_n 3, 1, []), (59, .iand, 1, []), (60, .ifCond .eq 30, 3, []), (63, .iload 7, 2, []), (65, .iload_n 3, 1, []), (66, .iconst (-1), 1, []), (67, .ixor, 1, []), (68, .iand, 1, []), (69, .ifCond .eq 21, 3, []), (72, .aload_n 0, 1, []), (73, .iload 6, 2, []), (75, .iload_n 1, 1, []), (76, .bipush 16, 2, []), (78, .imul, 1, []), (79, .invokevirtual 88, 3, []), (82, .ifCond .ne 8, 3, []), (85, .iload_n 3, 1, []), (86, .iload 7, 2, []), (88, .ior, 1, []), (89, .istore_n 3, 1, []), (90, .iinc 6 1, 3, []), (93, .goto (-63), 3, []), (96, .iinc 5 1, 3, []), (99, .goto (-88), 3, []), (102, .iload_n 3, 1, []), (103, .ireturn, 1, [])])
theorem okX5_partOf : vm_okM mX5_partOf := vm_okM_of (by decide +kernel)
theorem calX5_partOf : vm_calI mX5_partOf 2 := ⟨⟨ww_537, ww_20⟩, ww_538, ww_92, by decide +kernel, by decide⟩
def mX5_choose : vm_Me := (yX5_choose, cX5_choose, 7, (some .int), [(0, .iconst 0, 1, []), (1, .istore_n 3, 1, []), (2, .iconst 0, 1, []), (3, .istore 4, 2, []), (5, .iconst 0, 1, []), (6, .istore 5, 2, []), (8, .iload 5, 2, []), (10, .bipush 16, 2, []), (12, .if_icmp .ge 87, 3, []), (15, .iload_n 2, 1, []), (16, .iconst 1, 1, []), (17, .iload 5, 2, []), (19, .ishl, 1, []), (20, .iand, 1, []), (21, .ifCond .eq 72, 3, []), (24, .aload_n 0, 1, []), (25, .getfield 22, 3, []), (28, .iload_n 1, 1, []), (29, .bipush 16, 2, []), (31, .imul, 1, []), (32, .iload 5, 2, []), (34, .iadd, 1, []), (35, .iaload, 1, []), (36, .aload_n 0, 1, []), (37, .getfield 18, 3, []), (40, .iload_n 1, 1, []), (41, .bipush 16, 2, []), (43, .imul, 1, []), (44, .iload 5, 2, []), (46, .iadd, 1, []), (47, .iaload, 1, []), (48, .isub, 1, []), (49, .iconst 1, 1, []), (50, .iadd, 1, []), (51, .istore 6, 2, []), (53, .iload 4, 2, []), (55, .ifCond .eq 31, 3, []), (58, .iload 6, 2, []), (60, .aload_n 0, 1, []), (61, .getfield 14, 3, []), (64, .getfield 91, 3, []), (67, .iload_n 3, 1, []), (68, .iaload, 1, []), (69, .imul, 1, []), (70, .iload 4, 2, []), (72, .aload_n 0, 1, []), (73, .getfield 14, 3, []), (76, .getfield 91, 3, []), (79, .iload 5, 2, []), (81, .iaload, 1, []), (82, .imul, 1, []), (83, .if_icmp .ge 10, 3, []), (86, .iload 5, 2, []), (88, .istore_n 3, 1, []), (89, .iload 6, 2, []), (91, .istore 4, 2, []), (93, .iinc 5 1, 3, []), (96, .goto (-88), 3, []), (99, .iload_n 3, 1, []), (100, .ireturn, 1, [])])
theorem okX5_choose : vm_okM mX5_choose := vm_okM_of (by decide +kernel)
theorem calX5_choose : vm_calI mX5_choose 2 := ⟨⟨ww_545, ww_22⟩, ww_546, ww_92, by decide +kernel, by decide⟩
def mX5_fix : vm_Me := (yX5_fix, cX5_fix, 6, none, [(0, .iload_n 1, 1, []), (1, .bipush 16, 2, []), (3, .imul, 1, []), (4, .istore 4, 2, []), (6, .iload 4, 2, []), (8, .bipush 16, 2, []), (10, .iadd, 1, []), (11, .istore 5, 2, []), (13, .aload_n 0, 1, []), (14, .getfield 18, 3, []), (17, .iload 4, 2, []), (19, .aload_n 0, 1, []), (20, .getfield 18, 3, []), (23, .iload 5, 2, []), (25, .bipush 16, 2, []), (27, .invokestatic 94, 3, []), (30, .aload_n 0, 1, []), (31, .getfield 22, 3, []), (34, .iload 4, 2, []), (36, .aload_n 0, 1, []), (37, .getfield 22, 3, []), (40, .iload 5, 2, []), (42, .bipush 16, 2, []), (44, .invokestatic 94, 3, []), (47, .aload_n 0, 1, []), (48, .getfield 18, 3, []), (51, .iload 5, 2, []), (53, .iload_n 2, 1, []), (54, .iadd, 1, []), (55, .iload_n 3, 1, []), (56, .iastore, 1, []), (57, .aload_n 0, 1, []), (58, .getfield 22, 3, []), (61, .iload 5, 2, []), (63, .iload_n 2, 1, []), (64, .iadd, 1, []), (65, .iload_n 3, 1, []), (66, .iastore, 1, []), (67, .return_, 1, [])])
theorem okX5_fix : vm_okM mX5_fix := vm_okM_of (by decide +kernel)
theorem calX5_fix : vm_calI mX5_fix 3 := ⟨⟨ww_549, ww_23⟩, ww_550, ww_92, by decide +kernel, by decide⟩
def mX5_settle : vm_Me := (yX5_settle, cX5_settle, 7, (some .boolean), [(0, .iload_n 1, 1, []), (1, .bipush 16, 2, []), (3, .imul, 1, []), (4, .istore_n 3, 1, []), (5, .iconst 0, 1, []), (6, .istore 4, 2, []), (8, .iload 4, 2, []), (10, .sipush 1000, 3, []), (13, .if_icmp .ge 109, 3, []), (16, .iload_n 2, 1, []), (17, .ifCond .eq 105, 3, []), (20, .aload_n 0, 1, []), (21, .iconst 0, 1, []), (22, .putfield 100, 3, []), (25, .iconst 0, 1, []), (26, .istore 5, 2, []), (28, .iload 5, 2, []), (30, .aload_n 0, 1, []), (31, .getfield 14, 3, []), (34, .getfield 81, 3, []), (37, .if_icmp .ge 74, 3, []), (40, .aload_n 0, 1, []), (41, .getfield 14, 3, []), (44, .getfield 85, 3, []), (47, .iload 5, 2, []), (49, .iaload, 1, []), (50, .iload_n 2, 1, []), (51, .iand, 1, []), (52, .ifCond .eq 53, 3, []), (55, .aload_n 0, 1, []), (56, .getfield 14, 3, []), (59, .getfield 103, 3, []), (62, .iload 5, 2, []), (64, .iaload, 1, []), (65, .ifCond .ne 7, 3, []), (68, .iconst 1, 1, []), (69, .goto 4, 3, []), (72, .iconst 0, 1, []), (73, .istore 6, 2, []), (75, .iload 6, 2, []), (77, .ifCond .eq 16, 3, []), (80, .aload_n 0, 1, []), (81, .iload 5, 2, []), (83, .iload_n 3, 1, []), (84, .invokevirtual 106, 3, []), (87, .ifCond .ne 18, 3, []), (90, .goto 13, 3, []), (93, .aload_n 0, 1, []), (94, .iload 5, 2, []), (96, .iload_n 3, 1, []), (97, .invokevirtual 109, 3, []), (100, .ifCond .ne 5, 3, []), (103, .iconst 0, 1, []), (104, .ireturn, 1, []), (105, .iinc 5 1, 3, []), (108, .goto (-80), 3, []), (111, .aload_n 0, 1, []), (112, .getfield 100, 3, []), (115, .istore_n 2, 1, []), (116, .iinc 4 1, 3, []), (119, .goto (-111), 3, []), (122, .iconst 1, 1, []), (123, .ireturn, 1, [])])
theorem okX5_settle : vm_okM mX5_settle := vm_okM_of (by decide +kernel)
theorem calX5_settle : vm_calI mX5_settle 2 := ⟨⟨ww_502, ww_12⟩, ww_503, ww_92, by decide +kernel, by decide⟩
def mX5_tightenLinear : vm_Me := (yX5_tightenLinear, cX5_tightenLinear, 11, (some .boolean), [(0, .iload_n 1, 1, []), (1, .iconst 4, 1, []), (2, .imul, 1, []), (3, .istore_n 3, 1, []), (4, .iload_n 3, 1, []), (5, .aload_n 0, 1, []), (6, .getfield 14, 3, []), (9, .getfield 112, 3, []), (12, .iload_n 1, 1, []), (13, .iaload, 1, []), (14, .iadd, 1, []), (15, .istore 4, 2, []), (17, .iconst 0, 1, []), (18, .istore 5, 2, []), (20, .iconst 0, 1, []), (21, .istore 6, 2, []), (23, .iload_n 3, 1, []), (24, .istore 7, 2, []), (26, .iload 7, 2, []), (28, .iload 4, 2, []), (30, .if_icmp .ge 33, 3, []), (33, .iload 5, 2, []), (35, .aload_n 0, 1, []), (36, .iload 7, 2, []), (38, .iload_n 2, 1, []), (39, .invokevirtual 115, 3, []), (42, .iadd, 1, []), (43, .istore 5, 2, []), (45, .iload 6, 2, []), (47, .aload_n 0, 1, []), (48, .iload 7, 2, []), (50, .iload_n 2, 1, []), (51, .invokevirtual 118, 3, []), (54, .iadd, 1, []), (55, .istore 6, 2, []), (57, .iinc 7 1, 3, []), (60, .goto (-34), 3, []), (63, .iload_n 3, 1, []), (64, .istore 7, 2, []), (66, .iload 7, 2, []), (68, .iload 4, 2, []), (70, .if_icmp .ge 116, 3, []), (73, .iload 5, 2, []), (75, .aload_n 0, 1, []), (76, .iload 7, 2, []), (78, .iload_n 2, 1, []), (79, .invokevirtual 115, 3, []), (82, .isub, 1, []), (83, .istore 8, 2, []), (85, .iload 6, 2, []), (87, .aload_n 0, 1, []), (88, .iload 7, 2, []), (90, .iload_n 2, 1, []), (91, .invokevirtual 118, 3, []), (94, .isub, 1, []), (95, .istore 9, 2, []), (97, .iload_n 2, 1, []), (98, .aload_n 0, 1, []), (99, .getfield 14, 3, []), (102, .getfield 121, 3, []), (105, .iload 7, 2, []), (107, .iaload, 1, []), (108, .iadd, 1, []), (109, .istore 10, 2, []), (111, .aload_n 0, 1, []), (112, .iload 10, 2, []), (114, .aload_n 0, 1, []), (115, .getfield 14, 3, []), (118, .getfield 124, 3, []), (121, .iload 7, 2, []), (123, .iaload, 1, []), (124, .aload_n 0, 1, []), (125, .getfield 14, 3, []), (128, .getfield 127, 3, []), (131, .iload_n 1, 1, []), (132, .iaload, 1, []), (133, .iload 9, 2, []), (135, .isub, 1, []), (136, .aload_n 0, 1, []), (137, .getfield 14, 3, []), (140, .getfield 128, 3, []), (143, .iload_n 1, 1, []), (144, .iaload, 1, []), (145, .iload 8, 2, []), (147, .isub, 1, []), (148, .invokevirtual 129, 3, []), (151, .ifCond .ne 5, 3, []), (154, .iconst 0, 1, []), (155, .ireturn, 1, []), (156, .iload 8, 2, []), (158, .aload_n 0, 1, []), (159, .iload 7, 2, []), (161, .iload_n 2, 1, []), (162, .invokevirtual 115, 3, []), (165, .iadd, 1, []), (166, .istore 5, 2, []), (168, .iload 9, 2, []), (170, .aload_n 0, 1, []), (171, .iload 7, 2, []), (173, .iload_n 2, 1, []), (174, .invokevirtual 118, 3, []), (177, .iadd, 1, []), (178, .istore 6, 2, []), (180, .iinc 7 1, 3, []), (183, .goto (-117), 3, []), (186, .iconst 1, 1, []), (187, .ireturn, 1, [])])
theorem okX5_tightenLinear : vm_okM mX5_tightenLinear := vm_okM_of (by decide +kernel)
theorem calX5_tightenLinear : vm_calI mX5_tightenLinear 2 := ⟨⟨ww_506, ww_13⟩, ww_507, ww_92, by decide +kernel, by decide⟩
def mX5_tightenChoice : vm_Me := (yX5_tightenChoice, cX5_tightenChoice, 7, (some .boolean), [(0, .iload_n 1, 1, []), (1, .iconst 4, 1, []), (2, .imul, 1, []), (3, .istore_n 3, 1, []), (4, .iload_n 2, 1, []), (5, .aload_n 0, 1, []), (6, .getfield 14, 3, []), (9, .getfield 121, 3, []), (12, .iload_n 3, 1, []), (13, .iaload, 1, []), (14, .iadd, 1, []), (15, .istore 4, 2, []), (17, .iload_n 2, 1, []), (18, .aload_n 0, 1, []), (19, .getfield 14, 3, []), (22, .getfield 121, 3, []), (25, .iload_n 3, 1, []), (26, .iconst 1, 1, []), (27, .iadd, 1, []), (28, .iaload, 1, []), (29, .iadd, 1, []), (30, .istore 5, 2, []), (32, .iload_n 2, 1, []), (33, .aload_n 0, 1, []), (34, .getfield 14, 3, []), (37, .getfield 121, 3, []), (40, .iload_n 3, 1, []), (41, .iconst 2, 1, []), (42, .iadd, 1, []), (43, .iaload, 1, []), (44, .iadd, 1, []), (45, .istore 6, 2, []), (47, .aload_n 0, 1, []), (48, .getfield 14, 3, []), (51, .getfield 103, 3, []), (54, .iload_n 1, 1, []), (55, .iaload, 1, []), (56, .iconst 1, 1, []), (57, .if_icmp .ne 143, 3, []), (60, .aload_n 0, 1, []), (61, .iload 4, 2, []), (63, .iconst 1, 1, []), (64, .aload_n 0, 1, []), (65, .getfield 18, 3, []), (68, .iload 5, 2, []), (70, .iaload, 1, []), (71, .aload_n 0, 1, []), (72, .getfield 18, 3, []), (75, .iload 6, 2, []), (77, .iaload, 1, []), (78, .invokestatic 40, 3, []), (81, .aload_n 0, 1, []), (82, .getfield 22, 3, []), (85, .iload 5, 2, []), (87, .iaload, 1, []), (88, .aload_n 0, 1, []), (89, .getfield 22, 3, []), (92, .iload 6, 2, []), (94, .iaload, 1, []), (95, .invokestatic 40, 3, []), (98, .invokevirtual 129, 3, []), (101, .ifCond .eq 97, 3, []), (104, .aload_n 0, 1, []), (105, .iload 5, 2, []), (107, .iconst 1, 1, []), (108, .aload_n 0, 1, []), (109, .getfield 22, 3, []), (112, .iload 6, 2, []), (114, .iaload, 1, []), (115, .aload_n 0, 1, []), (116, .getfield 18, 3, []), (119, .iload 4, 2, []), (121, .iaload, 1, []), (122, .if_icmp .ge 13, 3, []), (125, .aload_n 0, 1, []), (126, .getfield 18, 3, []), (129, .iload 4, 2, []), (131, .iaload, 1, []), (132, .goto 4, 3, []), (135, .iconst 0, 1, []), (136, .aload_n 0, 1, []), (137, .getfield 22, 3, []), (140, .iload 4, 2, []), (142, .iaload, 1, []), (143, .invokevirtual 129, 3, []), (146, .ifCond .eq 52, 3, []), (149, .aload_n 0, 1, []), (150, .iload 6, 2, []), (152, .iconst 1, 1, []), (153, .aload_n 0, 1, []), (154, .getfield 22, 3, []), (157, .iload 5, 2, []), (159, .iaload, 1, []), (160, .aload_n 0, 1, []), (161, .getfield 18, 3, []), (164, .iload 4, 2, []), (166, .iaload, 1, []), (167, .if_icmp .ge 13, 3, []), (170, .aload_n 0, 1, []), (171, .getfield 18, 3, []), (174, .iload 4, 2, []), (176, .iaload, 1, []), (177, .goto 4, 3, []), (180, .iconst 0, 1, []), (181, .aload_n 0, 1, []), (182, .getfield 22, 3, []), (185, .iload 4, 2, []), (187, .iaload, 1, []), (188, .invokevirtual 129, 3, []), (191, .ifCond .eq 7, 3, []), (194, .iconst 1, 1, []), (195, .goto 4, 3, []), (198, .iconst 0, 1, []), (199, .ireturn, 1, []), (200, .aload_n 0, 1, []), (201, .iload 4, 2, []), (203, .iconst 1, 1, []), (204, .aload_n 0, 1, []), (205, .getfield 18, 3, []), (208, .iload 5, 2, []), (210, .iaload, 1, []), (211, .aload_n 0, 1, []), (212, .getfield 18, 3, []), (215, .iload 6, 2, []), (217, .iaload, 1, []), (218, .invokestatic 46, 3, []), (221, .aload_n 0, 1, []), (222, .getfield 22, 3, []), (225, .iload 5, 2, []), (227, .iaload, 1, []), (228, .aload_n 0, 1, []), (229, .getfield 22, 3, []), (232, .iload 6, 2, []), (234, .iaload, 1, []), (235, .invokestatic 46, 3, []), (238, .invokevirtual 129, 3, []), (241, .ifCond .eq 99, 3, []), (244, .aload_n 0, 1, []), (245, .iload 5, 2, []), (247, .iconst 1, 1, []), (248, .aload_n 0, 1, []), (249, .getfield 18, 3, []), (252, .iload 4, 2, []), (254, .iaload, 1, []), (255, .aload_n 0, 1, []), (256, .getfield 18, 3, []), (259, .iload 6, 2, []), (261, .iaload, 1, []), (262, .aload_n 0, 1, []), (263, .getfield 22, 3, []), (266, .iload 4, 2, []), (268, .iaload, 1, []), (269, .if_icmp .le 13, 3, []), (272, .aload_n 0, 1, []), (273, .getfield 22, 3, []), (276, .iload 4, 2, []), (278, .iaload, 1, []), (279, .goto 5, 3, []), (282, .bipush 18, 2, []), (284, .invokevirtual 129, 3, []), (287, .ifCond .eq 53, 3, []), (290, .aload_n 0, 1, []), (291, .iload 6, 2, []), (293, .iconst 1, 1, []), (294, .aload_n 0, 1, []), (295, .getfield 18, 3, []), (298, .iload 4, 2, []), (300, .iaload, 1, []), (301, .aload_n 0, 1, []), (302, .getfield 18, 3, []), (305, .iload 5, 2, []), (307, .iaload, 1, []), (308, .aload_n 0, 1, []), (309, .getfield 22, 3, []), (312, .iload 4, 2, []), (314, .iaload, 1, []), (315, .if_icmp .le 13, 3, []), (318, .aload_n 0, 1, []), (319, .getfield 22, 3, []), (322, .iload 4, 2, []), (324, .iaload, 1, []), (325, .goto 5, 3, []), (328, .bipush 18, 2, []), (330, .invokevirtual 129, 3, []), (333, .ifCond .eq 7, 3, []), (336, .iconst 1, 1, []), (337, .goto 4, 3, []), (340, .iconst 0, 1, []), (341, .ireturn, 1, [])])
theorem okX5_tightenChoice : vm_okM mX5_tightenChoice := vm_okM_of (by decide +kernel)
theorem calX5_tightenChoice : vm_calI mX5_tightenChoice 2 := ⟨⟨ww_522, ww_17⟩, ww_523, ww_92, by decide +kernel, by decide⟩
def mX5_isSure : vm_Me := (yX5_isSure, cX5_isSure, 7, (some .boolean), [(0, .iload_n 1, 1, []), (1, .iconst 4, 1, []), (2, .imul, 1, []), (3, .istore_n 3, 1, []), (4, .iconst 0, 1, []), (5, .istore 4, 2, []), (7, .iconst 0, 1, []), (8, .istore 5, 2, []), (10, .iload_n 3, 1, []), (11, .istore 6, 2, []), (13, .iload 6, 2, []), (15, .iload_n 3, 1, []), (16, .aload_n 0, 1, []), (17, .getfield 14, 3, []), (20, .getfield 112, 3, []), (23, .iload_n 1, 1, []), (24, .iaload, 1, []), (25, .iadd, 1, []), (26, .if_icmp .ge 33, 3, []), (29, .iload 4, 2, []), (31, .aload_n 0, 1, []), (32, .iload 6, 2, []), (34, .iload_n 2, 1, []), (35, .invokevirtual 115, 3, []), (38, .iadd, 1, []), (39, .istore 4, 2, []), (41, .iload 5, 2, []), (43, .aload_n 0, 1, []), (44, .iload 6, 2, []), (46, .iload_n 2, 1, []), (47, .invokevirtual 118, 3, []), (50, .iadd, 1, []), (51, .istore 5, 2, []), (53, .iinc 6 1, 3, []), (56, .goto (-43), 3, []), (59, .aload_n 0, 1, []), (60, .getfield 14, 3, []), (63, .getfield 103, 3, []), (66, .iload_n 1, 1, []), (67, .iaload, 1, []), (68, .ifCond .ne 35, 3, []), (71, .iload 4, 2, []), (73, .aload_n 0, 1, []), (74, .getfield 14, 3, []), (77, .getfield 127, 3, []), (80, .iload_n 1, 1, []), (81, .iaload, 1, []), (82, .if_icmp .lt 21, 3, []), (85, .iload 5, 2, []), (87, .aload_n 0, 1, []), (88, .getfield 14, 3, []), (91, .getfield 128, 3, []), (94, .iload_n 1, 1, []), (95, .iaload, 1, []), (96, .if_icmp .gt 7, 3, []), (99, .iconst 1, 1, []), (100, .goto 4, 3, []), (103, .iconst 0, 1, []), (104, .ireturn, 1, [])])
theorem okX5_isSure : vm_okM mX5_isSure := vm_okM_of (by decide +kernel)
theorem calX5_isSure : vm_calI mX5_isSure 2 := ⟨⟨ww_541, ww_21⟩, ww_542, ww_92, by decide +kernel, by decide⟩
def mX5_leastTerm : vm_Me := (yX5_leastTerm, cX5_leastTerm, 4, (some .int), [(0, .iload_n 2, 1, []), (1, .aload_n 0, 1, []), (2, .getfield 14, 3, []), (5, .getfield 121, 3, []), (8, .iload_n 1, 1, []), (9, .iaload, 1, []), (10, .iadd, 1, []), (11, .istore_n 3, 1, []), (12, .aload_n 0, 1, []), (13, .getfield 14, 3, []), (16, .getfield 124, 3, []), (19, .iload_n 1, 1, []), (20, .iaload, 1, []), (21, .aload_n 0, 1, []), (22, .getfield 14, 3, []), (25, .getfield 124, 3, []), (28, .iload_n 1, 1, []), (29, .iaload, 1, []), (30, .ifCond .le 12, 3, []), (33, .aload_n 0, 1, []), (34, .getfield 18, 3, []), (37, .iload_n 3, 1, []), (38, .iaload, 1, []), (39, .goto 9, 3, []), (42, .aload_n 0, 1, []), (43, .getfield 22, 3, []), (46, .iload_n 3, 1, []), (47, .iaload, 1, []), (48, .imul, 1, []), (49, .ireturn, 1, [])])
theorem okX5_leastTerm : vm_okM mX5_leastTerm := vm_okM_of (by decide +kernel)
theorem calX5_leastTerm : vm_calI mX5_leastTerm 2 := ⟨⟨ww_510, ww_14⟩, ww_511, ww_92, by decide +kernel, by decide⟩
def mX5_greatestTerm : vm_Me := (yX5_greatestTerm, cX5_greatestTerm, 4, (some .int), [(0, .iload_n 2, 1, []), (1, .aload_n 0, 1, []), (2, .getfield 14, 3, []), (5, .getfield 121, 3, []), (8, .iload_n 1, 1, []), (9, .iaload, 1, []), (10, .iadd, 1, []), (11, .istore_n 3, 1, []), (12, .aload_n 0, 1, []), (13, .getfield 14, 3, []), (16, .getfield 124, 3, []), (19, .iload_n 1, 1, []), (20, .iaload, 1, []), (21, .aload_n 0, 1, []), (22, .getfield 14, 3, []), (25, .getfield 124, 3, []), (28, .iload_n 1, 1, []), (29, .iaload, 1, []), (30, .ifCond .le 12, 3, []), (33, .aload_n 0, 1, []), (34, .getfield 22, 3, []), (37, .iload_n 3, 1, []), (38, .iaload, 1, []), (39, .goto 9, 3, []), (42, .aload_n 0, 1, []), (43, .getfield 18, 3, []), (46, .iload_n 3, 1, []), (47, .iaload, 1, []), (48, .imul, 1, []), (49, .ireturn, 1, [])])
theorem okX5_greatestTerm : vm_okM mX5_greatestTerm := vm_okM_of (by decide +kernel)
theorem calX5_greatestTerm : vm_calI mX5_greatestTerm 2 := ⟨⟨ww_514, ww_15⟩, ww_515, ww_92, by decide +kernel, by decide⟩
def mX5_keep : vm_Me := (yX5_keep, cX5_keep, 7, (some .boolean), [(0, .aload_n 0, 1, []), (1, .getfield 18, 3, []), (4, .iload_n 1, 1, []), (5, .iaload, 1, []), (6, .istore 5, 2, []), (8, .aload_n 0, 1, []), (9, .getfield 22, 3, []), (12, .iload_n 1, 1, []), (13, .iaload, 1, []), (14, .istore 6, 2, []), (16, .iload 5, 2, []), (18, .iload 6, 2, []), (20, .if_icmp .gt 26, 3, []), (23, .iload_n 2, 1, []), (24, .iload 5, 2, []), (26, .imul, 1, []), (27, .iload_n 3, 1, []), (28, .if_icmp .lt 12, 3, []), (31, .iload_n 2, 1, []), (32, .iload 5, 2, []), (34, .imul, 1, []), (35, .iload 4, 2, []), (37, .if_icmp .le 9, 3, []), (40, .iinc 5 1, 3, []), (43, .goto (-27), 3, []), (46, .iload 5, 2, []), (48, .iload 6, 2, []), (50, .if_icmp .gt 26, 3, []), (53, .iload_n 2, 1, []), (54, .iload 6, 2, []), (56, .imul, 1, []), (57, .iload_n 3, 1, []), (58, .if_icmp .lt 12, 3, []), (61, .iload_n 2, 1, []), (62, .iload 6, 2, []), (64, .imul, 1, []), (65, .iload 4, 2, []), (67, .if_icmp .le 9, 3, []), (70, .iinc 6 (-1), 3, []), (73, .goto (-27), 3, []), (76, .iload 5, 2, []), (78, .iload 6, 2, []), (80, .if_icmp .le 5, 3, []), (83, .iconst 0, 1, []), (84, .ireturn, 1, []), (85, .iload 5, 2, []), (87, .aload_n 0, 1, []), (88, .getfield 18, 3, []), (91, .iload_n 1, 1, []), (92, .iaload, 1, []), (93, .if_icmp .ne 14, 3, []), (96, .iload 6, 2, []), (98, .aload_n 0, 1, []), (99, .getfield 22, 3, []), (102, .iload_n 1, 1, []), (103, .iaload, 1, []), (104, .if_icmp .eq 34, 3, []), (107, .aload_n 0, 1, []), (108, .getfield 18, 3, []), (111, .iload_n 1, 1, []), (112, .iload 5, 2, []), (114, .iastore, 1, []), (115, .aload_n 0, 1, []), (116, .getfield 22, 3, []), (119, .iload_n 1, 1, []), (120, .iload 6, 2, []), (122, .iastore, 1, []), (123, .aload_n 0, 1, []), (124, .dup, 1, []), (125, .getfield 100, 3, []), (128, .iconst 1, 1, []), (129, .iload_n 1, 1, []), (130, .bipush 16, 2, []), (132, .irem, 1, []), (133, .ishl, 1, []), (134, .ior, 1, []), (135, .putfield 100, 3, []), (138, .iconst 1, 1, []), (139, .ireturn, 1, [])])
theorem okX5_keep : vm_okM mX5_keep := vm_okM_of (by decide +kernel)
theorem calX5_keep : vm_calI mX5_keep 4 := ⟨⟨ww_518, ww_16⟩, ww_519, ww_92, by decide +kernel, by decide⟩
def mX6_store : vm_Me := (yX6_store, cX6_store, 3, none, [(0, .iload_n 1, 1, []), (1, .iconst 0, 1, []), (2, .aload_n 0, 1, []), (3, .getfield 7, 3, []), (6, .iconst 1, 1, []), (7, .isub, 1, []), (8, .invokestatic 19, 3, []), (11, .ifCond .eq 15, 3, []), (14, .aload_n 2, 1, []), (15, .aload_n 0, 1, []), (16, .getfield 15, 3, []), (19, .iload_n 1, 1, []), (20, .bipush 62, 2, []), (22, .imul, 1, []), (23, .invokevirtual 25, 3, []), (26, .return_, 1, [])])
theorem okX6_store : vm_okM mX6_store := vm_okM_of (by decide +kernel)
theorem calX6_store : vm_calI mX6_store 2 := ⟨⟨ww_319, ww_320⟩, ww_321, ww_96, by decide +kernel, by decide⟩
def mX6_load : vm_Me := (yX6_load, cX6_load, 3, none, [(0, .iload_n 1, 1, []), (1, .iconst 0, 1, []), (2, .aload_n 0, 1, []), (3, .getfield 7, 3, []), (6, .iconst 1, 1, []), (7, .isub, 1, []), (8, .invokestatic 19, 3, []), (11, .ifCond .eq 15, 3, []), (14, .aload_n 2, 1, []), (15, .aload_n 0, 1, []), (16, .getfield 15, 3, []), (19, .iload_n 1, 1, []), (20, .bipush 62, 2, []), (22, .imul, 1, []), (23, .invokevirtual 29, 3, []), (26, .return_, 1, [])])
theorem okX6_load : vm_okM mX6_load := vm_okM_of (by decide +kernel)
theorem calX6_load : vm_calI mX6_load 2 := ⟨⟨ww_722, ww_723⟩, ww_724, ww_96, by decide +kernel, by decide⟩
def mX6_dropFirst : vm_Me := (yX6_dropFirst, cX6_dropFirst, 1, none, [(0, .aload_n 0, 1, []), (1, .getfield 15, 3, []), (4, .bipush 62, 2, []), (6, .aload_n 0, 1, []), (7, .getfield 15, 3, []), (10, .iconst 0, 1, []), (11, .aload_n 0, 1, []), (12, .getfield 7, 3, []), (15, .iconst 1, 1, []), (16, .isub, 1, []), (17, .bipush 62, 2, []), (19, .imul, 1, []), (20, .invokestatic 32, 3, []), (23, .return_, 1, [])])
theorem okX6_dropFirst : vm_okM mX6_dropFirst := vm_okM_of (by decide +kernel)
theorem calX6_dropFirst : vm_calI mX6_dropFirst 0 := ⟨⟨ww_312, ww_313⟩, ww_314, ww_96, by decide +kernel, by decide⟩
def mX7_most : vm_Me := (yX7_most, cX7_most, 3, (some .int), [(0, .iload_n 1, 1, []), (1, .iconst 1, 1, []), (2, .bipush 6, 2, []), (4, .invokestatic 44, 3, []), (7, .ifCond .ne 6, 3, []), (10, .bipush (-2), 2, []), (12, .ireturn, 1, []), (13, .aload_n 0, 1, []), (14, .invokevirtual 48, 3, []), (17, .aload_n 0, 1, []), (18, .getfield 10, 3, []), (21, .getfield 51, 3, []), (24, .istore_n 2, 1, []), (25, .aload_n 0, 1, []), (26, .getfield 10, 3, []), (29, .iload_n 1, 1, []), (30, .putfield 51, 3, []), (33, .iload_n 2, 1, []), (34, .ireturn, 1, [])])
theorem okX7_most : vm_okM mX7_most := vm_okM_of (by decide +kernel)
theorem calX7_most : vm_calI mX7_most 1 := ⟨⟨ww_301, ww_302⟩, ww_303, ww_89, by decide +kernel, by decide⟩
def mX7_fact : vm_Me := (yX7_fact, cX7_fact, 7, (some .int), [(0, .aload_n 0, 1, []), (1, .getfield 10, 3, []), (4, .iload_n 1, 1, []), (5, .iload_n 2, 1, []), (6, .iload_n 3, 1, []), (7, .iload 4, 2, []), (9, .iload 5, 2, []), (11, .iload 6, 2, []), (13, .invokevirtual 55, 3, []), (16, .ifCond .ne 6, 3, []), (19, .bipush (-2), 2, []), (21, .ireturn, 1, []), (22, .aload_n 0, 1, []), (23, .getfield 10, 3, []), (26, .invokevirtual 59, 3, []), (29, .ifCond .eq 6, 3, []), (32, .bipush (-4), 2, []), (34, .ireturn, 1, []), (35, .aload_n 0, 1, []), (36, .invokevirtual 48, 3, []), (39, .aload_n 0, 1, []), (40, .getfield 10, 3, []), (43, .invokevirtual 63, 3, []), (46, .ireturn, 1, [])])
theorem okX7_fact : vm_okM mX7_fact := vm_okM_of (by decide +kernel)
theorem calX7_fact : vm_calI mX7_fact 6 := ⟨⟨ww_329, ww_330⟩, ww_331, ww_89, by decide +kernel, by decide⟩
def mX7_drop : vm_Me := (yX7_drop, cX7_drop, 2, (some .int), [(0, .aload_n 0, 1, []), (1, .getfield 10, 3, []), (4, .iload_n 1, 1, []), (5, .invokevirtual 67, 3, []), (8, .ifCond .ne 5, 3, []), (11, .iconst (-1), 1, []), (12, .ireturn, 1, []), (13, .aload_n 0, 1, []), (14, .invokevirtual 48, 3, []), (17, .aload_n 0, 1, []), (18, .getfield 10, 3, []), (21, .iload_n 1, 1, []), (22, .invokevirtual 71, 3, []), (25, .aload_n 0, 1, []), (26, .getfield 10, 3, []), (29, .getfield 74, 3, []), (32, .ireturn, 1, [])])
theorem okX7_drop : vm_okM mX7_drop := vm_okM_of (by decide +kernel)
theorem calX7_drop : vm_calI mX7_drop 1 := ⟨⟨ww_359, ww_360⟩, ww_361, ww_89, by decide +kernel, by decide⟩
def mX7_ofFact : vm_Me := (yX7_ofFact, cX7_ofFact, 4, (some .int), [(0, .aload_n 0, 1, []), (1, .getfield 10, 3, []), (4, .iload_n 1, 1, []), (5, .invokevirtual 67, 3, []), (8, .ifCond .ne 5, 3, []), (11, .iconst (-1), 1, []), (12, .ireturn, 1, []), (13, .iload_n 2, 1, []), (14, .iconst 0, 1, []), (15, .iconst 5, 1, []), (16, .invokestatic 44, 3, []), (19, .ifCond .ne 6, 3, []), (22, .bipush (-2), 2, []), (24, .ireturn, 1, []), (25, .aload_n 0, 1, []), (26, .getfield 10, 3, []), (29, .iload_n 1, 1, []), (30, .iload_n 2, 1, []), (31, .invokevirtual 77, 3, []), (34, .istore_n 3, 1, []), (35, .iload_n 2, 1, []), (36, .iconst 5, 1, []), (37, .if_icmp .ne 10, 3, []), (40, .iload_n 3, 1, []), (41, .bipush 100, 2, []), (43, .iadd, 1, []), (44, .goto 4, 3, []), (47, .iload_n 3, 1, []), (48, .ireturn, 1, [])])
theorem okX7_ofFact : vm_okM mX7_ofFact := vm_okM_of (by decide +kernel)
theorem calX7_ofFact : vm_calI mX7_ofFact 2 := ⟨⟨ww_372, ww_373⟩, ww_374, ww_89, by decide +kernel, by decide⟩
def mX7_count : vm_Me := (yX7_count, cX7_count, 2, (some .int), [(0, .iload_n 1, 1, []), (1, .tableswitch 60 0 3 #[31, 39, 47, 55], 31, []), (32, .aload_n 0, 1, []), (33, .getfield 10, 3, []), (36, .getfield 74, 3, []), (39, .ireturn, 1, []), (40, .aload_n 0, 1, []), (41, .getfield 10, 3, []), (44, .getfield 51, 3, []), (47, .ireturn, 1, []), (48, .aload_n 0, 1, []), (49, .getfield 28, 3, []), (52, .getfield 81, 3, []), (55, .ireturn, 1, []), (56, .aload_n 0, 1, []), (57, .getfield 84, 3, []), (60, .ireturn, 1, []), (61, .bipush (-2), 2, []), (63, .ireturn, 1, [])])
theorem okX7_count : vm_okM mX7_count := vm_okM_of (by decide +kernel)
theorem calX7_count : vm_calI mX7_count 1 := ⟨⟨ww_380, ww_381⟩, ww_382, ww_89, by decide +kernel, by decide⟩
def mX7_isPossible : vm_Me := (yX7_isPossible, cX7_isPossible, 1, (some .int), [(0, .aload_n 0, 1, []), (1, .getfield 21, 3, []), (4, .aload_n 0, 1, []), (5, .getfield 10, 3, []), (8, .invokevirtual 87, 3, []), (11, .invokevirtual 90, 3, []), (14, .ifCond .eq 7, 3, []), (17, .iconst 1, 1, []), (18, .goto 4, 3, []), (21, .iconst 0, 1, []), (22, .ireturn, 1, [])])
theorem okX7_isPossible : vm_okM mX7_isPossible := vm_okM_of (by decide +kernel)
theorem calX7_isPossible : vm_calI mX7_isPossible 0 := ⟨⟨ww_384, ww_385⟩, ww_386, ww_89, by decide +kernel, by decide⟩
def mX7_bound : vm_Me := (yX7_bound, cX7_bound, 5, (some .int), [(0, .iload_n 1, 1, []), (1, .iload_n 2, 1, []), (2, .iload_n 3, 1, []), (3, .invokestatic 93, 3, []), (6, .istore 4, 2, []), (8, .iload 4, 2, []), (10, .ifCond .eq 8, 3, []), (13, .iload 4, 2, []), (15, .goto 32, 3, []), (18, .aload_n 0, 1, []), (19, .getfield 21, 3, []), (22, .aload_n 0, 1, []), (23, .getfield 10, 3, []), (26, .invokevirtual 87, 3, []), (29, .iload_n 1, 1, []), (30, .iload_n 2, 1, []), (31, .invokestatic 97, 3, []), (34, .iload_n 3, 1, []), (35, .iconst 1, 1, []), (36, .if_icmp .ne 7, 3, []), (39, .iconst 1, 1, []), (40, .goto 4, 3, []), (43, .iconst 0, 1, []), (44, .invokevirtual 102, 3, []), (47, .ireturn, 1, [])])
theorem okX7_bound : vm_okM mX7_bound := vm_okM_of (by decide +kernel)
theorem calX7_bound : vm_calI mX7_bound 3 := ⟨⟨ww_553, ww_554⟩, ww_555, ww_89, by decide +kernel, by decide⟩
def mX7_sizeOf : vm_Me := (yX7_sizeOf, cX7_sizeOf, 4, (some .int), [(0, .iload_n 1, 1, []), (1, .iconst 0, 1, []), (2, .iload_n 2, 1, []), (3, .invokestatic 93, 3, []), (6, .istore_n 3, 1, []), (7, .iload_n 3, 1, []), (8, .ifCond .eq 7, 3, []), (11, .iload_n 3, 1, []), (12, .goto 32, 3, []), (15, .aload_n 0, 1, []), (16, .getfield 21, 3, []), (19, .aload_n 0, 1, []), (20, .getfield 10, 3, []), (23, .invokevirtual 87, 3, []), (26, .iload_n 1, 1, []), (27, .iconst 3, 1, []), (28, .invokestatic 97, 3, []), (31, .iload_n 2, 1, []), (32, .iconst 1, 1, []), (33, .if_icmp .ne 7, 3, []), (36, .iconst 1, 1, []), (37, .goto 4, 3, []), (40, .iconst 0, 1, []), (41, .invokevirtual 102, 3, []), (44, .ireturn, 1, [])])
theorem okX7_sizeOf : vm_okM mX7_sizeOf := vm_okM_of (by decide +kernel)
theorem calX7_sizeOf : vm_calI mX7_sizeOf 2 := ⟨⟨ww_572, ww_573⟩, ww_574, ww_89, by decide +kernel, by decide⟩
def mX7_least : vm_Me := (yX7_least, cX7_least, 3, (some .int), [(0, .iload_n 1, 1, []), (1, .invokestatic 106, 3, []), (4, .ifCond .eq 10, 3, []), (7, .iload_n 2, 1, []), (8, .invokestatic 109, 3, []), (11, .ifCond .ne 5, 3, []), (14, .iconst (-1), 1, []), (15, .ireturn, 1, []), (16, .aload_n 0, 1, []), (17, .getfield 21, 3, []), (20, .iload_n 1, 1, []), (21, .iload_n 2, 1, []), (22, .invokestatic 97, 3, []), (25, .invokevirtual 112, 3, []), (28, .ireturn, 1, [])])
theorem okX7_least : vm_okM mX7_least := vm_okM_of (by decide +kernel)
theorem calX7_least : vm_calI mX7_least 2 := ⟨⟨ww_576, ww_577⟩, ww_578, ww_89, by decide +kernel, by decide⟩
def mX7_solutions : vm_Me := (yX7_solutions, cX7_solutions, 2, (some .int), [(0, .iload_n 1, 1, []), (1, .iconst 1, 1, []), (2, .sipush 500, 3, []), (5, .invokestatic 44, 3, []), (8, .ifCond .ne 6, 3, []), (11, .bipush (-2), 2, []), (13, .ireturn, 1, []), (14, .aload_n 0, 1, []), (15, .getfield 21, 3, []), (18, .iload_n 1, 1, []), (19, .invokevirtual 116, 3, []), (22, .ireturn, 1, [])])
theorem okX7_solutions : vm_okM mX7_solutions := vm_okM_of (by decide +kernel)
theorem calX7_solutions : vm_calI mX7_solutions 1 := ⟨⟨ww_590, ww_591⟩, ww_592, ww_89, by decide +kernel, by decide⟩
def mX7_follows : vm_Me := (yX7_follows, cX7_follows, 7, (some .int), [(0, .aload_n 0, 1, []), (1, .getfield 10, 3, []), (4, .iload_n 1, 1, []), (5, .iload_n 2, 1, []), (6, .iload_n 3, 1, []), (7, .iload 4, 2, []), (9, .iload 5, 2, []), (11, .iload 6, 2, []), (13, .invokevirtual 55, 3, []), (16, .ifCond .ne 6, 3, []), (19, .bipush (-2), 2, []), (21, .ireturn, 1, []), (22, .aload_n 0, 1, []), (23, .getfield 21, 3, []), (26, .aload_n 0, 1, []), (27, .getfield 10, 3, []), (30, .invokevirtual 87, 3, []), (33, .invokevirtual 90, 3, []), (36, .ifCond .ne 6, 3, []), (39, .bipush (-6), 2, []), (41, .ireturn, 1, []), (42, .aload_n 0, 1, []), (43, .getfield 21, 3, []), (46, .bipush 10, 2, []), (48, .aload_n 0, 1, []), (49, .getfield 10, 3, []), (52, .invokevirtual 87, 3, []), (55, .invokevirtual 119, 3, []), (58, .ifCond .ne 5, 3, []), (61, .iconst 1, 1, []), (62, .ireturn, 1, []), (63, .aload_n 0, 1, []), (64, .getfield 21, 3, []), (67, .aload_n 0, 1, []), (68, .getfield 10, 3, []), (71, .invokevirtual 87, 3, []), (74, .sipush 1024, 3, []), (77, .ior, 1, []), (78, .invokevirtual 90, 3, []), (81, .ifCond .eq 7, 3, []), (84, .iconst 2, 1, []), (85, .goto 4, 3, []), (88, .iconst 0, 1, []), (89, .ireturn, 1, [])])
theorem okX7_follows : vm_okM mX7_follows := vm_okM_of (by decide +kernel)
theorem calX7_follows : vm_calI mX7_follows 6 := ⟨⟨ww_598, ww_599⟩, ww_600, ww_89, by decide +kernel, by decide⟩
def mX7_contradiction : vm_Me := (yX7_contradiction, cX7_contradiction, 4, (some .int), [(0, .aload_n 0, 1, []), (1, .getfield 10, 3, []), (4, .invokevirtual 87, 3, []), (7, .istore_n 1, 1, []), (8, .aload_n 0, 1, []), (9, .getfield 21, 3, []), (12, .iload_n 1, 1, []), (13, .invokevirtual 90, 3, []), (16, .ifCond .eq 6, 3, []), (19, .bipush (-6), 2, []), (21, .ireturn, 1, []), (22, .iconst 0, 1, []), (23, .istore_n 2, 1, []), (24, .iload_n 2, 1, []), (25, .aload_n 0, 1, []), (26, .getfield 10, 3, []), (29, .getfield 74, 3, []), (32, .if_icmp .ge 30, 3, []), (35, .iload_n 1, 1, []), (36, .iconst 1, 1, []), (37, .iload_n 2, 1, []), (38, .ishl, 1, []), (39, .iconst (-1), 1, []), (40, .ixor, 1, []), (41, .iand, 1, []), (42, .istore_n 3, 1, []), (43, .aload_n 0, 1, []), (44, .getfield 21, 3, []), (47, .iload_n 3, 1, []), (48, .invokevirtual 90, 3, []), (51, .ifCond .ne 5, 3, []), (54, .iload_n 3, 1, []), (55, .istore_n 1, 1, []), (56, .iinc 2 1, 3, []), (59, .goto (-35), 3, []), (62, .iload_n 1, 1, []), (63, .ireturn, 1, [])])
theorem okX7_contradiction : vm_okM mX7_contradiction := vm_okM_of (by decide +kernel)
theorem calX7_contradiction : vm_calI mX7_contradiction 0 := ⟨⟨ww_621, ww_622⟩, ww_623, ww_89, by decide +kernel, by decide⟩
def mX7_reason : vm_Me := (yX7_reason, cX7_reason, 10, (some .int), [(0, .iload_n 1, 1, []), (1, .iload_n 2, 1, []), (2, .iload_n 3, 1, []), (3, .invokestatic 93, 3, []), (6, .istore 4, 2, []), (8, .iload 4, 2, []), (10, .ifCond .eq 6, 3, []), (13, .iload 4, 2, []), (15, .ireturn, 1, []), (16, .aload_n 0, 1, []), (17, .getfield 10, 3, []), (20, .invokevirtual 87, 3, []), (23, .istore 5, 2, []), (25, .iload_n 1, 1, []), (26, .iload_n 2, 1, []), (27, .invokestatic 97, 3, []), (30, .istore 6, 2, []), (32, .aload_n 0, 1, []), (33, .getfield 21, 3, []), (36, .iload 5, 2, []), (38, .iload 6, 2, []), (40, .iload_n 3, 1, []), (41, .iconst 1, 1, []), (42, .if_icmp .ne 7, 3, []), (45, .iconst 1, 1, []), (46, .goto 4, 3, []), (49, .iconst 0, 1, []), (50, .invokevirtual 102, 3, []), (53, .istore 7, 2, []), (55, .iload 7, 2, []), (57, .bipush (-6), 2, []), (59, .if_icmp .ne 6, 3, []), (62, .bipush (-6), 2, []), (64, .ireturn, 1, []), (65, .iconst 0, 1, []), (66, .istore 8, 2, []), (68, .iload 8, 2, []), (70, .aload_n 0, 1, []), (71, .getfield 10, 3, []), (74, .getfield 74, 3, []), (77, .if_icmp .ge 50, 3, []), (80, .iload 5, 2, []), (82, .iconst 1, 1, []), (83, .iload 8, 2, []), (85, .ishl, 1, []), (86, .iconst (-1), 1, []), (87, .ixor, 1, []), (88, .iand, 1, []), (89, .istore 9, 2, []), (91, .aload_n 0, 1, []), (92, .getfield 21, 3, []), (95, .iload 9, 2, []), (97, .iload 6, 2, []), (99, .iload_n 3, 1, []), (100, .iconst 1, 1, []), (101, .if_icmp .ne 7, 3, []), (104, .iconst 1, 1, []), (105, .goto 4, 3, []), (108, .iconst 0, 1, []), (109, .invokevirtual 102, 3, []), (112, .iload 7, 2, []), (114, .if_icmp .ne 7, 3, []), (117, .iload 9, 2, []), (119, .istore 5, 2, []), (121, .iinc 8 1, 3, []), (124, .goto (-56), 3, []), (127, .iload 5, 2, []), (129, .ireturn, 1, [])])
theorem okX7_reason : vm_okM mX7_reason := vm_okM_of (by decide +kernel)
theorem calX7_reason : vm_calI mX7_reason 3 := ⟨⟨ww_625, ww_626⟩, ww_627, ww_89, by decide +kernel, by decide⟩
def mX7_needless : vm_Me := (yX7_needless, cX7_needless, 4, (some .int), [(0, .aload_n 0, 1, []), (1, .getfield 10, 3, []), (4, .invokevirtual 87, 3, []), (7, .istore_n 1, 1, []), (8, .aload_n 0, 1, []), (9, .getfield 21, 3, []), (12, .iload_n 1, 1, []), (13, .invokevirtual 90, 3, []), (16, .ifCond .ne 6, 3, []), (19, .bipush (-6), 2, []), (21, .ireturn, 1, []), (22, .iconst 0, 1, []), (23, .istore_n 2, 1, []), (24, .iconst 0, 1, []), (25, .istore_n 3, 1, []), (26, .iload_n 3, 1, []), (27, .aload_n 0, 1, []), (28, .getfield 10, 3, []), (31, .getfield 74, 3, []), (34, .if_icmp .ge 33, 3, []), (37, .aload_n 0, 1, []), (38, .getfield 21, 3, []), (41, .iload_n 3, 1, []), (42, .iload_n 1, 1, []), (43, .iconst 1, 1, []), (44, .iload_n 3, 1, []), (45, .ishl, 1, []), (46, .iconst (-1), 1, []), (47, .ixor, 1, []), (48, .iand, 1, []), (49, .invokevirtual 119, 3, []), (52, .ifCond .ne 9, 3, []), (55, .iload_n 2, 1, []), (56, .iconst 1, 1, []), (57, .iload_n 3, 1, []), (58, .ishl, 1, []), (59, .ior, 1, []), (60, .istore_n 2, 1, []), (61, .iinc 3 1, 3, []), (64, .goto (-38), 3, []), (67, .iload_n 2, 1, []), (68, .ireturn, 1, [])])
theorem okX7_needless : vm_okM mX7_needless := vm_okM_of (by decide +kernel)
theorem calX7_needless : vm_calI mX7_needless 0 := ⟨⟨ww_629, ww_630⟩, ww_631, ww_89, by decide +kernel, by decide⟩
def mX7_put : vm_Me := (yX7_put, cX7_put, 4, (some .int), [(0, .lload_n 1, 1, []), (1, .invokestatic 123, 3, []), (4, .istore_n 3, 1, []), (5, .iload_n 3, 1, []), (6, .ifCond .ne 6, 3, []), (9, .bipush (-2), 2, []), (11, .ireturn, 1, []), (12, .aload_n 0, 1, []), (13, .getfield 28, 3, []), (16, .iload_n 3, 1, []), (17, .invokevirtual 127, 3, []), (20, .ifCond .ne 6, 3, []), (23, .bipush (-4), 2, []), (25, .ireturn, 1, []), (26, .aload_n 0, 1, []), (27, .getfield 28, 3, []), (30, .lload_n 1, 1, []), (31, .iload_n 3, 1, []), (32, .invokevirtual 130, 3, []), (35, .aload_n 0, 1, []), (36, .getfield 28, 3, []), (39, .getfield 81, 3, []), (42, .ireturn, 1, [])])
theorem okX7_put : vm_okM mX7_put := vm_okM_of (by decide +kernel)
theorem calX7_put : vm_calI mX7_put 1 := ⟨⟨ww_633, ww_634⟩, ww_635, ww_89, by decide +kernel, by decide⟩
def mX7_wipe : vm_Me := (yX7_wipe, cX7_wipe, 1, (some .int), [(0, .aload_n 0, 1, []), (1, .getfield 28, 3, []), (4, .invokevirtual 134, 3, []), (7, .ireturn, 1, [])])
theorem okX7_wipe : vm_okM mX7_wipe := vm_okM_of (by decide +kernel)
theorem calX7_wipe : vm_calI mX7_wipe 0 := ⟨⟨ww_651, ww_652⟩, ww_653, ww_89, by decide +kernel, by decide⟩
def mX7_fault : vm_Me := (yX7_fault, cX7_fault, 1, (some .int), [(0, .aload_n 0, 1, []), (1, .getfield 28, 3, []), (4, .invokevirtual 137, 3, []), (7, .ireturn, 1, [])])
theorem okX7_fault : vm_okM mX7_fault := vm_okM_of (by decide +kernel)
theorem calX7_fault : vm_calI mX7_fault 0 := ⟨⟨ww_659, ww_660⟩, ww_661, ww_89, by decide +kernel, by decide⟩
def mX7_tell : vm_Me := (yX7_tell, cX7_tell, 2, (some .int), [(0, .aload_n 0, 1, []), (1, .getfield 28, 3, []), (4, .invokevirtual 137, 3, []), (7, .bipush (-6), 2, []), (9, .if_icmp .eq 6, 3, []), (12, .bipush (-3), 2, []), (14, .ireturn, 1, []), (15, .aload_n 0, 1, []), (16, .invokevirtual 48, 3, []), (19, .aload_n 0, 1, []), (20, .getfield 28, 3, []), (23, .aload_n 0, 1, []), (24, .getfield 10, 3, []), (27, .invokevirtual 140, 3, []), (30, .istore_n 1, 1, []), (31, .aload_n 0, 1, []), (32, .getfield 28, 3, []), (35, .invokevirtual 134, 3, []), (38, .pop, 1, []), (39, .iload_n 1, 1, []), (40, .ireturn, 1, [])])
theorem okX7_tell : vm_okM mX7_tell := vm_okM_of (by decide +kernel)
theorem calX7_tell : vm_calI mX7_tell 0 := ⟨⟨ww_707, ww_708⟩, ww_709, ww_89, by decide +kernel, by decide⟩
def mX7_undo : vm_Me := (yX7_undo, cX7_undo, 1, (some .int), [(0, .aload_n 0, 1, []), (1, .getfield 84, 3, []), (4, .ifCond .ne 6, 3, []), (7, .bipush (-5), 2, []), (9, .ireturn, 1, []), (10, .aload_n 0, 1, []), (11, .dup, 1, []), (12, .getfield 84, 3, []), (15, .iconst 1, 1, []), (16, .isub, 1, []), (17, .putfield 84, 3, []), (20, .aload_n 0, 1, []), (21, .getfield 37, 3, []), (24, .aload_n 0, 1, []), (25, .getfield 84, 3, []), (28, .aload_n 0, 1, []), (29, .getfield 10, 3, []), (32, .invokevirtual 144, 3, []), (35, .aload_n 0, 1, []), (36, .getfield 84, 3, []), (39, .ireturn, 1, [])])
theorem okX7_undo : vm_okM mX7_undo := vm_okM_of (by decide +kernel)
theorem calX7_undo : vm_calI mX7_undo 0 := ⟨⟨ww_718, ww_719⟩, ww_720, ww_89, by decide +kernel, by decide⟩
def mX7_save : vm_Me := (yX7_save, cX7_save, 2, (some .int), [(0, .iload_n 1, 1, []), (1, .iconst 0, 1, []), (2, .iconst 1, 1, []), (3, .invokestatic 44, 3, []), (6, .ifCond .ne 6, 3, []), (9, .bipush (-2), 2, []), (11, .ireturn, 1, []), (12, .aload_n 0, 1, []), (13, .getfield 41, 3, []), (16, .iload_n 1, 1, []), (17, .aload_n 0, 1, []), (18, .getfield 10, 3, []), (21, .invokevirtual 148, 3, []), (24, .aload_n 0, 1, []), (25, .dup, 1, []), (26, .getfield 151, 3, []), (29, .iconst 1, 1, []), (30, .iload_n 1, 1, []), (31, .ishl, 1, []), (32, .ior, 1, []), (33, .putfield 151, 3, []), (36, .aload_n 0, 1, []), (37, .getfield 10, 3, []), (40, .getfield 74, 3, []), (43, .ireturn, 1, [])])
theorem okX7_save : vm_okM mX7_save := vm_okM_of (by decide +kernel)
theorem calX7_save : vm_calI mX7_save 1 := ⟨⟨ww_730, ww_731⟩, ww_732, ww_89, by decide +kernel, by decide⟩
def mX7_restore : vm_Me := (yX7_restore, cX7_restore, 2, (some .int), [(0, .iload_n 1, 1, []), (1, .iconst 0, 1, []), (2, .iconst 1, 1, []), (3, .invokestatic 44, 3, []), (6, .ifCond .ne 6, 3, []), (9, .bipush (-2), 2, []), (11, .ireturn, 1, []), (12, .aload_n 0, 1, []), (13, .getfield 151, 3, []), (16, .iconst 1, 1, []), (17, .iload_n 1, 1, []), (18, .ishl, 1, []), (19, .iand, 1, []), (20, .ifCond .ne 6, 3, []), (23, .bipush (-5), 2, []), (25, .ireturn, 1, []), (26, .aload_n 0, 1, []), (27, .invokevirtual 48, 3, []), (30, .aload_n 0, 1, []), (31, .getfield 41, 3, []), (34, .iload_n 1, 1, []), (35, .aload_n 0, 1, []), (36, .getfield 10, 3, []), (39, .invokevirtual 144, 3, []), (42, .aload_n 0, 1, []), (43, .getfield 10, 3, []), (46, .getfield 74, 3, []), (49, .ireturn, 1, [])])
theorem okX7_restore : vm_okM mX7_restore := vm_okM_of (by decide +kernel)
theorem calX7_restore : vm_calI mX7_restore 1 := ⟨⟨ww_734, ww_735⟩, ww_736, ww_89, by decide +kernel, by decide⟩
def mX7_recordState : vm_Me := (yX7_recordState, cX7_recordState, 1, none, [(0, .aload_n 0, 1, []), (1, .getfield 84, 3, []), (4, .bipush 6, 2, []), (6, .if_icmp .ne 20, 3, []), (9, .aload_n 0, 1, []), (10, .getfield 37, 3, []), (13, .invokevirtual 154, 3, []), (16, .aload_n 0, 1, []), (17, .dup, 1, []), (18, .getfield 84, 3, []), (21, .iconst 1, 1, []), (22, .isub, 1, []), (23, .putfield 84, 3, []), (26, .aload_n 0, 1, []), (27, .getfield 37, 3, []), (30, .aload_n 0, 1, []), (31, .getfield 84, 3, []), (34, .aload_n 0, 1, []), (35, .getfield 10, 3, []), (38, .invokevirtual 148, 3, []), (41, .aload_n 0, 1, []), (42, .dup, 1, []), (43, .getfield 84, 3, []), (46, .iconst 1, 1, []), (47, .iadd, 1, []), (48, .putfield 84, 3, []), (51, .return_, 1, [])])
theorem okX7_recordState : vm_okM mX7_recordState := vm_okM_of (by decide +kernel)
theorem calX7_recordState : vm_calI mX7_recordState 0 := ⟨⟨ww_309, ww_0⟩, ww_310, ww_89, by decide +kernel, by decide⟩
def mX7_refusalOfBound : vm_Me := (yX7_refusalOfBound, cX7_refusalOfBound, 3, (some .int), [(0, .iload_n 0, 1, []), (1, .invokestatic 106, 3, []), (4, .ifCond .eq 10, 3, []), (7, .iload_n 1, 1, []), (8, .invokestatic 109, 3, []), (11, .ifCond .ne 5, 3, []), (14, .iconst (-1), 1, []), (15, .ireturn, 1, []), (16, .iload_n 2, 1, []), (17, .iconst 0, 1, []), (18, .iconst 1, 1, []), (19, .invokestatic 44, 3, []), (22, .ifCond .eq 7, 3, []), (25, .iconst 0, 1, []), (26, .goto 5, 3, []), (29, .bipush (-2), 2, []), (31, .ireturn, 1, [])])
theorem okX7_refusalOfBound : vm_okM mX7_refusalOfBound := vm_okM_of (by decide +kernel)
theorem calX7_refusalOfBound : vm_calS mX7_refusalOfBound 3 := ⟨ww_557, ww_558, ww_89, by decide +kernel, by decide⟩
def mX7_isBag : vm_Me := (yX7_isBag, cX7_isBag, 1, (some .boolean), [(0, .iload_n 0, 1, []), (1, .iconst 0, 1, []), (2, .iconst 3, 1, []), (3, .invokestatic 44, 3, []), (6, .ireturn, 1, [])])
theorem okX7_isBag : vm_okM mX7_isBag := vm_okM_of (by decide +kernel)
theorem calX7_isBag : vm_calS mX7_isBag 1 := ⟨ww_340, ww_341, ww_89, by decide +kernel, by decide⟩
def mX7_isKind : vm_Me := (yX7_isKind, cX7_isKind, 1, (some .boolean), [(0, .iload_n 0, 1, []), (1, .iconst 0, 1, []), (2, .iconst 2, 1, []), (3, .invokestatic 44, 3, []), (6, .ireturn, 1, [])])
theorem okX7_isKind : vm_okM mX7_isKind := vm_okM_of (by decide +kernel)
theorem calX7_isKind : vm_calS mX7_isKind 1 := ⟨ww_343, ww_344, ww_89, by decide +kernel, by decide⟩
def mX7_isWithin : vm_Me := (yX7_isWithin, cX7_isWithin, 3, (some .boolean), [(0, .iload_n 0, 1, []), (1, .iload_n 1, 1, []), (2, .if_icmp .lt 12, 3, []), (5, .iload_n 0, 1, []), (6, .iload_n 2, 1, []), (7, .if_icmp .gt 7, 3, []), (10, .iconst 1, 1, []), (11, .goto 4, 3, []), (14, .iconst 0, 1, []), (15, .ireturn, 1, [])])
theorem okX7_isWithin : vm_okM mX7_isWithin := vm_okM_of (by decide +kernel)
theorem calX7_isWithin : vm_calS mX7_isWithin 3 := ⟨ww_305, ww_306, ww_89, by decide +kernel, by decide⟩
def mX8_in : vm_Me := (yX8_in, cX8_in, 3, (some .boolean), [(0, .iload_n 0, 1, []), (1, .iload_n 1, 1, []), (2, .if_icmp .lt 12, 3, []), (5, .iload_n 0, 1, []), (6, .iload_n 2, 1, []), (7, .if_icmp .gt 7, 3, []), (10, .iconst 1, 1, []), (11, .goto 4, 3, []), (14, .iconst 0, 1, []), (15, .ireturn, 1, [])])
theorem okX8_in : vm_okM mX8_in := vm_okM_of (by decide +kernel)
theorem calX8_in : vm_calS mX8_in 3 := ⟨ww_819, ww_820, ww_97, by decide +kernel, by decide⟩
def mX8_isBag : vm_Me := (yX8_isBag, cX8_isBag, 1, (some .boolean), [(0, .iload_n 0, 1, []), (1, .iconst 0, 1, []), (2, .iconst 3, 1, []), (3, .invokestatic 50, 3, []), (6, .ireturn, 1, [])])
theorem okX8_isBag : vm_okM mX8_isBag := vm_okM_of (by decide +kernel)
theorem calX8_isBag : vm_calS mX8_isBag 1 := ⟨ww_837, ww_838, ww_97, by decide +kernel, by decide⟩
def mX8_isKind : vm_Me := (yX8_isKind, cX8_isKind, 1, (some .boolean), [(0, .iload_n 0, 1, []), (1, .iconst 0, 1, []), (2, .iconst 2, 1, []), (3, .invokestatic 50, 3, []), (6, .ireturn, 1, [])])
theorem okX8_isKind : vm_okM mX8_isKind := vm_okM_of (by decide +kernel)
theorem calX8_isKind : vm_calS mX8_isKind 1 := ⟨ww_840, ww_841, ww_97, by decide +kernel, by decide⟩
def mX8_of : vm_Me := (yX8_of, cX8_of, 3, (some .int), [(0, .aload_n 0, 1, []), (1, .getfield 7, 3, []), (4, .iconst 2, 1, []), (5, .bipush 6, 2, []), (7, .iload_n 1, 1, []), (8, .imul, 1, []), (9, .iadd, 1, []), (10, .iload_n 2, 1, []), (11, .iadd, 1, []), (12, .iaload, 1, []), (13, .ireturn, 1, [])])
theorem okX8_of : vm_okM mX8_of := vm_okM_of (by decide +kernel)
theorem calX8_of : vm_calI mX8_of 2 := ⟨⟨ww_860, ww_41⟩, ww_861, ww_97, by decide +kernel, by decide⟩
def mX8_allFacts : vm_Me := (yX8_allFacts, cX8_allFacts, 1, (some .int), [(0, .iconst 1, 1, []), (1, .aload_n 0, 1, []), (2, .getfield 7, 3, []), (5, .iconst 1, 1, []), (6, .iaload, 1, []), (7, .ishl, 1, []), (8, .iconst 1, 1, []), (9, .isub, 1, []), (10, .ireturn, 1, [])])
theorem okX8_allFacts : vm_okM mX8_allFacts := vm_okM_of (by decide +kernel)
theorem calX8_allFacts : vm_calI mX8_allFacts 0 := ⟨⟨ww_876, ww_43⟩, ww_877, ww_97, by decide +kernel, by decide⟩
def mX8_keep : vm_Me := (yX8_keep, cX8_keep, 3, none, [(0, .aload_n 0, 1, []), (1, .getfield 54, 3, []), (4, .bipush 6, 2, []), (6, .if_icmp .ne 26, 3, []), (9, .aload_n 0, 1, []), (10, .aload_n 0, 1, []), (11, .getfield 58, 3, []), (14, .iconst 1, 1, []), (15, .iadd, 1, []), (16, .bipush 6, 2, []), (18, .irem, 1, []), (19, .putfield 58, 3, []), (22, .aload_n 0, 1, []), (23, .dup, 1, []), (24, .getfield 54, 3, []), (27, .iconst 1, 1, []), (28, .isub, 1, []), (29, .putfield 54, 3, []), (32, .aload_n 0, 1, []), (33, .getfield 58, 3, []), (36, .aload_n 0, 1, []), (37, .getfield 54, 3, []), (40, .iadd, 1, []), (41, .bipush 6, 2, []), (43, .irem, 1, []), (44, .istore_n 1, 1, []), (45, .iconst 0, 1, []), (46, .istore_n 2, 1, []), (47, .iload_n 2, 1, []), (48, .bipush 62, 2, []), (50, .if_icmp .ge 26, 3, []), (53, .aload_n 0, 1, []), (54, .getfield 13, 3, []), (57, .bipush 62, 2, []), (59, .iload_n 1, 1, []), (60, .imul, 1, []), (61, .iload_n 2, 1, []), (62, .iadd, 1, []), (63, .aload_n 0, 1, []), (64, .getfield 7, 3, []), (67, .iload_n 2, 1, []), (68, .iaload, 1, []), (69, .iastore, 1, []), (70, .iinc 2 1, 3, []), (73, .goto (-26), 3, []), (76, .aload_n 0, 1, []), (77, .dup, 1, []), (78, .getfield 54, 3, []), (81, .iconst 1, 1, []), (82, .iadd, 1, []), (83, .putfield 54, 3, []), (86, .return_, 1, [])])
theorem okX8_keep : vm_okM mX8_keep := vm_okM_of (by decide +kernel)
theorem calX8_keep : vm_calI mX8_keep 0 := ⟨⟨ww_823, ww_37⟩, ww_824, ww_97, by decide +kernel, by decide⟩
def mX8_keepIf : vm_Me := (yX8_keepIf, cX8_keepIf, 2, none, [(0, .iload_n 1, 1, []), (1, .ifCond .eq 7, 3, []), (4, .aload_n 0, 1, []), (5, .invokevirtual 61, 3, []), (8, .return_, 1, [])])
theorem okX8_keepIf : vm_okM mX8_keepIf := vm_okM_of (by decide +kernel)
theorem calX8_keepIf : vm_calI mX8_keepIf 1 := ⟨⟨ww_844, ww_39⟩, ww_845, ww_97, by decide +kernel, by decide⟩
def mX8_raise : vm_Me := (yX8_raise, cX8_raise, 3, none, [(0, .iload_n 2, 1, []), (1, .aload_n 0, 1, []), (2, .getfield 23, 3, []), (5, .iload_n 1, 1, []), (6, .iaload, 1, []), (7, .if_icmp .le 15, 3, []), (10, .aload_n 0, 1, []), (11, .getfield 23, 3, []), (14, .iload_n 1, 1, []), (15, .iload_n 2, 1, []), (16, .iastore, 1, []), (17, .aload_n 0, 1, []), (18, .iconst 1, 1, []), (19, .putfield 64, 3, []), (22, .return_, 1, [])])
theorem okX8_raise : vm_okM mX8_raise := vm_okM_of (by decide +kernel)
theorem calX8_raise : vm_calI mX8_raise 2 := ⟨⟨ww_904, ww_50⟩, ww_905, ww_97, by decide +kernel, by decide⟩
def mX8_lower : vm_Me := (yX8_lower, cX8_lower, 3, none, [(0, .iload_n 2, 1, []), (1, .aload_n 0, 1, []), (2, .getfield 26, 3, []), (5, .iload_n 1, 1, []), (6, .iaload, 1, []), (7, .if_icmp .ge 15, 3, []), (10, .aload_n 0, 1, []), (11, .getfield 26, 3, []), (14, .iload_n 1, 1, []), (15, .iload_n 2, 1, []), (16, .iastore, 1, []), (17, .aload_n 0, 1, []), (18, .iconst 1, 1, []), (19, .putfield 64, 3, []), (22, .return_, 1, [])])
theorem okX8_lower : vm_okM mX8_lower := vm_okM_of (by decide +kernel)
theorem calX8_lower : vm_calI mX8_lower 2 := ⟨⟨ww_908, ww_51⟩, ww_909, ww_97, by decide +kernel, by decide⟩
def mX8_lesser : vm_Me := (yX8_lesser, cX8_lesser, 2, (some .int), [(0, .iload_n 0, 1, []), (1, .iload_n 1, 1, []), (2, .if_icmp .ge 7, 3, []), (5, .iload_n 0, 1, []), (6, .goto 4, 3, []), (9, .iload_n 1, 1, []), (10, .ireturn, 1, [])])
theorem okX8_lesser : vm_okM mX8_lesser := vm_okM_of (by decide +kernel)
theorem calX8_lesser : vm_calS mX8_lesser 2 := ⟨ww_950, ww_951, ww_97, by decide +kernel, by decide⟩
def mX8_greater : vm_Me := (yX8_greater, cX8_greater, 2, (some .int), [(0, .iload_n 0, 1, []), (1, .iload_n 1, 1, []), (2, .if_icmp .le 7, 3, []), (5, .iload_n 0, 1, []), (6, .goto 4, 3, []), (9, .iload_n 1, 1, []), (10, .ireturn, 1, [])])
theorem okX8_greater : vm_okM mX8_greater := vm_okM_of (by decide +kernel)
theorem calX8_greater : vm_calS mX8_greater 2 := ⟨ww_943, ww_944, ww_97, by decide +kernel, by decide⟩
def mX8_narrowSize : vm_Me := (yX8_narrowSize, cX8_narrowSize, 10, none, [(0, .iconst 0, 1, []), (1, .istore 4, 2, []), (3, .iconst 0, 1, []), (4, .istore 5, 2, []), (6, .iconst 0, 1, []), (7, .istore 6, 2, []), (9, .iload 6, 2, []), (11, .iconst 3, 1, []), (12, .if_icmp .ge 41, 3, []), (15, .iload 4, 2, []), (17, .aload_n 0, 1, []), (18, .getfield 23, 3, []), (21, .iconst 3, 1, []), (22, .iload_n 1, 1, []), (23, .imul, 1, []), (24, .iload 6, 2, []), (26, .iadd, 1, []), (27, .iaload, 1, []), (28, .iadd, 1, []), (29, .istore 4, 2, []), (31, .iload 5, 2, []), (33, .aload_n 0, 1, []), (34, .getfield 26, 3, []), (37, .iconst 3, 1, []), (38, .iload_n 1, 1, []), (39, .imul, 1, []), (40, .iload 6, 2, []), (42, .iadd, 1, []), (43, .iaload, 1, []), (44, .iadd, 1, []), (45, .istore 5, 2, []), (47, .iinc 6 1, 3, []), (50, .goto (-41), 3, []), (53, .iconst 0, 1, []), (54, .istore 6, 2, []), (56, .iload 6, 2, []), (58, .iconst 3, 1, []), (59, .if_icmp .ge 61, 3, []), (62, .iconst 3, 1, []), (63, .iload_n 1, 1, []), (64, .imul, 1, []), (65, .iload 6, 2, []), (67, .iadd, 1, []), (68, .istore 7, 2, []), (70, .iload 4, 2, []), (72, .aload_n 0, 1, []), (73, .getfield 23, 3, []), (76, .iload 7, 2, []), (78, .iaload, 1, []), (79, .isub, 1, []), (80, .istore 8, 2, []), (82, .iload 5, 2, []), (84, .aload_n 0, 1, []), (85, .getfield 26, 3, []), (88, .iload 7, 2, []), (90, .iaload, 1, []), (91, .isub, 1, []), (92, .istore 9, 2, []), (94, .aload_n 0, 1, []), (95, .iload 7, 2, []), (97, .iload_n 2, 1, []), (98, .iload 9, 2, []), (100, .isub, 1, []), (101, .invokevirtual 68, 3, []), (104, .aload_n 0, 1, []), (105, .iload 7, 2, []), (107, .iload_n 3, 1, []), (108, .iload 8, 2, []), (110, .isub, 1, []), (111, .invokevirtual 72, 3, []), (114, .iinc 6 1, 3, []), (117, .goto (-61), 3, []), (120, .return_, 1, [])])
theorem okX8_narrowSize : vm_okM mX8_narrowSize := vm_okM_of (by decide +kernel)
theorem calX8_narrowSize : vm_calI mX8_narrowSize 3 := ⟨⟨ww_912, ww_52⟩, ww_913, ww_97, by decide +kernel, by decide⟩
def mX8_narrowTwice : vm_Me := (yX8_narrowTwice, cX8_narrowTwice, 3, none, [(0, .aload_n 0, 1, []), (1, .iload_n 1, 1, []), (2, .aload_n 0, 1, []), (3, .getfield 23, 3, []), (6, .iload_n 1, 1, []), (7, .iaload, 1, []), (8, .aload_n 0, 1, []), (9, .getfield 23, 3, []), (12, .iload_n 1, 1, []), (13, .iaload, 1, []), (14, .iconst 2, 1, []), (15, .irem, 1, []), (16, .iadd, 1, []), (17, .invokevirtual 68, 3, []), (20, .aload_n 0, 1, []), (21, .iload_n 1, 1, []), (22, .aload_n 0, 1, []), (23, .getfield 26, 3, []), (26, .iload_n 1, 1, []), (27, .iaload, 1, []), (28, .aload_n 0, 1, []), (29, .getfield 26, 3, []), (32, .iload_n 1, 1, []), (33, .iaload, 1, []), (34, .iconst 2, 1, []), (35, .irem, 1, []), (36, .isub, 1, []), (37, .invokevirtual 72, 3, []), (40, .aload_n 0, 1, []), (41, .iload_n 1, 1, []), (42, .iconst 2, 1, []), (43, .aload_n 0, 1, []), (44, .getfield 23, 3, []), (47, .iload_n 2, 1, []), (48, .iaload, 1, []), (49, .imul, 1, []), (50, .invokevirtual 68, 3, []), (53, .aload_n 0, 1, []), (54, .iload_n 1, 1, []), (55, .iconst 2, 1, []), (56, .aload_n 0, 1, []), (57, .getfield 26, 3, []), (60, .iload_n 2, 1, []), (61, .iaload, 1, []), (62, .imul, 1, []), (63, .invokevirtual 72, 3, []), (66, .aload_n 0, 1, []), (67, .iload_n 2, 1, []), (68, .aload_n 0, 1, []), (69, .getfield 23, 3, []), (72, .iload_n 1, 1, []), (73, .iaload, 1, []), (74, .iconst 1, 1, []), (75, .iadd, 1, []), (76, .iconst 2, 1, []), (77, .idiv, 1, []), (78, .invokevirtual 68, 3, []), (81, .aload_n 0, 1, []), (82, .iload_n 2, 1, []), (83, .aload_n 0, 1, []), (84, .getfield 26, 3, []), (87, .iload_n 1, 1, []), (88, .iaload, 1, []), (89, .iconst 2, 1, []), (90, .idiv, 1, []), (91, .invokevirtual 72, 3, []), (94, .return_, 1, [])])
theorem okX8_narrowTwice : vm_okM mX8_narrowTwice := vm_okM_of (by decide +kernel)
theorem calX8_narrowTwice : vm_calI mX8_narrowTwice 2 := ⟨⟨ww_936, ww_58⟩, ww_937, ww_97, by decide +kernel, by decide⟩
def mX8_narrowSum : vm_Me := (yX8_narrowSum, cX8_narrowSum, 4, none, [(0, .iload_n 1, 1, []), (1, .iload_n 2, 1, []), (2, .if_icmp .ne 10, 3, []), (5, .aload_n 0, 1, []), (6, .iload_n 3, 1, []), (7, .iconst 0, 1, []), (8, .invokevirtual 72, 3, []), (11, .return_, 1, []), (12, .iload_n 1, 1, []), (13, .iload_n 3, 1, []), (14, .if_icmp .ne 10, 3, []), (17, .aload_n 0, 1, []), (18, .iload_n 2, 1, []), (19, .iconst 0, 1, []), (20, .invokevirtual 72, 3, []), (23, .return_, 1, []), (24, .iload_n 2, 1, []), (25, .iload_n 3, 1, []), (26, .if_icmp .ne 10, 3, []), (29, .aload_n 0, 1, []), (30, .iload_n 1, 1, []), (31, .iload_n 2, 1, []), (32, .invokevirtual 75, 3, []), (35, .return_, 1, []), (36, .aload_n 0, 1, []), (37, .iload_n 1, 1, []), (38, .aload_n 0, 1, []), (39, .getfield 23, 3, []), (42, .iload_n 2, 1, []), (43, .iaload, 1, []), (44, .aload_n 0, 1, []), (45, .getfield 23, 3, []), (48, .iload_n 3, 1, []), (49, .iaload, 1, []), (50, .iadd, 1, []), (51, .invokevirtual 68, 3, []), (54, .aload_n 0, 1, []), (55, .iload_n 1, 1, []), (56, .aload_n 0, 1, []), (57, .getfield 26, 3, []), (60, .iload_n 2, 1, []), (61, .iaload, 1, []), (62, .aload_n 0, 1, []), (63, .getfield 26, 3, []), (66, .iload_n 3, 1, []), (67, .iaload, 1, []), (68, .iadd, 1, []), (69, .invokevirtual 72, 3, []), (72, .aload_n 0, 1, []), (73, .iload_n 2, 1, []), (74, .aload_n 0, 1, []), (75, .getfield 23, 3, []), (78, .iload_n 1, 1, []), (79, .iaload, 1, []), (80, .aload_n 0, 1, []), (81, .getfield 26, 3, []), (84, .iload_n 3, 1, []), (85, .iaload, 1, []), (86, .isub, 1, []), (87, .invokevirtual 68, 3, []), (90, .aload_n 0, 1, []), (91, .iload_n 2, 1, []), (92, .aload_n 0, 1, []), (93, .getfield 26, 3, []), (96, .iload_n 1, 1, []), (97, .iaload, 1, []), (98, .aload_n 0, 1, []), (99, .getfield 23, 3, []), (102, .iload_n 3, 1, []), (103, .iaload, 1, []), (104, .isub, 1, []), (105, .invokevirtual 72, 3, []), (108, .aload_n 0, 1, []), (109, .iload_n 3, 1, []), (110, .aload_n 0, 1, []), (111, .getfield 23, 3, []), (114, .iload_n 1, 1, []), (115, .iaload, 1, []), (116, .aload_n 0, 1, []), (117, .getfield 26, 3, []), (120, .iload_n 2, 1, []), (121, .iaload, 1, []), (122, .isub, 1, []), (123, .invokevirtual 68, 3, []), (126, .aload_n 0, 1, []), (127, .iload_n 3, 1, []), (128, .aload_n 0, 1, []), (129, .getfield 26, 3, []), (132, .iload_n 1, 1, []), (133, .iaload, 1, []), (134, .aload_n 0, 1, []), (135, .getfield 23, 3, []), (138, .iload_n 2, 1, []), (139, .iaload, 1, []), (140, .isub, 1, []), (141, .invokevirtual 72, 3, []), (144, .return_, 1, [])])
theorem okX8_narrowSum : vm_okM mX8_narrowSum := vm_okM_of (by decide +kernel)
theorem calX8_narrowSum : vm_calI mX8_narrowSum 3 := ⟨⟨ww_932, ww_57⟩, ww_933, ww_97, by decide +kernel, by decide⟩
def mX8_narrowGreatest : vm_Me := (yX8_narrowGreatest, cX8_narrowGreatest, 4, none, [(0, .iload_n 1, 1, []), (1, .iload_n 2, 1, []), (2, .if_icmp .eq 8, 3, []), (5, .iload_n 1, 1, []), (6, .iload_n 3, 1, []), (7, .if_icmp .ne 20, 3, []), (10, .aload_n 0, 1, []), (11, .iload_n 1, 1, []), (12, .iload_n 1, 1, []), (13, .iload_n 2, 1, []), (14, .if_icmp .ne 7, 3, []), (17, .iload_n 3, 1, []), (18, .goto 4, 3, []), (21, .iload_n 2, 1, []), (22, .iconst 0, 1, []), (23, .invokevirtual 78, 3, []), (26, .return_, 1, []), (27, .aload_n 0, 1, []), (28, .iload_n 1, 1, []), (29, .aload_n 0, 1, []), (30, .getfield 23, 3, []), (33, .iload_n 2, 1, []), (34, .iaload, 1, []), (35, .aload_n 0, 1, []), (36, .getfield 23, 3, []), (39, .iload_n 3, 1, []), (40, .iaload, 1, []), (41, .invokestatic 82, 3, []), (44, .invokevirtual 68, 3, []), (47, .aload_n 0, 1, []), (48, .iload_n 1, 1, []), (49, .aload_n 0, 1, []), (50, .getfield 26, 3, []), (53, .iload_n 2, 1, []), (54, .iaload, 1, []), (55, .aload_n 0, 1, []), (56, .getfield 26, 3, []), (59, .iload_n 3, 1, []), (60, .iaload, 1, []), (61, .invokestatic 82, 3, []), (64, .invokevirtual 72, 3, []), (67, .aload_n 0, 1, []), (68, .iload_n 2, 1, []), (69, .aload_n 0, 1, []), (70, .getfield 26, 3, []), (73, .iload_n 1, 1, []), (74, .iaload, 1, []), (75, .invokevirtual 72, 3, []), (78, .aload_n 0, 1, []), (79, .iload_n 3, 1, []), (80, .aload_n 0, 1, []), (81, .getfield 26, 3, []), (84, .iload_n 1, 1, []), (85, .iaload, 1, []), (86, .invokevirtual 72, 3, []), (89, .aload_n 0, 1, []), (90, .getfield 26, 3, []), (93, .iload_n 3, 1, []), (94, .iaload, 1, []), (95, .aload_n 0, 1, []), (96, .getfield 23, 3, []), (99, .iload_n 1, 1, []), (100, .iaload, 1, []), (101, .if_icmp .ge 14, 3, []), (104, .aload_n 0, 1, []), (105, .iload_n 2, 1, []), (106, .aload_n 0, 1, []), (107, .getfield 23, 3, []), (110, .iload_n 1, 1, []), (111, .iaload, 1, []), (112, .invokevirtual 68, 3, []), (115, .aload_n 0, 1, []), (116, .getfield 26, 3, []), (119, .iload_n 2, 1, []), (120, .iaload, 1, []), (121, .aload_n 0, 1, []), (122, .getfield 23, 3, []), (125, .iload_n 1, 1, []), (126, .iaload, 1, []), (127, .if_icmp .ge 14, 3, []), (130, .aload_n 0, 1, []), (131, .iload_n 3, 1, []), (132, .aload_n 0, 1, []), (133, .getfield 23, 3, []), (136, .iload_n 1, 1, []), (137, .iaload, 1, []), (138, .invokevirtual 68, 3, []), (141, .return_, 1, [])])
theorem okX8_narrowGreatest : vm_okM mX8_narrowGreatest := vm_okM_of (by decide +kernel)
theorem calX8_narrowGreatest : vm_calI mX8_narrowGreatest 3 := ⟨⟨ww_940, ww_59⟩, ww_941, ww_97, by decide +kernel, by decide⟩
def mX8_narrowLeast : vm_Me := (yX8_narrowLeast, cX8_narrowLeast, 4, none, [(0, .iload_n 1, 1, []), (1, .iload_n 2, 1, []), (2, .if_icmp .eq 8, 3, []), (5, .iload_n 1, 1, []), (6, .iload_n 3, 1, []), (7, .if_icmp .ne 20, 3, []), (10, .aload_n 0, 1, []), (11, .iload_n 1, 1, []), (12, .iload_n 2, 1, []), (13, .if_icmp .ne 7, 3, []), (16, .iload_n 3, 1, []), (17, .goto 4, 3, []), (20, .iload_n 2, 1, []), (21, .iload_n 1, 1, []), (22, .iconst 0, 1, []), (23, .invokevirtual 78, 3, []), (26, .return_, 1, []), (27, .aload_n 0, 1, []), (28, .iload_n 1, 1, []), (29, .aload_n 0, 1, []), (30, .getfield 23, 3, []), (33, .iload_n 2, 1, []), (34, .iaload, 1, []), (35, .aload_n 0, 1, []), (36, .getfield 23, 3, []), (39, .iload_n 3, 1, []), (40, .iaload, 1, []), (41, .invokestatic 86, 3, []), (44, .invokevirtual 68, 3, []), (47, .aload_n 0, 1, []), (48, .iload_n 1, 1, []), (49, .aload_n 0, 1, []), (50, .getfield 26, 3, []), (53, .iload_n 2, 1, []), (54, .iaload, 1, []), (55, .aload_n 0, 1, []), (56, .getfield 26, 3, []), (59, .iload_n 3, 1, []), (60, .iaload, 1, []), (61, .invokestatic 86, 3, []), (64, .invokevirtual 72, 3, []), (67, .aload_n 0, 1, []), (68, .iload_n 2, 1, []), (69, .aload_n 0, 1, []), (70, .getfield 23, 3, []), (73, .iload_n 1, 1, []), (74, .iaload, 1, []), (75, .invokevirtual 68, 3, []), (78, .aload_n 0, 1, []), (79, .iload_n 3, 1, []), (80, .aload_n 0, 1, []), (81, .getfield 23, 3, []), (84, .iload_n 1, 1, []), (85, .iaload, 1, []), (86, .invokevirtual 68, 3, []), (89, .aload_n 0, 1, []), (90, .getfield 23, 3, []), (93, .iload_n 3, 1, []), (94, .iaload, 1, []), (95, .aload_n 0, 1, []), (96, .getfield 26, 3, []), (99, .iload_n 1, 1, []), (100, .iaload, 1, []), (101, .if_icmp .le 14, 3, []), (104, .aload_n 0, 1, []), (105, .iload_n 2, 1, []), (106, .aload_n 0, 1, []), (107, .getfield 26, 3, []), (110, .iload_n 1, 1, []), (111, .iaload, 1, []), (112, .invokevirtual 72, 3, []), (115, .aload_n 0, 1, []), (116, .getfield 23, 3, []), (119, .iload_n 2, 1, []), (120, .iaload, 1, []), (121, .aload_n 0, 1, []), (122, .getfield 26, 3, []), (125, .iload_n 1, 1, []), (126, .iaload, 1, []), (127, .if_icmp .le 14, 3, []), (130, .aload_n 0, 1, []), (131, .iload_n 3, 1, []), (132, .aload_n 0, 1, []), (133, .getfield 26, 3, []), (136, .iload_n 1, 1, []), (137, .iaload, 1, []), (138, .invokevirtual 72, 3, []), (141, .return_, 1, [])])
theorem okX8_narrowLeast : vm_okM mX8_narrowLeast := vm_okM_of (by decide +kernel)
theorem calX8_narrowLeast : vm_calI mX8_narrowLeast 3 := ⟨⟨ww_947, ww_60⟩, ww_948, ww_97, by decide +kernel, by decide⟩
def mX8_narrowMore : vm_Me := (yX8_narrowMore, cX8_narrowMore, 4, none, [(0, .aload_n 0, 1, []), (1, .iload_n 1, 1, []), (2, .aload_n 0, 1, []), (3, .getfield 23, 3, []), (6, .iload_n 2, 1, []), (7, .iaload, 1, []), (8, .iload_n 3, 1, []), (9, .iadd, 1, []), (10, .invokevirtual 68, 3, []), (13, .aload_n 0, 1, []), (14, .iload_n 2, 1, []), (15, .aload_n 0, 1, []), (16, .getfield 26, 3, []), (19, .iload_n 1, 1, []), (20, .iaload, 1, []), (21, .iload_n 3, 1, []), (22, .isub, 1, []), (23, .invokevirtual 72, 3, []), (26, .return_, 1, [])])
theorem okX8_narrowMore : vm_okM mX8_narrowMore := vm_okM_of (by decide +kernel)
theorem calX8_narrowMore : vm_calI mX8_narrowMore 3 := ⟨⟨ww_916, ww_53⟩, ww_917, ww_97, by decide +kernel, by decide⟩
def mX8_narrowBelow : vm_Me := (yX8_narrowBelow, cX8_narrowBelow, 4, none, [(0, .iload_n 1, 1, []), (1, .iload_n 2, 1, []), (2, .if_icmp .eq 8, 3, []), (5, .iload_n 1, 1, []), (6, .iload_n 3, 1, []), (7, .if_icmp .ne 19, 3, []), (10, .aload_n 0, 1, []), (11, .iload_n 1, 1, []), (12, .iload_n 2, 1, []), (13, .if_icmp .ne 7, 3, []), (16, .iload_n 3, 1, []), (17, .goto 4, 3, []), (20, .iload_n 2, 1, []), (21, .iconst 1, 1, []), (22, .invokevirtual 68, 3, []), (25, .return_, 1, []), (26, .aload_n 0, 1, []), (27, .iload_n 1, 1, []), (28, .aload_n 0, 1, []), (29, .getfield 26, 3, []), (32, .iload_n 2, 1, []), (33, .iaload, 1, []), (34, .aload_n 0, 1, []), (35, .getfield 26, 3, []), (38, .iload_n 3, 1, []), (39, .iaload, 1, []), (40, .iadd, 1, []), (41, .iconst 1, 1, []), (42, .isub, 1, []), (43, .invokevirtual 72, 3, []), (46, .aload_n 0, 1, []), (47, .iload_n 2, 1, []), (48, .aload_n 0, 1, []), (49, .getfield 23, 3, []), (52, .iload_n 1, 1, []), (53, .iaload, 1, []), (54, .iconst 1, 1, []), (55, .iadd, 1, []), (56, .aload_n 0, 1, []), (57, .getfield 26, 3, []), (60, .iload_n 3, 1, []), (61, .iaload, 1, []), (62, .isub, 1, []), (63, .invokevirtual 68, 3, []), (66, .aload_n 0, 1, []), (67, .iload_n 3, 1, []), (68, .aload_n 0, 1, []), (69, .getfield 23, 3, []), (72, .iload_n 1, 1, []), (73, .iaload, 1, []), (74, .iconst 1, 1, []), (75, .iadd, 1, []), (76, .aload_n 0, 1, []), (77, .getfield 26, 3, []), (80, .iload_n 2, 1, []), (81, .iaload, 1, []), (82, .isub, 1, []), (83, .invokevirtual 68, 3, []), (86, .return_, 1, [])])
theorem okX8_narrowBelow : vm_okM mX8_narrowBelow := vm_okM_of (by decide +kernel)
theorem calX8_narrowBelow : vm_calI mX8_narrowBelow 3 := ⟨⟨ww_920, ww_54⟩, ww_921, ww_97, by decide +kernel, by decide⟩
def mX8_narrowAbove : vm_Me := (yX8_narrowAbove, cX8_narrowAbove, 4, none, [(0, .iload_n 1, 1, []), (1, .iload_n 2, 1, []), (2, .if_icmp .eq 8, 3, []), (5, .iload_n 1, 1, []), (6, .iload_n 3, 1, []), (7, .if_icmp .ne 11, 3, []), (10, .aload_n 0, 1, []), (11, .iload_n 1, 1, []), (12, .bipush (-6), 2, []), (14, .invokevirtual 72, 3, []), (17, .return_, 1, []), (18, .aload_n 0, 1, []), (19, .iload_n 1, 1, []), (20, .aload_n 0, 1, []), (21, .getfield 23, 3, []), (24, .iload_n 2, 1, []), (25, .iaload, 1, []), (26, .aload_n 0, 1, []), (27, .getfield 23, 3, []), (30, .iload_n 3, 1, []), (31, .iaload, 1, []), (32, .iadd, 1, []), (33, .iconst 1, 1, []), (34, .iadd, 1, []), (35, .invokevirtual 68, 3, []), (38, .aload_n 0, 1, []), (39, .iload_n 2, 1, []), (40, .aload_n 0, 1, []), (41, .getfield 26, 3, []), (44, .iload_n 1, 1, []), (45, .iaload, 1, []), (46, .iconst 1, 1, []), (47, .isub, 1, []), (48, .aload_n 0, 1, []), (49, .getfield 23, 3, []), (52, .iload_n 3, 1, []), (53, .iaload, 1, []), (54, .isub, 1, []), (55, .invokevirtual 72, 3, []), (58, .aload_n 0, 1, []), (59, .iload_n 3, 1, []), (60, .aload_n 0, 1, []), (61, .getfield 26, 3, []), (64, .iload_n 1, 1, []), (65, .iaload, 1, []), (66, .iconst 1, 1, []), (67, .isub, 1, []), (68, .aload_n 0, 1, []), (69, .getfield 23, 3, []), (72, .iload_n 2, 1, []), (73, .iaload, 1, []), (74, .isub, 1, []), (75, .invokevirtual 72, 3, []), (78, .return_, 1, [])])
theorem okX8_narrowAbove : vm_okM mX8_narrowAbove := vm_okM_of (by decide +kernel)
theorem calX8_narrowAbove : vm_calI mX8_narrowAbove 3 := ⟨⟨ww_924, ww_55⟩, ww_925, ww_97, by decide +kernel, by decide⟩
def mX8_narrowKind : vm_Me := (yX8_narrowKind, cX8_narrowKind, 5, none, [(0, .iload_n 1, 1, []), (1, .iconst 2, 1, []), (2, .if_icmp .ne 14, 3, []), (5, .aload_n 0, 1, []), (6, .iload_n 2, 1, []), (7, .iload_n 3, 1, []), (8, .iload 4, 2, []), (10, .invokevirtual 89, 3, []), (13, .goto 42, 3, []), (16, .iload_n 1, 1, []), (17, .iconst 3, 1, []), (18, .if_icmp .ne 14, 3, []), (21, .aload_n 0, 1, []), (22, .iload_n 2, 1, []), (23, .iload_n 3, 1, []), (24, .iload 4, 2, []), (26, .invokevirtual 92, 3, []), (29, .goto 26, 3, []), (32, .iload_n 1, 1, []), (33, .iconst 4, 1, []), (34, .if_icmp .ne 14, 3, []), (37, .aload_n 0, 1, []), (38, .iload_n 2, 1, []), (39, .iload_n 3, 1, []), (40, .iload 4, 2, []), (42, .invokevirtual 95, 3, []), (45, .goto 10, 3, []), (48, .aload_n 0, 1, []), (49, .iload_n 3, 1, []), (50, .iload_n 2, 1, []), (51, .iconst 0, 1, []), (52, .invokevirtual 78, 3, []), (55, .return_, 1, [])])
theorem okX8_narrowKind : vm_okM mX8_narrowKind := vm_okM_of (by decide +kernel)
theorem calX8_narrowKind : vm_calI mX8_narrowKind 4 := ⟨⟨ww_928, ww_56⟩, ww_929, ww_97, by decide +kernel, by decide⟩
def mX8_narrowBy : vm_Me := (yX8_narrowBy, cX8_narrowBy, 8, none, [(0, .iload_n 1, 1, []), (1, .tableswitch 160 0 8 #[51, 76, 160, 160, 160, 160, 87, 108, 134], 51, []), (52, .aload_n 0, 1, []), (53, .iconst 3, 1, []), (54, .iload_n 2, 1, []), (55, .imul, 1, []), (56, .iload_n 3, 1, []), (57, .iadd, 1, []), (58, .iload 4, 2, []), (60, .invokevirtual 68, 3, []), (63, .aload_n 0, 1, []), (64, .iconst 3, 1, []), (65, .iload_n 2, 1, []), (66, .imul, 1, []), (67, .iload_n 3, 1, []), (68, .iadd, 1, []), (69, .iload 5, 2, []), (71, .invokevirtual 72, 3, []), (74, .goto 126, 3, []), (77, .aload_n 0, 1, []), (78, .iload_n 2, 1, []), (79, .iload_n 3, 1, []), (80, .iload 4, 2, []), (82, .invokevirtual 98, 3, []), (85, .goto 115, 3, []), (88, .aload_n 0, 1, []), (89, .iconst 3, 1, []), (90, .iload_n 2, 1, []), (91, .imul, 1, []), (92, .iload_n 3, 1, []), (93, .iadd, 1, []), (94, .iconst 3, 1, []), (95, .iload 4, 2, []), (97, .imul, 1, []), (98, .iload 5, 2, []), (100, .iadd, 1, []), (101, .iload 6, 2, []), (103, .invokevirtual 78, 3, []), (106, .goto 94, 3, []), (109, .aload_n 0, 1, []), (110, .iconst 3, 1, []), (111, .iload_n 2, 1, []), (112, .imul, 1, []), (113, .iload 5, 2, []), (115, .iadd, 1, []), (116, .iconst 3, 1, []), (117, .iload_n 3, 1, []), (118, .imul, 1, []), (119, .iload 5, 2, []), (121, .iadd, 1, []), (122, .iconst 3, 1, []), (123, .iload 4, 2, []), (125, .imul, 1, []), (126, .iload 5, 2, []), (128, .iadd, 1, []), (129, .invokevirtual 101, 3, []), (132, .goto 68, 3, []), (135, .aload_n 0, 1, []), (136, .iconst 3, 1, []), (137, .iload_n 2, 1, []), (138, .imul, 1, []), (139, .iload 5, 2, []), (141, .iadd, 1, []), (142, .iconst 3, 1, []), (143, .iload_n 3, 1, []), (144, .imul, 1, []), (145, .iload 5, 2, []), (147, .iadd, 1, []), (148, .iconst 3, 1, []), (149, .iload 4, 2, []), (151, .imul, 1, []), (152, .iload 5, 2, []), (154, .iadd, 1, []), (155, .invokevirtual 104, 3, []), (158, .goto 42, 3, []), (161, .iconst 0, 1, []), (162, .istore 7, 2, []), (164, .iload 7, 2, []), (166, .iconst 3, 1, []), (167, .if_icmp .ge 33, 3, []), (170, .aload_n 0, 1, []), (171, .iload_n 1, 1, []), (172, .iconst 3, 1, []), (173, .iload_n 2, 1, []), (174, .imul, 1, []), (175, .iload 7, 2, []), (177, .iadd, 1, []), (178, .iconst 3, 1, []), (179, .iload_n 3, 1, []), (180, .imul, 1, []), (181, .iload 7, 2, []), (183, .iadd, 1, []), (184, .iconst 3, 1, []), (185, .iload 4, 2, []), (187, .imul, 1, []), (188, .iload 7, 2, []), (190, .iadd, 1, []), (191, .invokevirtual 107, 3, []), (194, .iinc 7 1, 3, []), (197, .goto (-33), 3, []), (200, .return_, 1, [])])
theorem okX8_narrowBy : vm_okM mX8_narrowBy := vm_okM_of (by decide +kernel)
theorem calX8_narrowBy : vm_calI mX8_narrowBy 6 := ⟨⟨ww_900, ww_49⟩, ww_901, ww_97, by decide +kernel, by decide⟩
def mX8_isEmpty : vm_Me := (yX8_isEmpty, cX8_isEmpty, 3, (some .boolean), [(0, .iconst 0, 1, []), (1, .istore_n 1, 1, []), (2, .iconst 0, 1, []), (3, .istore_n 2, 1, []), (4, .iload_n 2, 1, []), (5, .bipush 12, 2, []), (7, .if_icmp .ge 32, 3, []), (10, .iload_n 1, 1, []), (11, .aload_n 0, 1, []), (12, .getfield 23, 3, []), (15, .iload_n 2, 1, []), (16, .iaload, 1, []), (17, .aload_n 0, 1, []), (18, .getfield 26, 3, []), (21, .iload_n 2, 1, []), (22, .iaload, 1, []), (23, .if_icmp .le 7, 3, []), (26, .iconst 1, 1, []), (27, .goto 4, 3, []), (30, .iconst 0, 1, []), (31, .ior, 1, []), (32, .istore_n 1, 1, []), (33, .iinc 2 1, 3, []), (36, .goto (-32), 3, []), (39, .iload_n 1, 1, []), (40, .ireturn, 1, [])])
theorem okX8_isEmpty : vm_okM mX8_isEmpty := vm_okM_of (by decide +kernel)
theorem calX8_isEmpty : vm_calI mX8_isEmpty 0 := ⟨⟨ww_896, ww_48⟩, ww_897, ww_97, by decide +kernel, by decide⟩
def mX8_narrow : vm_Me := (yX8_narrow, cX8_narrow, 3, (some .boolean), [(0, .aload_n 0, 1, []), (1, .iconst 1, 1, []), (2, .putfield 64, 3, []), (5, .aload_n 0, 1, []), (6, .getfield 64, 3, []), (9, .ifCond .eq 159, 3, []), (12, .aload_n 0, 1, []), (13, .invokevirtual 111, 3, []), (16, .ifCond .ne 152, 3, []), (19, .aload_n 0, 1, []), (20, .iconst 0, 1, []), (21, .putfield 64, 3, []), (24, .iconst 0, 1, []), (25, .istore_n 1, 1, []), (26, .iload_n 1, 1, []), (27, .aload_n 0, 1, []), (28, .getfield 7, 3, []), (31, .iconst 1, 1, []), (32, .iaload, 1, []), (33, .if_icmp .ge 61, 3, []), (36, .aload_n 0, 1, []), (37, .getfield 115, 3, []), (40, .iload_n 1, 1, []), (41, .ishr, 1, []), (42, .iconst 1, 1, []), (43, .iand, 1, []), (44, .iconst 1, 1, []), (45, .if_icmp .ne 43, 3, []), (48, .aload_n 0, 1, []), (49, .aload_n 0, 1, []), (50, .iload_n 1, 1, []), (51, .iconst 0, 1, []), (52, .invokevirtual 118, 3, []), (55, .aload_n 0, 1, []), (56, .iload_n 1, 1, []), (57, .iconst 1, 1, []), (58, .invokevirtual 118, 3, []), (61, .aload_n 0, 1, []), (62, .iload_n 1, 1, []), (63, .iconst 2, 1, []), (64, .invokevirtual 118, 3, []), (67, .aload_n 0, 1, []), (68, .iload_n 1, 1, []), (69, .iconst 3, 1, []), (70, .invokevirtual 118, 3, []), (73, .aload_n 0, 1, []), (74, .iload_n 1, 1, []), (75, .iconst 4, 1, []), (76, .invokevirtual 118, 3, []), (79, .aload_n 0, 1, []), (80, .iload_n 1, 1, []), (81, .iconst 5, 1, []), (82, .invokevirtual 118, 3, []), (85, .invokevirtual 121, 3, []), (88, .iinc 1 1, 3, []), (91, .goto (-65), 3, []), (94, .iconst 0, 1, []), (95, .istore_n 1, 1, []), (96, .iload_n 1, 1, []), (97, .aload_n 0, 1, []), (98, .getfield 125, 3, []), (101, .if_icmp .ge 64, 3, []), (104, .bipush 6, 2, []), (106, .iload_n 1, 1, []), (107, .imul, 1, []), (108, .istore_n 2, 1, []), (109, .aload_n 0, 1, []), (110, .aload_n 0, 1, []), (111, .getfield 29, 3, []), (114, .iload_n 2, 1, []), (115, .iaload, 1, []), (116, .aload_n 0, 1, []), (117, .getfield 29, 3, []), (120, .iload_n 2, 1, []), (121, .iconst 1, 1, []), (122, .iadd, 1, []), (123, .iaload, 1, []), (124, .aload_n 0, 1, []), (125, .getfield 29, 3, []), (128, .iload_n 2, 1, []), (129, .iconst 2, 1, []), (130, .iadd, 1, []), (131, .iaload, 1, []), (132, .aload_n 0, 1, []), (133, .getfield 29, 3, []), (136, .iload_n 2, 1, []), (137, .iconst 3, 1, []), (138, .iadd, 1, []), (139, .iaload, 1, []), (140, .aload_n 0, 1, []), (141, .getfield 29, 3, []), (144, .iload_n 2, 1, []), (145, .iconst 4, 1, []), (146, .iadd, 1, []), (147, .iaload, 1, []), (148, .aload_n 0, 1, []), (149, .getfield 29, 3, []), (152, .iload_n 2, 1, []), (153, .iconst 5, 1, []), (154, .iadd, 1, []), (155, .iaload, 1, []), (156, .invokevirtual 121, 3, []), (159, .iinc 1 1, 3, []), (162, .goto (-66), 3, []), (165, .goto (-160), 3, []), (168, .aload_n 0, 1, []), (169, .invokevirtual 111, 3, []), (172, .ifCond .ne 7, 3, []), (175, .iconst 1, 1, []), (176, .goto 4, 3, []), (179, .iconst 0, 1, []), (180, .ireturn, 1, [])])
theorem okX8_narrow : vm_okM mX8_narrow := vm_okM_of (by decide +kernel)
theorem calX8_narrow : vm_calI mX8_narrow 0 := ⟨⟨ww_892, ww_47⟩, ww_893, ww_97, by decide +kernel, by decide⟩
def mX8_bagBit : vm_Me := (yX8_bagBit, cX8_bagBit, 1, (some .int), [(0, .bipush 7, 2, []), (2, .iconst 3, 1, []), (3, .iload_n 0, 1, []), (4, .imul, 1, []), (5, .ishl, 1, []), (6, .ireturn, 1, [])])
theorem okX8_bagBit : vm_okM mX8_bagBit := vm_okM_of (by decide +kernel)
theorem calX8_bagBit : vm_calS mX8_bagBit 1 := ⟨ww_964, ww_965, ww_97, by decide +kernel, by decide⟩
def mX8_joined : vm_Me := (yX8_joined, cX8_joined, 8, (some .int), [(0, .iload_n 1, 1, []), (1, .bipush 7, 2, []), (3, .if_icmp .eq 9, 3, []), (6, .iload_n 1, 1, []), (7, .bipush 8, 2, []), (9, .if_icmp .ne 8, 3, []), (12, .iload 5, 2, []), (14, .goto 6, 3, []), (17, .iload_n 0, 1, []), (18, .iconst 3, 1, []), (19, .irem, 1, []), (20, .istore 6, 2, []), (22, .iconst 0, 1, []), (23, .istore 7, 2, []), (25, .iload_n 1, 1, []), (26, .iconst 1, 1, []), (27, .if_icmp .ne 12, 3, []), (30, .iload_n 2, 1, []), (31, .invokestatic 128, 3, []), (34, .istore 7, 2, []), (36, .goto 91, 3, []), (39, .iload_n 1, 1, []), (40, .bipush 6, 2, []), (42, .if_icmp .ne 25, 3, []), (45, .iconst 1, 1, []), (46, .iconst 3, 1, []), (47, .iload_n 2, 1, []), (48, .imul, 1, []), (49, .iload_n 3, 1, []), (50, .iadd, 1, []), (51, .ishl, 1, []), (52, .iconst 1, 1, []), (53, .iconst 3, 1, []), (54, .iload 4, 2, []), (56, .imul, 1, []), (57, .iload 5, 2, []), (59, .iadd, 1, []), (60, .ishl, 1, []), (61, .ior, 1, []), (62, .istore 7, 2, []), (64, .goto 63, 3, []), (67, .iload_n 1, 1, []), (68, .iconst 5, 1, []), (69, .if_icmp .ne 25, 3, []), (72, .iconst 1, 1, []), (73, .iconst 3, 1, []), (74, .iload_n 2, 1, []), (75, .imul, 1, []), (76, .iload 6, 2, []), (78, .iadd, 1, []), (79, .ishl, 1, []), (80, .iconst 1, 1, []), (81, .iconst 3, 1, []), (82, .iload_n 3, 1, []), (83, .imul, 1, []), (84, .iload 6, 2, []), (86, .iadd, 1, []), (87, .ishl, 1, []), (88, .ior, 1, []), (89, .istore 7, 2, []), (91, .goto 36, 3, []), (94, .iload_n 1, 1, []), (95, .ifCond .eq 32, 3, []), (98, .iconst 1, 1, []), (99, .iconst 3, 1, []), (100, .iload_n 2, 1, []), (101, .imul, 1, []), (102, .iload 6, 2, []), (104, .iadd, 1, []), (105, .ishl, 1, []), (106, .iconst 1, 1, []), (107, .iconst 3, 1, []), (108, .iload_n 3, 1, []), (109, .imul, 1, []), (110, .iload 6, 2, []), (112, .iadd, 1, []), (113, .ishl, 1, []), (114, .ior, 1, []), (115, .iconst 1, 1, []), (116, .iconst 3, 1, []), (117, .iload 4, 2, []), (119, .imul, 1, []), (120, .iload 6, 2, []), (122, .iadd, 1, []), (123, .ishl, 1, []), (124, .ior, 1, []), (125, .istore 7, 2, []), (127, .iload 7, 2, []), (129, .iload_n 0, 1, []), (130, .ishr, 1, []), (131, .iconst 1, 1, []), (132, .iand, 1, []), (133, .iconst 1, 1, []), (134, .if_icmp .ne 8, 3, []), (137, .iload 7, 2, []), (139, .goto 6, 3, []), (142, .iconst 1, 1, []), (143, .iload_n 0, 1, []), (144, .ishl, 1, []), (145, .ireturn, 1, [])])
theorem okX8_joined : vm_okM mX8_joined := vm_okM_of (by decide +kernel)
theorem calX8_joined : vm_calS mX8_joined 6 := ⟨ww_961, ww_962, ww_97, by decide +kernel, by decide⟩
def mX8_joinedTo : vm_Me := (yX8_joinedTo, cX8_joinedTo, 5, (some .int), [(0, .iconst 1, 1, []), (1, .iload_n 1, 1, []), (2, .ishl, 1, []), (3, .istore_n 2, 1, []), (4, .iconst 0, 1, []), (5, .istore_n 3, 1, []), (6, .iload_n 3, 1, []), (7, .aload_n 0, 1, []), (8, .getfield 7, 3, []), (11, .iconst 1, 1, []), (12, .iaload, 1, []), (13, .if_icmp .ge 62, 3, []), (16, .iload_n 2, 1, []), (17, .aload_n 0, 1, []), (18, .getfield 115, 3, []), (21, .iload_n 3, 1, []), (22, .ishr, 1, []), (23, .iconst 1, 1, []), (24, .iand, 1, []), (25, .iconst 1, 1, []), (26, .if_icmp .ne 40, 3, []), (29, .iload_n 1, 1, []), (30, .aload_n 0, 1, []), (31, .iload_n 3, 1, []), (32, .iconst 0, 1, []), (33, .invokevirtual 118, 3, []), (36, .aload_n 0, 1, []), (37, .iload_n 3, 1, []), (38, .iconst 1, 1, []), (39, .invokevirtual 118, 3, []), (42, .aload_n 0, 1, []), (43, .iload_n 3, 1, []), (44, .iconst 2, 1, []), (45, .invokevirtual 118, 3, []), (48, .aload_n 0, 1, []), (49, .iload_n 3, 1, []), (50, .iconst 3, 1, []), (51, .invokevirtual 118, 3, []), (54, .aload_n 0, 1, []), (55, .iload_n 3, 1, []), (56, .iconst 4, 1, []), (57, .invokevirtual 118, 3, []), (60, .invokestatic 132, 3, []), (63, .goto 4, 3, []), (66, .iconst 0, 1, []), (67, .ior, 1, []), (68, .istore_n 2, 1, []), (69, .iinc 3 1, 3, []), (72, .goto (-66), 3, []), (75, .iconst 0, 1, []), (76, .istore_n 3, 1, []), (77, .iload_n 3, 1, []), (78, .aload_n 0, 1, []), (79, .getfield 125, 3, []), (82, .if_icmp .ge 65, 3, []), (85, .bipush 6, 2, []), (87, .iload_n 3, 1, []), (88, .imul, 1, []), (89, .istore 4, 2, []), (91, .iload_n 2, 1, []), (92, .iload_n 1, 1, []), (93, .aload_n 0, 1, []), (94, .getfield 29, 3, []), (97, .iload 4, 2, []), (99, .iaload, 1, []), (100, .aload_n 0, 1, []), (101, .getfield 29, 3, []), (104, .iload 4, 2, []), (106, .iconst 1, 1, []), (107, .iadd, 1, []), (108, .iaload, 1, []), (109, .aload_n 0, 1, []), (110, .getfield 29, 3, []), (113, .iload 4, 2, []), (115, .iconst 2, 1, []), (116, .iadd, 1, []), (117, .iaload, 1, []), (118, .aload_n 0, 1, []), (119, .getfield 29, 3, []), (122, .iload 4, 2, []), (124, .iconst 3, 1, []), (125, .iadd, 1, []), (126, .iaload, 1, []), (127, .aload_n 0, 1, []), (128, .getfield 29, 3, []), (131, .iload 4, 2, []), (133, .iconst 4, 1, []), (134, .iadd, 1, []), (135, .iaload, 1, []), (136, .invokestatic 132, 3, []), (139, .ior, 1, []), (140, .istore_n 2, 1, []), (141, .iinc 3 1, 3, []), (144, .goto (-67), 3, []), (147, .iload_n 2, 1, []), (148, .ireturn, 1, [])])
theorem okX8_joinedTo : vm_okM mX8_joinedTo := vm_okM_of (by decide +kernel)
theorem calX8_joinedTo : vm_calI mX8_joinedTo 1 := ⟨⟨ww_958, ww_62⟩, ww_959, ww_97, by decide +kernel, by decide⟩
def mX8_part : vm_Me := (yX8_part, cX8_part, 5, (some .int), [(0, .iconst 1, 1, []), (1, .iload_n 1, 1, []), (2, .ishl, 1, []), (3, .istore_n 2, 1, []), (4, .iconst 0, 1, []), (5, .istore_n 3, 1, []), (6, .iload_n 2, 1, []), (7, .iload_n 3, 1, []), (8, .if_icmp .eq 47, 3, []), (11, .iload_n 2, 1, []), (12, .istore_n 3, 1, []), (13, .iconst 0, 1, []), (14, .istore 4, 2, []), (16, .iload 4, 2, []), (18, .bipush 12, 2, []), (20, .if_icmp .ge 32, 3, []), (23, .iload_n 2, 1, []), (24, .iload_n 3, 1, []), (25, .iload 4, 2, []), (27, .ishr, 1, []), (28, .iconst 1, 1, []), (29, .iand, 1, []), (30, .iconst 1, 1, []), (31, .if_icmp .ne 12, 3, []), (34, .aload_n 0, 1, []), (35, .iload 4, 2, []), (37, .invokevirtual 136, 3, []), (40, .goto 4, 3, []), (43, .iconst 0, 1, []), (44, .ior, 1, []), (45, .istore_n 2, 1, []), (46, .iinc 4 1, 3, []), (49, .goto (-33), 3, []), (52, .goto (-46), 3, []), (55, .iload_n 2, 1, []), (56, .ireturn, 1, [])])
theorem okX8_part : vm_okM mX8_part := vm_okM_of (by decide +kernel)
theorem calX8_part : vm_calI mX8_part 1 := ⟨⟨ww_954, ww_61⟩, ww_955, ww_97, by decide +kernel, by decide⟩
def mX8_narrowest : vm_Me := (yX8_narrowest, cX8_narrowest, 4, (some .int), [(0, .aload_n 0, 1, []), (1, .getfield 139, 3, []), (4, .ifCond .lt 41, 3, []), (7, .iload_n 1, 1, []), (8, .aload_n 0, 1, []), (9, .getfield 139, 3, []), (12, .ishr, 1, []), (13, .iconst 1, 1, []), (14, .iand, 1, []), (15, .iconst 1, 1, []), (16, .if_icmp .ne 29, 3, []), (19, .aload_n 0, 1, []), (20, .getfield 26, 3, []), (23, .aload_n 0, 1, []), (24, .getfield 139, 3, []), (27, .iaload, 1, []), (28, .aload_n 0, 1, []), (29, .getfield 23, 3, []), (32, .aload_n 0, 1, []), (33, .getfield 139, 3, []), (36, .iaload, 1, []), (37, .if_icmp .le 8, 3, []), (40, .aload_n 0, 1, []), (41, .getfield 139, 3, []), (44, .ireturn, 1, []), (45, .bipush (-6), 2, []), (47, .istore_n 2, 1, []), (48, .iconst 0, 1, []), (49, .istore_n 3, 1, []), (50, .iload_n 3, 1, []), (51, .bipush 12, 2, []), (53, .if_icmp .ge 68, 3, []), (56, .iload_n 1, 1, []), (57, .iload_n 3, 1, []), (58, .ishr, 1, []), (59, .iconst 1, 1, []), (60, .iand, 1, []), (61, .iconst 1, 1, []), (62, .if_icmp .ne 53, 3, []), (65, .aload_n 0, 1, []), (66, .getfield 26, 3, []), (69, .iload_n 3, 1, []), (70, .iaload, 1, []), (71, .aload_n 0, 1, []), (72, .getfield 23, 3, []), (75, .iload_n 3, 1, []), (76, .iaload, 1, []), (77, .if_icmp .le 38, 3, []), (80, .iload_n 2, 1, []), (81, .ifCond .lt 32, 3, []), (84, .aload_n 0, 1, []), (85, .getfield 26, 3, []), (88, .iload_n 3, 1, []), (89, .iaload, 1, []), (90, .aload_n 0, 1, []), (91, .getfield 23, 3, []), (94, .iload_n 3, 1, []), (95, .iaload, 1, []), (96, .isub, 1, []), (97, .aload_n 0, 1, []), (98, .getfield 26, 3, []), (101, .iload_n 2, 1, []), (102, .iaload, 1, []), (103, .aload_n 0, 1, []), (104, .getfield 23, 3, []), (107, .iload_n 2, 1, []), (108, .iaload, 1, []), (109, .isub, 1, []), (110, .if_icmp .ge 5, 3, []), (113, .iload_n 3, 1, []), (114, .istore_n 2, 1, []), (115, .iinc 3 1, 3, []), (118, .goto (-68), 3, []), (121, .iload_n 2, 1, []), (122, .ireturn, 1, [])])
theorem okX8_narrowest : vm_okM mX8_narrowest := vm_okM_of (by decide +kernel)
theorem calX8_narrowest : vm_calI mX8_narrowest 1 := ⟨⟨ww_972, ww_64⟩, ww_973, ww_97, by decide +kernel, by decide⟩
def mX8_push : vm_Me := (yX8_push, cX8_push, 3, none, [(0, .iconst 0, 1, []), (1, .istore_n 2, 1, []), (2, .iload_n 2, 1, []), (3, .bipush 12, 2, []), (5, .if_icmp .ge 43, 3, []), (8, .aload_n 0, 1, []), (9, .getfield 32, 3, []), (12, .bipush 12, 2, []), (14, .iload_n 1, 1, []), (15, .imul, 1, []), (16, .iload_n 2, 1, []), (17, .iadd, 1, []), (18, .aload_n 0, 1, []), (19, .getfield 23, 3, []), (22, .iload_n 2, 1, []), (23, .iaload, 1, []), (24, .iastore, 1, []), (25, .aload_n 0, 1, []), (26, .getfield 35, 3, []), (29, .bipush 12, 2, []), (31, .iload_n 1, 1, []), (32, .imul, 1, []), (33, .iload_n 2, 1, []), (34, .iadd, 1, []), (35, .aload_n 0, 1, []), (36, .getfield 26, 3, []), (39, .iload_n 2, 1, []), (40, .iaload, 1, []), (41, .iastore, 1, []), (42, .iinc 2 1, 3, []), (45, .goto (-43), 3, []), (48, .return_, 1, [])])
theorem okX8_push : vm_okM mX8_push := vm_okM_of (by decide +kernel)
theorem calX8_push : vm_calI mX8_push 1 := ⟨⟨ww_976, ww_65⟩, ww_977, ww_97, by decide +kernel, by decide⟩
def mX8_pull : vm_Me := (yX8_pull, cX8_pull, 3, none, [(0, .iconst 0, 1, []), (1, .istore_n 2, 1, []), (2, .iload_n 2, 1, []), (3, .bipush 12, 2, []), (5, .if_icmp .ge 43, 3, []), (8, .aload_n 0, 1, []), (9, .getfield 23, 3, []), (12, .iload_n 2, 1, []), (13, .aload_n 0, 1, []), (14, .getfield 32, 3, []), (17, .bipush 12, 2, []), (19, .iload_n 1, 1, []), (20, .imul, 1, []), (21, .iload_n 2, 1, []), (22, .iadd, 1, []), (23, .iaload, 1, []), (24, .iastore, 1, []), (25, .aload_n 0, 1, []), (26, .getfield 26, 3, []), (29, .iload_n 2, 1, []), (30, .aload_n 0, 1, []), (31, .getfield 35, 3, []), (34, .bipush 12, 2, []), (36, .iload_n 1, 1, []), (37, .imul, 1, []), (38, .iload_n 2, 1, []), (39, .iadd, 1, []), (40, .iaload, 1, []), (41, .iastore, 1, []), (42, .iinc 2 1, 3, []), (45, .goto (-43), 3, []), (48, .return_, 1, [])])
theorem okX8_pull : vm_okM mX8_pull := vm_okM_of (by decide +kernel)
theorem calX8_pull : vm_calI mX8_pull 1 := ⟨⟨ww_980, ww_66⟩, ww_981, ww_97, by decide +kernel, by decide⟩
def mX8_search : vm_Me := (yX8_search, cX8_search, 9, (some .int), [(0, .iconst 0, 1, []), (1, .istore_n 3, 1, []), (2, .iconst 0, 1, []), (3, .istore 4, 2, []), (5, .aload_n 0, 1, []), (6, .bipush (-6), 2, []), (8, .putfield 139, 3, []), (11, .aload_n 0, 1, []), (12, .invokevirtual 142, 3, []), (15, .istore 5, 2, []), (17, .iload 5, 2, []), (19, .ifCond .eq 11, 3, []), (22, .aload_n 0, 1, []), (23, .iload_n 1, 1, []), (24, .invokevirtual 145, 3, []), (27, .goto 5, 3, []), (30, .bipush (-6), 2, []), (32, .istore 6, 2, []), (34, .iload 6, 2, []), (36, .ifCond .lt 62, 3, []), (39, .aload_n 0, 1, []), (40, .iload 4, 2, []), (42, .invokevirtual 148, 3, []), (45, .aload_n 0, 1, []), (46, .getfield 38, 3, []), (49, .iload 4, 2, []), (51, .iload 6, 2, []), (53, .iastore, 1, []), (54, .iinc 4 1, 3, []), (57, .aload_n 0, 1, []), (58, .getfield 26, 3, []), (61, .iload 6, 2, []), (63, .aload_n 0, 1, []), (64, .getfield 23, 3, []), (67, .iload 6, 2, []), (69, .iaload, 1, []), (70, .iastore, 1, []), (71, .aload_n 0, 1, []), (72, .invokevirtual 142, 3, []), (75, .istore 5, 2, []), (77, .aload_n 0, 1, []), (78, .iload 5, 2, []), (80, .ifCond .eq 10, 3, []), (83, .aload_n 0, 1, []), (84, .getfield 139, 3, []), (87, .goto 5, 3, []), (90, .iload 6, 2, []), (92, .putfield 139, 3, []), (95, .goto (-78), 3, []), (98, .iload_n 3, 1, []), (99, .iload 5, 2, []), (101, .ifCond .eq 7, 3, []), (104, .iconst 1, 1, []), (105, .goto 4, 3, []), (108, .iconst 0, 1, []), (109, .iadd, 1, []), (110, .istore_n 3, 1, []), (111, .iload_n 3, 1, []), (112, .iload_n 2, 1, []), (113, .if_icmp .ne 5, 3, []), (116, .iload_n 3, 1, []), (117, .ireturn, 1, []), (118, .iconst 0, 1, []), (119, .istore 7, 2, []), (121, .iload 4, 2, []), (123, .ifCond .le 64, 3, []), (126, .iload 7, 2, []), (128, .ifCond .ne 59, 3, []), (131, .iinc 4 (-1), 3, []), (134, .aload_n 0, 1, []), (135, .iload 4, 2, []), (137, .invokevirtual 152, 3, []), (140, .aload_n 0, 1, []), (141, .getfield 38, 3, []), (144, .iload 4, 2, []), (146, .iaload, 1, []), (147, .istore 8, 2, []), (149, .aload_n 0, 1, []), (150, .getfield 23, 3, []), (153, .iload 8, 2, []), (155, .dup2, 1, []), (156, .iaload, 1, []), (157, .iconst 1, 1, []), (158, .iadd, 1, []), (159, .iastore, 1, []), (160, .aload_n 0, 1, []), (161, .getfield 23, 3, []), (164, .iload 8, 2, []), (166, .iaload, 1, []), (167, .aload_n 0, 1, []), (168, .getfield 26, 3, []), (171, .iload 8, 2, []), (173, .iaload, 1, []), (174, .if_icmp .gt 7, 3, []), (177, .iconst 1, 1, []), (178, .goto 4, 3, []), (181, .iconst 0, 1, []), (182, .istore 7, 2, []), (184, .goto (-63), 3, []), (187, .iload 7, 2, []), (189, .ifCond .ne 5, 3, []), (192, .iload_n 3, 1, []), (193, .ireturn, 1, []), (194, .aload_n 0, 1, []), (195, .invokevirtual 142, 3, []), (198, .istore 5, 2, []), (200, .aload_n 0, 1, []), (201, .iload 5, 2, []), (203, .ifCond .eq 10, 3, []), (206, .aload_n 0, 1, []), (207, .getfield 139, 3, []), (210, .goto 10, 3, []), (213, .aload_n 0, 1, []), (214, .getfield 38, 3, []), (217, .iload 4, 2, []), (219, .iaload, 1, []), (220, .putfield 139, 3, []), (223, .goto (-206), 3, [])])
theorem okX8_search : vm_okM mX8_search := vm_okM_of (by decide +kernel)
theorem calX8_search : vm_calI mX8_search 2 := ⟨⟨ww_968, ww_63⟩, ww_969, ww_97, by decide +kernel, by decide⟩
def mX8_layAll : vm_Me := (yX8_layAll, cX8_layAll, 2, none, [(0, .iconst 0, 1, []), (1, .istore_n 1, 1, []), (2, .iload_n 1, 1, []), (3, .bipush 12, 2, []), (5, .if_icmp .ge 28, 3, []), (8, .aload_n 0, 1, []), (9, .getfield 23, 3, []), (12, .iload_n 1, 1, []), (13, .iconst 0, 1, []), (14, .iastore, 1, []), (15, .aload_n 0, 1, []), (16, .getfield 26, 3, []), (19, .iload_n 1, 1, []), (20, .aload_n 0, 1, []), (21, .getfield 7, 3, []), (24, .iconst 0, 1, []), (25, .iaload, 1, []), (26, .iastore, 1, []), (27, .iinc 1 1, 3, []), (30, .goto (-28), 3, []), (33, .return_, 1, [])])
theorem okX8_layAll : vm_okM mX8_layAll := vm_okM_of (by decide +kernel)
theorem calX8_layAll : vm_calI mX8_layAll 0 := ⟨⟨ww_884, ww_45⟩, ww_885, ww_97, by decide +kernel, by decide⟩
def mX8_isSolvedByParts : vm_Me := (yX8_isSolvedByParts, cX8_isSolvedByParts, 5, (some .boolean), [(0, .iconst 0, 1, []), (1, .istore_n 1, 1, []), (2, .aload_n 0, 1, []), (3, .invokevirtual 142, 3, []), (6, .istore_n 2, 1, []), (7, .iconst 0, 1, []), (8, .istore_n 3, 1, []), (9, .iload_n 3, 1, []), (10, .bipush 12, 2, []), (12, .if_icmp .ge 50, 3, []), (15, .iload_n 2, 1, []), (16, .ifCond .eq 46, 3, []), (19, .iload_n 1, 1, []), (20, .iload_n 3, 1, []), (21, .ishr, 1, []), (22, .iconst 1, 1, []), (23, .iand, 1, []), (24, .ifCond .ne 32, 3, []), (27, .aload_n 0, 1, []), (28, .iload_n 3, 1, []), (29, .invokevirtual 155, 3, []), (32, .istore 4, 2, []), (34, .iload_n 1, 1, []), (35, .iload 4, 2, []), (37, .ior, 1, []), (38, .istore_n 1, 1, []), (39, .aload_n 0, 1, []), (40, .iload 4, 2, []), (42, .iconst 1, 1, []), (43, .invokevirtual 158, 3, []), (46, .iconst 1, 1, []), (47, .if_icmp .ne 7, 3, []), (50, .iconst 1, 1, []), (51, .goto 4, 3, []), (54, .iconst 0, 1, []), (55, .istore_n 2, 1, []), (56, .iinc 3 1, 3, []), (59, .goto (-50), 3, []), (62, .iload_n 2, 1, []), (63, .ireturn, 1, [])])
theorem okX8_isSolvedByParts : vm_okM mX8_isSolvedByParts := vm_okM_of (by decide +kernel)
theorem calX8_isSolvedByParts : vm_calI mX8_isSolvedByParts 0 := ⟨⟨ww_888, ww_46⟩, ww_889, ww_97, by decide +kernel, by decide⟩
def mX8_isSolved : vm_Me := (yX8_isSolved, cX8_isSolved, 2, (some .boolean), [(0, .aload_n 0, 1, []), (1, .iload_n 1, 1, []), (2, .putfield 115, 3, []), (5, .aload_n 0, 1, []), (6, .invokevirtual 161, 3, []), (9, .aload_n 0, 1, []), (10, .invokevirtual 164, 3, []), (13, .ireturn, 1, [])])
theorem okX8_isSolved : vm_okM mX8_isSolved := vm_okM_of (by decide +kernel)
theorem calX8_isSolved : vm_calI mX8_isSolved 1 := ⟨⟨ww_880, ww_44⟩, ww_881, ww_97, by decide +kernel, by decide⟩
def mX8_isSolvedNow : vm_Me := (yX8_isSolvedNow, cX8_isSolvedNow, 1, (some .boolean), [(0, .aload_n 0, 1, []), (1, .iconst 0, 1, []), (2, .putfield 125, 3, []), (5, .aload_n 0, 1, []), (6, .aload_n 0, 1, []), (7, .invokevirtual 167, 3, []), (10, .invokevirtual 171, 3, []), (13, .ireturn, 1, [])])
theorem okX8_isSolvedNow : vm_okM mX8_isSolvedNow := vm_okM_of (by decide +kernel)
theorem calX8_isSolvedNow : vm_calI mX8_isSolvedNow 0 := ⟨⟨ww_872, ww_42⟩, ww_873, ww_97, by decide +kernel, by decide⟩
def mX8_add : vm_Me := (yX8_add, cX8_add, 8, none, [(0, .bipush 6, 2, []), (2, .aload_n 0, 1, []), (3, .getfield 125, 3, []), (6, .imul, 1, []), (7, .istore 7, 2, []), (9, .aload_n 0, 1, []), (10, .getfield 29, 3, []), (13, .iload 7, 2, []), (15, .iload_n 1, 1, []), (16, .iastore, 1, []), (17, .aload_n 0, 1, []), (18, .getfield 29, 3, []), (21, .iload 7, 2, []), (23, .iconst 1, 1, []), (24, .iadd, 1, []), (25, .iload_n 2, 1, []), (26, .iastore, 1, []), (27, .aload_n 0, 1, []), (28, .getfield 29, 3, []), (31, .iload 7, 2, []), (33, .iconst 2, 1, []), (34, .iadd, 1, []), (35, .iload_n 3, 1, []), (36, .iastore, 1, []), (37, .aload_n 0, 1, []), (38, .getfield 29, 3, []), (41, .iload 7, 2, []), (43, .iconst 3, 1, []), (44, .iadd, 1, []), (45, .iload 4, 2, []), (47, .iastore, 1, []), (48, .aload_n 0, 1, []), (49, .getfield 29, 3, []), (52, .iload 7, 2, []), (54, .iconst 4, 1, []), (55, .iadd, 1, []), (56, .iload 5, 2, []), (58, .iastore, 1, []), (59, .aload_n 0, 1, []), (60, .getfield 29, 3, []), (63, .iload 7, 2, []), (65, .iconst 5, 1, []), (66, .iadd, 1, []), (67, .iload 6, 2, []), (69, .iastore, 1, []), (70, .aload_n 0, 1, []), (71, .dup, 1, []), (72, .getfield 125, 3, []), (75, .iconst 1, 1, []), (76, .iadd, 1, []), (77, .putfield 125, 3, []), (80, .return_, 1, [])])
theorem okX8_add : vm_okM mX8_add := vm_okM_of (by decide +kernel)
theorem calX8_add : vm_calI mX8_add 6 := ⟨⟨ww_999, ww_69⟩, ww_1000, ww_97, by decide +kernel, by decide⟩
def mX8_isSolvedWith : vm_Me := (yX8_isSolvedWith, cX8_isSolvedWith, 8, (some .boolean), [(0, .aload_n 0, 1, []), (1, .iconst 0, 1, []), (2, .putfield 125, 3, []), (5, .aload_n 0, 1, []), (6, .iload_n 2, 1, []), (7, .iload_n 3, 1, []), (8, .iload 4, 2, []), (10, .iload 5, 2, []), (12, .iload 6, 2, []), (14, .iload 7, 2, []), (16, .invokevirtual 175, 3, []), (19, .aload_n 0, 1, []), (20, .iload_n 1, 1, []), (21, .invokevirtual 171, 3, []), (24, .ireturn, 1, [])])
theorem okX8_isSolvedWith : vm_okM mX8_isSolvedWith := vm_okM_of (by decide +kernel)
theorem calX8_isSolvedWith : vm_calI mX8_isSolvedWith 7 := ⟨⟨ww_995, ww_68⟩, ww_996, ww_97, by decide +kernel, by decide⟩
def mX8_isSolvedWithBoth : vm_Me := (yX8_isSolvedWithBoth, cX8_isSolvedWithBoth, 7, (some .boolean), [(0, .aload_n 0, 1, []), (1, .iconst 0, 1, []), (2, .putfield 125, 3, []), (5, .aload_n 0, 1, []), (6, .bipush 6, 2, []), (8, .iload 6, 2, []), (10, .ifCond .eq 7, 3, []), (13, .iload_n 2, 1, []), (14, .goto 5, 3, []), (17, .iload 4, 2, []), (19, .iload_n 3, 1, []), (20, .iload 6, 2, []), (22, .ifCond .eq 8, 3, []), (25, .iload 4, 2, []), (27, .goto 4, 3, []), (30, .iload_n 2, 1, []), (31, .iload_n 3, 1, []), (32, .iconst 1, 1, []), (33, .invokevirtual 175, 3, []), (36, .aload_n 0, 1, []), (37, .bipush 6, 2, []), (39, .iload 6, 2, []), (41, .ifCond .eq 7, 3, []), (44, .iload_n 2, 1, []), (45, .goto 5, 3, []), (48, .iload 5, 2, []), (50, .iload_n 3, 1, []), (51, .iload 6, 2, []), (53, .ifCond .eq 8, 3, []), (56, .iload 5, 2, []), (58, .goto 4, 3, []), (61, .iload_n 2, 1, []), (62, .iload_n 3, 1, []), (63, .iconst 1, 1, []), (64, .invokevirtual 175, 3, []), (67, .aload_n 0, 1, []), (68, .iload_n 1, 1, []), (69, .invokevirtual 171, 3, []), (72, .ireturn, 1, [])])
theorem okX8_isSolvedWithBoth : vm_okM mX8_isSolvedWithBoth := vm_okM_of (by decide +kernel)
theorem calX8_isSolvedWithBoth : vm_calI mX8_isSolvedWithBoth 6 := ⟨⟨ww_1039, ww_75⟩, ww_1040, ww_97, by decide +kernel, by decide⟩
def mX8_failsAt : vm_Me := (yX8_failsAt, cX8_failsAt, 7, (some .boolean), [(0, .iload_n 2, 1, []), (1, .tableswitch 185 2 4 #[27, 69, 127], 27, []), (28, .aload_n 0, 1, []), (29, .iload_n 1, 1, []), (30, .bipush 7, 2, []), (32, .iload_n 3, 1, []), (33, .iload 4, 2, []), (35, .iload 5, 2, []), (37, .iload 6, 2, []), (39, .iconst 0, 1, []), (40, .invokevirtual 178, 3, []), (43, .ifCond .ne 21, 3, []), (46, .aload_n 0, 1, []), (47, .iload_n 1, 1, []), (48, .bipush 8, 2, []), (50, .iload_n 3, 1, []), (51, .iload 4, 2, []), (53, .iload 5, 2, []), (55, .iload 6, 2, []), (57, .iconst 0, 1, []), (58, .invokevirtual 178, 3, []), (61, .ifCond .eq 7, 3, []), (64, .iconst 1, 1, []), (65, .goto 4, 3, []), (68, .iconst 0, 1, []), (69, .ireturn, 1, []), (70, .aload_n 0, 1, []), (71, .iload_n 1, 1, []), (72, .bipush 6, 2, []), (74, .iload 4, 2, []), (76, .iload 6, 2, []), (78, .iload_n 3, 1, []), (79, .iload 6, 2, []), (81, .iconst 1, 1, []), (82, .invokevirtual 178, 3, []), (85, .ifCond .ne 37, 3, []), (88, .aload_n 0, 1, []), (89, .iload_n 1, 1, []), (90, .bipush 6, 2, []), (92, .iload 5, 2, []), (94, .iload 6, 2, []), (96, .iload_n 3, 1, []), (97, .iload 6, 2, []), (99, .iconst 1, 1, []), (100, .invokevirtual 178, 3, []), (103, .ifCond .ne 19, 3, []), (106, .aload_n 0, 1, []), (107, .iload_n 1, 1, []), (108, .iload_n 3, 1, []), (109, .iload 6, 2, []), (111, .iload 4, 2, []), (113, .iload 5, 2, []), (115, .iconst 1, 1, []), (116, .invokevirtual 182, 3, []), (119, .ifCond .eq 7, 3, []), (122, .iconst 1, 1, []), (123, .goto 4, 3, []), (126, .iconst 0, 1, []), (127, .ireturn, 1, []), (128, .aload_n 0, 1, []), (129, .iload_n 1, 1, []), (130, .bipush 6, 2, []), (132, .iload_n 3, 1, []), (133, .iload 6, 2, []), (135, .iload 4, 2, []), (137, .iload 6, 2, []), (139, .iconst 1, 1, []), (140, .invokevirtual 178, 3, []), (143, .ifCond .ne 37, 3, []), (146, .aload_n 0, 1, []), (147, .iload_n 1, 1, []), (148, .bipush 6, 2, []), (150, .iload_n 3, 1, []), (151, .iload 6, 2, []), (153, .iload 5, 2, []), (155, .iload 6, 2, []), (157, .iconst 1, 1, []), (158, .invokevirtual 178, 3, []), (161, .ifCond .ne 19, 3, []), (164, .aload_n 0, 1, []), (165, .iload_n 1, 1, []), (166, .iload_n 3, 1, []), (167, .iload 6, 2, []), (169, .iload 4, 2, []), (171, .iload 5, 2, []), (173, .iconst 0, 1, []), (174, .invokevirtual 182, 3, []), (177, .ifCond .eq 7, 3, []), (180, .iconst 1, 1, []), (181, .goto 4, 3, []), (184, .iconst 0, 1, []), (185, .ireturn, 1, []), (186, .aload_n 0, 1, []), (187, .iload_n 1, 1, []), (188, .bipush 6, 2, []), (190, .iload_n 3, 1, []), (191, .iload 6, 2, []), (193, .iload 4, 2, []), (195, .iload 6, 2, []), (197, .iconst 1, 1, []), (198, .invokevirtual 178, 3, []), (201, .ireturn, 1, [])])
theorem okX8_failsAt : vm_okM mX8_failsAt := vm_okM_of (by decide +kernel)
theorem calX8_failsAt : vm_calI mX8_failsAt 6 := ⟨⟨ww_1035, ww_74⟩, ww_1036, ww_97, by decide +kernel, by decide⟩
def mX8_canFail : vm_Me := (yX8_canFail, cX8_canFail, 10, (some .boolean), [(0, .iload_n 2, 1, []), (1, .ifCond .ne 46, 3, []), (4, .aload_n 0, 1, []), (5, .iload_n 1, 1, []), (6, .iconst 0, 1, []), (7, .iload_n 3, 1, []), (8, .iload 4, 2, []), (10, .iconst 0, 1, []), (11, .iload 5, 2, []), (13, .iconst 1, 1, []), (14, .isub, 1, []), (15, .iconst 0, 1, []), (16, .invokevirtual 178, 3, []), (19, .ifCond .ne 22, 3, []), (22, .aload_n 0, 1, []), (23, .iload_n 1, 1, []), (24, .iconst 0, 1, []), (25, .iload_n 3, 1, []), (26, .iload 4, 2, []), (28, .iload 6, 2, []), (30, .iconst 1, 1, []), (31, .iadd, 1, []), (32, .bipush 6, 2, []), (34, .iconst 0, 1, []), (35, .invokevirtual 178, 3, []), (38, .ifCond .eq 7, 3, []), (41, .iconst 1, 1, []), (42, .goto 4, 3, []), (45, .iconst 0, 1, []), (46, .ireturn, 1, []), (47, .iload_n 2, 1, []), (48, .iconst 1, 1, []), (49, .if_icmp .ne 44, 3, []), (52, .aload_n 0, 1, []), (53, .iload_n 1, 1, []), (54, .iconst 1, 1, []), (55, .iload_n 3, 1, []), (56, .iconst 0, 1, []), (57, .iload 4, 2, []), (59, .iconst 1, 1, []), (60, .isub, 1, []), (61, .iconst 0, 1, []), (62, .iconst 0, 1, []), (63, .invokevirtual 178, 3, []), (66, .ifCond .ne 21, 3, []), (69, .aload_n 0, 1, []), (70, .iload_n 1, 1, []), (71, .iconst 1, 1, []), (72, .iload_n 3, 1, []), (73, .iload 5, 2, []), (75, .iconst 1, 1, []), (76, .iadd, 1, []), (77, .bipush 18, 2, []), (79, .iconst 0, 1, []), (80, .iconst 0, 1, []), (81, .invokevirtual 178, 3, []), (84, .ifCond .eq 7, 3, []), (87, .iconst 1, 1, []), (88, .goto 4, 3, []), (91, .iconst 0, 1, []), (92, .ireturn, 1, []), (93, .iload_n 2, 1, []), (94, .bipush 6, 2, []), (96, .if_icmp .ne 22, 3, []), (99, .aload_n 0, 1, []), (100, .iload_n 1, 1, []), (101, .bipush 6, 2, []), (103, .iload 5, 2, []), (105, .iload 6, 2, []), (107, .iload_n 3, 1, []), (108, .iload 4, 2, []), (110, .iconst 1, 1, []), (111, .iload 7, 2, []), (113, .isub, 1, []), (114, .invokevirtual 178, 3, []), (117, .ireturn, 1, []), (118, .iconst 0, 1, []), (119, .istore 8, 2, []), (121, .iconst 0, 1, []), (122, .istore 9, 2, []), (124, .iload 9, 2, []), (126, .iconst 3, 1, []), (127, .if_icmp .ge 29, 3, []), (130, .iload 8, 2, []), (132, .ifCond .ne 24, 3, []), (135, .aload_n 0, 1, []), (136, .iload_n 1, 1, []), (137, .iload_n 2, 1, []), (138, .iload_n 3, 1, []), (139, .iload 4, 2, []), (141, .iload 5, 2, []), (143, .iload 9, 2, []), (145, .invokevirtual 186, 3, []), (148, .istore 8, 2, []), (150, .iinc 9 1, 3, []), (153, .goto (-29), 3, []), (156, .iload 8, 2, []), (158, .ireturn, 1, [])])
theorem okX8_canFail : vm_okM mX8_canFail := vm_okM_of (by decide +kernel)
theorem calX8_canFail : vm_calI mX8_canFail 7 := ⟨⟨ww_1031, ww_73⟩, ww_1032, ww_97, by decide +kernel, by decide⟩
def mX8_isFact : vm_Me := (yX8_isFact, cX8_isFact, 6, (some .boolean), [(0, .iload_n 0, 1, []), (1, .tableswitch 199 0 5 #[39, 85, 128, 128, 128, 165], 39, []), (40, .iload_n 1, 1, []), (41, .invokestatic 190, 3, []), (44, .ifCond .eq 40, 3, []), (47, .iload_n 2, 1, []), (48, .invokestatic 193, 3, []), (51, .ifCond .eq 33, 3, []), (54, .iload_n 3, 1, []), (55, .iconst 0, 1, []), (56, .bipush 6, 2, []), (58, .invokestatic 50, 3, []), (61, .ifCond .eq 23, 3, []), (64, .iload 4, 2, []), (66, .iload_n 3, 1, []), (67, .bipush 6, 2, []), (69, .invokestatic 50, 3, []), (72, .ifCond .eq 12, 3, []), (75, .iload 5, 2, []), (77, .ifCond .ne 7, 3, []), (80, .iconst 1, 1, []), (81, .goto 4, 3, []), (84, .iconst 0, 1, []), (85, .ireturn, 1, []), (86, .iload_n 1, 1, []), (87, .invokestatic 190, 3, []), (90, .ifCond .eq 37, 3, []), (93, .iload_n 2, 1, []), (94, .iconst 0, 1, []), (95, .bipush 18, 2, []), (97, .invokestatic 50, 3, []), (100, .ifCond .eq 27, 3, []), (103, .iload_n 3, 1, []), (104, .iload_n 2, 1, []), (105, .bipush 18, 2, []), (107, .invokestatic 50, 3, []), (110, .ifCond .eq 17, 3, []), (113, .iload 4, 2, []), (115, .ifCond .ne 12, 3, []), (118, .iload 5, 2, []), (120, .ifCond .ne 7, 3, []), (123, .iconst 1, 1, []), (124, .goto 4, 3, []), (127, .iconst 0, 1, []), (128, .ireturn, 1, []), (129, .iload_n 1, 1, []), (130, .invokestatic 190, 3, []), (133, .ifCond .eq 31, 3, []), (136, .iload_n 2, 1, []), (137, .invokestatic 190, 3, []), (140, .ifCond .eq 24, 3, []), (143, .iload_n 3, 1, []), (144, .invokestatic 190, 3, []), (147, .ifCond .eq 17, 3, []), (150, .iload 4, 2, []), (152, .ifCond .ne 12, 3, []), (155, .iload 5, 2, []), (157, .ifCond .ne 7, 3, []), (160, .iconst 1, 1, []), (161, .goto 4, 3, []), (164, .iconst 0, 1, []), (165, .ireturn, 1, []), (166, .iload_n 1, 1, []), (167, .invokestatic 190, 3, []), (170, .ifCond .eq 28, 3, []), (173, .iload_n 2, 1, []), (174, .invokestatic 190, 3, []), (177, .ifCond .eq 21, 3, []), (180, .iload_n 3, 1, []), (181, .ifCond .ne 17, 3, []), (184, .iload 4, 2, []), (186, .ifCond .ne 12, 3, []), (189, .iload 5, 2, []), (191, .ifCond .ne 7, 3, []), (194, .iconst 1, 1, []), (195, .goto 4, 3, []), (198, .iconst 0, 1, []), (199, .ireturn, 1, []), (200, .iload_n 0, 1, []), (201, .bipush 6, 2, []), (203, .if_icmp .ne 48, 3, []), (206, .iload_n 1, 1, []), (207, .invokestatic 190, 3, []), (210, .ifCond .eq 41, 3, []), (213, .iload_n 2, 1, []), (214, .invokestatic 193, 3, []), (217, .ifCond .eq 34, 3, []), (220, .iload_n 3, 1, []), (221, .invokestatic 190, 3, []), (224, .ifCond .eq 27, 3, []), (227, .iload 4, 2, []), (229, .invokestatic 193, 3, []), (232, .ifCond .eq 19, 3, []), (235, .iload 5, 2, []), (237, .bipush (-6), 2, []), (239, .bipush 6, 2, []), (241, .invokestatic 50, 3, []), (244, .ifCond .eq 7, 3, []), (247, .iconst 1, 1, []), (248, .goto 4, 3, []), (251, .iconst 0, 1, []), (252, .ireturn, 1, [])])
theorem okX8_isFact : vm_okM mX8_isFact := vm_okM_of (by decide +kernel)
theorem calX8_isFact : vm_calS mX8_isFact 6 := ⟨ww_834, ww_835, ww_97, by decide +kernel, by decide⟩
def mX8_most : vm_Me := (yX8_most, cX8_most, 3, (some .int), [(0, .iload_n 1, 1, []), (1, .iconst 1, 1, []), (2, .bipush 6, 2, []), (4, .invokestatic 50, 3, []), (7, .ifCond .ne 6, 3, []), (10, .bipush (-2), 2, []), (12, .ireturn, 1, []), (13, .aload_n 0, 1, []), (14, .invokevirtual 61, 3, []), (17, .aload_n 0, 1, []), (18, .getfield 7, 3, []), (21, .iconst 0, 1, []), (22, .iaload, 1, []), (23, .istore_n 2, 1, []), (24, .aload_n 0, 1, []), (25, .getfield 7, 3, []), (28, .iconst 0, 1, []), (29, .iload_n 1, 1, []), (30, .iastore, 1, []), (31, .iload_n 2, 1, []), (32, .ireturn, 1, [])])
theorem okX8_most : vm_okM mX8_most := vm_okM_of (by decide +kernel)
theorem calX8_most : vm_calI mX8_most 1 := ⟨⟨ww_815, ww_816⟩, ww_817, ww_97, by decide +kernel, by decide⟩
def mX8_tryFact : vm_Me := (yX8_tryFact, cX8_tryFact, 9, (some .int), [(0, .iload_n 1, 1, []), (1, .iload_n 2, 1, []), (2, .iload_n 3, 1, []), (3, .iload 4, 2, []), (5, .iload 5, 2, []), (7, .iload 6, 2, []), (9, .invokestatic 196, 3, []), (12, .ifCond .ne 6, 3, []), (15, .bipush (-2), 2, []), (17, .ireturn, 1, []), (18, .aload_n 0, 1, []), (19, .getfield 7, 3, []), (22, .iconst 1, 1, []), (23, .iaload, 1, []), (24, .bipush 10, 2, []), (26, .if_icmp .ne 6, 3, []), (29, .bipush (-4), 2, []), (31, .ireturn, 1, []), (32, .aload_n 0, 1, []), (33, .iload 7, 2, []), (35, .invokevirtual 199, 3, []), (38, .iconst 2, 1, []), (39, .bipush 6, 2, []), (41, .aload_n 0, 1, []), (42, .getfield 7, 3, []), (45, .iconst 1, 1, []), (46, .iaload, 1, []), (47, .imul, 1, []), (48, .iadd, 1, []), (49, .istore 8, 2, []), (51, .aload_n 0, 1, []), (52, .getfield 7, 3, []), (55, .iload 8, 2, []), (57, .iload_n 1, 1, []), (58, .iastore, 1, []), (59, .aload_n 0, 1, []), (60, .getfield 7, 3, []), (63, .iload 8, 2, []), (65, .iconst 1, 1, []), (66, .iadd, 1, []), (67, .iload_n 2, 1, []), (68, .iastore, 1, []), (69, .aload_n 0, 1, []), (70, .getfield 7, 3, []), (73, .iload 8, 2, []), (75, .iconst 2, 1, []), (76, .iadd, 1, []), (77, .iload_n 3, 1, []), (78, .iastore, 1, []), (79, .aload_n 0, 1, []), (80, .getfield 7, 3, []), (83, .iload 8, 2, []), (85, .iconst 3, 1, []), (86, .iadd, 1, []), (87, .iload 4, 2, []), (89, .iastore, 1, []), (90, .aload_n 0, 1, []), (91, .getfield 7, 3, []), (94, .iload 8, 2, []), (96, .iconst 4, 1, []), (97, .iadd, 1, []), (98, .iload 5, 2, []), (100, .iastore, 1, []), (101, .aload_n 0, 1, []), (102, .getfield 7, 3, []), (105, .iload 8, 2, []), (107, .iconst 5, 1, []), (108, .iadd, 1, []), (109, .iload 6, 2, []), (111, .iastore, 1, []), (112, .aload_n 0, 1, []), (113, .getfield 7, 3, []), (116, .iconst 1, 1, []), (117, .dup2, 1, []), (118, .iaload, 1, []), (119, .iconst 1, 1, []), (120, .iadd, 1, []), (121, .iastore, 1, []), (122, .aload_n 0, 1, []), (123, .getfield 7, 3, []), (126, .iconst 1, 1, []), (127, .iaload, 1, []), (128, .iconst 1, 1, []), (129, .isub, 1, []), (130, .ireturn, 1, [])])
theorem okX8_tryFact : vm_okM mX8_tryFact := vm_okM_of (by decide +kernel)
theorem calX8_tryFact : vm_calI mX8_tryFact 7 := ⟨⟨ww_831, ww_38⟩, ww_832, ww_97, by decide +kernel, by decide⟩
def mX8_fact : vm_Me := (yX8_fact, cX8_fact, 7, (some .int), [(0, .aload_n 0, 1, []), (1, .iload_n 1, 1, []), (2, .iload_n 2, 1, []), (3, .iload_n 3, 1, []), (4, .iload 4, 2, []), (6, .iload 5, 2, []), (8, .iload 6, 2, []), (10, .iconst 1, 1, []), (11, .invokevirtual 203, 3, []), (14, .ireturn, 1, [])])
theorem okX8_fact : vm_okM mX8_fact := vm_okM_of (by decide +kernel)
theorem calX8_fact : vm_calI mX8_fact 6 := ⟨⟨ww_826, ww_827⟩, ww_828, ww_97, by decide +kernel, by decide⟩
def mX8_isToldFact : vm_Me := (yX8_isToldFact, cX8_isToldFact, 2, (some .boolean), [(0, .iload_n 1, 1, []), (1, .iconst 0, 1, []), (2, .aload_n 0, 1, []), (3, .getfield 7, 3, []), (6, .iconst 1, 1, []), (7, .iaload, 1, []), (8, .iconst 1, 1, []), (9, .isub, 1, []), (10, .invokestatic 50, 3, []), (13, .ireturn, 1, [])])
theorem okX8_isToldFact : vm_okM mX8_isToldFact := vm_okM_of (by decide +kernel)
theorem calX8_isToldFact : vm_calI mX8_isToldFact 1 := ⟨⟨ww_852, ww_40⟩, ww_853, ww_97, by decide +kernel, by decide⟩
def mX8_drop : vm_Me := (yX8_drop, cX8_drop, 3, (some .int), [(0, .aload_n 0, 1, []), (1, .iload_n 1, 1, []), (2, .invokevirtual 207, 3, []), (5, .ifCond .ne 5, 3, []), (8, .iconst (-1), 1, []), (9, .ireturn, 1, []), (10, .aload_n 0, 1, []), (11, .invokevirtual 61, 3, []), (14, .aload_n 0, 1, []), (15, .getfield 7, 3, []), (18, .iconst 1, 1, []), (19, .dup2, 1, []), (20, .iaload, 1, []), (21, .iconst 1, 1, []), (22, .isub, 1, []), (23, .iastore, 1, []), (24, .iconst 2, 1, []), (25, .bipush 6, 2, []), (27, .iload_n 1, 1, []), (28, .imul, 1, []), (29, .iadd, 1, []), (30, .istore_n 2, 1, []), (31, .iload_n 2, 1, []), (32, .iconst 2, 1, []), (33, .bipush 6, 2, []), (35, .aload_n 0, 1, []), (36, .getfield 7, 3, []), (39, .iconst 1, 1, []), (40, .iaload, 1, []), (41, .imul, 1, []), (42, .iadd, 1, []), (43, .if_icmp .ge 24, 3, []), (46, .aload_n 0, 1, []), (47, .getfield 7, 3, []), (50, .iload_n 2, 1, []), (51, .aload_n 0, 1, []), (52, .getfield 7, 3, []), (55, .iload_n 2, 1, []), (56, .bipush 6, 2, []), (58, .iadd, 1, []), (59, .iaload, 1, []), (60, .iastore, 1, []), (61, .iinc 2 1, 3, []), (64, .goto (-33), 3, []), (67, .aload_n 0, 1, []), (68, .getfield 7, 3, []), (71, .iconst 1, 1, []), (72, .iaload, 1, []), (73, .ireturn, 1, [])])
theorem okX8_drop : vm_okM mX8_drop := vm_okM_of (by decide +kernel)
theorem calX8_drop : vm_calI mX8_drop 1 := ⟨⟨ww_847, ww_848⟩, ww_849, ww_97, by decide +kernel, by decide⟩
def mX8_ofFact : vm_Me := (yX8_ofFact, cX8_ofFact, 3, (some .int), [(0, .aload_n 0, 1, []), (1, .iload_n 1, 1, []), (2, .invokevirtual 207, 3, []), (5, .ifCond .ne 5, 3, []), (8, .iconst (-1), 1, []), (9, .ireturn, 1, []), (10, .iload_n 2, 1, []), (11, .iconst 5, 1, []), (12, .if_icmp .ne 15, 3, []), (15, .bipush 100, 2, []), (17, .aload_n 0, 1, []), (18, .iload_n 1, 1, []), (19, .iconst 5, 1, []), (20, .invokevirtual 118, 3, []), (23, .iadd, 1, []), (24, .goto 23, 3, []), (27, .iload_n 2, 1, []), (28, .iconst 0, 1, []), (29, .iconst 4, 1, []), (30, .invokestatic 50, 3, []), (33, .ifCond .eq 12, 3, []), (36, .aload_n 0, 1, []), (37, .iload_n 1, 1, []), (38, .iload_n 2, 1, []), (39, .invokevirtual 118, 3, []), (42, .goto 5, 3, []), (45, .bipush (-2), 2, []), (47, .ireturn, 1, [])])
theorem okX8_ofFact : vm_okM mX8_ofFact := vm_okM_of (by decide +kernel)
theorem calX8_ofFact : vm_calI mX8_ofFact 2 := ⟨⟨ww_855, ww_856⟩, ww_857, ww_97, by decide +kernel, by decide⟩
def mX8_count : vm_Me := (yX8_count, cX8_count, 2, (some .int), [(0, .iload_n 1, 1, []), (1, .tableswitch 55 0 3 #[31, 38, 45, 50], 31, []), (32, .aload_n 0, 1, []), (33, .getfield 7, 3, []), (36, .iconst 1, 1, []), (37, .iaload, 1, []), (38, .ireturn, 1, []), (39, .aload_n 0, 1, []), (40, .getfield 7, 3, []), (43, .iconst 0, 1, []), (44, .iaload, 1, []), (45, .ireturn, 1, []), (46, .aload_n 0, 1, []), (47, .getfield 210, 3, []), (50, .ireturn, 1, []), (51, .aload_n 0, 1, []), (52, .getfield 54, 3, []), (55, .ireturn, 1, []), (56, .bipush (-2), 2, []), (58, .ireturn, 1, [])])
theorem okX8_count : vm_okM mX8_count := vm_okM_of (by decide +kernel)
theorem calX8_count : vm_calI mX8_count 1 := ⟨⟨ww_863, ww_864⟩, ww_865, ww_97, by decide +kernel, by decide⟩
def mX8_isPossible : vm_Me := (yX8_isPossible, cX8_isPossible, 1, (some .int), [(0, .aload_n 0, 1, []), (1, .invokevirtual 213, 3, []), (4, .ifCond .eq 7, 3, []), (7, .iconst 1, 1, []), (8, .goto 4, 3, []), (11, .iconst 0, 1, []), (12, .ireturn, 1, [])])
theorem okX8_isPossible : vm_okM mX8_isPossible := vm_okM_of (by decide +kernel)
theorem calX8_isPossible : vm_calI mX8_isPossible 0 := ⟨⟨ww_867, ww_868⟩, ww_869, ww_97, by decide +kernel, by decide⟩
def mX8_boundBy : vm_Me := (yX8_boundBy, cX8_boundBy, 7, (some .int), [(0, .iconst 0, 1, []), (1, .istore 5, 2, []), (3, .iload 5, 2, []), (5, .aload_n 0, 1, []), (6, .getfield 7, 3, []), (9, .iconst 0, 1, []), (10, .iaload, 1, []), (11, .if_icmp .gt 49, 3, []), (14, .iload 4, 2, []), (16, .ifCond .ne 8, 3, []), (19, .iload 5, 2, []), (21, .goto 12, 3, []), (24, .aload_n 0, 1, []), (25, .getfield 7, 3, []), (28, .iconst 0, 1, []), (29, .iaload, 1, []), (30, .iload 5, 2, []), (32, .isub, 1, []), (33, .istore 6, 2, []), (35, .aload_n 0, 1, []), (36, .iload_n 1, 1, []), (37, .iconst 0, 1, []), (38, .iload_n 2, 1, []), (39, .iload_n 3, 1, []), (40, .iload 6, 2, []), (42, .iload 6, 2, []), (44, .iconst 0, 1, []), (45, .invokevirtual 178, 3, []), (48, .ifCond .eq 6, 3, []), (51, .iload 6, 2, []), (53, .ireturn, 1, []), (54, .iinc 5 1, 3, []), (57, .goto (-54), 3, []), (60, .bipush (-6), 2, []), (62, .ireturn, 1, [])])
theorem okX8_boundBy : vm_okM mX8_boundBy := vm_okM_of (by decide +kernel)
theorem calX8_boundBy : vm_calI mX8_boundBy 4 := ⟨⟨ww_991, ww_67⟩, ww_992, ww_97, by decide +kernel, by decide⟩
def mX8_whyNotBound : vm_Me := (yX8_whyNotBound, cX8_whyNotBound, 3, (some .int), [(0, .iload_n 0, 1, []), (1, .invokestatic 190, 3, []), (4, .ifCond .eq 10, 3, []), (7, .iload_n 1, 1, []), (8, .invokestatic 193, 3, []), (11, .ifCond .ne 7, 3, []), (14, .iconst (-1), 1, []), (15, .goto 18, 3, []), (18, .iload_n 2, 1, []), (19, .iconst 0, 1, []), (20, .iconst 1, 1, []), (21, .invokestatic 50, 3, []), (24, .ifCond .eq 7, 3, []), (27, .iconst 0, 1, []), (28, .goto 5, 3, []), (31, .bipush (-2), 2, []), (33, .ireturn, 1, [])])
theorem okX8_whyNotBound : vm_okM mX8_whyNotBound := vm_okM_of (by decide +kernel)
theorem calX8_whyNotBound : vm_calS mX8_whyNotBound 3 := ⟨ww_987, ww_988, ww_97, by decide +kernel, by decide⟩
def mX8_bound : vm_Me := (yX8_bound, cX8_bound, 5, (some .int), [(0, .iload_n 1, 1, []), (1, .iload_n 2, 1, []), (2, .iload_n 3, 1, []), (3, .invokestatic 216, 3, []), (6, .istore 4, 2, []), (8, .iload 4, 2, []), (10, .ifCond .ge 8, 3, []), (13, .iload 4, 2, []), (15, .goto 14, 3, []), (18, .aload_n 0, 1, []), (19, .aload_n 0, 1, []), (20, .invokevirtual 167, 3, []), (23, .iload_n 1, 1, []), (24, .iload_n 2, 1, []), (25, .iload_n 3, 1, []), (26, .invokevirtual 220, 3, []), (29, .ireturn, 1, [])])
theorem okX8_bound : vm_okM mX8_bound := vm_okM_of (by decide +kernel)
theorem calX8_bound : vm_calI mX8_bound 3 := ⟨⟨ww_983, ww_984⟩, ww_985, ww_97, by decide +kernel, by decide⟩
def mX8_sizeOf : vm_Me := (yX8_sizeOf, cX8_sizeOf, 6, (some .int), [(0, .iload_n 1, 1, []), (1, .invokestatic 190, 3, []), (4, .ifCond .ne 5, 3, []), (7, .iconst (-1), 1, []), (8, .ireturn, 1, []), (9, .iload_n 2, 1, []), (10, .iconst 0, 1, []), (11, .iconst 1, 1, []), (12, .invokestatic 50, 3, []), (15, .ifCond .ne 6, 3, []), (18, .bipush (-2), 2, []), (20, .ireturn, 1, []), (21, .iconst 3, 1, []), (22, .aload_n 0, 1, []), (23, .getfield 7, 3, []), (26, .iconst 0, 1, []), (27, .iaload, 1, []), (28, .imul, 1, []), (29, .istore_n 3, 1, []), (30, .iconst 0, 1, []), (31, .istore 4, 2, []), (33, .iload 4, 2, []), (35, .iload_n 3, 1, []), (36, .if_icmp .gt 46, 3, []), (39, .iload_n 2, 1, []), (40, .ifCond .ne 8, 3, []), (43, .iload 4, 2, []), (45, .goto 7, 3, []), (48, .iload_n 3, 1, []), (49, .iload 4, 2, []), (51, .isub, 1, []), (52, .istore 5, 2, []), (54, .aload_n 0, 1, []), (55, .aload_n 0, 1, []), (56, .invokevirtual 167, 3, []), (59, .iconst 1, 1, []), (60, .iload_n 1, 1, []), (61, .iload 5, 2, []), (63, .iload 5, 2, []), (65, .iconst 0, 1, []), (66, .iconst 0, 1, []), (67, .invokevirtual 178, 3, []), (70, .ifCond .eq 6, 3, []), (73, .iload 5, 2, []), (75, .ireturn, 1, []), (76, .iinc 4 1, 3, []), (79, .goto (-46), 3, []), (82, .bipush (-6), 2, []), (84, .ireturn, 1, [])])
theorem okX8_sizeOf : vm_okM mX8_sizeOf := vm_okM_of (by decide +kernel)
theorem calX8_sizeOf : vm_calI mX8_sizeOf 2 := ⟨⟨ww_1002, ww_1003⟩, ww_1004, ww_97, by decide +kernel, by decide⟩
def mX8_isSolvedFrom : vm_Me := (yX8_isSolvedFrom, cX8_isSolvedFrom, 3, (some .boolean), [(0, .aload_n 0, 1, []), (1, .aload_n 0, 1, []), (2, .invokevirtual 167, 3, []), (5, .putfield 115, 3, []), (8, .aload_n 0, 1, []), (9, .iconst 0, 1, []), (10, .putfield 125, 3, []), (13, .aload_n 0, 1, []), (14, .invokevirtual 161, 3, []), (17, .iconst 0, 1, []), (18, .istore_n 2, 1, []), (19, .iload_n 2, 1, []), (20, .iload_n 1, 1, []), (21, .if_icmp .gt 33, 3, []), (24, .aload_n 0, 1, []), (25, .getfield 23, 3, []), (28, .iload_n 2, 1, []), (29, .aload_n 0, 1, []), (30, .getfield 41, 3, []), (33, .iload_n 2, 1, []), (34, .iaload, 1, []), (35, .iastore, 1, []), (36, .aload_n 0, 1, []), (37, .getfield 26, 3, []), (40, .iload_n 2, 1, []), (41, .aload_n 0, 1, []), (42, .getfield 41, 3, []), (45, .iload_n 2, 1, []), (46, .iaload, 1, []), (47, .iastore, 1, []), (48, .iinc 2 1, 3, []), (51, .goto (-32), 3, []), (54, .aload_n 0, 1, []), (55, .invokevirtual 164, 3, []), (58, .ireturn, 1, [])])
theorem okX8_isSolvedFrom : vm_okM mX8_isSolvedFrom := vm_okM_of (by decide +kernel)
theorem calX8_isSolvedFrom : vm_calI mX8_isSolvedFrom 1 := ⟨⟨ww_1015, ww_71⟩, ww_1016, ww_97, by decide +kernel, by decide⟩
def mX8_findFirst : vm_Me := (yX8_findFirst, cX8_findFirst, 2, none, [(0, .iconst 0, 1, []), (1, .istore_n 1, 1, []), (2, .iload_n 1, 1, []), (3, .bipush 12, 2, []), (5, .if_icmp .ge 37, 3, []), (8, .aload_n 0, 1, []), (9, .getfield 41, 3, []), (12, .iload_n 1, 1, []), (13, .iconst 0, 1, []), (14, .iastore, 1, []), (15, .aload_n 0, 1, []), (16, .iload_n 1, 1, []), (17, .invokevirtual 224, 3, []), (20, .ifCond .ne 16, 3, []), (23, .aload_n 0, 1, []), (24, .getfield 41, 3, []), (27, .iload_n 1, 1, []), (28, .dup2, 1, []), (29, .iaload, 1, []), (30, .iconst 1, 1, []), (31, .iadd, 1, []), (32, .iastore, 1, []), (33, .goto (-18), 3, []), (36, .iinc 1 1, 3, []), (39, .goto (-37), 3, []), (42, .return_, 1, [])])
theorem okX8_findFirst : vm_okM mX8_findFirst := vm_okM_of (by decide +kernel)
theorem calX8_findFirst : vm_calI mX8_findFirst 0 := ⟨⟨ww_1011, ww_70⟩, ww_1012, ww_97, by decide +kernel, by decide⟩
def mX8_least : vm_Me := (yX8_least, cX8_least, 3, (some .int), [(0, .iload_n 1, 1, []), (1, .invokestatic 190, 3, []), (4, .ifCond .eq 10, 3, []), (7, .iload_n 2, 1, []), (8, .invokestatic 193, 3, []), (11, .ifCond .ne 5, 3, []), (14, .iconst (-1), 1, []), (15, .ireturn, 1, []), (16, .aload_n 0, 1, []), (17, .invokevirtual 213, 3, []), (20, .ifCond .ne 6, 3, []), (23, .bipush (-6), 2, []), (25, .ireturn, 1, []), (26, .aload_n 0, 1, []), (27, .invokevirtual 227, 3, []), (30, .aload_n 0, 1, []), (31, .getfield 41, 3, []), (34, .iconst 3, 1, []), (35, .iload_n 1, 1, []), (36, .imul, 1, []), (37, .iload_n 2, 1, []), (38, .iadd, 1, []), (39, .iaload, 1, []), (40, .ireturn, 1, [])])
theorem okX8_least : vm_okM mX8_least := vm_okM_of (by decide +kernel)
theorem calX8_least : vm_calI mX8_least 2 := ⟨⟨ww_1006, ww_1007⟩, ww_1008, ww_97, by decide +kernel, by decide⟩
def mX8_solutions : vm_Me := (yX8_solutions, cX8_solutions, 2, (some .int), [(0, .iload_n 1, 1, []), (1, .iconst 1, 1, []), (2, .sipush 500, 3, []), (5, .invokestatic 50, 3, []), (8, .ifCond .ne 6, 3, []), (11, .bipush (-2), 2, []), (13, .ireturn, 1, []), (14, .aload_n 0, 1, []), (15, .invokevirtual 213, 3, []), (18, .ifCond .ne 5, 3, []), (21, .iconst 0, 1, []), (22, .ireturn, 1, []), (23, .aload_n 0, 1, []), (24, .iload_n 1, 1, []), (25, .invokevirtual 230, 3, []), (28, .ireturn, 1, [])])
theorem okX8_solutions : vm_okM mX8_solutions := vm_okM_of (by decide +kernel)
theorem calX8_solutions : vm_calI mX8_solutions 1 := ⟨⟨ww_1018, ww_1019⟩, ww_1020, ww_97, by decide +kernel, by decide⟩
def mX8_countAll : vm_Me := (yX8_countAll, cX8_countAll, 6, (some .int), [(0, .iconst 0, 1, []), (1, .istore_n 2, 1, []), (2, .iconst 1, 1, []), (3, .istore_n 3, 1, []), (4, .aload_n 0, 1, []), (5, .aload_n 0, 1, []), (6, .invokevirtual 167, 3, []), (9, .putfield 115, 3, []), (12, .iconst 0, 1, []), (13, .istore 4, 2, []), (15, .iload 4, 2, []), (17, .bipush 12, 2, []), (19, .if_icmp .ge 61, 3, []), (22, .iload_n 2, 1, []), (23, .iload 4, 2, []), (25, .ishr, 1, []), (26, .iconst 1, 1, []), (27, .iand, 1, []), (28, .ifCond .ne 46, 3, []), (31, .aload_n 0, 1, []), (32, .invokevirtual 161, 3, []), (35, .aload_n 0, 1, []), (36, .invokevirtual 142, 3, []), (39, .pop, 1, []), (40, .aload_n 0, 1, []), (41, .iload 4, 2, []), (43, .invokevirtual 155, 3, []), (46, .istore 5, 2, []), (48, .iload_n 2, 1, []), (49, .iload 5, 2, []), (51, .ior, 1, []), (52, .istore_n 2, 1, []), (53, .iload_n 3, 1, []), (54, .aload_n 0, 1, []), (55, .iload 5, 2, []), (57, .iload_n 1, 1, []), (58, .invokevirtual 158, 3, []), (61, .imul, 1, []), (62, .istore_n 3, 1, []), (63, .iload_n 3, 1, []), (64, .iload_n 1, 1, []), (65, .if_icmp .le 7, 3, []), (68, .iload_n 1, 1, []), (69, .goto 4, 3, []), (72, .iload_n 3, 1, []), (73, .istore_n 3, 1, []), (74, .iinc 4 1, 3, []), (77, .goto (-62), 3, []), (80, .iload_n 3, 1, []), (81, .ireturn, 1, [])])
theorem okX8_countAll : vm_okM mX8_countAll := vm_okM_of (by decide +kernel)
theorem calX8_countAll : vm_calI mX8_countAll 1 := ⟨⟨ww_1023, ww_72⟩, ww_1024, ww_97, by decide +kernel, by decide⟩
def mX8_follows : vm_Me := (yX8_follows, cX8_follows, 8, (some .int), [(0, .iload_n 1, 1, []), (1, .iload_n 2, 1, []), (2, .iload_n 3, 1, []), (3, .iload 4, 2, []), (5, .iload 5, 2, []), (7, .iload 6, 2, []), (9, .invokestatic 196, 3, []), (12, .ifCond .ne 6, 3, []), (15, .bipush (-2), 2, []), (17, .ireturn, 1, []), (18, .aload_n 0, 1, []), (19, .invokevirtual 213, 3, []), (22, .ifCond .ne 6, 3, []), (25, .bipush (-6), 2, []), (27, .ireturn, 1, []), (28, .aload_n 0, 1, []), (29, .aload_n 0, 1, []), (30, .invokevirtual 167, 3, []), (33, .iload_n 1, 1, []), (34, .iload_n 2, 1, []), (35, .iload_n 3, 1, []), (36, .iload 4, 2, []), (38, .iload 5, 2, []), (40, .iload 6, 2, []), (42, .invokevirtual 178, 3, []), (45, .istore 7, 2, []), (47, .iload 7, 2, []), (49, .ifCond .ne 7, 3, []), (52, .iconst 0, 1, []), (53, .goto 28, 3, []), (56, .aload_n 0, 1, []), (57, .aload_n 0, 1, []), (58, .invokevirtual 167, 3, []), (61, .iload_n 1, 1, []), (62, .iload_n 2, 1, []), (63, .iload_n 3, 1, []), (64, .iload 4, 2, []), (66, .iload 5, 2, []), (68, .iload 6, 2, []), (70, .invokevirtual 233, 3, []), (73, .ifCond .eq 7, 3, []), (76, .iconst 2, 1, []), (77, .goto 4, 3, []), (80, .iconst 1, 1, []), (81, .ireturn, 1, [])])
theorem okX8_follows : vm_okM mX8_follows := vm_okM_of (by decide +kernel)
theorem calX8_follows : vm_calI mX8_follows 6 := ⟨⟨ww_1026, ww_1027⟩, ww_1028, ww_97, by decide +kernel, by decide⟩
def mX8_contradiction : vm_Me := (yX8_contradiction, cX8_contradiction, 3, (some .int), [(0, .aload_n 0, 1, []), (1, .invokevirtual 213, 3, []), (4, .ifCond .eq 6, 3, []), (7, .bipush (-6), 2, []), (9, .ireturn, 1, []), (10, .aload_n 0, 1, []), (11, .invokevirtual 167, 3, []), (14, .istore_n 1, 1, []), (15, .iconst 0, 1, []), (16, .istore_n 2, 1, []), (17, .iload_n 2, 1, []), (18, .aload_n 0, 1, []), (19, .getfield 7, 3, []), (22, .iconst 1, 1, []), (23, .iaload, 1, []), (24, .if_icmp .ge 40, 3, []), (27, .aload_n 0, 1, []), (28, .iconst 0, 1, []), (29, .putfield 125, 3, []), (32, .aload_n 0, 1, []), (33, .iload_n 1, 1, []), (34, .iconst 1, 1, []), (35, .iload_n 2, 1, []), (36, .ishl, 1, []), (37, .iconst (-1), 1, []), (38, .ixor, 1, []), (39, .iand, 1, []), (40, .invokevirtual 171, 3, []), (43, .ifCond .eq 7, 3, []), (46, .iload_n 1, 1, []), (47, .goto 10, 3, []), (50, .iload_n 1, 1, []), (51, .iconst 1, 1, []), (52, .iload_n 2, 1, []), (53, .ishl, 1, []), (54, .iconst (-1), 1, []), (55, .ixor, 1, []), (56, .iand, 1, []), (57, .istore_n 1, 1, []), (58, .iinc 2 1, 3, []), (61, .goto (-44), 3, []), (64, .iload_n 1, 1, []), (65, .ireturn, 1, [])])
theorem okX8_contradiction : vm_okM mX8_contradiction := vm_okM_of (by decide +kernel)
theorem calX8_contradiction : vm_calI mX8_contradiction 0 := ⟨⟨ww_1042, ww_1043⟩, ww_1044, ww_97, by decide +kernel, by decide⟩
def mX8_reason : vm_Me := (yX8_reason, cX8_reason, 8, (some .int), [(0, .iload_n 1, 1, []), (1, .iload_n 2, 1, []), (2, .iload_n 3, 1, []), (3, .invokestatic 216, 3, []), (6, .istore 4, 2, []), (8, .iload 4, 2, []), (10, .ifCond .ge 6, 3, []), (13, .iload 4, 2, []), (15, .ireturn, 1, []), (16, .aload_n 0, 1, []), (17, .invokevirtual 167, 3, []), (20, .istore 5, 2, []), (22, .aload_n 0, 1, []), (23, .iload 5, 2, []), (25, .iload_n 1, 1, []), (26, .iload_n 2, 1, []), (27, .iload_n 3, 1, []), (28, .invokevirtual 220, 3, []), (31, .istore 6, 2, []), (33, .iload 6, 2, []), (35, .ifCond .ge 6, 3, []), (38, .bipush (-6), 2, []), (40, .ireturn, 1, []), (41, .iconst 0, 1, []), (42, .istore 7, 2, []), (44, .iload 7, 2, []), (46, .aload_n 0, 1, []), (47, .getfield 7, 3, []), (50, .iconst 1, 1, []), (51, .iaload, 1, []), (52, .if_icmp .ge 46, 3, []), (55, .aload_n 0, 1, []), (56, .iload 5, 2, []), (58, .iconst 1, 1, []), (59, .iload 7, 2, []), (61, .ishl, 1, []), (62, .iconst (-1), 1, []), (63, .ixor, 1, []), (64, .iand, 1, []), (65, .iload_n 1, 1, []), (66, .iload_n 2, 1, []), (67, .iload_n 3, 1, []), (68, .invokevirtual 220, 3, []), (71, .iload 6, 2, []), (73, .if_icmp .ne 15, 3, []), (76, .iload 5, 2, []), (78, .iconst 1, 1, []), (79, .iload 7, 2, []), (81, .ishl, 1, []), (82, .iconst (-1), 1, []), (83, .ixor, 1, []), (84, .iand, 1, []), (85, .goto 5, 3, []), (88, .iload 5, 2, []), (90, .istore 5, 2, []), (92, .iinc 7 1, 3, []), (95, .goto (-51), 3, []), (98, .iload 5, 2, []), (100, .ireturn, 1, [])])
theorem okX8_reason : vm_okM mX8_reason := vm_okM_of (by decide +kernel)
theorem calX8_reason : vm_calI mX8_reason 3 := ⟨⟨ww_1046, ww_1047⟩, ww_1048, ww_97, by decide +kernel, by decide⟩
def mX8_needless : vm_Me := (yX8_needless, cX8_needless, 4, (some .int), [(0, .aload_n 0, 1, []), (1, .invokevirtual 213, 3, []), (4, .ifCond .ne 6, 3, []), (7, .bipush (-6), 2, []), (9, .ireturn, 1, []), (10, .iconst 0, 1, []), (11, .istore_n 1, 1, []), (12, .iconst 0, 1, []), (13, .istore_n 2, 1, []), (14, .iload_n 2, 1, []), (15, .aload_n 0, 1, []), (16, .getfield 7, 3, []), (19, .iconst 1, 1, []), (20, .iaload, 1, []), (21, .if_icmp .ge 74, 3, []), (24, .aload_n 0, 1, []), (25, .invokevirtual 167, 3, []), (28, .iconst 1, 1, []), (29, .iload_n 2, 1, []), (30, .ishl, 1, []), (31, .iconst (-1), 1, []), (32, .ixor, 1, []), (33, .iand, 1, []), (34, .istore_n 3, 1, []), (35, .iload_n 1, 1, []), (36, .aload_n 0, 1, []), (37, .iload_n 3, 1, []), (38, .aload_n 0, 1, []), (39, .iload_n 2, 1, []), (40, .iconst 0, 1, []), (41, .invokevirtual 118, 3, []), (44, .aload_n 0, 1, []), (45, .iload_n 2, 1, []), (46, .iconst 1, 1, []), (47, .invokevirtual 118, 3, []), (50, .aload_n 0, 1, []), (51, .iload_n 2, 1, []), (52, .iconst 2, 1, []), (53, .invokevirtual 118, 3, []), (56, .aload_n 0, 1, []), (57, .iload_n 2, 1, []), (58, .iconst 3, 1, []), (59, .invokevirtual 118, 3, []), (62, .aload_n 0, 1, []), (63, .iload_n 2, 1, []), (64, .iconst 4, 1, []), (65, .invokevirtual 118, 3, []), (68, .aload_n 0, 1, []), (69, .iload_n 2, 1, []), (70, .iconst 5, 1, []), (71, .invokevirtual 118, 3, []), (74, .invokevirtual 233, 3, []), (77, .ifCond .eq 7, 3, []), (80, .iconst 0, 1, []), (81, .goto 6, 3, []), (84, .iconst 1, 1, []), (85, .iload_n 2, 1, []), (86, .ishl, 1, []), (87, .ior, 1, []), (88, .istore_n 1, 1, []), (89, .iinc 2 1, 3, []), (92, .goto (-78), 3, []), (95, .iload_n 1, 1, []), (96, .ireturn, 1, [])])
theorem okX8_needless : vm_okM mX8_needless := vm_okM_of (by decide +kernel)
theorem calX8_needless : vm_calI mX8_needless 0 := ⟨⟨ww_1050, ww_1051⟩, ww_1052, ww_97, by decide +kernel, by decide⟩
def mX8_put : vm_Me := (yX8_put, cX8_put, 7, (some .int), [(0, .iconst 0, 1, []), (1, .istore_n 3, 1, []), (2, .lload_n 1, 1, []), (3, .lstore 4, 2, []), (5, .iload_n 3, 1, []), (6, .bipush 8, 2, []), (8, .if_icmp .ge 47, 3, []), (11, .lload 4, 2, []), (13, .ldc2_w 236, 3, []), (16, .land, 1, []), (17, .lconst 0, 1, []), (18, .lcmp, 1, []), (19, .ifCond .eq 36, 3, []), (22, .lload 4, 2, []), (24, .ldc2_w 236, 3, []), (27, .land, 1, []), (28, .l2i, 1, []), (29, .bipush 33, 2, []), (31, .bipush 126, 2, []), (33, .invokestatic 50, 3, []), (36, .ifCond .ne 6, 3, []), (39, .bipush (-2), 2, []), (41, .ireturn, 1, []), (42, .iinc 3 1, 3, []), (45, .lload 4, 2, []), (47, .bipush 8, 2, []), (49, .lushr, 1, []), (50, .lstore 4, 2, []), (52, .goto (-47), 3, []), (55, .iload_n 3, 1, []), (56, .ifCond .eq 10, 3, []), (59, .lload 4, 2, []), (61, .lconst 0, 1, []), (62, .lcmp, 1, []), (63, .ifCond .eq 6, 3, []), (66, .bipush (-2), 2, []), (68, .ireturn, 1, []), (69, .aload_n 0, 1, []), (70, .getfield 210, 3, []), (73, .iload_n 3, 1, []), (74, .iadd, 1, []), (75, .bipush 80, 2, []), (77, .if_icmp .le 6, 3, []), (80, .bipush (-4), 2, []), (82, .ireturn, 1, []), (83, .iconst 0, 1, []), (84, .istore 6, 2, []), (86, .iload 6, 2, []), (88, .iload_n 3, 1, []), (89, .if_icmp .ge 37, 3, []), (92, .aload_n 0, 1, []), (93, .getfield 44, 3, []), (96, .aload_n 0, 1, []), (97, .getfield 210, 3, []), (100, .iload 6, 2, []), (102, .iadd, 1, []), (103, .lload_n 1, 1, []), (104, .bipush 8, 2, []), (106, .iload_n 3, 1, []), (107, .iconst 1, 1, []), (108, .isub, 1, []), (109, .iload 6, 2, []), (111, .isub, 1, []), (112, .imul, 1, []), (113, .lshr, 1, []), (114, .ldc2_w 236, 3, []), (117, .land, 1, []), (118, .l2i, 1, []), (119, .iastore, 1, []), (120, .iinc 6 1, 3, []), (123, .goto (-37), 3, []), (126, .aload_n 0, 1, []), (127, .dup, 1, []), (128, .getfield 210, 3, []), (131, .iload_n 3, 1, []), (132, .iadd, 1, []), (133, .putfield 210, 3, []), (136, .aload_n 0, 1, []), (137, .getfield 210, 3, []), (140, .ireturn, 1, [])])
theorem okX8_put : vm_okM mX8_put := vm_okM_of (by decide +kernel)
theorem calX8_put : vm_calI mX8_put 1 := ⟨⟨ww_1054, ww_1055⟩, ww_1056, ww_97, by decide +kernel, by decide⟩
def mX8_wipe : vm_Me := (yX8_wipe, cX8_wipe, 2, (some .int), [(0, .aload_n 0, 1, []), (1, .getfield 210, 3, []), (4, .istore_n 1, 1, []), (5, .aload_n 0, 1, []), (6, .iconst 0, 1, []), (7, .putfield 210, 3, []), (10, .iload_n 1, 1, []), (11, .ireturn, 1, [])])
theorem okX8_wipe : vm_okM mX8_wipe := vm_okM_of (by decide +kernel)
theorem calX8_wipe : vm_calI mX8_wipe 0 := ⟨⟨ww_1059, ww_1060⟩, ww_1061, ww_97, by decide +kernel, by decide⟩
def mX8_next : vm_Me := (yX8_next, cX8_next, 1, (some .int), [(0, .aload_n 0, 1, []), (1, .getfield 238, 3, []), (4, .aload_n 0, 1, []), (5, .getfield 210, 3, []), (8, .if_icmp .ge 15, 3, []), (11, .aload_n 0, 1, []), (12, .getfield 44, 3, []), (15, .aload_n 0, 1, []), (16, .getfield 238, 3, []), (19, .iaload, 1, []), (20, .goto 4, 3, []), (23, .iconst 0, 1, []), (24, .ireturn, 1, [])])
theorem okX8_next : vm_okM mX8_next := vm_okM_of (by decide +kernel)
theorem calX8_next : vm_calI mX8_next 0 := ⟨⟨ww_1076, ww_78⟩, ww_1077, ww_97, by decide +kernel, by decide⟩
def mX8_enter : vm_Me := (yX8_enter, cX8_enter, 3, none, [(0, .aload_n 0, 1, []), (1, .getfield 47, 3, []), (4, .bipush 6, 2, []), (6, .aload_n 0, 1, []), (7, .getfield 241, 3, []), (10, .imul, 1, []), (11, .iload_n 1, 1, []), (12, .iadd, 1, []), (13, .iload_n 2, 1, []), (14, .iastore, 1, []), (15, .return_, 1, [])])
theorem okX8_enter : vm_okM mX8_enter := vm_okM_of (by decide +kernel)
theorem calX8_enter : vm_calI mX8_enter 2 := ⟨⟨ww_1072, ww_77⟩, ww_1073, ww_97, by decide +kernel, by decide⟩
def mX8_takeSign : vm_Me := (yX8_takeSign, cX8_takeSign, 2, none, [(0, .aload_n 0, 1, []), (1, .aload_n 0, 1, []), (2, .getfield 244, 3, []), (5, .ifCond .ne 11, 3, []), (8, .aload_n 0, 1, []), (9, .invokevirtual 247, 3, []), (12, .iload_n 1, 1, []), (13, .if_icmp .eq 7, 3, []), (16, .iconst 1, 1, []), (17, .goto 4, 3, []), (20, .iconst 0, 1, []), (21, .putfield 244, 3, []), (24, .aload_n 0, 1, []), (25, .dup, 1, []), (26, .getfield 238, 3, []), (29, .aload_n 0, 1, []), (30, .getfield 244, 3, []), (33, .ifCond .eq 7, 3, []), (36, .iconst 0, 1, []), (37, .goto 4, 3, []), (40, .iconst 1, 1, []), (41, .iadd, 1, []), (42, .putfield 238, 3, []), (45, .return_, 1, [])])
theorem okX8_takeSign : vm_okM mX8_takeSign := vm_okM_of (by decide +kernel)
theorem calX8_takeSign : vm_calI mX8_takeSign 1 := ⟨⟨ww_1084, ww_80⟩, ww_1085, ww_97, by decide +kernel, by decide⟩
def mX8_takeOne : vm_Me := (yX8_takeOne, cX8_takeOne, 4, none, [(0, .aload_n 0, 1, []), (1, .aload_n 0, 1, []), (2, .getfield 244, 3, []), (5, .ifCond .ne 15, 3, []), (8, .aload_n 0, 1, []), (9, .invokevirtual 247, 3, []), (12, .iload_n 2, 1, []), (13, .iload_n 3, 1, []), (14, .invokestatic 50, 3, []), (17, .ifCond .ne 7, 3, []), (20, .iconst 1, 1, []), (21, .goto 4, 3, []), (24, .iconst 0, 1, []), (25, .putfield 244, 3, []), (28, .aload_n 0, 1, []), (29, .getfield 244, 3, []), (32, .ifCond .ne 24, 3, []), (35, .aload_n 0, 1, []), (36, .iload_n 1, 1, []), (37, .aload_n 0, 1, []), (38, .invokevirtual 247, 3, []), (41, .iload_n 2, 1, []), (42, .isub, 1, []), (43, .invokevirtual 250, 3, []), (46, .aload_n 0, 1, []), (47, .dup, 1, []), (48, .getfield 238, 3, []), (51, .iconst 1, 1, []), (52, .iadd, 1, []), (53, .putfield 238, 3, []), (56, .return_, 1, [])])
theorem okX8_takeOne : vm_okM mX8_takeOne := vm_okM_of (by decide +kernel)
theorem calX8_takeOne : vm_calI mX8_takeOne 3 := ⟨⟨ww_1080, ww_79⟩, ww_1081, ww_97, by decide +kernel, by decide⟩
def mX8_takeNumber : vm_Me := (yX8_takeNumber, cX8_takeNumber, 4, none, [(0, .aload_n 0, 1, []), (1, .iload_n 1, 1, []), (2, .bipush 48, 2, []), (4, .bipush 57, 2, []), (6, .invokevirtual 253, 3, []), (9, .bipush 6, 2, []), (11, .aload_n 0, 1, []), (12, .getfield 241, 3, []), (15, .imul, 1, []), (16, .iload_n 1, 1, []), (17, .iadd, 1, []), (18, .istore_n 2, 1, []), (19, .aload_n 0, 1, []), (20, .getfield 244, 3, []), (23, .ifCond .ne 26, 3, []), (26, .aload_n 0, 1, []), (27, .getfield 47, 3, []), (30, .iload_n 2, 1, []), (31, .iaload, 1, []), (32, .ifCond .eq 17, 3, []), (35, .aload_n 0, 1, []), (36, .invokevirtual 247, 3, []), (39, .bipush 48, 2, []), (41, .bipush 57, 2, []), (43, .invokestatic 50, 3, []), (46, .ifCond .ne 4, 3, []), (49, .return_, 1, []), (50, .bipush 10, 2, []), (52, .aload_n 0, 1, []), (53, .getfield 47, 3, []), (56, .iload_n 2, 1, []), (57, .iaload, 1, []), (58, .imul, 1, []), (59, .aload_n 0, 1, []), (60, .invokevirtual 247, 3, []), (63, .iadd, 1, []), (64, .bipush 48, 2, []), (66, .isub, 1, []), (67, .istore_n 3, 1, []), (68, .aload_n 0, 1, []), (69, .iload_n 3, 1, []), (70, .bipush 18, 2, []), (72, .if_icmp .le 7, 3, []), (75, .iconst 1, 1, []), (76, .goto 4, 3, []), (79, .iconst 0, 1, []), (80, .putfield 244, 3, []), (83, .aload_n 0, 1, []), (84, .dup, 1, []), (85, .getfield 238, 3, []), (88, .aload_n 0, 1, []), (89, .getfield 244, 3, []), (92, .ifCond .eq 7, 3, []), (95, .iconst 0, 1, []), (96, .goto 4, 3, []), (99, .iconst 1, 1, []), (100, .iadd, 1, []), (101, .putfield 238, 3, []), (104, .aload_n 0, 1, []), (105, .getfield 47, 3, []), (108, .iload_n 2, 1, []), (109, .iload_n 3, 1, []), (110, .iastore, 1, []), (111, .return_, 1, [])])
theorem okX8_takeNumber : vm_okM mX8_takeNumber := vm_okM_of (by decide +kernel)
theorem calX8_takeNumber : vm_calI mX8_takeNumber 1 := ⟨⟨ww_1092, ww_82⟩, ww_1093, ww_97, by decide +kernel, by decide⟩
def mX8_takeRange : vm_Me := (yX8_takeRange, cX8_takeRange, 2, none, [(0, .aload_n 0, 1, []), (1, .iload_n 1, 1, []), (2, .invokevirtual 256, 3, []), (5, .aload_n 0, 1, []), (6, .iload_n 1, 1, []), (7, .iconst 1, 1, []), (8, .iadd, 1, []), (9, .aload_n 0, 1, []), (10, .getfield 47, 3, []), (13, .bipush 6, 2, []), (15, .aload_n 0, 1, []), (16, .getfield 241, 3, []), (19, .imul, 1, []), (20, .iload_n 1, 1, []), (21, .iadd, 1, []), (22, .iaload, 1, []), (23, .invokevirtual 250, 3, []), (26, .aload_n 0, 1, []), (27, .getfield 244, 3, []), (30, .ifCond .ne 29, 3, []), (33, .aload_n 0, 1, []), (34, .invokevirtual 247, 3, []), (37, .bipush 45, 2, []), (39, .if_icmp .ne 20, 3, []), (42, .aload_n 0, 1, []), (43, .dup, 1, []), (44, .getfield 238, 3, []), (47, .iconst 1, 1, []), (48, .iadd, 1, []), (49, .putfield 238, 3, []), (52, .aload_n 0, 1, []), (53, .iload_n 1, 1, []), (54, .iconst 1, 1, []), (55, .iadd, 1, []), (56, .invokevirtual 256, 3, []), (59, .return_, 1, [])])
theorem okX8_takeRange : vm_okM mX8_takeRange := vm_okM_of (by decide +kernel)
theorem calX8_takeRange : vm_calI mX8_takeRange 1 := ⟨⟨ww_1088, ww_81⟩, ww_1089, ww_97, by decide +kernel, by decide⟩
def mX8_takeMore : vm_Me := (yX8_takeMore, cX8_takeMore, 2, none, [(0, .aload_n 0, 1, []), (1, .iconst 0, 1, []), (2, .bipush 6, 2, []), (4, .invokevirtual 250, 3, []), (7, .aload_n 0, 1, []), (8, .dup, 1, []), (9, .getfield 238, 3, []), (12, .iconst 1, 1, []), (13, .iadd, 1, []), (14, .putfield 238, 3, []), (17, .aload_n 0, 1, []), (18, .iconst 3, 1, []), (19, .bipush 65, 2, []), (21, .bipush 68, 2, []), (23, .invokevirtual 253, 3, []), (26, .aload_n 0, 1, []), (27, .iconst 4, 1, []), (28, .bipush 120, 2, []), (30, .bipush 122, 2, []), (32, .invokevirtual 253, 3, []), (35, .aload_n 0, 1, []), (36, .getfield 244, 3, []), (39, .ifCond .ne 96, 3, []), (42, .aload_n 0, 1, []), (43, .invokevirtual 247, 3, []), (46, .bipush 43, 2, []), (48, .if_icmp .eq 12, 3, []), (51, .aload_n 0, 1, []), (52, .invokevirtual 247, 3, []), (55, .bipush 45, 2, []), (57, .if_icmp .ne 78, 3, []), (60, .aload_n 0, 1, []), (61, .invokevirtual 247, 3, []), (64, .bipush 45, 2, []), (66, .if_icmp .ne 7, 3, []), (69, .iconst 1, 1, []), (70, .goto 4, 3, []), (73, .iconst 0, 1, []), (74, .istore_n 1, 1, []), (75, .aload_n 0, 1, []), (76, .dup, 1, []), (77, .getfield 238, 3, []), (80, .iconst 1, 1, []), (81, .iadd, 1, []), (82, .putfield 238, 3, []), (85, .aload_n 0, 1, []), (86, .iconst 5, 1, []), (87, .bipush 48, 2, []), (89, .bipush 54, 2, []), (91, .invokevirtual 253, 3, []), (94, .aload_n 0, 1, []), (95, .iconst 5, 1, []), (96, .iload_n 1, 1, []), (97, .ifCond .eq 21, 3, []), (100, .aload_n 0, 1, []), (101, .getfield 47, 3, []), (104, .bipush 6, 2, []), (106, .aload_n 0, 1, []), (107, .getfield 241, 3, []), (110, .imul, 1, []), (111, .iconst 5, 1, []), (112, .iadd, 1, []), (113, .iaload, 1, []), (114, .ineg, 1, []), (115, .goto 17, 3, []), (118, .aload_n 0, 1, []), (119, .getfield 47, 3, []), (122, .bipush 6, 2, []), (124, .aload_n 0, 1, []), (125, .getfield 241, 3, []), (128, .imul, 1, []), (129, .iconst 5, 1, []), (130, .iadd, 1, []), (131, .iaload, 1, []), (132, .invokevirtual 250, 3, []), (135, .return_, 1, [])])
theorem okX8_takeMore : vm_okM mX8_takeMore := vm_okM_of (by decide +kernel)
theorem calX8_takeMore : vm_calI mX8_takeMore 0 := ⟨⟨ww_1108, ww_86⟩, ww_1109, ww_97, by decide +kernel, by decide⟩
def mX8_takeKind : vm_Me := (yX8_takeKind, cX8_takeKind, 1, none, [(0, .aload_n 0, 1, []), (1, .iconst 2, 1, []), (2, .bipush 120, 2, []), (4, .bipush 122, 2, []), (6, .invokevirtual 253, 3, []), (9, .aload_n 0, 1, []), (10, .getfield 244, 3, []), (13, .ifCond .ne 19, 3, []), (16, .aload_n 0, 1, []), (17, .invokevirtual 247, 3, []), (20, .bipush 62, 2, []), (22, .if_icmp .ne 10, 3, []), (25, .aload_n 0, 1, []), (26, .invokevirtual 259, 3, []), (29, .goto 20, 3, []), (32, .aload_n 0, 1, []), (33, .iconst 0, 1, []), (34, .iconst 0, 1, []), (35, .invokevirtual 250, 3, []), (38, .aload_n 0, 1, []), (39, .bipush 61, 2, []), (41, .invokevirtual 262, 3, []), (44, .aload_n 0, 1, []), (45, .iconst 3, 1, []), (46, .invokevirtual 265, 3, []), (49, .return_, 1, [])])
theorem okX8_takeKind : vm_okM mX8_takeKind := vm_okM_of (by decide +kernel)
theorem calX8_takeKind : vm_calI mX8_takeKind 0 := ⟨⟨ww_1104, ww_85⟩, ww_1105, ww_97, by decide +kernel, by decide⟩
def mX8_takeBags : vm_Me := (yX8_takeBags, cX8_takeBags, 3, none, [(0, .aload_n 0, 1, []), (1, .getfield 47, 3, []), (4, .bipush 6, 2, []), (6, .aload_n 0, 1, []), (7, .getfield 241, 3, []), (10, .imul, 1, []), (11, .iconst 1, 1, []), (12, .iadd, 1, []), (13, .iaload, 1, []), (14, .istore_n 2, 1, []), (15, .aload_n 0, 1, []), (16, .iconst 0, 1, []), (17, .iload_n 1, 1, []), (18, .invokevirtual 250, 3, []), (21, .aload_n 0, 1, []), (22, .iconst 2, 1, []), (23, .iload_n 2, 1, []), (24, .invokevirtual 250, 3, []), (27, .aload_n 0, 1, []), (28, .dup, 1, []), (29, .getfield 238, 3, []), (32, .iconst 1, 1, []), (33, .iadd, 1, []), (34, .putfield 238, 3, []), (37, .aload_n 0, 1, []), (38, .iconst 3, 1, []), (39, .bipush 65, 2, []), (41, .bipush 68, 2, []), (43, .invokevirtual 253, 3, []), (46, .aload_n 0, 1, []), (47, .bipush 61, 2, []), (49, .invokevirtual 262, 3, []), (52, .aload_n 0, 1, []), (53, .iconst 1, 1, []), (54, .bipush 65, 2, []), (56, .bipush 68, 2, []), (58, .invokevirtual 253, 3, []), (61, .return_, 1, [])])
theorem okX8_takeBags : vm_okM mX8_takeBags := vm_okM_of (by decide +kernel)
theorem calX8_takeBags : vm_calI mX8_takeBags 1 := ⟨⟨ww_1100, ww_84⟩, ww_1101, ww_97, by decide +kernel, by decide⟩
def mX8_takeBag : vm_Me := (yX8_takeBag, cX8_takeBag, 1, none, [(0, .aload_n 0, 1, []), (1, .iconst 1, 1, []), (2, .bipush 65, 2, []), (4, .bipush 68, 2, []), (6, .invokevirtual 253, 3, []), (9, .aload_n 0, 1, []), (10, .getfield 244, 3, []), (13, .ifCond .eq 4, 3, []), (16, .return_, 1, []), (17, .aload_n 0, 1, []), (18, .invokevirtual 247, 3, []), (21, .lookupswitch 95 #[(38, 59), (43, 43), (60, 67), (124, 51)], 43, []), (64, .aload_n 0, 1, []), (65, .iconst 2, 1, []), (66, .invokevirtual 268, 3, []), (69, .goto 51, 3, []), (72, .aload_n 0, 1, []), (73, .iconst 3, 1, []), (74, .invokevirtual 268, 3, []), (77, .goto 43, 3, []), (80, .aload_n 0, 1, []), (81, .iconst 4, 1, []), (82, .invokevirtual 268, 3, []), (85, .goto 35, 3, []), (88, .aload_n 0, 1, []), (89, .iconst 0, 1, []), (90, .iconst 5, 1, []), (91, .invokevirtual 250, 3, []), (94, .aload_n 0, 1, []), (95, .dup, 1, []), (96, .getfield 238, 3, []), (99, .iconst 1, 1, []), (100, .iadd, 1, []), (101, .putfield 238, 3, []), (104, .aload_n 0, 1, []), (105, .iconst 2, 1, []), (106, .bipush 65, 2, []), (108, .bipush 68, 2, []), (110, .invokevirtual 253, 3, []), (113, .goto 7, 3, []), (116, .aload_n 0, 1, []), (117, .invokevirtual 271, 3, []), (120, .return_, 1, [])])
theorem okX8_takeBag : vm_okM mX8_takeBag := vm_okM_of (by decide +kernel)
theorem calX8_takeBag : vm_calI mX8_takeBag 0 := ⟨⟨ww_1096, ww_83⟩, ww_1097, ww_97, by decide +kernel, by decide⟩
def mX8_takeFact : vm_Me := (yX8_takeFact, cX8_takeFact, 2, none, [(0, .iconst 0, 1, []), (1, .istore_n 1, 1, []), (2, .iload_n 1, 1, []), (3, .bipush 6, 2, []), (5, .if_icmp .ge 15, 3, []), (8, .aload_n 0, 1, []), (9, .iload_n 1, 1, []), (10, .iconst 0, 1, []), (11, .invokevirtual 250, 3, []), (14, .iinc 1 1, 3, []), (17, .goto (-15), 3, []), (20, .aload_n 0, 1, []), (21, .invokevirtual 247, 3, []), (24, .bipush 35, 2, []), (26, .if_icmp .ne 42, 3, []), (29, .aload_n 0, 1, []), (30, .dup, 1, []), (31, .getfield 238, 3, []), (34, .iconst 1, 1, []), (35, .iadd, 1, []), (36, .putfield 238, 3, []), (39, .aload_n 0, 1, []), (40, .iconst 0, 1, []), (41, .iconst 1, 1, []), (42, .invokevirtual 250, 3, []), (45, .aload_n 0, 1, []), (46, .iconst 1, 1, []), (47, .bipush 65, 2, []), (49, .bipush 68, 2, []), (51, .invokevirtual 253, 3, []), (54, .aload_n 0, 1, []), (55, .bipush 61, 2, []), (57, .invokevirtual 262, 3, []), (60, .aload_n 0, 1, []), (61, .iconst 2, 1, []), (62, .invokevirtual 265, 3, []), (65, .goto 7, 3, []), (68, .aload_n 0, 1, []), (69, .invokevirtual 274, 3, []), (72, .aload_n 0, 1, []), (73, .dup, 1, []), (74, .getfield 241, 3, []), (77, .aload_n 0, 1, []), (78, .getfield 244, 3, []), (81, .ifCond .eq 7, 3, []), (84, .iconst 0, 1, []), (85, .goto 4, 3, []), (88, .iconst 1, 1, []), (89, .iadd, 1, []), (90, .putfield 241, 3, []), (93, .return_, 1, [])])
theorem okX8_takeFact : vm_okM mX8_takeFact := vm_okM_of (by decide +kernel)
theorem calX8_takeFact : vm_calI mX8_takeFact 0 := ⟨⟨ww_1068, ww_76⟩, ww_1069, ww_97, by decide +kernel, by decide⟩
def mX8_fault : vm_Me := (yX8_fault, cX8_fault, 1, (some .int), [(0, .aload_n 0, 1, []), (1, .iconst 0, 1, []), (2, .putfield 238, 3, []), (5, .aload_n 0, 1, []), (6, .iconst 0, 1, []), (7, .putfield 244, 3, []), (10, .aload_n 0, 1, []), (11, .iconst 0, 1, []), (12, .putfield 241, 3, []), (15, .aload_n 0, 1, []), (16, .invokevirtual 277, 3, []), (19, .aload_n 0, 1, []), (20, .getfield 244, 3, []), (23, .ifCond .ne 34, 3, []), (26, .aload_n 0, 1, []), (27, .getfield 238, 3, []), (30, .aload_n 0, 1, []), (31, .getfield 210, 3, []), (34, .if_icmp .ge 23, 3, []), (37, .aload_n 0, 1, []), (38, .bipush 59, 2, []), (40, .invokevirtual 262, 3, []), (43, .aload_n 0, 1, []), (44, .getfield 244, 3, []), (47, .ifCond .ne (-28), 3, []), (50, .aload_n 0, 1, []), (51, .invokevirtual 277, 3, []), (54, .goto (-35), 3, []), (57, .aload_n 0, 1, []), (58, .getfield 244, 3, []), (61, .ifCond .eq 10, 3, []), (64, .aload_n 0, 1, []), (65, .getfield 238, 3, []), (68, .goto 5, 3, []), (71, .bipush (-6), 2, []), (73, .ireturn, 1, [])])
theorem okX8_fault : vm_okM mX8_fault := vm_okM_of (by decide +kernel)
theorem calX8_fault : vm_calI mX8_fault 0 := ⟨⟨ww_1063, ww_1064⟩, ww_1065, ww_97, by decide +kernel, by decide⟩
def mX8_tellOne : vm_Me := (yX8_tellOne, cX8_tellOne, 3, (some .int), [(0, .bipush 6, 2, []), (2, .iload_n 1, 1, []), (3, .imul, 1, []), (4, .istore_n 2, 1, []), (5, .aload_n 0, 1, []), (6, .aload_n 0, 1, []), (7, .getfield 47, 3, []), (10, .iload_n 2, 1, []), (11, .iaload, 1, []), (12, .aload_n 0, 1, []), (13, .getfield 47, 3, []), (16, .iload_n 2, 1, []), (17, .iconst 1, 1, []), (18, .iadd, 1, []), (19, .iaload, 1, []), (20, .aload_n 0, 1, []), (21, .getfield 47, 3, []), (24, .iload_n 2, 1, []), (25, .iconst 2, 1, []), (26, .iadd, 1, []), (27, .iaload, 1, []), (28, .aload_n 0, 1, []), (29, .getfield 47, 3, []), (32, .iload_n 2, 1, []), (33, .iconst 3, 1, []), (34, .iadd, 1, []), (35, .iaload, 1, []), (36, .aload_n 0, 1, []), (37, .getfield 47, 3, []), (40, .iload_n 2, 1, []), (41, .iconst 4, 1, []), (42, .iadd, 1, []), (43, .iaload, 1, []), (44, .aload_n 0, 1, []), (45, .getfield 47, 3, []), (48, .iload_n 2, 1, []), (49, .iconst 5, 1, []), (50, .iadd, 1, []), (51, .iaload, 1, []), (52, .iconst 0, 1, []), (53, .invokevirtual 203, 3, []), (56, .ireturn, 1, [])])
theorem okX8_tellOne : vm_okM mX8_tellOne := vm_okM_of (by decide +kernel)
theorem calX8_tellOne : vm_calI mX8_tellOne 1 := ⟨⟨ww_1117, ww_87⟩, ww_1118, ww_97, by decide +kernel, by decide⟩
def mX8_tell : vm_Me := (yX8_tell, cX8_tell, 2, (some .int), [(0, .aload_n 0, 1, []), (1, .invokevirtual 280, 3, []), (4, .ifCond .lt 6, 3, []), (7, .bipush (-3), 2, []), (9, .ireturn, 1, []), (10, .aload_n 0, 1, []), (11, .invokevirtual 61, 3, []), (14, .iconst 0, 1, []), (15, .istore_n 1, 1, []), (16, .iload_n 1, 1, []), (17, .aload_n 0, 1, []), (18, .getfield 241, 3, []), (21, .if_icmp .ge 17, 3, []), (24, .aload_n 0, 1, []), (25, .iload_n 1, 1, []), (26, .invokevirtual 283, 3, []), (29, .ifCond .lt 9, 3, []), (32, .iinc 1 1, 3, []), (35, .goto (-19), 3, []), (38, .aload_n 0, 1, []), (39, .iconst 0, 1, []), (40, .putfield 210, 3, []), (43, .iload_n 1, 1, []), (44, .ireturn, 1, [])])
theorem okX8_tell : vm_okM mX8_tell := vm_okM_of (by decide +kernel)
theorem calX8_tell : vm_calI mX8_tell 0 := ⟨⟨ww_1111, ww_1112⟩, ww_1113, ww_97, by decide +kernel, by decide⟩
def mX8_undo : vm_Me := (yX8_undo, cX8_undo, 3, (some .int), [(0, .aload_n 0, 1, []), (1, .getfield 54, 3, []), (4, .ifCond .ne 6, 3, []), (7, .bipush (-5), 2, []), (9, .ireturn, 1, []), (10, .aload_n 0, 1, []), (11, .dup, 1, []), (12, .getfield 54, 3, []), (15, .iconst 1, 1, []), (16, .isub, 1, []), (17, .putfield 54, 3, []), (20, .aload_n 0, 1, []), (21, .getfield 58, 3, []), (24, .aload_n 0, 1, []), (25, .getfield 54, 3, []), (28, .iadd, 1, []), (29, .bipush 6, 2, []), (31, .irem, 1, []), (32, .istore_n 1, 1, []), (33, .iconst 0, 1, []), (34, .istore_n 2, 1, []), (35, .iload_n 2, 1, []), (36, .bipush 62, 2, []), (38, .if_icmp .ge 26, 3, []), (41, .aload_n 0, 1, []), (42, .getfield 7, 3, []), (45, .iload_n 2, 1, []), (46, .aload_n 0, 1, []), (47, .getfield 13, 3, []), (50, .bipush 62, 2, []), (52, .iload_n 1, 1, []), (53, .imul, 1, []), (54, .iload_n 2, 1, []), (55, .iadd, 1, []), (56, .iaload, 1, []), (57, .iastore, 1, []), (58, .iinc 2 1, 3, []), (61, .goto (-26), 3, []), (64, .aload_n 0, 1, []), (65, .getfield 54, 3, []), (68, .ireturn, 1, [])])
theorem okX8_undo : vm_okM mX8_undo := vm_okM_of (by decide +kernel)
theorem calX8_undo : vm_calI mX8_undo 0 := ⟨⟨ww_1120, ww_1121⟩, ww_1122, ww_97, by decide +kernel, by decide⟩
def mX8_save : vm_Me := (yX8_save, cX8_save, 3, (some .int), [(0, .iload_n 1, 1, []), (1, .iconst 0, 1, []), (2, .iconst 1, 1, []), (3, .invokestatic 50, 3, []), (6, .ifCond .ne 6, 3, []), (9, .bipush (-2), 2, []), (11, .ireturn, 1, []), (12, .iconst 0, 1, []), (13, .istore_n 2, 1, []), (14, .iload_n 2, 1, []), (15, .bipush 62, 2, []), (17, .if_icmp .ge 26, 3, []), (20, .aload_n 0, 1, []), (21, .getfield 16, 3, []), (24, .bipush 62, 2, []), (26, .iload_n 1, 1, []), (27, .imul, 1, []), (28, .iload_n 2, 1, []), (29, .iadd, 1, []), (30, .aload_n 0, 1, []), (31, .getfield 7, 3, []), (34, .iload_n 2, 1, []), (35, .iaload, 1, []), (36, .iastore, 1, []), (37, .iinc 2 1, 3, []), (40, .goto (-26), 3, []), (43, .aload_n 0, 1, []), (44, .getfield 19, 3, []), (47, .iload_n 1, 1, []), (48, .iconst 1, 1, []), (49, .bastore, 1, []), (50, .aload_n 0, 1, []), (51, .getfield 7, 3, []), (54, .iconst 1, 1, []), (55, .iaload, 1, []), (56, .ireturn, 1, [])])
theorem okX8_save : vm_okM mX8_save := vm_okM_of (by decide +kernel)
theorem calX8_save : vm_calI mX8_save 1 := ⟨⟨ww_1124, ww_1125⟩, ww_1126, ww_97, by decide +kernel, by decide⟩
def mX8_restore : vm_Me := (yX8_restore, cX8_restore, 3, (some .int), [(0, .iload_n 1, 1, []), (1, .iconst 0, 1, []), (2, .iconst 1, 1, []), (3, .invokestatic 50, 3, []), (6, .ifCond .ne 6, 3, []), (9, .bipush (-2), 2, []), (11, .ireturn, 1, []), (12, .aload_n 0, 1, []), (13, .getfield 19, 3, []), (16, .iload_n 1, 1, []), (17, .baload, 1, []), (18, .ifCond .ne 6, 3, []), (21, .bipush (-5), 2, []), (23, .ireturn, 1, []), (24, .aload_n 0, 1, []), (25, .invokevirtual 61, 3, []), (28, .iconst 0, 1, []), (29, .istore_n 2, 1, []), (30, .iload_n 2, 1, []), (31, .bipush 62, 2, []), (33, .if_icmp .ge 26, 3, []), (36, .aload_n 0, 1, []), (37, .getfield 7, 3, []), (40, .iload_n 2, 1, []), (41, .aload_n 0, 1, []), (42, .getfield 16, 3, []), (45, .bipush 62, 2, []), (47, .iload_n 1, 1, []), (48, .imul, 1, []), (49, .iload_n 2, 1, []), (50, .iadd, 1, []), (51, .iaload, 1, []), (52, .iastore, 1, []), (53, .iinc 2 1, 3, []), (56, .goto (-26), 3, []), (59, .aload_n 0, 1, []), (60, .getfield 7, 3, []), (63, .iconst 1, 1, []), (64, .iaload, 1, []), (65, .ireturn, 1, [])])
theorem okX8_restore : vm_okM mX8_restore := vm_okM_of (by decide +kernel)
theorem calX8_restore : vm_calI mX8_restore 1 := ⟨⟨ww_1128, ww_1129⟩, ww_1130, ww_97, by decide +kernel, by decide⟩
end
