section
-- ===== PART A: goes FIRST, ahead of the names: the tables' words, and 'selects' of the private methods out of them =====
/-- a private method of a class that the tables say can be made, by its rows of tables_1 -/
def lw_okq (q : MethodName × Nat) : Prop := (q.1.cls ≠ "java/lang/invoke/MethodHandle" ∧ q.1.cls ≠ "java/lang/invoke/VarHandle") ∧ Cond.instantiable q.1.cls q.2 ∈ tables_1 ∧ Cond.privateMethod q.1 ∈ tables_1 ∧ Cond.instanceMethod q.1 ∈ tables_1
theorem lw_p0 : lw_okq (⟨"BagCounts", "recordState", "()V"⟩, 7) := ⟨⟨by decide +kernel, by decide +kernel⟩, List.mem_of_getElem? (i := 13) (by decide +kernel), List.mem_of_getElem? (i := 220) (by decide +kernel), List.mem_of_getElem? (i := 221) (by decide +kernel)⟩
theorem lw_p1 : lw_okq (⟨"BagCounts$Logic", "load", "(IZ)V"⟩, 3) := ⟨⟨by decide +kernel, by decide +kernel⟩, List.mem_of_getElem? (i := 42) (by decide +kernel), List.mem_of_getElem? (i := 308) (by decide +kernel), List.mem_of_getElem? (i := 309) (by decide +kernel)⟩
theorem lw_p2 : lw_okq (⟨"BagCounts$Logic", "hasSizeFact", "(I)Z"⟩, 3) := ⟨⟨by decide +kernel, by decide +kernel⟩, List.mem_of_getElem? (i := 42) (by decide +kernel), List.mem_of_getElem? (i := 312) (by decide +kernel), List.mem_of_getElem? (i := 313) (by decide +kernel)⟩
theorem lw_p3 : lw_okq (⟨"BagCounts$Rules", "open", "(III)V"⟩, 9) := ⟨⟨by decide +kernel, by decide +kernel⟩, List.mem_of_getElem? (i := 54) (by decide +kernel), List.mem_of_getElem? (i := 329) (by decide +kernel), List.mem_of_getElem? (i := 330) (by decide +kernel)⟩
theorem lw_p4 : lw_okq (⟨"BagCounts$Rules", "plus", "(II)V"⟩, 9) := ⟨⟨by decide +kernel, by decide +kernel⟩, List.mem_of_getElem? (i := 54) (by decide +kernel), List.mem_of_getElem? (i := 336) (by decide +kernel), List.mem_of_getElem? (i := 337) (by decide +kernel)⟩
theorem lw_p5 : lw_okq (⟨"BagCounts$Rules", "addTerm", "(II)V"⟩, 9) := ⟨⟨by decide +kernel, by decide +kernel⟩, List.mem_of_getElem? (i := 54) (by decide +kernel), List.mem_of_getElem? (i := 340) (by decide +kernel), List.mem_of_getElem? (i := 341) (by decide +kernel)⟩
theorem lw_p6 : lw_okq (⟨"BagCounts$Gaps", "apply", "(LBagCounts$Facts;I)V"⟩, 3) := ⟨⟨by decide +kernel, by decide +kernel⟩, List.mem_of_getElem? (i := 116) (by decide +kernel), List.mem_of_getElem? (i := 348) (by decide +kernel), List.mem_of_getElem? (i := 349) (by decide +kernel)⟩
theorem lw_p7 : lw_okq (⟨"BagCounts$Gaps", "narrow", "(IIII)V"⟩, 3) := ⟨⟨by decide +kernel, by decide +kernel⟩, List.mem_of_getElem? (i := 116) (by decide +kernel), List.mem_of_getElem? (i := 353) (by decide +kernel), List.mem_of_getElem? (i := 354) (by decide +kernel)⟩
theorem lw_p8 : lw_okq (⟨"BagCounts$Gaps", "of", "(III)I"⟩, 3) := ⟨⟨by decide +kernel, by decide +kernel⟩, List.mem_of_getElem? (i := 116) (by decide +kernel), List.mem_of_getElem? (i := 357) (by decide +kernel), List.mem_of_getElem? (i := 358) (by decide +kernel)⟩
theorem lw_p9 : lw_okq (⟨"BagCounts$Gaps", "chain", "(I)V"⟩, 3) := ⟨⟨by decide +kernel, by decide +kernel⟩, List.mem_of_getElem? (i := 116) (by decide +kernel), List.mem_of_getElem? (i := 364) (by decide +kernel), List.mem_of_getElem? (i := 365) (by decide +kernel)⟩
theorem lw_p10 : lw_okq (⟨"BagCounts$Logic", "addFact", "(IZ)V"⟩, 3) := ⟨⟨by decide +kernel, by decide +kernel⟩, List.mem_of_getElem? (i := 42) (by decide +kernel), List.mem_of_getElem? (i := 377) (by decide +kernel), List.mem_of_getElem? (i := 378) (by decide +kernel)⟩
theorem lw_p11 : lw_okq (⟨"BagCounts$Logic", "addColumn", "(IIIII)V"⟩, 3) := ⟨⟨by decide +kernel, by decide +kernel⟩, List.mem_of_getElem? (i := 42) (by decide +kernel), List.mem_of_getElem? (i := 392) (by decide +kernel), List.mem_of_getElem? (i := 393) (by decide +kernel)⟩
theorem lw_p12 : lw_okq (⟨"BagCounts$Search", "settle", "(II)Z"⟩, 5) := ⟨⟨by decide +kernel, by decide +kernel⟩, List.mem_of_getElem? (i := 48) (by decide +kernel), List.mem_of_getElem? (i := 413) (by decide +kernel), List.mem_of_getElem? (i := 414) (by decide +kernel)⟩
theorem lw_p13 : lw_okq (⟨"BagCounts$Search", "tightenLinear", "(II)Z"⟩, 5) := ⟨⟨by decide +kernel, by decide +kernel⟩, List.mem_of_getElem? (i := 48) (by decide +kernel), List.mem_of_getElem? (i := 417) (by decide +kernel), List.mem_of_getElem? (i := 418) (by decide +kernel)⟩
theorem lw_p14 : lw_okq (⟨"BagCounts$Search", "leastTerm", "(II)I"⟩, 5) := ⟨⟨by decide +kernel, by decide +kernel⟩, List.mem_of_getElem? (i := 48) (by decide +kernel), List.mem_of_getElem? (i := 421) (by decide +kernel), List.mem_of_getElem? (i := 422) (by decide +kernel)⟩
theorem lw_p15 : lw_okq (⟨"BagCounts$Search", "greatestTerm", "(II)I"⟩, 5) := ⟨⟨by decide +kernel, by decide +kernel⟩, List.mem_of_getElem? (i := 48) (by decide +kernel), List.mem_of_getElem? (i := 425) (by decide +kernel), List.mem_of_getElem? (i := 426) (by decide +kernel)⟩
def lw_privs_1 : List (MethodName × Nat) := [(⟨"BagCounts", "recordState", "()V"⟩, 7), (⟨"BagCounts$Logic", "load", "(IZ)V"⟩, 3), (⟨"BagCounts$Logic", "hasSizeFact", "(I)Z"⟩, 3), (⟨"BagCounts$Rules", "open", "(III)V"⟩, 9), (⟨"BagCounts$Rules", "plus", "(II)V"⟩, 9), (⟨"BagCounts$Rules", "addTerm", "(II)V"⟩, 9), (⟨"BagCounts$Gaps", "apply", "(LBagCounts$Facts;I)V"⟩, 3), (⟨"BagCounts$Gaps", "narrow", "(IIII)V"⟩, 3), (⟨"BagCounts$Gaps", "of", "(III)I"⟩, 3), (⟨"BagCounts$Gaps", "chain", "(I)V"⟩, 3), (⟨"BagCounts$Logic", "addFact", "(IZ)V"⟩, 3), (⟨"BagCounts$Logic", "addColumn", "(IIIII)V"⟩, 3), (⟨"BagCounts$Search", "settle", "(II)Z"⟩, 5), (⟨"BagCounts$Search", "tightenLinear", "(II)Z"⟩, 5), (⟨"BagCounts$Search", "leastTerm", "(II)I"⟩, 5), (⟨"BagCounts$Search", "greatestTerm", "(II)I"⟩, 5)]
theorem lw_r1 : ∀ q ∈ lw_privs_1, lw_okq q := List.forall_mem_cons.mpr ⟨lw_p0, List.forall_mem_cons.mpr ⟨lw_p1, List.forall_mem_cons.mpr ⟨lw_p2, List.forall_mem_cons.mpr ⟨lw_p3, List.forall_mem_cons.mpr ⟨lw_p4, List.forall_mem_cons.mpr ⟨lw_p5, List.forall_mem_cons.mpr ⟨lw_p6, List.forall_mem_cons.mpr ⟨lw_p7, List.forall_mem_cons.mpr ⟨lw_p8, List.forall_mem_cons.mpr ⟨lw_p9, List.forall_mem_cons.mpr ⟨lw_p10, List.forall_mem_cons.mpr ⟨lw_p11, List.forall_mem_cons.mpr ⟨lw_p12, List.forall_mem_cons.mpr ⟨lw_p13, List.forall_mem_cons.mpr ⟨lw_p14, List.forall_mem_cons.mpr ⟨lw_p15, fun _ h => absurd h List.not_mem_nil⟩⟩⟩⟩⟩⟩⟩⟩⟩⟩⟩⟩⟩⟩⟩⟩
theorem lw_p16 : lw_okq (⟨"BagCounts$Search", "keep", "(IIII)Z"⟩, 5) := ⟨⟨by decide +kernel, by decide +kernel⟩, List.mem_of_getElem? (i := 48) (by decide +kernel), List.mem_of_getElem? (i := 429) (by decide +kernel), List.mem_of_getElem? (i := 430) (by decide +kernel)⟩
theorem lw_p17 : lw_okq (⟨"BagCounts$Search", "tightenChoice", "(II)Z"⟩, 5) := ⟨⟨by decide +kernel, by decide +kernel⟩, List.mem_of_getElem? (i := 48) (by decide +kernel), List.mem_of_getElem? (i := 433) (by decide +kernel), List.mem_of_getElem? (i := 434) (by decide +kernel)⟩
theorem lw_p18 : lw_okq (⟨"BagCounts$Search", "waysFrom", "(II)I"⟩, 5) := ⟨⟨by decide +kernel, by decide +kernel⟩, List.mem_of_getElem? (i := 48) (by decide +kernel), List.mem_of_getElem? (i := 437) (by decide +kernel), List.mem_of_getElem? (i := 438) (by decide +kernel)⟩
theorem lw_p19 : lw_okq (⟨"BagCounts$Search", "unfixed", "(II)I"⟩, 5) := ⟨⟨by decide +kernel, by decide +kernel⟩, List.mem_of_getElem? (i := 48) (by decide +kernel), List.mem_of_getElem? (i := 444) (by decide +kernel), List.mem_of_getElem? (i := 445) (by decide +kernel)⟩
theorem lw_p20 : lw_okq (⟨"BagCounts$Search", "partOf", "(II)I"⟩, 5) := ⟨⟨by decide +kernel, by decide +kernel⟩, List.mem_of_getElem? (i := 48) (by decide +kernel), List.mem_of_getElem? (i := 448) (by decide +kernel), List.mem_of_getElem? (i := 449) (by decide +kernel)⟩
theorem lw_p21 : lw_okq (⟨"BagCounts$Search", "isSure", "(II)Z"⟩, 5) := ⟨⟨by decide +kernel, by decide +kernel⟩, List.mem_of_getElem? (i := 48) (by decide +kernel), List.mem_of_getElem? (i := 452) (by decide +kernel), List.mem_of_getElem? (i := 453) (by decide +kernel)⟩
theorem lw_p22 : lw_okq (⟨"BagCounts$Search", "choose", "(II)I"⟩, 5) := ⟨⟨by decide +kernel, by decide +kernel⟩, List.mem_of_getElem? (i := 48) (by decide +kernel), List.mem_of_getElem? (i := 456) (by decide +kernel), List.mem_of_getElem? (i := 457) (by decide +kernel)⟩
theorem lw_p23 : lw_okq (⟨"BagCounts$Search", "fix", "(III)V"⟩, 5) := ⟨⟨by decide +kernel, by decide +kernel⟩, List.mem_of_getElem? (i := 48) (by decide +kernel), List.mem_of_getElem? (i := 460) (by decide +kernel), List.mem_of_getElem? (i := 461) (by decide +kernel)⟩
theorem lw_p24 : lw_okq (⟨"BagCounts$Logic", "addOpposite", "(II)V"⟩, 3) := ⟨⟨by decide +kernel, by decide +kernel⟩, List.mem_of_getElem? (i := 42) (by decide +kernel), List.mem_of_getElem? (i := 521) (by decide +kernel), List.mem_of_getElem? (i := 522) (by decide +kernel)⟩
theorem lw_p25 : lw_okq (⟨"BagCounts$Logic", "restrictOutside", "(IIII)V"⟩, 3) := ⟨⟨by decide +kernel, by decide +kernel⟩, List.mem_of_getElem? (i := 42) (by decide +kernel), List.mem_of_getElem? (i := 525) (by decide +kernel), List.mem_of_getElem? (i := 526) (by decide +kernel)⟩
theorem lw_p26 : lw_okq (⟨"BagCounts$Logic", "addOppositeOfKind", "(IIIII)V"⟩, 3) := ⟨⟨by decide +kernel, by decide +kernel⟩, List.mem_of_getElem? (i := 42) (by decide +kernel), List.mem_of_getElem? (i := 529) (by decide +kernel), List.mem_of_getElem? (i := 530) (by decide +kernel)⟩
theorem lw_p27 : lw_okq (⟨"BagCounts$Pad", "readFact", "()Z"⟩, 9) := ⟨⟨by decide +kernel, by decide +kernel⟩, List.mem_of_getElem? (i := 142) (by decide +kernel), List.mem_of_getElem? (i := 579) (by decide +kernel), List.mem_of_getElem? (i := 580) (by decide +kernel)⟩
theorem lw_p28 : lw_okq (⟨"BagCounts$Pad", "skip", "(C)Z"⟩, 9) := ⟨⟨by decide +kernel, by decide +kernel⟩, List.mem_of_getElem? (i := 142) (by decide +kernel), List.mem_of_getElem? (i := 583) (by decide +kernel), List.mem_of_getElem? (i := 584) (by decide +kernel)⟩
theorem lw_p29 : lw_okq (⟨"BagCounts$Pad", "take", "(CC)I"⟩, 9) := ⟨⟨by decide +kernel, by decide +kernel⟩, List.mem_of_getElem? (i := 142) (by decide +kernel), List.mem_of_getElem? (i := 587) (by decide +kernel), List.mem_of_getElem? (i := 588) (by decide +kernel)⟩
theorem lw_p30 : lw_okq (⟨"BagCounts$Pad", "readSize", "()Z"⟩, 9) := ⟨⟨by decide +kernel, by decide +kernel⟩, List.mem_of_getElem? (i := 142) (by decide +kernel), List.mem_of_getElem? (i := 591) (by decide +kernel), List.mem_of_getElem? (i := 592) (by decide +kernel)⟩
theorem lw_p31 : lw_okq (⟨"BagCounts$Pad", "takeNumber", "()I"⟩, 9) := ⟨⟨by decide +kernel, by decide +kernel⟩, List.mem_of_getElem? (i := 142) (by decide +kernel), List.mem_of_getElem? (i := 595) (by decide +kernel), List.mem_of_getElem? (i := 596) (by decide +kernel)⟩
def lw_privs_2 : List (MethodName × Nat) := [(⟨"BagCounts$Search", "keep", "(IIII)Z"⟩, 5), (⟨"BagCounts$Search", "tightenChoice", "(II)Z"⟩, 5), (⟨"BagCounts$Search", "waysFrom", "(II)I"⟩, 5), (⟨"BagCounts$Search", "unfixed", "(II)I"⟩, 5), (⟨"BagCounts$Search", "partOf", "(II)I"⟩, 5), (⟨"BagCounts$Search", "isSure", "(II)Z"⟩, 5), (⟨"BagCounts$Search", "choose", "(II)I"⟩, 5), (⟨"BagCounts$Search", "fix", "(III)V"⟩, 5), (⟨"BagCounts$Logic", "addOpposite", "(II)V"⟩, 3), (⟨"BagCounts$Logic", "restrictOutside", "(IIII)V"⟩, 3), (⟨"BagCounts$Logic", "addOppositeOfKind", "(IIIII)V"⟩, 3), (⟨"BagCounts$Pad", "readFact", "()Z"⟩, 9), (⟨"BagCounts$Pad", "skip", "(C)Z"⟩, 9), (⟨"BagCounts$Pad", "take", "(CC)I"⟩, 9), (⟨"BagCounts$Pad", "readSize", "()Z"⟩, 9), (⟨"BagCounts$Pad", "takeNumber", "()I"⟩, 9)]
theorem lw_r2 : ∀ q ∈ lw_privs_2, lw_okq q := List.forall_mem_cons.mpr ⟨lw_p16, List.forall_mem_cons.mpr ⟨lw_p17, List.forall_mem_cons.mpr ⟨lw_p18, List.forall_mem_cons.mpr ⟨lw_p19, List.forall_mem_cons.mpr ⟨lw_p20, List.forall_mem_cons.mpr ⟨lw_p21, List.forall_mem_cons.mpr ⟨lw_p22, List.forall_mem_cons.mpr ⟨lw_p23, List.forall_mem_cons.mpr ⟨lw_p24, List.forall_mem_cons.mpr ⟨lw_p25, List.forall_mem_cons.mpr ⟨lw_p26, List.forall_mem_cons.mpr ⟨lw_p27, List.forall_mem_cons.mpr ⟨lw_p28, List.forall_mem_cons.mpr ⟨lw_p29, List.forall_mem_cons.mpr ⟨lw_p30, List.forall_mem_cons.mpr ⟨lw_p31, fun _ h => absurd h List.not_mem_nil⟩⟩⟩⟩⟩⟩⟩⟩⟩⟩⟩⟩⟩⟩⟩⟩
theorem lw_p32 : lw_okq (⟨"BagCounts$Pad", "takeRangeEnd", "(I)I"⟩, 9) := ⟨⟨by decide +kernel, by decide +kernel⟩, List.mem_of_getElem? (i := 142) (by decide +kernel), List.mem_of_getElem? (i := 599) (by decide +kernel), List.mem_of_getElem? (i := 600) (by decide +kernel)⟩
theorem lw_p33 : lw_okq (⟨"BagCounts$Pad", "readOfKind", "()Z"⟩, 9) := ⟨⟨by decide +kernel, by decide +kernel⟩, List.mem_of_getElem? (i := 142) (by decide +kernel), List.mem_of_getElem? (i := 603) (by decide +kernel), List.mem_of_getElem? (i := 604) (by decide +kernel)⟩
theorem lw_p34 : lw_okq (⟨"BagCounts$Pad", "readDifference", "()Z"⟩, 9) := ⟨⟨by decide +kernel, by decide +kernel⟩, List.mem_of_getElem? (i := 142) (by decide +kernel), List.mem_of_getElem? (i := 607) (by decide +kernel), List.mem_of_getElem? (i := 608) (by decide +kernel)⟩
theorem lw_p35 : lw_okq (⟨"BagCounts$Pad", "readOfThreeBags", "()Z"⟩, 9) := ⟨⟨by decide +kernel, by decide +kernel⟩, List.mem_of_getElem? (i := 142) (by decide +kernel), List.mem_of_getElem? (i := 611) (by decide +kernel), List.mem_of_getElem? (i := 612) (by decide +kernel)⟩
theorem lw_p36 : lw_okq (⟨"BagCounts$Pad", "takeSign", "()I"⟩, 9) := ⟨⟨by decide +kernel, by decide +kernel⟩, List.mem_of_getElem? (i := 142) (by decide +kernel), List.mem_of_getElem? (i := 615) (by decide +kernel), List.mem_of_getElem? (i := 616) (by decide +kernel)⟩
theorem lw_p37 : lw_okq (⟨"BagCountsModel", "keep", "()V"⟩, 23) := ⟨⟨by decide +kernel, by decide +kernel⟩, List.mem_of_getElem? (i := 650) (by decide +kernel), List.mem_of_getElem? (i := 734) (by decide +kernel), List.mem_of_getElem? (i := 735) (by decide +kernel)⟩
theorem lw_p38 : lw_okq (⟨"BagCountsModel", "tryFact", "(IIIIIIZ)I"⟩, 23) := ⟨⟨by decide +kernel, by decide +kernel⟩, List.mem_of_getElem? (i := 650) (by decide +kernel), List.mem_of_getElem? (i := 742) (by decide +kernel), List.mem_of_getElem? (i := 743) (by decide +kernel)⟩
theorem lw_p39 : lw_okq (⟨"BagCountsModel", "keepIf", "(Z)V"⟩, 23) := ⟨⟨by decide +kernel, by decide +kernel⟩, List.mem_of_getElem? (i := 650) (by decide +kernel), List.mem_of_getElem? (i := 755) (by decide +kernel), List.mem_of_getElem? (i := 756) (by decide +kernel)⟩
theorem lw_p40 : lw_okq (⟨"BagCountsModel", "isToldFact", "(I)Z"⟩, 23) := ⟨⟨by decide +kernel, by decide +kernel⟩, List.mem_of_getElem? (i := 650) (by decide +kernel), List.mem_of_getElem? (i := 763) (by decide +kernel), List.mem_of_getElem? (i := 764) (by decide +kernel)⟩
theorem lw_p41 : lw_okq (⟨"BagCountsModel", "of", "(II)I"⟩, 23) := ⟨⟨by decide +kernel, by decide +kernel⟩, List.mem_of_getElem? (i := 650) (by decide +kernel), List.mem_of_getElem? (i := 771) (by decide +kernel), List.mem_of_getElem? (i := 772) (by decide +kernel)⟩
theorem lw_p42 : lw_okq (⟨"BagCountsModel", "isSolvedNow", "()Z"⟩, 23) := ⟨⟨by decide +kernel, by decide +kernel⟩, List.mem_of_getElem? (i := 650) (by decide +kernel), List.mem_of_getElem? (i := 783) (by decide +kernel), List.mem_of_getElem? (i := 784) (by decide +kernel)⟩
theorem lw_p43 : lw_okq (⟨"BagCountsModel", "allFacts", "()I"⟩, 23) := ⟨⟨by decide +kernel, by decide +kernel⟩, List.mem_of_getElem? (i := 650) (by decide +kernel), List.mem_of_getElem? (i := 787) (by decide +kernel), List.mem_of_getElem? (i := 788) (by decide +kernel)⟩
theorem lw_p44 : lw_okq (⟨"BagCountsModel", "isSolved", "(I)Z"⟩, 23) := ⟨⟨by decide +kernel, by decide +kernel⟩, List.mem_of_getElem? (i := 650) (by decide +kernel), List.mem_of_getElem? (i := 791) (by decide +kernel), List.mem_of_getElem? (i := 792) (by decide +kernel)⟩
theorem lw_p45 : lw_okq (⟨"BagCountsModel", "layAll", "()V"⟩, 23) := ⟨⟨by decide +kernel, by decide +kernel⟩, List.mem_of_getElem? (i := 650) (by decide +kernel), List.mem_of_getElem? (i := 795) (by decide +kernel), List.mem_of_getElem? (i := 796) (by decide +kernel)⟩
theorem lw_p46 : lw_okq (⟨"BagCountsModel", "isSolvedByParts", "()Z"⟩, 23) := ⟨⟨by decide +kernel, by decide +kernel⟩, List.mem_of_getElem? (i := 650) (by decide +kernel), List.mem_of_getElem? (i := 799) (by decide +kernel), List.mem_of_getElem? (i := 800) (by decide +kernel)⟩
theorem lw_p47 : lw_okq (⟨"BagCountsModel", "narrow", "()Z"⟩, 23) := ⟨⟨by decide +kernel, by decide +kernel⟩, List.mem_of_getElem? (i := 650) (by decide +kernel), List.mem_of_getElem? (i := 803) (by decide +kernel), List.mem_of_getElem? (i := 804) (by decide +kernel)⟩
def lw_privs_3 : List (MethodName × Nat) := [(⟨"BagCounts$Pad", "takeRangeEnd", "(I)I"⟩, 9), (⟨"BagCounts$Pad", "readOfKind", "()Z"⟩, 9), (⟨"BagCounts$Pad", "readDifference", "()Z"⟩, 9), (⟨"BagCounts$Pad", "readOfThreeBags", "()Z"⟩, 9), (⟨"BagCounts$Pad", "takeSign", "()I"⟩, 9), (⟨"BagCountsModel", "keep", "()V"⟩, 23), (⟨"BagCountsModel", "tryFact", "(IIIIIIZ)I"⟩, 23), (⟨"BagCountsModel", "keepIf", "(Z)V"⟩, 23), (⟨"BagCountsModel", "isToldFact", "(I)Z"⟩, 23), (⟨"BagCountsModel", "of", "(II)I"⟩, 23), (⟨"BagCountsModel", "isSolvedNow", "()Z"⟩, 23), (⟨"BagCountsModel", "allFacts", "()I"⟩, 23), (⟨"BagCountsModel", "isSolved", "(I)Z"⟩, 23), (⟨"BagCountsModel", "layAll", "()V"⟩, 23), (⟨"BagCountsModel", "isSolvedByParts", "()Z"⟩, 23), (⟨"BagCountsModel", "narrow", "()Z"⟩, 23)]
theorem lw_r3 : ∀ q ∈ lw_privs_3, lw_okq q := List.forall_mem_cons.mpr ⟨lw_p32, List.forall_mem_cons.mpr ⟨lw_p33, List.forall_mem_cons.mpr ⟨lw_p34, List.forall_mem_cons.mpr ⟨lw_p35, List.forall_mem_cons.mpr ⟨lw_p36, List.forall_mem_cons.mpr ⟨lw_p37, List.forall_mem_cons.mpr ⟨lw_p38, List.forall_mem_cons.mpr ⟨lw_p39, List.forall_mem_cons.mpr ⟨lw_p40, List.forall_mem_cons.mpr ⟨lw_p41, List.forall_mem_cons.mpr ⟨lw_p42, List.forall_mem_cons.mpr ⟨lw_p43, List.forall_mem_cons.mpr ⟨lw_p44, List.forall_mem_cons.mpr ⟨lw_p45, List.forall_mem_cons.mpr ⟨lw_p46, List.forall_mem_cons.mpr ⟨lw_p47, fun _ h => absurd h List.not_mem_nil⟩⟩⟩⟩⟩⟩⟩⟩⟩⟩⟩⟩⟩⟩⟩⟩
theorem lw_p48 : lw_okq (⟨"BagCountsModel", "isEmpty", "()Z"⟩, 23) := ⟨⟨by decide +kernel, by decide +kernel⟩, List.mem_of_getElem? (i := 650) (by decide +kernel), List.mem_of_getElem? (i := 807) (by decide +kernel), List.mem_of_getElem? (i := 808) (by decide +kernel)⟩
theorem lw_p49 : lw_okq (⟨"BagCountsModel", "narrowBy", "(IIIIII)V"⟩, 23) := ⟨⟨by decide +kernel, by decide +kernel⟩, List.mem_of_getElem? (i := 650) (by decide +kernel), List.mem_of_getElem? (i := 811) (by decide +kernel), List.mem_of_getElem? (i := 812) (by decide +kernel)⟩
theorem lw_p50 : lw_okq (⟨"BagCountsModel", "raise", "(II)V"⟩, 23) := ⟨⟨by decide +kernel, by decide +kernel⟩, List.mem_of_getElem? (i := 650) (by decide +kernel), List.mem_of_getElem? (i := 815) (by decide +kernel), List.mem_of_getElem? (i := 816) (by decide +kernel)⟩
theorem lw_p51 : lw_okq (⟨"BagCountsModel", "lower", "(II)V"⟩, 23) := ⟨⟨by decide +kernel, by decide +kernel⟩, List.mem_of_getElem? (i := 650) (by decide +kernel), List.mem_of_getElem? (i := 819) (by decide +kernel), List.mem_of_getElem? (i := 820) (by decide +kernel)⟩
theorem lw_p52 : lw_okq (⟨"BagCountsModel", "narrowSize", "(III)V"⟩, 23) := ⟨⟨by decide +kernel, by decide +kernel⟩, List.mem_of_getElem? (i := 650) (by decide +kernel), List.mem_of_getElem? (i := 823) (by decide +kernel), List.mem_of_getElem? (i := 824) (by decide +kernel)⟩
theorem lw_p53 : lw_okq (⟨"BagCountsModel", "narrowMore", "(III)V"⟩, 23) := ⟨⟨by decide +kernel, by decide +kernel⟩, List.mem_of_getElem? (i := 650) (by decide +kernel), List.mem_of_getElem? (i := 827) (by decide +kernel), List.mem_of_getElem? (i := 828) (by decide +kernel)⟩
theorem lw_p54 : lw_okq (⟨"BagCountsModel", "narrowBelow", "(III)V"⟩, 23) := ⟨⟨by decide +kernel, by decide +kernel⟩, List.mem_of_getElem? (i := 650) (by decide +kernel), List.mem_of_getElem? (i := 831) (by decide +kernel), List.mem_of_getElem? (i := 832) (by decide +kernel)⟩
theorem lw_p55 : lw_okq (⟨"BagCountsModel", "narrowAbove", "(III)V"⟩, 23) := ⟨⟨by decide +kernel, by decide +kernel⟩, List.mem_of_getElem? (i := 650) (by decide +kernel), List.mem_of_getElem? (i := 835) (by decide +kernel), List.mem_of_getElem? (i := 836) (by decide +kernel)⟩
theorem lw_p56 : lw_okq (⟨"BagCountsModel", "narrowKind", "(IIII)V"⟩, 23) := ⟨⟨by decide +kernel, by decide +kernel⟩, List.mem_of_getElem? (i := 650) (by decide +kernel), List.mem_of_getElem? (i := 839) (by decide +kernel), List.mem_of_getElem? (i := 840) (by decide +kernel)⟩
theorem lw_p57 : lw_okq (⟨"BagCountsModel", "narrowSum", "(III)V"⟩, 23) := ⟨⟨by decide +kernel, by decide +kernel⟩, List.mem_of_getElem? (i := 650) (by decide +kernel), List.mem_of_getElem? (i := 843) (by decide +kernel), List.mem_of_getElem? (i := 844) (by decide +kernel)⟩
theorem lw_p58 : lw_okq (⟨"BagCountsModel", "narrowTwice", "(II)V"⟩, 23) := ⟨⟨by decide +kernel, by decide +kernel⟩, List.mem_of_getElem? (i := 650) (by decide +kernel), List.mem_of_getElem? (i := 847) (by decide +kernel), List.mem_of_getElem? (i := 848) (by decide +kernel)⟩
theorem lw_p59 : lw_okq (⟨"BagCountsModel", "narrowGreatest", "(III)V"⟩, 23) := ⟨⟨by decide +kernel, by decide +kernel⟩, List.mem_of_getElem? (i := 650) (by decide +kernel), List.mem_of_getElem? (i := 851) (by decide +kernel), List.mem_of_getElem? (i := 852) (by decide +kernel)⟩
theorem lw_p60 : lw_okq (⟨"BagCountsModel", "narrowLeast", "(III)V"⟩, 23) := ⟨⟨by decide +kernel, by decide +kernel⟩, List.mem_of_getElem? (i := 650) (by decide +kernel), List.mem_of_getElem? (i := 858) (by decide +kernel), List.mem_of_getElem? (i := 859) (by decide +kernel)⟩
theorem lw_p61 : lw_okq (⟨"BagCountsModel", "part", "(I)I"⟩, 23) := ⟨⟨by decide +kernel, by decide +kernel⟩, List.mem_of_getElem? (i := 650) (by decide +kernel), List.mem_of_getElem? (i := 865) (by decide +kernel), List.mem_of_getElem? (i := 866) (by decide +kernel)⟩
theorem lw_p62 : lw_okq (⟨"BagCountsModel", "joinedTo", "(I)I"⟩, 23) := ⟨⟨by decide +kernel, by decide +kernel⟩, List.mem_of_getElem? (i := 650) (by decide +kernel), List.mem_of_getElem? (i := 869) (by decide +kernel), List.mem_of_getElem? (i := 870) (by decide +kernel)⟩
theorem lw_p63 : lw_okq (⟨"BagCountsModel", "search", "(II)I"⟩, 23) := ⟨⟨by decide +kernel, by decide +kernel⟩, List.mem_of_getElem? (i := 650) (by decide +kernel), List.mem_of_getElem? (i := 879) (by decide +kernel), List.mem_of_getElem? (i := 880) (by decide +kernel)⟩
def lw_privs_4 : List (MethodName × Nat) := [(⟨"BagCountsModel", "isEmpty", "()Z"⟩, 23), (⟨"BagCountsModel", "narrowBy", "(IIIIII)V"⟩, 23), (⟨"BagCountsModel", "raise", "(II)V"⟩, 23), (⟨"BagCountsModel", "lower", "(II)V"⟩, 23), (⟨"BagCountsModel", "narrowSize", "(III)V"⟩, 23), (⟨"BagCountsModel", "narrowMore", "(III)V"⟩, 23), (⟨"BagCountsModel", "narrowBelow", "(III)V"⟩, 23), (⟨"BagCountsModel", "narrowAbove", "(III)V"⟩, 23), (⟨"BagCountsModel", "narrowKind", "(IIII)V"⟩, 23), (⟨"BagCountsModel", "narrowSum", "(III)V"⟩, 23), (⟨"BagCountsModel", "narrowTwice", "(II)V"⟩, 23), (⟨"BagCountsModel", "narrowGreatest", "(III)V"⟩, 23), (⟨"BagCountsModel", "narrowLeast", "(III)V"⟩, 23), (⟨"BagCountsModel", "part", "(I)I"⟩, 23), (⟨"BagCountsModel", "joinedTo", "(I)I"⟩, 23), (⟨"BagCountsModel", "search", "(II)I"⟩, 23)]
theorem lw_r4 : ∀ q ∈ lw_privs_4, lw_okq q := List.forall_mem_cons.mpr ⟨lw_p48, List.forall_mem_cons.mpr ⟨lw_p49, List.forall_mem_cons.mpr ⟨lw_p50, List.forall_mem_cons.mpr ⟨lw_p51, List.forall_mem_cons.mpr ⟨lw_p52, List.forall_mem_cons.mpr ⟨lw_p53, List.forall_mem_cons.mpr ⟨lw_p54, List.forall_mem_cons.mpr ⟨lw_p55, List.forall_mem_cons.mpr ⟨lw_p56, List.forall_mem_cons.mpr ⟨lw_p57, List.forall_mem_cons.mpr ⟨lw_p58, List.forall_mem_cons.mpr ⟨lw_p59, List.forall_mem_cons.mpr ⟨lw_p60, List.forall_mem_cons.mpr ⟨lw_p61, List.forall_mem_cons.mpr ⟨lw_p62, List.forall_mem_cons.mpr ⟨lw_p63, fun _ h => absurd h List.not_mem_nil⟩⟩⟩⟩⟩⟩⟩⟩⟩⟩⟩⟩⟩⟩⟩⟩
theorem lw_p64 : lw_okq (⟨"BagCountsModel", "narrowest", "(I)I"⟩, 23) := ⟨⟨by decide +kernel, by decide +kernel⟩, List.mem_of_getElem? (i := 650) (by decide +kernel), List.mem_of_getElem? (i := 883) (by decide +kernel), List.mem_of_getElem? (i := 884) (by decide +kernel)⟩
theorem lw_p65 : lw_okq (⟨"BagCountsModel", "push", "(I)V"⟩, 23) := ⟨⟨by decide +kernel, by decide +kernel⟩, List.mem_of_getElem? (i := 650) (by decide +kernel), List.mem_of_getElem? (i := 887) (by decide +kernel), List.mem_of_getElem? (i := 888) (by decide +kernel)⟩
theorem lw_p66 : lw_okq (⟨"BagCountsModel", "pull", "(I)V"⟩, 23) := ⟨⟨by decide +kernel, by decide +kernel⟩, List.mem_of_getElem? (i := 650) (by decide +kernel), List.mem_of_getElem? (i := 891) (by decide +kernel), List.mem_of_getElem? (i := 892) (by decide +kernel)⟩
theorem lw_p67 : lw_okq (⟨"BagCountsModel", "boundBy", "(IIII)I"⟩, 23) := ⟨⟨by decide +kernel, by decide +kernel⟩, List.mem_of_getElem? (i := 650) (by decide +kernel), List.mem_of_getElem? (i := 902) (by decide +kernel), List.mem_of_getElem? (i := 903) (by decide +kernel)⟩
theorem lw_p68 : lw_okq (⟨"BagCountsModel", "isSolvedWith", "(IIIIIII)Z"⟩, 23) := ⟨⟨by decide +kernel, by decide +kernel⟩, List.mem_of_getElem? (i := 650) (by decide +kernel), List.mem_of_getElem? (i := 906) (by decide +kernel), List.mem_of_getElem? (i := 907) (by decide +kernel)⟩
theorem lw_p69 : lw_okq (⟨"BagCountsModel", "add", "(IIIIII)V"⟩, 23) := ⟨⟨by decide +kernel, by decide +kernel⟩, List.mem_of_getElem? (i := 650) (by decide +kernel), List.mem_of_getElem? (i := 910) (by decide +kernel), List.mem_of_getElem? (i := 911) (by decide +kernel)⟩
theorem lw_p70 : lw_okq (⟨"BagCountsModel", "findFirst", "()V"⟩, 23) := ⟨⟨by decide +kernel, by decide +kernel⟩, List.mem_of_getElem? (i := 650) (by decide +kernel), List.mem_of_getElem? (i := 922) (by decide +kernel), List.mem_of_getElem? (i := 923) (by decide +kernel)⟩
theorem lw_p71 : lw_okq (⟨"BagCountsModel", "isSolvedFrom", "(I)Z"⟩, 23) := ⟨⟨by decide +kernel, by decide +kernel⟩, List.mem_of_getElem? (i := 650) (by decide +kernel), List.mem_of_getElem? (i := 926) (by decide +kernel), List.mem_of_getElem? (i := 927) (by decide +kernel)⟩
theorem lw_p72 : lw_okq (⟨"BagCountsModel", "countAll", "(I)I"⟩, 23) := ⟨⟨by decide +kernel, by decide +kernel⟩, List.mem_of_getElem? (i := 650) (by decide +kernel), List.mem_of_getElem? (i := 934) (by decide +kernel), List.mem_of_getElem? (i := 935) (by decide +kernel)⟩
theorem lw_p73 : lw_okq (⟨"BagCountsModel", "canFail", "(IIIIIII)Z"⟩, 23) := ⟨⟨by decide +kernel, by decide +kernel⟩, List.mem_of_getElem? (i := 650) (by decide +kernel), List.mem_of_getElem? (i := 942) (by decide +kernel), List.mem_of_getElem? (i := 943) (by decide +kernel)⟩
theorem lw_p74 : lw_okq (⟨"BagCountsModel", "failsAt", "(IIIIII)Z"⟩, 23) := ⟨⟨by decide +kernel, by decide +kernel⟩, List.mem_of_getElem? (i := 650) (by decide +kernel), List.mem_of_getElem? (i := 946) (by decide +kernel), List.mem_of_getElem? (i := 947) (by decide +kernel)⟩
theorem lw_p75 : lw_okq (⟨"BagCountsModel", "isSolvedWithBoth", "(IIIIIZ)Z"⟩, 23) := ⟨⟨by decide +kernel, by decide +kernel⟩, List.mem_of_getElem? (i := 650) (by decide +kernel), List.mem_of_getElem? (i := 950) (by decide +kernel), List.mem_of_getElem? (i := 951) (by decide +kernel)⟩
theorem lw_p76 : lw_okq (⟨"BagCountsModel", "takeFact", "()V"⟩, 23) := ⟨⟨by decide +kernel, by decide +kernel⟩, List.mem_of_getElem? (i := 650) (by decide +kernel), List.mem_of_getElem? (i := 979) (by decide +kernel), List.mem_of_getElem? (i := 980) (by decide +kernel)⟩
theorem lw_p77 : lw_okq (⟨"BagCountsModel", "enter", "(II)V"⟩, 23) := ⟨⟨by decide +kernel, by decide +kernel⟩, List.mem_of_getElem? (i := 650) (by decide +kernel), List.mem_of_getElem? (i := 983) (by decide +kernel), List.mem_of_getElem? (i := 984) (by decide +kernel)⟩
theorem lw_p78 : lw_okq (⟨"BagCountsModel", "next", "()I"⟩, 23) := ⟨⟨by decide +kernel, by decide +kernel⟩, List.mem_of_getElem? (i := 650) (by decide +kernel), List.mem_of_getElem? (i := 987) (by decide +kernel), List.mem_of_getElem? (i := 988) (by decide +kernel)⟩
theorem lw_p79 : lw_okq (⟨"BagCountsModel", "takeOne", "(III)V"⟩, 23) := ⟨⟨by decide +kernel, by decide +kernel⟩, List.mem_of_getElem? (i := 650) (by decide +kernel), List.mem_of_getElem? (i := 991) (by decide +kernel), List.mem_of_getElem? (i := 992) (by decide +kernel)⟩
def lw_privs_5 : List (MethodName × Nat) := [(⟨"BagCountsModel", "narrowest", "(I)I"⟩, 23), (⟨"BagCountsModel", "push", "(I)V"⟩, 23), (⟨"BagCountsModel", "pull", "(I)V"⟩, 23), (⟨"BagCountsModel", "boundBy", "(IIII)I"⟩, 23), (⟨"BagCountsModel", "isSolvedWith", "(IIIIIII)Z"⟩, 23), (⟨"BagCountsModel", "add", "(IIIIII)V"⟩, 23), (⟨"BagCountsModel", "findFirst", "()V"⟩, 23), (⟨"BagCountsModel", "isSolvedFrom", "(I)Z"⟩, 23), (⟨"BagCountsModel", "countAll", "(I)I"⟩, 23), (⟨"BagCountsModel", "canFail", "(IIIIIII)Z"⟩, 23), (⟨"BagCountsModel", "failsAt", "(IIIIII)Z"⟩, 23), (⟨"BagCountsModel", "isSolvedWithBoth", "(IIIIIZ)Z"⟩, 23), (⟨"BagCountsModel", "takeFact", "()V"⟩, 23), (⟨"BagCountsModel", "enter", "(II)V"⟩, 23), (⟨"BagCountsModel", "next", "()I"⟩, 23), (⟨"BagCountsModel", "takeOne", "(III)V"⟩, 23)]
theorem lw_r5 : ∀ q ∈ lw_privs_5, lw_okq q := List.forall_mem_cons.mpr ⟨lw_p64, List.forall_mem_cons.mpr ⟨lw_p65, List.forall_mem_cons.mpr ⟨lw_p66, List.forall_mem_cons.mpr ⟨lw_p67, List.forall_mem_cons.mpr ⟨lw_p68, List.forall_mem_cons.mpr ⟨lw_p69, List.forall_mem_cons.mpr ⟨lw_p70, List.forall_mem_cons.mpr ⟨lw_p71, List.forall_mem_cons.mpr ⟨lw_p72, List.forall_mem_cons.mpr ⟨lw_p73, List.forall_mem_cons.mpr ⟨lw_p74, List.forall_mem_cons.mpr ⟨lw_p75, List.forall_mem_cons.mpr ⟨lw_p76, List.forall_mem_cons.mpr ⟨lw_p77, List.forall_mem_cons.mpr ⟨lw_p78, List.forall_mem_cons.mpr ⟨lw_p79, fun _ h => absurd h List.not_mem_nil⟩⟩⟩⟩⟩⟩⟩⟩⟩⟩⟩⟩⟩⟩⟩⟩
theorem lw_p80 : lw_okq (⟨"BagCountsModel", "takeSign", "(I)V"⟩, 23) := ⟨⟨by decide +kernel, by decide +kernel⟩, List.mem_of_getElem? (i := 650) (by decide +kernel), List.mem_of_getElem? (i := 995) (by decide +kernel), List.mem_of_getElem? (i := 996) (by decide +kernel)⟩
theorem lw_p81 : lw_okq (⟨"BagCountsModel", "takeRange", "(I)V"⟩, 23) := ⟨⟨by decide +kernel, by decide +kernel⟩, List.mem_of_getElem? (i := 650) (by decide +kernel), List.mem_of_getElem? (i := 999) (by decide +kernel), List.mem_of_getElem? (i := 1000) (by decide +kernel)⟩
theorem lw_p82 : lw_okq (⟨"BagCountsModel", "takeNumber", "(I)V"⟩, 23) := ⟨⟨by decide +kernel, by decide +kernel⟩, List.mem_of_getElem? (i := 650) (by decide +kernel), List.mem_of_getElem? (i := 1003) (by decide +kernel), List.mem_of_getElem? (i := 1004) (by decide +kernel)⟩
theorem lw_p83 : lw_okq (⟨"BagCountsModel", "takeBag", "()V"⟩, 23) := ⟨⟨by decide +kernel, by decide +kernel⟩, List.mem_of_getElem? (i := 650) (by decide +kernel), List.mem_of_getElem? (i := 1007) (by decide +kernel), List.mem_of_getElem? (i := 1008) (by decide +kernel)⟩
theorem lw_p84 : lw_okq (⟨"BagCountsModel", "takeBags", "(I)V"⟩, 23) := ⟨⟨by decide +kernel, by decide +kernel⟩, List.mem_of_getElem? (i := 650) (by decide +kernel), List.mem_of_getElem? (i := 1011) (by decide +kernel), List.mem_of_getElem? (i := 1012) (by decide +kernel)⟩
theorem lw_p85 : lw_okq (⟨"BagCountsModel", "takeKind", "()V"⟩, 23) := ⟨⟨by decide +kernel, by decide +kernel⟩, List.mem_of_getElem? (i := 650) (by decide +kernel), List.mem_of_getElem? (i := 1015) (by decide +kernel), List.mem_of_getElem? (i := 1016) (by decide +kernel)⟩
theorem lw_p86 : lw_okq (⟨"BagCountsModel", "takeMore", "()V"⟩, 23) := ⟨⟨by decide +kernel, by decide +kernel⟩, List.mem_of_getElem? (i := 650) (by decide +kernel), List.mem_of_getElem? (i := 1019) (by decide +kernel), List.mem_of_getElem? (i := 1020) (by decide +kernel)⟩
theorem lw_p87 : lw_okq (⟨"BagCountsModel", "tellOne", "(I)I"⟩, 23) := ⟨⟨by decide +kernel, by decide +kernel⟩, List.mem_of_getElem? (i := 650) (by decide +kernel), List.mem_of_getElem? (i := 1028) (by decide +kernel), List.mem_of_getElem? (i := 1029) (by decide +kernel)⟩
def lw_privs_6 : List (MethodName × Nat) := [(⟨"BagCountsModel", "takeSign", "(I)V"⟩, 23), (⟨"BagCountsModel", "takeRange", "(I)V"⟩, 23), (⟨"BagCountsModel", "takeNumber", "(I)V"⟩, 23), (⟨"BagCountsModel", "takeBag", "()V"⟩, 23), (⟨"BagCountsModel", "takeBags", "(I)V"⟩, 23), (⟨"BagCountsModel", "takeKind", "()V"⟩, 23), (⟨"BagCountsModel", "takeMore", "()V"⟩, 23), (⟨"BagCountsModel", "tellOne", "(I)I"⟩, 23)]
theorem lw_r6 : ∀ q ∈ lw_privs_6, lw_okq q := List.forall_mem_cons.mpr ⟨lw_p80, List.forall_mem_cons.mpr ⟨lw_p81, List.forall_mem_cons.mpr ⟨lw_p82, List.forall_mem_cons.mpr ⟨lw_p83, List.forall_mem_cons.mpr ⟨lw_p84, List.forall_mem_cons.mpr ⟨lw_p85, List.forall_mem_cons.mpr ⟨lw_p86, List.forall_mem_cons.mpr ⟨lw_p87, fun _ h => absurd h List.not_mem_nil⟩⟩⟩⟩⟩⟩⟩⟩
def lw_privs : List (MethodName × Nat) := lw_privs_1 ++ (lw_privs_2 ++ (lw_privs_3 ++ (lw_privs_4 ++ (lw_privs_5 ++ (lw_privs_6)))))
def lw_tbl : List Cond := k2_sels lw_privs ++ tables_1
theorem lw_privs_ok : ∀ q ∈ lw_privs, lw_okq q := by
  show ∀ q ∈ lw_privs_1 ++ (lw_privs_2 ++ (lw_privs_3 ++ (lw_privs_4 ++ (lw_privs_5 ++ (lw_privs_6))))), lw_okq q
  exact List.forall_mem_append.mpr ⟨lw_r1, List.forall_mem_append.mpr ⟨lw_r2, List.forall_mem_append.mpr ⟨lw_r3, List.forall_mem_append.mpr ⟨lw_r4, List.forall_mem_append.mpr ⟨lw_r5, lw_r6⟩⟩⟩⟩⟩
end
section
def RX0 : String := "BagCounts$Facts"
def TX0 : u_T := fun k => match k with
  | 0 => ("BagCounts$Facts", "numbers", "[I", true)
  | 1 => ("BagCounts$Facts", "known", "I", false)
  | _ => ("BagCounts$Facts", "most", "I", false)
def tyX0 : Nat → FieldType := fun k => match k with
  | 0 => .array .int
  | 1 => .int
  | _ => .int
abbrev wsX00 : List Cond := u_ws RX0 TX0 3
theorem nmX0 : ∀ a, a < 3 → ∀ b, b < 3 → a ≠ b → (TX0 a).2.1 ≠ (TX0 b).2.1 := by decide +kernel
theorem tyX0_ok : ∀ k, k < 3 → parseFieldDescriptor (TX0 k).2.2.1 = some (tyX0 k) := by decide +kernel
abbrev cX0_init : ByteArray := prog_2_method_1_code
def yX0_init : MethodName := ⟨RX0, "<init>", "()V"⟩
abbrev cX0_has : ByteArray := prog_2_method_2_code
def yX0_has : MethodName := ⟨RX0, "has", "(I)Z"⟩
abbrev cX0_isFull : ByteArray := prog_2_method_3_code
def yX0_isFull : MethodName := ⟨RX0, "isFull", "()Z"⟩
abbrev cX0_all : ByteArray := prog_2_method_4_code
def yX0_all : MethodName := ⟨RX0, "all", "()I"⟩
abbrev cX0_number : ByteArray := prog_2_method_5_code
def yX0_number : MethodName := ⟨RX0, "number", "(II)I"⟩
abbrev cX0_ask : ByteArray := prog_2_method_6_code
def yX0_ask : MethodName := ⟨RX0, "ask", "(IIIIII)Z"⟩
abbrev cX0_keepAsked : ByteArray := prog_2_method_7_code
def yX0_keepAsked : MethodName := ⟨RX0, "keepAsked", "()I"⟩
abbrev cX0_remove : ByteArray := prog_2_method_8_code
def yX0_remove : MethodName := ⟨RX0, "remove", "(I)V"⟩
abbrev cX0_writeTo : ByteArray := prog_2_method_9_code
def yX0_writeTo : MethodName := ⟨RX0, "writeTo", "([II)V"⟩
abbrev cX0_readFrom : ByteArray := prog_2_method_10_code
def yX0_readFrom : MethodName := ⟨RX0, "readFrom", "([II)V"⟩
abbrev cX0_isFact : ByteArray := prog_2_method_11_code
def yX0_isFact : MethodName := ⟨RX0, "isFact", "(IIIIII)Z"⟩
abbrev cX0_isRange : ByteArray := prog_2_method_12_code
def yX0_isRange : MethodName := ⟨RX0, "isRange", "(III)Z"⟩
def RX1 : String := "BagCounts$Gaps"
def TX1 : u_T := fun k => match k with
  | 0 => ("BagCounts$Gaps", "gaps", "[I", true)
  | 1 => ("BagCounts$Gaps", "most", "I", false)
  | _ => ("BagCounts$Gaps", "isNarrowed", "Z", false)
def tyX1 : Nat → FieldType := fun k => match k with
  | 0 => .array .int
  | 1 => .int
  | _ => .boolean
abbrev wsX10 : List Cond := u_ws RX1 TX1 3
theorem nmX1 : ∀ a, a < 3 → ∀ b, b < 3 → a ≠ b → (TX1 a).2.1 ≠ (TX1 b).2.1 := by decide +kernel
theorem tyX1_ok : ∀ k, k < 3 → parseFieldDescriptor (TX1 k).2.2.1 = some (tyX1 k) := by decide +kernel
abbrev cX1_init : ByteArray := prog_3_method_1_code
def yX1_init : MethodName := ⟨RX1, "<init>", "()V"⟩
abbrev cX1_close : ByteArray := prog_3_method_2_code
def yX1_close : MethodName := ⟨RX1, "close", "(LBagCounts$Facts;I)V"⟩
abbrev cX1_addTo : ByteArray := prog_3_method_3_code
def yX1_addTo : MethodName := ⟨RX1, "addTo", "(LBagCounts$Rules;Z)V"⟩
abbrev cX1_of : ByteArray := prog_3_method_4_code
def yX1_of : MethodName := ⟨RX1, "of", "(III)I"⟩
abbrev cX1_narrow : ByteArray := prog_3_method_5_code
def yX1_narrow : MethodName := ⟨RX1, "narrow", "(IIII)V"⟩
abbrev cX1_chain : ByteArray := prog_3_method_6_code
def yX1_chain : MethodName := ⟨RX1, "chain", "(I)V"⟩
abbrev cX1_apply : ByteArray := prog_3_method_7_code
def yX1_apply : MethodName := ⟨RX1, "apply", "(LBagCounts$Facts;I)V"⟩
def RX2 : String := "BagCounts$Logic"
def TX2 : u_T := fun k => match k with
  | 0 => ("BagCounts$Logic", "facts", "LBagCounts$Facts;", true)
  | 1 => ("BagCounts$Logic", "search", "LBagCounts$Search;", true)
  | _ => ("BagCounts$Logic", "gaps", "LBagCounts$Gaps;", true)
def tyX2 : Nat → FieldType := fun k => match k with
  | 0 => .object "BagCounts$Facts"
  | 1 => .object "BagCounts$Search"
  | _ => .object "BagCounts$Gaps"
abbrev wsX20 : List Cond := u_ws RX2 TX2 3
theorem nmX2 : ∀ a, a < 3 → ∀ b, b < 3 → a ≠ b → (TX2 a).2.1 ≠ (TX2 b).2.1 := by decide +kernel
theorem tyX2_ok : ∀ k, k < 3 → parseFieldDescriptor (TX2 k).2.2.1 = some (tyX2 k) := by decide +kernel
abbrev cX2_init : ByteArray := prog_4_method_1_code
def yX2_init : MethodName := ⟨RX2, "<init>", "(LBagCounts$Facts;)V"⟩
abbrev cX2_canHold : ByteArray := prog_4_method_2_code
def yX2_canHold : MethodName := ⟨RX2, "canHold", "(I)Z"⟩
abbrev cX2_canFail : ByteArray := prog_4_method_3_code
def yX2_canFail : MethodName := ⟨RX2, "canFail", "(II)Z"⟩
abbrev cX2_howMany : ByteArray := prog_4_method_4_code
def yX2_howMany : MethodName := ⟨RX2, "howMany", "(I)I"⟩
abbrev cX2_extreme : ByteArray := prog_4_method_5_code
def yX2_extreme : MethodName := ⟨RX2, "extreme", "(IIZ)I"⟩
abbrev cX2_inLeastSolution : ByteArray := prog_4_method_6_code
def yX2_inLeastSolution : MethodName := ⟨RX2, "inLeastSolution", "(I)I"⟩
abbrev cX2_load : ByteArray := prog_4_method_7_code
def yX2_load : MethodName := ⟨RX2, "load", "(IZ)V"⟩
abbrev cX2_hasSizeFact : ByteArray := prog_4_method_8_code
def yX2_hasSizeFact : MethodName := ⟨RX2, "hasSizeFact", "(I)Z"⟩
abbrev cX2_addFact : ByteArray := prog_4_method_9_code
def yX2_addFact : MethodName := ⟨RX2, "addFact", "(IZ)V"⟩
abbrev cX2_addColumn : ByteArray := prog_4_method_10_code
def yX2_addColumn : MethodName := ⟨RX2, "addColumn", "(IIIII)V"⟩
abbrev cX2_addOpposite : ByteArray := prog_4_method_11_code
def yX2_addOpposite : MethodName := ⟨RX2, "addOpposite", "(II)V"⟩
abbrev cX2_restrictOutside : ByteArray := prog_4_method_12_code
def yX2_restrictOutside : MethodName := ⟨RX2, "restrictOutside", "(IIII)V"⟩
abbrev cX2_addOppositeOfKind : ByteArray := prog_4_method_13_code
def yX2_addOppositeOfKind : MethodName := ⟨RX2, "addOppositeOfKind", "(IIIII)V"⟩
def RX3 : String := "BagCounts$Pad"
def TX3 : u_T := fun k => match k with
  | 0 => ("BagCounts$Pad", "text", "[C", true)
  | 1 => ("BagCounts$Pad", "length", "I", false)
  | 2 => ("BagCounts$Pad", "at", "I", false)
  | 3 => ("BagCounts$Pad", "form", "I", false)
  | 4 => ("BagCounts$Pad", "a", "I", false)
  | 5 => ("BagCounts$Pad", "b", "I", false)
  | 6 => ("BagCounts$Pad", "c", "I", false)
  | 7 => ("BagCounts$Pad", "d", "I", false)
  | _ => ("BagCounts$Pad", "e", "I", false)
def tyX3 : Nat → FieldType := fun k => match k with
  | 0 => .array .char
  | 1 => .int
  | 2 => .int
  | 3 => .int
  | 4 => .int
  | 5 => .int
  | 6 => .int
  | 7 => .int
  | _ => .int
abbrev wsX30 : List Cond := u_ws RX3 TX3 9
theorem nmX3 : ∀ a, a < 9 → ∀ b, b < 9 → a ≠ b → (TX3 a).2.1 ≠ (TX3 b).2.1 := by decide +kernel
theorem tyX3_ok : ∀ k, k < 9 → parseFieldDescriptor (TX3 k).2.2.1 = some (tyX3 k) := by decide +kernel
abbrev cX3_init : ByteArray := prog_5_method_1_code
def yX3_init : MethodName := ⟨RX3, "<init>", "()V"⟩
abbrev cX3_lengthOf : ByteArray := prog_5_method_2_code
def yX3_lengthOf : MethodName := ⟨RX3, "lengthOf", "(J)I"⟩
abbrev cX3_hasRoomFor : ByteArray := prog_5_method_3_code
def yX3_hasRoomFor : MethodName := ⟨RX3, "hasRoomFor", "(I)Z"⟩
abbrev cX3_append : ByteArray := prog_5_method_4_code
def yX3_append : MethodName := ⟨RX3, "append", "(JI)V"⟩
abbrev cX3_clear : ByteArray := prog_5_method_5_code
def yX3_clear : MethodName := ⟨RX3, "clear", "()I"⟩
abbrev cX3_firstFault : ByteArray := prog_5_method_6_code
def yX3_firstFault : MethodName := ⟨RX3, "firstFault", "()I"⟩
abbrev cX3_tellAll : ByteArray := prog_5_method_7_code
def yX3_tellAll : MethodName := ⟨RX3, "tellAll", "(LBagCounts$Facts;)I"⟩
abbrev cX3_readFact : ByteArray := prog_5_method_8_code
def yX3_readFact : MethodName := ⟨RX3, "readFact", "()Z"⟩
abbrev cX3_readSize : ByteArray := prog_5_method_9_code
def yX3_readSize : MethodName := ⟨RX3, "readSize", "()Z"⟩
abbrev cX3_readOfThreeBags : ByteArray := prog_5_method_10_code
def yX3_readOfThreeBags : MethodName := ⟨RX3, "readOfThreeBags", "()Z"⟩
abbrev cX3_readOfKind : ByteArray := prog_5_method_11_code
def yX3_readOfKind : MethodName := ⟨RX3, "readOfKind", "()Z"⟩
abbrev cX3_readDifference : ByteArray := prog_5_method_12_code
def yX3_readDifference : MethodName := ⟨RX3, "readDifference", "()Z"⟩
abbrev cX3_takeSign : ByteArray := prog_5_method_13_code
def yX3_takeSign : MethodName := ⟨RX3, "takeSign", "()I"⟩
abbrev cX3_takeRangeEnd : ByteArray := prog_5_method_14_code
def yX3_takeRangeEnd : MethodName := ⟨RX3, "takeRangeEnd", "(I)I"⟩
abbrev cX3_takeNumber : ByteArray := prog_5_method_15_code
def yX3_takeNumber : MethodName := ⟨RX3, "takeNumber", "()I"⟩
abbrev cX3_skip : ByteArray := prog_5_method_16_code
def yX3_skip : MethodName := ⟨RX3, "skip", "(C)Z"⟩
abbrev cX3_take : ByteArray := prog_5_method_17_code
def yX3_take : MethodName := ⟨RX3, "take", "(CC)I"⟩
def RX4 : String := "BagCounts$Rules"
def TX4 : u_T := fun k => match k with
  | 0 => ("BagCounts$Rules", "type", "[I", true)
  | 1 => ("BagCounts$Rules", "low", "[I", true)
  | 2 => ("BagCounts$Rules", "high", "[I", true)
  | 3 => ("BagCounts$Rules", "mask", "[I", true)
  | 4 => ("BagCounts$Rules", "terms", "[I", true)
  | 5 => ("BagCounts$Rules", "variable", "[I", true)
  | 6 => ("BagCounts$Rules", "factor", "[I", true)
  | 7 => ("BagCounts$Rules", "weight", "[I", true)
  | _ => ("BagCounts$Rules", "size", "I", false)
def tyX4 : Nat → FieldType := fun k => match k with
  | 0 => .array .int
  | 1 => .array .int
  | 2 => .array .int
  | 3 => .array .int
  | 4 => .array .int
  | 5 => .array .int
  | 6 => .array .int
  | 7 => .array .int
  | _ => .int
abbrev wsX40 : List Cond := u_ws RX4 TX4 9
theorem nmX4 : ∀ a, a < 9 → ∀ b, b < 9 → a ≠ b → (TX4 a).2.1 ≠ (TX4 b).2.1 := by decide +kernel
theorem tyX4_ok : ∀ k, k < 9 → parseFieldDescriptor (TX4 k).2.2.1 = some (tyX4 k) := by decide +kernel
abbrev cX4_init : ByteArray := prog_6_method_1_code
def yX4_init : MethodName := ⟨RX4, "<init>", "()V"⟩
abbrev cX4_clear : ByteArray := prog_6_method_2_code
def yX4_clear : MethodName := ⟨RX4, "clear", "()V"⟩
abbrev cX4_total : ByteArray := prog_6_method_3_code
def yX4_total : MethodName := ⟨RX4, "total", "(I)V"⟩
abbrev cX4_difference : ByteArray := prog_6_method_4_code
def yX4_difference : MethodName := ⟨RX4, "difference", "(III)V"⟩
abbrev cX4_sum : ByteArray := prog_6_method_5_code
def yX4_sum : MethodName := ⟨RX4, "sum", "(IIIII)V"⟩
abbrev cX4_choice : ByteArray := prog_6_method_6_code
def yX4_choice : MethodName := ⟨RX4, "choice", "(IIII)V"⟩
abbrev cX4_open : ByteArray := prog_6_method_7_code
def yX4_open : MethodName := ⟨RX4, "open", "(III)V"⟩
abbrev cX4_plus : ByteArray := prog_6_method_8_code
def yX4_plus : MethodName := ⟨RX4, "plus", "(II)V"⟩
abbrev cX4_addTerm : ByteArray := prog_6_method_9_code
def yX4_addTerm : MethodName := ⟨RX4, "addTerm", "(II)V"⟩
def RX5 : String := "BagCounts$Search"
def TX5 : u_T := fun k => match k with
  | 0 => ("BagCounts$Search", "rules", "LBagCounts$Rules;", true)
  | 1 => ("BagCounts$Search", "low", "[I", true)
  | 2 => ("BagCounts$Search", "high", "[I", true)
  | 3 => ("BagCounts$Search", "withSizes", "Z", false)
  | _ => ("BagCounts$Search", "narrowed", "I", false)
def tyX5 : Nat → FieldType := fun k => match k with
  | 0 => .object "BagCounts$Rules"
  | 1 => .array .int
  | 2 => .array .int
  | 3 => .boolean
  | _ => .int
abbrev wsX50 : List Cond := u_ws RX5 TX5 5
theorem nmX5 : ∀ a, a < 5 → ∀ b, b < 5 → a ≠ b → (TX5 a).2.1 ≠ (TX5 b).2.1 := by decide +kernel
theorem tyX5_ok : ∀ k, k < 5 → parseFieldDescriptor (TX5 k).2.2.1 = some (tyX5 k) := by decide +kernel
abbrev cX5_init : ByteArray := prog_7_method_1_code
def yX5_init : MethodName := ⟨RX5, "<init>", "()V"⟩
abbrev cX5_variable : ByteArray := prog_7_method_2_code
def yX5_variable : MethodName := ⟨RX5, "variable", "(II)I"⟩
abbrev cX5_begin : ByteArray := prog_7_method_3_code
def yX5_begin : MethodName := ⟨RX5, "begin", "(IZ)V"⟩
abbrev cX5_restrict : ByteArray := prog_7_method_4_code
def yX5_restrict : MethodName := ⟨RX5, "restrict", "(III)V"⟩
abbrev cX5_settleAll : ByteArray := prog_7_method_5_code
def yX5_settleAll : MethodName := ⟨RX5, "settleAll", "()Z"⟩
abbrev cX5_settleOn : ByteArray := prog_7_method_6_code
def yX5_settleOn : MethodName := ⟨RX5, "settleOn", "(II)V"⟩
abbrev cX5_howMany : ByteArray := prog_7_method_7_code
def yX5_howMany : MethodName := ⟨RX5, "howMany", "(I)I"⟩
abbrev cX5_canBe : ByteArray := prog_7_method_8_code
def yX5_canBe : MethodName := ⟨RX5, "canBe", "(II)Z"⟩
abbrev cX5_waysFrom : ByteArray := prog_7_method_9_code
def yX5_waysFrom : MethodName := ⟨RX5, "waysFrom", "(II)I"⟩
abbrev cX5_ways : ByteArray := prog_7_method_10_code
def yX5_ways : MethodName := ⟨RX5, "ways", "(LBagCounts$Search;III)I"⟩
abbrev cX5_unfixed : ByteArray := prog_7_method_11_code
def yX5_unfixed : MethodName := ⟨RX5, "unfixed", "(II)I"⟩
abbrev cX5_partOf : ByteArray := prog_7_method_12_code
def yX5_partOf : MethodName := ⟨RX5, "partOf", "(II)I"⟩
abbrev cX5_choose : ByteArray := prog_7_method_13_code
def yX5_choose : MethodName := ⟨RX5, "choose", "(II)I"⟩
abbrev cX5_fix : ByteArray := prog_7_method_14_code
def yX5_fix : MethodName := ⟨RX5, "fix", "(III)V"⟩
abbrev cX5_settle : ByteArray := prog_7_method_15_code
def yX5_settle : MethodName := ⟨RX5, "settle", "(II)Z"⟩
abbrev cX5_tightenLinear : ByteArray := prog_7_method_16_code
def yX5_tightenLinear : MethodName := ⟨RX5, "tightenLinear", "(II)Z"⟩
abbrev cX5_tightenChoice : ByteArray := prog_7_method_17_code
def yX5_tightenChoice : MethodName := ⟨RX5, "tightenChoice", "(II)Z"⟩
abbrev cX5_isSure : ByteArray := prog_7_method_18_code
def yX5_isSure : MethodName := ⟨RX5, "isSure", "(II)Z"⟩
abbrev cX5_leastTerm : ByteArray := prog_7_method_19_code
def yX5_leastTerm : MethodName := ⟨RX5, "leastTerm", "(II)I"⟩
abbrev cX5_greatestTerm : ByteArray := prog_7_method_20_code
def yX5_greatestTerm : MethodName := ⟨RX5, "greatestTerm", "(II)I"⟩
abbrev cX5_keep : ByteArray := prog_7_method_21_code
def yX5_keep : MethodName := ⟨RX5, "keep", "(IIII)Z"⟩
def RX6 : String := "BagCounts$States"
def TX6 : u_T := fun k => match k with
  | 0 => ("BagCounts$States", "rows", "I", true)
  | _ => ("BagCounts$States", "cells", "[I", true)
def tyX6 : Nat → FieldType := fun k => match k with
  | 0 => .int
  | _ => .array .int
abbrev wsX60 : List Cond := u_ws RX6 TX6 2
theorem nmX6 : ∀ a, a < 2 → ∀ b, b < 2 → a ≠ b → (TX6 a).2.1 ≠ (TX6 b).2.1 := by decide +kernel
theorem tyX6_ok : ∀ k, k < 2 → parseFieldDescriptor (TX6 k).2.2.1 = some (tyX6 k) := by decide +kernel
abbrev cX6_init : ByteArray := prog_8_method_1_code
def yX6_init : MethodName := ⟨RX6, "<init>", "(I)V"⟩
abbrev cX6_store : ByteArray := prog_8_method_2_code
def yX6_store : MethodName := ⟨RX6, "store", "(ILBagCounts$Facts;)V"⟩
abbrev cX6_load : ByteArray := prog_8_method_3_code
def yX6_load : MethodName := ⟨RX6, "load", "(ILBagCounts$Facts;)V"⟩
abbrev cX6_dropFirst : ByteArray := prog_8_method_4_code
def yX6_dropFirst : MethodName := ⟨RX6, "dropFirst", "()V"⟩
def RX7 : String := "BagCounts"
def TX7 : u_T := fun k => match k with
  | 0 => ("BagCounts", "facts", "LBagCounts$Facts;", true)
  | 1 => ("BagCounts", "logic", "LBagCounts$Logic;", true)
  | 2 => ("BagCounts", "pad", "LBagCounts$Pad;", true)
  | 3 => ("BagCounts", "history", "LBagCounts$States;", true)
  | 4 => ("BagCounts", "slots", "LBagCounts$States;", true)
  | 5 => ("BagCounts", "historySize", "I", false)
  | _ => ("BagCounts", "filledSlots", "I", false)
def tyX7 : Nat → FieldType := fun k => match k with
  | 0 => .object "BagCounts$Facts"
  | 1 => .object "BagCounts$Logic"
  | 2 => .object "BagCounts$Pad"
  | 3 => .object "BagCounts$States"
  | 4 => .object "BagCounts$States"
  | 5 => .int
  | _ => .int
abbrev wsX70 : List Cond := u_ws RX7 TX7 7
theorem nmX7 : ∀ a, a < 7 → ∀ b, b < 7 → a ≠ b → (TX7 a).2.1 ≠ (TX7 b).2.1 := by decide +kernel
theorem tyX7_ok : ∀ k, k < 7 → parseFieldDescriptor (TX7 k).2.2.1 = some (tyX7 k) := by decide +kernel
abbrev cX7_init : ByteArray := prog_1_method_1_code
def yX7_init : MethodName := ⟨RX7, "<init>", "()V"⟩
abbrev cX7_most : ByteArray := prog_1_method_2_code
def yX7_most : MethodName := ⟨RX7, "most", "(I)I"⟩
abbrev cX7_fact : ByteArray := prog_1_method_3_code
def yX7_fact : MethodName := ⟨RX7, "fact", "(IIIIII)I"⟩
abbrev cX7_drop : ByteArray := prog_1_method_4_code
def yX7_drop : MethodName := ⟨RX7, "drop", "(I)I"⟩
abbrev cX7_ofFact : ByteArray := prog_1_method_5_code
def yX7_ofFact : MethodName := ⟨RX7, "ofFact", "(II)I"⟩
abbrev cX7_count : ByteArray := prog_1_method_6_code
def yX7_count : MethodName := ⟨RX7, "count", "(I)I"⟩
abbrev cX7_isPossible : ByteArray := prog_1_method_7_code
def yX7_isPossible : MethodName := ⟨RX7, "isPossible", "()I"⟩
abbrev cX7_bound : ByteArray := prog_1_method_8_code
def yX7_bound : MethodName := ⟨RX7, "bound", "(III)I"⟩
abbrev cX7_sizeOf : ByteArray := prog_1_method_9_code
def yX7_sizeOf : MethodName := ⟨RX7, "sizeOf", "(II)I"⟩
abbrev cX7_least : ByteArray := prog_1_method_10_code
def yX7_least : MethodName := ⟨RX7, "least", "(II)I"⟩
abbrev cX7_solutions : ByteArray := prog_1_method_11_code
def yX7_solutions : MethodName := ⟨RX7, "solutions", "(I)I"⟩
abbrev cX7_follows : ByteArray := prog_1_method_12_code
def yX7_follows : MethodName := ⟨RX7, "follows", "(IIIIII)I"⟩
abbrev cX7_contradiction : ByteArray := prog_1_method_13_code
def yX7_contradiction : MethodName := ⟨RX7, "contradiction", "()I"⟩
abbrev cX7_reason : ByteArray := prog_1_method_14_code
def yX7_reason : MethodName := ⟨RX7, "reason", "(III)I"⟩
abbrev cX7_needless : ByteArray := prog_1_method_15_code
def yX7_needless : MethodName := ⟨RX7, "needless", "()I"⟩
abbrev cX7_put : ByteArray := prog_1_method_16_code
def yX7_put : MethodName := ⟨RX7, "put", "(J)I"⟩
abbrev cX7_wipe : ByteArray := prog_1_method_17_code
def yX7_wipe : MethodName := ⟨RX7, "wipe", "()I"⟩
abbrev cX7_fault : ByteArray := prog_1_method_18_code
def yX7_fault : MethodName := ⟨RX7, "fault", "()I"⟩
abbrev cX7_tell : ByteArray := prog_1_method_19_code
def yX7_tell : MethodName := ⟨RX7, "tell", "()I"⟩
abbrev cX7_undo : ByteArray := prog_1_method_20_code
def yX7_undo : MethodName := ⟨RX7, "undo", "()I"⟩
abbrev cX7_save : ByteArray := prog_1_method_21_code
def yX7_save : MethodName := ⟨RX7, "save", "(I)I"⟩
abbrev cX7_restore : ByteArray := prog_1_method_22_code
def yX7_restore : MethodName := ⟨RX7, "restore", "(I)I"⟩
abbrev cX7_recordState : ByteArray := prog_1_method_23_code
def yX7_recordState : MethodName := ⟨RX7, "recordState", "()V"⟩
abbrev cX7_refusalOfBound : ByteArray := prog_1_method_24_code
def yX7_refusalOfBound : MethodName := ⟨RX7, "refusalOfBound", "(III)I"⟩
abbrev cX7_isBag : ByteArray := prog_1_method_25_code
def yX7_isBag : MethodName := ⟨RX7, "isBag", "(I)Z"⟩
abbrev cX7_isKind : ByteArray := prog_1_method_26_code
def yX7_isKind : MethodName := ⟨RX7, "isKind", "(I)Z"⟩
abbrev cX7_isWithin : ByteArray := prog_1_method_27_code
def yX7_isWithin : MethodName := ⟨RX7, "isWithin", "(III)Z"⟩
def RX8 : String := "BagCountsModel"
def TX8 : u_T := fun k => match k with
  | 0 => ("BagCountsModel", "at", "[I", true)
  | 1 => ("BagCountsModel", "past", "[I", true)
  | 2 => ("BagCountsModel", "pastFirst", "I", false)
  | 3 => ("BagCountsModel", "pastMany", "I", false)
  | 4 => ("BagCountsModel", "slots", "[I", true)
  | 5 => ("BagCountsModel", "isSaved", "[Z", true)
  | 6 => ("BagCountsModel", "lo", "[I", true)
  | 7 => ("BagCountsModel", "hi", "[I", true)
  | 8 => ("BagCountsModel", "extra", "[I", true)
  | 9 => ("BagCountsModel", "extras", "I", false)
  | 10 => ("BagCountsModel", "used", "I", false)
  | 11 => ("BagCountsModel", "changed", "Z", false)
  | 12 => ("BagCountsModel", "failed", "I", false)
  | 13 => ("BagCountsModel", "wasLo", "[I", true)
  | 14 => ("BagCountsModel", "wasHi", "[I", true)
  | 15 => ("BagCountsModel", "tried", "[I", true)
  | 16 => ("BagCountsModel", "first", "[I", true)
  | 17 => ("BagCountsModel", "pad", "[I", true)
  | 18 => ("BagCountsModel", "padMany", "I", false)
  | 19 => ("BagCountsModel", "spot", "I", false)
  | 20 => ("BagCountsModel", "isWrong", "Z", false)
  | 21 => ("BagCountsModel", "read", "I", false)
  | _ => ("BagCountsModel", "numbers", "[I", true)
def tyX8 : Nat → FieldType := fun k => match k with
  | 0 => .array .int
  | 1 => .array .int
  | 2 => .int
  | 3 => .int
  | 4 => .array .int
  | 5 => .array .boolean
  | 6 => .array .int
  | 7 => .array .int
  | 8 => .array .int
  | 9 => .int
  | 10 => .int
  | 11 => .boolean
  | 12 => .int
  | 13 => .array .int
  | 14 => .array .int
  | 15 => .array .int
  | 16 => .array .int
  | 17 => .array .int
  | 18 => .int
  | 19 => .int
  | 20 => .boolean
  | 21 => .int
  | _ => .array .int
abbrev wsX80 : List Cond := u_ws RX8 TX8 23
theorem nmX8 : ∀ a, a < 23 → ∀ b, b < 23 → a ≠ b → (TX8 a).2.1 ≠ (TX8 b).2.1 := by decide +kernel
theorem tyX8_ok : ∀ k, k < 23 → parseFieldDescriptor (TX8 k).2.2.1 = some (tyX8 k) := by decide +kernel
abbrev cX8_init : ByteArray := prog_10_method_1_code
def yX8_init : MethodName := ⟨RX8, "<init>", "()V"⟩
abbrev cX8_in : ByteArray := prog_10_method_3_code
def yX8_in : MethodName := ⟨RX8, "in", "(III)Z"⟩
abbrev cX8_isBag : ByteArray := prog_10_method_4_code
def yX8_isBag : MethodName := ⟨RX8, "isBag", "(I)Z"⟩
abbrev cX8_isKind : ByteArray := prog_10_method_5_code
def yX8_isKind : MethodName := ⟨RX8, "isKind", "(I)Z"⟩
abbrev cX8_of : ByteArray := prog_10_method_6_code
def yX8_of : MethodName := ⟨RX8, "of", "(II)I"⟩
abbrev cX8_allFacts : ByteArray := prog_10_method_7_code
def yX8_allFacts : MethodName := ⟨RX8, "allFacts", "()I"⟩
abbrev cX8_keep : ByteArray := prog_10_method_8_code
def yX8_keep : MethodName := ⟨RX8, "keep", "()V"⟩
abbrev cX8_keepIf : ByteArray := prog_10_method_9_code
def yX8_keepIf : MethodName := ⟨RX8, "keepIf", "(Z)V"⟩
abbrev cX8_raise : ByteArray := prog_10_method_10_code
def yX8_raise : MethodName := ⟨RX8, "raise", "(II)V"⟩
abbrev cX8_lower : ByteArray := prog_10_method_11_code
def yX8_lower : MethodName := ⟨RX8, "lower", "(II)V"⟩
abbrev cX8_lesser : ByteArray := prog_10_method_12_code
def yX8_lesser : MethodName := ⟨RX8, "lesser", "(II)I"⟩
abbrev cX8_greater : ByteArray := prog_10_method_13_code
def yX8_greater : MethodName := ⟨RX8, "greater", "(II)I"⟩
abbrev cX8_narrowSize : ByteArray := prog_10_method_14_code
def yX8_narrowSize : MethodName := ⟨RX8, "narrowSize", "(III)V"⟩
abbrev cX8_narrowTwice : ByteArray := prog_10_method_15_code
def yX8_narrowTwice : MethodName := ⟨RX8, "narrowTwice", "(II)V"⟩
abbrev cX8_narrowSum : ByteArray := prog_10_method_16_code
def yX8_narrowSum : MethodName := ⟨RX8, "narrowSum", "(III)V"⟩
abbrev cX8_narrowGreatest : ByteArray := prog_10_method_17_code
def yX8_narrowGreatest : MethodName := ⟨RX8, "narrowGreatest", "(III)V"⟩
abbrev cX8_narrowLeast : ByteArray := prog_10_method_18_code
def yX8_narrowLeast : MethodName := ⟨RX8, "narrowLeast", "(III)V"⟩
abbrev cX8_narrowMore : ByteArray := prog_10_method_19_code
def yX8_narrowMore : MethodName := ⟨RX8, "narrowMore", "(III)V"⟩
abbrev cX8_narrowBelow : ByteArray := prog_10_method_20_code
def yX8_narrowBelow : MethodName := ⟨RX8, "narrowBelow", "(III)V"⟩
abbrev cX8_narrowAbove : ByteArray := prog_10_method_21_code
def yX8_narrowAbove : MethodName := ⟨RX8, "narrowAbove", "(III)V"⟩
abbrev cX8_narrowKind : ByteArray := prog_10_method_22_code
def yX8_narrowKind : MethodName := ⟨RX8, "narrowKind", "(IIII)V"⟩
abbrev cX8_narrowBy : ByteArray := prog_10_method_23_code
def yX8_narrowBy : MethodName := ⟨RX8, "narrowBy", "(IIIIII)V"⟩
abbrev cX8_isEmpty : ByteArray := prog_10_method_24_code
def yX8_isEmpty : MethodName := ⟨RX8, "isEmpty", "()Z"⟩
abbrev cX8_narrow : ByteArray := prog_10_method_25_code
def yX8_narrow : MethodName := ⟨RX8, "narrow", "()Z"⟩
abbrev cX8_bagBit : ByteArray := prog_10_method_26_code
def yX8_bagBit : MethodName := ⟨RX8, "bagBit", "(I)I"⟩
abbrev cX8_joined : ByteArray := prog_10_method_27_code
def yX8_joined : MethodName := ⟨RX8, "joined", "(IIIIII)I"⟩
abbrev cX8_joinedTo : ByteArray := prog_10_method_28_code
def yX8_joinedTo : MethodName := ⟨RX8, "joinedTo", "(I)I"⟩
abbrev cX8_part : ByteArray := prog_10_method_29_code
def yX8_part : MethodName := ⟨RX8, "part", "(I)I"⟩
abbrev cX8_narrowest : ByteArray := prog_10_method_30_code
def yX8_narrowest : MethodName := ⟨RX8, "narrowest", "(I)I"⟩
abbrev cX8_push : ByteArray := prog_10_method_31_code
def yX8_push : MethodName := ⟨RX8, "push", "(I)V"⟩
abbrev cX8_pull : ByteArray := prog_10_method_32_code
def yX8_pull : MethodName := ⟨RX8, "pull", "(I)V"⟩
abbrev cX8_search : ByteArray := prog_10_method_33_code
def yX8_search : MethodName := ⟨RX8, "search", "(II)I"⟩
abbrev cX8_layAll : ByteArray := prog_10_method_34_code
def yX8_layAll : MethodName := ⟨RX8, "layAll", "()V"⟩
abbrev cX8_isSolvedByParts : ByteArray := prog_10_method_35_code
def yX8_isSolvedByParts : MethodName := ⟨RX8, "isSolvedByParts", "()Z"⟩
abbrev cX8_isSolved : ByteArray := prog_10_method_36_code
def yX8_isSolved : MethodName := ⟨RX8, "isSolved", "(I)Z"⟩
abbrev cX8_isSolvedNow : ByteArray := prog_10_method_37_code
def yX8_isSolvedNow : MethodName := ⟨RX8, "isSolvedNow", "()Z"⟩
abbrev cX8_add : ByteArray := prog_10_method_38_code
def yX8_add : MethodName := ⟨RX8, "add", "(IIIIII)V"⟩
abbrev cX8_isSolvedWith : ByteArray := prog_10_method_39_code
def yX8_isSolvedWith : MethodName := ⟨RX8, "isSolvedWith", "(IIIIIII)Z"⟩
abbrev cX8_isSolvedWithBoth : ByteArray := prog_10_method_40_code
def yX8_isSolvedWithBoth : MethodName := ⟨RX8, "isSolvedWithBoth", "(IIIIIZ)Z"⟩
abbrev cX8_failsAt : ByteArray := prog_10_method_41_code
def yX8_failsAt : MethodName := ⟨RX8, "failsAt", "(IIIIII)Z"⟩
abbrev cX8_canFail : ByteArray := prog_10_method_42_code
def yX8_canFail : MethodName := ⟨RX8, "canFail", "(IIIIIII)Z"⟩
abbrev cX8_isFact : ByteArray := prog_10_method_43_code
def yX8_isFact : MethodName := ⟨RX8, "isFact", "(IIIIII)Z"⟩
abbrev cX8_most : ByteArray := prog_10_method_44_code
def yX8_most : MethodName := ⟨RX8, "most", "(I)I"⟩
abbrev cX8_tryFact : ByteArray := prog_10_method_45_code
def yX8_tryFact : MethodName := ⟨RX8, "tryFact", "(IIIIIIZ)I"⟩
abbrev cX8_fact : ByteArray := prog_10_method_46_code
def yX8_fact : MethodName := ⟨RX8, "fact", "(IIIIII)I"⟩
abbrev cX8_isToldFact : ByteArray := prog_10_method_47_code
def yX8_isToldFact : MethodName := ⟨RX8, "isToldFact", "(I)Z"⟩
abbrev cX8_drop : ByteArray := prog_10_method_48_code
def yX8_drop : MethodName := ⟨RX8, "drop", "(I)I"⟩
abbrev cX8_ofFact : ByteArray := prog_10_method_49_code
def yX8_ofFact : MethodName := ⟨RX8, "ofFact", "(II)I"⟩
abbrev cX8_count : ByteArray := prog_10_method_50_code
def yX8_count : MethodName := ⟨RX8, "count", "(I)I"⟩
abbrev cX8_isPossible : ByteArray := prog_10_method_51_code
def yX8_isPossible : MethodName := ⟨RX8, "isPossible", "()I"⟩
abbrev cX8_boundBy : ByteArray := prog_10_method_52_code
def yX8_boundBy : MethodName := ⟨RX8, "boundBy", "(IIII)I"⟩
abbrev cX8_whyNotBound : ByteArray := prog_10_method_53_code
def yX8_whyNotBound : MethodName := ⟨RX8, "whyNotBound", "(III)I"⟩
abbrev cX8_bound : ByteArray := prog_10_method_54_code
def yX8_bound : MethodName := ⟨RX8, "bound", "(III)I"⟩
abbrev cX8_sizeOf : ByteArray := prog_10_method_55_code
def yX8_sizeOf : MethodName := ⟨RX8, "sizeOf", "(II)I"⟩
abbrev cX8_isSolvedFrom : ByteArray := prog_10_method_56_code
def yX8_isSolvedFrom : MethodName := ⟨RX8, "isSolvedFrom", "(I)Z"⟩
abbrev cX8_findFirst : ByteArray := prog_10_method_57_code
def yX8_findFirst : MethodName := ⟨RX8, "findFirst", "()V"⟩
abbrev cX8_least : ByteArray := prog_10_method_58_code
def yX8_least : MethodName := ⟨RX8, "least", "(II)I"⟩
abbrev cX8_solutions : ByteArray := prog_10_method_59_code
def yX8_solutions : MethodName := ⟨RX8, "solutions", "(I)I"⟩
abbrev cX8_countAll : ByteArray := prog_10_method_60_code
def yX8_countAll : MethodName := ⟨RX8, "countAll", "(I)I"⟩
abbrev cX8_follows : ByteArray := prog_10_method_61_code
def yX8_follows : MethodName := ⟨RX8, "follows", "(IIIIII)I"⟩
abbrev cX8_contradiction : ByteArray := prog_10_method_62_code
def yX8_contradiction : MethodName := ⟨RX8, "contradiction", "()I"⟩
abbrev cX8_reason : ByteArray := prog_10_method_63_code
def yX8_reason : MethodName := ⟨RX8, "reason", "(III)I"⟩
abbrev cX8_needless : ByteArray := prog_10_method_64_code
def yX8_needless : MethodName := ⟨RX8, "needless", "()I"⟩
abbrev cX8_put : ByteArray := prog_10_method_65_code
def yX8_put : MethodName := ⟨RX8, "put", "(J)I"⟩
abbrev cX8_wipe : ByteArray := prog_10_method_66_code
def yX8_wipe : MethodName := ⟨RX8, "wipe", "()I"⟩
abbrev cX8_next : ByteArray := prog_10_method_67_code
def yX8_next : MethodName := ⟨RX8, "next", "()I"⟩
abbrev cX8_enter : ByteArray := prog_10_method_68_code
def yX8_enter : MethodName := ⟨RX8, "enter", "(II)V"⟩
abbrev cX8_takeSign : ByteArray := prog_10_method_69_code
def yX8_takeSign : MethodName := ⟨RX8, "takeSign", "(I)V"⟩
abbrev cX8_takeOne : ByteArray := prog_10_method_70_code
def yX8_takeOne : MethodName := ⟨RX8, "takeOne", "(III)V"⟩
abbrev cX8_takeNumber : ByteArray := prog_10_method_71_code
def yX8_takeNumber : MethodName := ⟨RX8, "takeNumber", "(I)V"⟩
abbrev cX8_takeRange : ByteArray := prog_10_method_72_code
def yX8_takeRange : MethodName := ⟨RX8, "takeRange", "(I)V"⟩
abbrev cX8_takeMore : ByteArray := prog_10_method_73_code
def yX8_takeMore : MethodName := ⟨RX8, "takeMore", "()V"⟩
abbrev cX8_takeKind : ByteArray := prog_10_method_74_code
def yX8_takeKind : MethodName := ⟨RX8, "takeKind", "()V"⟩
abbrev cX8_takeBags : ByteArray := prog_10_method_75_code
def yX8_takeBags : MethodName := ⟨RX8, "takeBags", "(I)V"⟩
abbrev cX8_takeBag : ByteArray := prog_10_method_76_code
def yX8_takeBag : MethodName := ⟨RX8, "takeBag", "()V"⟩
abbrev cX8_takeFact : ByteArray := prog_10_method_77_code
def yX8_takeFact : MethodName := ⟨RX8, "takeFact", "()V"⟩
abbrev cX8_fault : ByteArray := prog_10_method_78_code
def yX8_fault : MethodName := ⟨RX8, "fault", "()I"⟩
abbrev cX8_tellOne : ByteArray := prog_10_method_79_code
def yX8_tellOne : MethodName := ⟨RX8, "tellOne", "(I)I"⟩
abbrev cX8_tell : ByteArray := prog_10_method_80_code
def yX8_tell : MethodName := ⟨RX8, "tell", "()I"⟩
abbrev cX8_undo : ByteArray := prog_10_method_81_code
def yX8_undo : MethodName := ⟨RX8, "undo", "()I"⟩
abbrev cX8_save : ByteArray := prog_10_method_82_code
def yX8_save : MethodName := ⟨RX8, "save", "(I)I"⟩
abbrev cX8_restore : ByteArray := prog_10_method_83_code
def yX8_restore : MethodName := ⟨RX8, "restore", "(I)I"⟩
def RL : String := "BagCountsLaw"
abbrev cL_law : ByteArray := code
def yL_law : MethodName := ⟨RL, "law", "([I)Z"⟩
abbrev vwCl : List vw_C := [(RX0, TX0, 3), (RX1, TX1, 3), (RX2, TX2, 3), (RX3, TX3, 9), (RX4, TX4, 9), (RX5, TX5, 5), (RX6, TX6, 2), (RX7, TX7, 7), (RX8, TX8, 23)]
end
section
/-! THE ABSTRACT MACHINE: values are whole numbers (a representative of the machine's int or long) and numbers of cells; a memory maps a cell and a place to a whole number. -/
abbrev vm_V : Type := Int ⊕ (Int ⊕ Nat)
abbrev vm_M : Type := Nat → Int → Int
/-- a row of a method: its place, the instruction, how long it is, what the tables know of it -/
abbrev vm_En : Type := Nat × Instr × Nat × List Nat
/-- a method: name, bytes, how many locals, what it returns, its rows -/
abbrev vm_Me : Type := MethodName × ByteArray × Nat × Option FieldType × List vm_En
abbrev vm_Nm : Type := MethodName × ByteArray × Nat × Option FieldType
def vm_nth {α : Type} : List α → Nat → Option α
  | [], _ => none
  | a :: _, 0 => some a
  | _ :: l, n + 1 => vm_nth l n
theorem vm_nth_eq {α : Type} : ∀ (l : List α) (n : Nat), vm_nth l n = l[n]?
  | [], _ => by simp [vm_nth]
  | a :: l, 0 => by simp [vm_nth]
  | a :: l, n + 1 => by simp [vm_nth, vm_nth_eq l n]
theorem vm_nth_mem {α : Type} {l : List α} {n : Nat} {a : α} (h : vm_nth l n = some a) : a ∈ l := by
  rw [vm_nth_eq] at h
  exact List.mem_of_getElem? h
def vm_R (x : Int) : Prop := -2147483648 ≤ x ∧ x ≤ 2147483647
def vm_up (mem : vm_M) (c : Nat) (i v : Int) : vm_M := fun c' i' => if c' = c ∧ i' = i then v else mem c' i'
def vm_and (a b : Int) : Int := (Int32.ofInt a &&& Int32.ofInt b).toInt
def vm_or (a b : Int) : Int := (Int32.ofInt a ||| Int32.ofInt b).toInt
def vm_xor (a b : Int) : Int := (Int32.ofInt a ^^^ Int32.ofInt b).toInt
def vm_shl (a b : Int) : Int := (Int32.ofInt a <<< (Int32.ofInt b &&& 31)).toInt
def vm_shr (a b : Int) : Int := (Int32.ofInt a >>> (Int32.ofInt b &&& 31)).toInt
def vm_div (a b : Int) : Int := (Int32.ofInt a / Int32.ofInt b).toInt
def vm_rem (a b : Int) : Int := (Int32.ofInt a - Int32.ofInt a / Int32.ofInt b * Int32.ofInt b).toInt
def vm_land (a b : Int) : Int := (Int64.ofInt a &&& Int64.ofInt b).toInt
def vm_lor (a b : Int) : Int := (Int64.ofInt a ||| Int64.ofInt b).toInt
def vm_lushr (a b : Int) : Int := (((Int64.ofInt a).toUInt64 >>> ((Int32.ofInt b).toInt64.toUInt64 &&& Int64.toUInt64 63)).toInt64).toInt
def vm_lshl (a b : Int) : Int := (Int64.ofInt a <<< ((Int32.ofInt b).toInt64 &&& 63)).toInt
def vm_lshr (a b : Int) : Int := (Int64.ofInt a >>> ((Int32.ofInt b).toInt64 &&& 63)).toInt
def vm_l2i (a : Int) : Int := ((Int64.ofInt a).toInt32).toInt
def vm_lcmp (a b : Int) : Int := (lg_cmp (Int64.ofInt a) (Int64.ofInt b)).toInt
def vm_i2c (a : Int) : Int := (((Int32.ofInt a).toUInt32 % 65536).toInt32).toInt
def vm_chr (a : Int) : Int := (vp_nar .char (Int32.ofInt a)).toInt
def vm_bool (a : Int) : Int := (vp_nar .boolean (Int32.ofInt a)).toInt
/-- the copy of n cells -/
def vm_cpy (mem : vm_M) (a b : Nat) (sp dp n : Int) : vm_M := fun c i => if c = b ∧ dp ≤ i ∧ i < dp + n then mem a (sp + (i - dp)) else mem c i
theorem vm_ofTo (x : Int32) : Int32.ofInt x.toInt = x := Int32.ofInt_toInt x
theorem vm_ofTo64 (x : Int64) : Int64.ofInt x.toInt = x := Int64.ofInt_toInt x
theorem vm_toOf {x : Int} (h : vm_R x) : (Int32.ofInt x).toInt = x := by
  rw [Int32.toInt_ofInt]
  unfold vm_R at h
  have hs : (Int32.size : Int) = 4294967296 := rfl
  rw [Int.bmod_def, hs]
  split <;> omega
theorem vm_ltI {x y : Int} (hx : vm_R x) (hy : vm_R y) : Int32.ofInt x < Int32.ofInt y ↔ x < y := by
  rw [Int32.lt_iff_toInt_lt, vm_toOf hx, vm_toOf hy]
theorem vm_leI {x y : Int} (hx : vm_R x) (hy : vm_R y) : Int32.ofInt x ≤ Int32.ofInt y ↔ x ≤ y := by
  rw [Int32.le_iff_toInt_le, vm_toOf hx, vm_toOf hy]
theorem vm_eqI {x y : Int} (hx : vm_R x) (hy : vm_R y) : Int32.ofInt x = Int32.ofInt y ↔ x = y := by
  constructor
  · intro h
    have := congrArg Int32.toInt h
    rwa [vm_toOf hx, vm_toOf hy] at this
  · intro h; rw [h]
theorem vm_R0 : vm_R 0 := ⟨by decide, by decide⟩
theorem vm_zero : (0 : Int32) = Int32.ofInt 0 := by decide
theorem vm_nat {x : Int} (h0 : 0 ≤ x) (h1 : x ≤ 2147483647) : (Int32.ofInt x).toNatClampNeg = x.toNat := by
  rw [Int32.toNatClampNeg, vm_toOf ⟨by omega, h1⟩]
theorem vm_in {x : Int} {n : Nat} (h0 : 0 ≤ x) (h1 : x < (n : Int)) (hn : n ≤ 1000000) : vp_in (Int32.ofInt x) n := by
  have h2 : x ≤ 2147483647 := by omega
  unfold vp_in
  rw [vm_nat h0 h2, vm_zero, vm_ltI ⟨by omega, h2⟩ vm_R0]
  omega
/-! the layout -/
/-- the kind of a cell: (0, class) an object, (1, n) ints, (2, n) chars, (3, n) booleans -/
def vm_kinds : List (Nat × Nat) := [(0, 7), (0, 0), (0, 2), (0, 3), (0, 6), (0, 6), (0, 5), (0, 1), (0, 4), (1, 66), (2, 80), (1, 372), (1, 124), (1, 272), (1, 272), (1, 128), (1, 128), (1, 128), (1, 128), (1, 128), (1, 512), (1, 512), (1, 16), (1, 48), (0, 8), (1, 62), (1, 372), (1, 124), (3, 2), (1, 12), (1, 12), (1, 12), (1, 156), (1, 156), (1, 13), (1, 12), (1, 80), (1, 132)]
def vm_nf : List Nat := [3, 3, 3, 9, 9, 5, 2, 7, 23]
def vm_rfs : List (List (Option Nat)) := [[some 1, some 2, some 3, some 4, some 5, none, none], [some 9, none, none], [some 1, some 6, some 7], [some 10, none, none, none, none, none, none, none, none], [none, some 11], [none, some 12], [some 8, some 13, some 14, none, none], [some 23, none, none], [some 15, some 16, some 17, some 18, some 19, some 20, some 21, some 22, none], [], [], [], [], [], [], [], [], [], [], [], [], [], [], [], [some 25, some 26, none, none, some 27, some 28, some 29, some 30, some 31, none, none, none, none, some 32, some 33, some 34, some 35, some 36, none, none, none, none, some 37]]
def vm_rf (c j : Nat) : Option Nat := ((vm_nth vm_rfs c).bind fun l => vm_nth l j).join
abbrev vm_G : Type := Launch × va_G × (Nat → Nat) × (Nat → ClassId) × (Nat → Nat) × (Nat → Int → Int)
abbrev vm_G.l (G : vm_G) : Launch := G.1
abbrev vm_G.D (G : vm_G) : va_G := G.2.1
abbrev vm_G.adr (G : vm_G) : Nat → Nat := G.2.2.1
abbrev vm_G.cA (G : vm_G) : Nat → ClassId := G.2.2.2.1
abbrev vm_G.len (G : vm_G) : Nat → Nat := G.2.2.2.2.1
abbrev vm_G.rom (G : vm_G) : Nat → Int → Int := G.2.2.2.2.2
abbrev vm_Me.y (M : vm_Me) : MethodName := M.1
abbrev vm_Me.bytes (M : vm_Me) : ByteArray := M.2.1
abbrev vm_Me.maxL (M : vm_Me) : Nat := M.2.2.1
abbrev vm_Me.ret (M : vm_Me) : Option FieldType := M.2.2.2.1
abbrev vm_Me.code (M : vm_Me) : List vm_En := M.2.2.2.2
def vm_tys (G : vm_G) : List (ClassId × FieldType) := [(G.cA 1, .int), (G.cA 2, .char), (G.cA 3, .boolean)]
def vm_cv (G : vm_G) : vm_V → Value
  | .inl n => .int (Int32.ofInt n)
  | .inr (.inl n) => .long (Int64.ofInt n)
  | .inr (.inr a) => .ref (G.adr a)
def vm_fv (G : vm_G) (mem : vm_M) (c j : Nat) : Value := match vm_rf c j with
  | some t => .ref (G.adr t)
  | none => .int (Int32.ofInt (mem c (j : Int)))
def vm_cell (G : vm_G) (mem : vm_M) (c : Nat) : va_E := match vm_nth vm_kinds c with
  | some (0, ci) => .inr (ci, (List.range ((vm_nth vm_nf ci).getD 0)).map (vm_fv G mem c))
  | some (k + 1, n) => .inl (G.cA (k + 1), n, .inl (fun i => Int32.ofInt (mem c (i : Int))))
  | none => .inr (0, [])
def vm_ws (G : vm_G) (mem : vm_M) : va_W := (List.range 38).map fun c => (G.adr c, vm_cell G mem c)
theorem vm_ws_at (G : vm_G) (mem : vm_M) {c : Nat} (h : c < 38) : (vm_ws G mem)[c]? = some (G.adr c, vm_cell G mem c) := by
  simp [vm_ws, List.getElem?_range, h]
theorem vm_cell_arr {G : vm_G} {mem : vm_M} {c k n : Nat} (h : vm_nth vm_kinds c = some (k + 1, n)) : vm_cell G mem c = .inl (G.cA (k + 1), n, .inl (fun i => Int32.ofInt (mem c (i : Int)))) := by
  simp only [vm_cell, h]
theorem vm_cell_obj {G : vm_G} {mem : vm_M} {c ci : Nat} (h : vm_nth vm_kinds c = some (0, ci)) : vm_cell G mem c = .inr (ci, (List.range ((vm_nth vm_nf ci).getD 0)).map (vm_fv G mem c)) := by
  simp only [vm_cell, h]
theorem vm_cell_eq {G : vm_G} {mem mem' : vm_M} {c : Nat} (h : mem c = mem' c) : vm_cell G mem c = vm_cell G mem' c := by
  have hf : vm_fv G mem c = vm_fv G mem' c := by
    funext j
    simp only [vm_fv, h]
  unfold vm_cell
  rw [hf, h]
theorem vm_ws_set {G : vm_G} {mem mem' : vm_M} {c : Nat} {x : va_E} (h : c < 38) (hx : vm_cell G mem' c = x) (ho : ∀ k, k ≠ c → mem k = mem' k) : (vm_ws G mem).set c (G.adr c, x) = vm_ws G mem' := by
  apply List.ext_getElem?
  intro k
  rw [List.getElem?_set]
  by_cases hk : c = k
  · subst hk
    have hl : c < (vm_ws G mem).length := by simp [vm_ws]; exact h
    rw [if_pos rfl, if_pos hl, vm_ws_at G mem' h, hx]
  · rw [if_neg hk]
    by_cases hk2 : k < 38
    · rw [vm_ws_at G mem hk2, vm_ws_at G mem' hk2, vm_cell_eq (ho k (Ne.symm hk))]
    · rw [List.getElem?_eq_none (by simp [vm_ws]; omega), List.getElem?_eq_none (by simp [vm_ws]; omega)]
/-- the words that the tables hold in every state, and those of nest mates -/
def vm_isN : Cond → Bool
  | .fieldLinkNest _ _ _ _ _ _ => true
  | .methodLinkNest _ _ _ _ => true
  | _ => false
def vm_WS : List Cond := lw_tbl.filter goodWord
def vm_WN : List Cond := lw_tbl.filter vm_isN
theorem vm_ws_in {p : Nat} {w : Cond} (h : lw_tbl[p]? = some w) (hg : goodWord w = true) : w ∈ vm_WS := List.mem_filter.mpr ⟨List.mem_of_getElem? h, hg⟩
theorem vm_wn_in {p : Nat} {w : Cond} (h : lw_tbl[p]? = some w) (hg : vm_isN w = true) : w ∈ vm_WN := List.mem_filter.mpr ⟨List.mem_of_getElem? h, hg⟩
theorem vm_WS_good : GoodIn vm_WS vm_WS := fun w h => ⟨h, good_of_word (List.mem_filter.mp h).2⟩
theorem vm_WN_warm {s U : State} (hW : s.WarmedH U.vm) (h : ∀ w ∈ vm_WN, va_Nw w s) : ∀ w ∈ vm_WN, va_Nw w U := by
  intro w hw
  have h1 := h w hw
  have h2 := (List.mem_filter.mp hw).2
  cases w <;> first | exact va_Nw.warmF hW h1 | exact va_Nw.warmM hW h1 | (simp [vm_isN] at h2; done)
/-- the locals as the kit tells them -/
def vm_lk (G : vm_G) (al : List (Option vm_V)) : List (Nat × Value) := al.zipIdx.filterMap fun q => q.1.map fun v => (q.2, vm_cv G v)
theorem vm_lk_mem {G : vm_G} {al : List (Option vm_V)} {j : Nat} {x : Value} : (j, x) ∈ vm_lk G al ↔ ∃ v, al[j]? = some (some v) ∧ x = vm_cv G v := by
  unfold vm_lk
  rw [List.mem_filterMap]
  constructor
  · rintro ⟨⟨o, i⟩, h1, h2⟩
    rw [List.mem_zipIdx_iff_getElem?] at h1
    cases o with
    | none => simp at h2
    | some v =>
      simp at h2
      obtain ⟨rfl, rfl⟩ := h2
      exact ⟨v, h1, rfl⟩
  · rintro ⟨v, h1, rfl⟩
    exact ⟨(some v, j), List.mem_zipIdx_iff_getElem?.mpr h1, rfl⟩
theorem vm_lk_at {G : vm_G} {al : List (Option vm_V)} {ls : Array Slot} {n j : Nat} {v : vm_V} (h : lv_has ls n (vm_lk G al)) (hj : vm_nth al j = some (some v)) : ls[j]? = some (.val (vm_cv G v)) :=
  h.2.2 (j, vm_cv G v) (vm_lk_mem.mpr ⟨v, by rw [← vm_nth_eq]; exact hj, rfl⟩)
/-- a local may be written: the one before isn't a long -/
def vm_okst (al : List (Option vm_V)) : Nat → Bool
  | 0 => true
  | i + 1 => match vm_nth al i with
    | some (some (.inr (.inl _))) => false
    | _ => true
def vm_set {α : Type} : List α → Nat → α → List α
  | [], _, _ => []
  | _ :: l, 0, x => x :: l
  | a :: l, n + 1, x => a :: vm_set l n x
theorem vm_set_at {α : Type} : ∀ (l : List α) (i : Nat) (x : α) (j : Nat), (vm_set l i x)[j]? = if i = j ∧ j < l.length then some x else l[j]?
  | [], i, x, j => by simp [vm_set]
  | a :: l, 0, x, 0 => by simp [vm_set]
  | a :: l, 0, x, j + 1 => by simp [vm_set]
  | a :: l, i + 1, x, 0 => by simp [vm_set]
  | a :: l, i + 1, x, j + 1 => by simp [vm_set, vm_set_at l i x j]
theorem vm_lk_set {G : vm_G} {al : List (Option vm_V)} {ls : Array Slot} {n i : Nat} {v : vm_V} (hok : vm_okst al i = true)
    (h : lv_has ls n ((i, vm_cv G v) :: (vm_lk G al).filter (fun q => !(q.1 == i) && !(q.1 + 1 == i && q.2.category == 2)))) : lv_has ls n (vm_lk G (vm_set al i (some v))) := by
  refine ⟨h.1, h.2.1, fun q hq => h.2.2 q ?_⟩
  obtain ⟨j, x⟩ := q
  obtain ⟨w, h1, rfl⟩ := vm_lk_mem.mp hq
  rw [vm_set_at] at h1
  split at h1
  · rename_i hij
    cases h1
    rw [← hij.1]
    exact List.mem_cons_self
  · rename_i hij
    have hjl : j < al.length := by
      rcases Nat.lt_or_ge j al.length with q | q
      · exact q
      · rw [List.getElem?_eq_none q] at h1; cases h1
    have hne : ¬ j = i := fun e => hij ⟨e.symm, hjl⟩
    refine List.mem_cons_of_mem _ (List.mem_filter.mpr ⟨vm_lk_mem.mpr ⟨w, h1, rfl⟩, ?_⟩)
    simp only [beq_eq_false_iff_ne.mpr hne, Bool.not_false, Bool.true_and, Bool.not_eq_true', Bool.and_eq_false_imp, beq_iff_eq]
    intro e
    cases i with
    | zero => omega
    | succ i =>
      have e2 : j = i := by omega
      subst e2
      rw [← vm_nth_eq] at h1
      simp only [vm_okst, h1] at hok
      cases w with
      | inl _ => rfl
      | inr w => cases w with
        | inl _ => simp at hok
        | inr _ => rfl
theorem vm_lk_set2 {G : vm_G} {al : List (Option vm_V)} {ls : Array Slot} {n i : Nat} {x : Int} (hok : vm_okst al i = true)
    (h : lv_has ls n ((i, Value.long (Int64.ofInt x)) :: (vm_lk G al).filter (fun q => !(q.1 == i) && (!(q.1 == i + 1) && !(q.1 + 1 == i && q.2.category == 2))))) : lv_has ls n (vm_lk G (vm_set (vm_set al i (some (.inr (.inl x)))) (i + 1) none)) := by
  refine ⟨h.1, h.2.1, fun q hq => h.2.2 q ?_⟩
  obtain ⟨j, y⟩ := q
  obtain ⟨w, h1, rfl⟩ := vm_lk_mem.mp hq
  rw [vm_set_at] at h1
  split at h1
  · cases h1
  · rename_i hij2
    rw [vm_set_at] at h1
    have hlen : (vm_set al i (some (.inr (.inl x)) : Option vm_V)).length = al.length := by
      have : ∀ (l : List (Option vm_V)) (i : Nat) (x : Option vm_V), (vm_set l i x).length = l.length := by
        intro l
        induction l with
        | nil => intro i x; rfl
        | cons a l ih => intro i x; cases i <;> simp [vm_set, ih]
      exact this _ _ _
    rw [hlen] at hij2
    split at h1
    · rename_i hij
      cases h1
      rw [← hij.1]
      exact List.mem_cons_self
    · rename_i hij
      have hjl : j < al.length := by
        rcases Nat.lt_or_ge j al.length with q | q
        · exact q
        · rw [List.getElem?_eq_none q] at h1; cases h1
      have hne : ¬ j = i := fun e => hij ⟨e.symm, hjl⟩
      have hne2 : ¬ j = i + 1 := fun e => hij2 ⟨e.symm, hjl⟩
      refine List.mem_cons_of_mem _ (List.mem_filter.mpr ⟨vm_lk_mem.mpr ⟨w, h1, rfl⟩, ?_⟩)
      simp only [beq_eq_false_iff_ne.mpr hne, beq_eq_false_iff_ne.mpr hne2, Bool.not_false, Bool.true_and, Bool.not_eq_true', Bool.and_eq_false_imp, beq_iff_eq]
      intro e
      cases i with
      | zero => omega
      | succ i =>
        have e2 : j = i := by omega
        subst e2
        rw [← vm_nth_eq] at h1
        simp only [vm_okst, h1] at hok
        cases w with
        | inl _ => rfl
        | inr w => cases w with
          | inl _ => simp at hok
          | inr _ => rfl
end
section
/-! WHAT THE TABLES KNOW -/
def vm_link (own : String) (idx : Nat) (y : MethodName) : Prop := Cond.methodLink own idx y ∈ vm_WS ∨ ∃ host, Cond.methodLinkNest own idx y host ∈ vm_WN
def vm_flink (own : String) (idx : Nat) (C n d : String) : Prop := Cond.fieldLink own idx C n d ∈ vm_WS ∨ ∃ host, Cond.fieldLinkNest own idx C n d host ∈ vm_WN
def vm_calI (M : vm_Me) (n : Nat) : Prop := (Cond.instanceMethod M.y ∈ vm_WS ∧ Cond.selects M.y.cls M.y M.y ∈ vm_WS) ∧ Cond.code M.y M.bytes M.maxL M.ret ∈ vm_WS ∧ Cond.initialized M.y.cls ∈ vm_WS ∧ (M.y.cls ≠ "java/lang/invoke/MethodHandle" ∧ M.y.cls ≠ "java/lang/invoke/VarHandle" ∧ (parseMethodDescriptor M.y.desc).map (fun d => d.parameters.length) = some n) ∧ M.maxL ≤ 30
def vm_calS (M : vm_Me) (n : Nat) : Prop := Cond.static M.y ∈ vm_WS ∧ Cond.code M.y M.bytes M.maxL M.ret ∈ vm_WS ∧ Cond.initialized M.y.cls ∈ vm_WS ∧ (M.y.cls ≠ "java/lang/invoke/MethodHandle" ∧ M.y.cls ≠ "java/lang/invoke/VarHandle" ∧ (parseMethodDescriptor M.y.desc).map (fun d => d.parameters.length) = some n) ∧ M.maxL ≤ 30
def vm_clk (ci : Nat) (C : String) (T : u_T) (N : Nat) (ty : Nat → FieldType) : Prop := vwCl[ci]? = some (C, T, N) ∧ (∀ w ∈ u_ws C T N, w ∈ vm_WS) ∧ (∀ k, k < N → parseFieldDescriptor (T k).2.2.1 = some (ty k)) ∧ (∀ a, a < N → ∀ b, b < N → a ≠ b → (T a).2.1 ≠ (T b).2.1) ∧ vm_nth vm_nf ci = some N
def vm_okM (M : vm_Me) : Prop := ∀ e ∈ M.code, decode M.bytes e.1 = .ok (e.2.1, e.2.2.1)
theorem vm_dec {M : vm_Me} (h : vm_okM M) {i pc len : Nat} {ins : Instr} {x : List Nat} (hc : vm_nth M.code i = some (pc, ins, len, x)) : decode M.bytes pc = .ok (ins, len) := h (pc, ins, len, x) (vm_nth_mem hc)
/-- what lies outside: the table and the script, which nobody writes -/
def vm_RO (G : vm_G) (A : Nat → Prop) (U : State) (H : Heap) : Prop := va_Z "BagCounts$Logic" "OPPOSITES" "[I" (.ref (G.adr 38)) A U H ∧ ∀ c, c = 38 ∨ c = 39 → va_X (G.adr c) (G.len c) (fun j => Int32.ofInt (G.rom c (j : Int))) U H ∧ G.adr c < H.size ∧ ¬ A (G.adr c) ∧ G.len c ≤ 1000000
/-- the machine at a method's frame -/
def vm_C (G : vm_G) (d : Nat) (M : vm_Me) (p : Program) (R : Room) (s : State) (m : MethodId) (args : Array Value) (c : Code) (A : Nat → Prop) (cells slots : Nat) : Prop :=
  p.tables.exec = Jvm.exec ∧ c.code = M.bytes ∧ c.maxLocals = M.maxL ∧ s.vm.findClass M.y.cls = some m.cls ∧ (∀ w ∈ vm_WS, w.before args s = true) ∧ (∀ w ∈ vm_WN, va_Nw w s) ∧ (d ≤ R.frames ∧ 60 * d ≤ R.locals ∧ cells ≤ R.cells ∧ slots ≤ R.slots) ∧ va_K G.D vwCl (vm_tys G) s ∧ (∀ q, s.heap.size ≤ q → A q) ∧ vm_RO G A s s.heap
def vm_H (G : vm_G) (mem : vm_M) (A : Nat → Prop) (s : State) (H : Heap) (locs : List Loc) : Prop := va_P G.D vwCl (vm_ws G mem) H ∧ va_D A (vm_ws G mem) ∧ va_S A s.heap H locs
/-- a method's end -/
def vm_end (M : vm_Me) (pc : Nat) (r : Option vm_V) : Prop := (r = none ∧ M.ret = none ∧ decode M.bytes pc = .ok (.return_, 1)) ∨ ∃ v : Int, r = some (.inl v) ∧ (M.ret = some .int ∨ (M.ret = some .boolean ∧ (v = 0 ∨ v = 1))) ∧ decode M.bytes pc = .ok (.ireturn, 1)
/-- FROM THIS POINT of the method (place, locals, stack, memory) it comes to its end, with Q of the memory and the answer -/
def vm_ex (G : vm_G) (d : Nat) (M : vm_Me) (pc : Nat) (al : List (Option vm_V)) (st : List vm_V) (mem : vm_M) (Q : vm_M → Option vm_V → Prop) : Prop :=
  vm_okM M → ∀ (p : Program) (e : Env) (R : Room) (s : State) (m : MethodId) (args : Array Value) (below : List Frame) (meth : Method) (c : Code) (A : Nat → Prop) (cells slots : Nat) (Z : State → Prop), vm_C G d M p R s m args c A cells slots →
    ∀ (H : Heap) (locs : List Loc) (ls : Array Slot), vm_H G mem A s H locs → lv_has ls M.maxL (vm_lk G al) →
    (∀ (H' : Heap) (locs' : List Loc) (ls' : Array Slot) (pc' : Nat) (mem' : vm_M) (r : Option vm_V), Q mem' r → vm_H G mem' A s H' locs' → vm_end M pc' r → W p G.l e R s m args below meth c H' locs' cells slots Z (F0 m pc' ls' (r.toList.map (vm_cv G)))) →
    W p G.l e R s m args below meth c H locs cells slots Z (F0 m pc ls (st.map (vm_cv G)))
theorem vm_ex.mono {G : vm_G} {d : Nat} {M : vm_Me} {pc : Nat} {al : List (Option vm_V)} {st : List vm_V} {mem : vm_M} {Q Q' : vm_M → Option vm_V → Prop} (h : vm_ex G d M pc al st mem Q) (hQ : ∀ m r, Q m r → Q' m r) : vm_ex G d M pc al st mem Q' := by
  intro ok p e R s m args below meth c A cells slots Z C H locs ls hH hl hret
  exact h ok p e R s m args below meth c A cells slots Z C H locs ls hH hl (fun H' locs' ls' pc' mem' r hq => hret H' locs' ls' pc' mem' r (hQ _ _ hq))
/-- the head of a method's words -/
def vm_wsM (M : vm_Me) : List Cond := Cond.code M.y M.bytes M.maxL M.ret :: vm_WS
def vm_rm (d : Nat) : Room := { frames := d, cells := 0, slots := 0, locals := 60 * d }
def vm_Pc (G : vm_G) (mem : vm_M) (sz : Nat) : State → Prop := fun U => U.heap.size = sz ∧ va_P G.D vwCl (vm_ws G mem) U.heap ∧ va_K G.D vwCl (vm_tys G) U ∧ va_D (fun _ => True) (vm_ws G mem) ∧ (∀ w ∈ vm_WN, va_Nw w U) ∧ vm_RO G (va_A (vm_ws G mem) sz) U U.heap
def vm_Qc (G : vm_G) (mem : vm_M) (sz : Nat) (Q : vm_M → Option vm_V → Prop) : Array Value → State → Outcome → State → Prop := fun _ st oc t => ∃ (r : Option vm_V) (mem' : vm_M), oc = .returned (r.map (vm_cv G)) ∧ Q mem' r ∧ va_P G.D vwCl (vm_ws G mem') t.heap ∧ va_D (va_A (vm_ws G mem) sz) (vm_ws G mem') ∧ va_F (va_A (vm_ws G mem) sz) st t
/-- A CALL of this method on these values comes back, with Q of the memory and the answer -/
def vm_call (G : vm_G) (d : Nat) (M : vm_Me) (As : List vm_V) (mem : vm_M) (Q : vm_M → Option vm_V → Prop) : Prop :=
  ∀ sz : Nat, Met G.l M.y (vm_wsM M) (vm_rm d) (va_Pc (As.map (vm_cv G)) (vm_Pc G mem sz)) (vm_Qc G mem sz Q) 0 0 (va_A (vm_ws G mem) sz)
theorem vm_ws_len (G : vm_G) (mem : vm_M) : (vm_ws G mem).length = 38 := by simp [vm_ws]
theorem vm_ws_adr {G : vm_G} {mem mem' : vm_M} {k q : Nat} {e : va_E} (h : (vm_ws G mem)[k]? = some (q, e)) : (vm_ws G mem')[k]? = some (q, vm_cell G mem' k) := by
  have hk : k < 38 := by
    rcases Nat.lt_or_ge k 38 with z | z
    · exact z
    · rw [List.getElem?_eq_none (by rw [vm_ws_len]; exact z)] at h; cases h
  rw [vm_ws_at G mem hk] at h
  rw [vm_ws_at G mem' hk]
  cases h
  rfl
theorem vm_A_eq (G : vm_G) (mem mem' : vm_M) (sz q : Nat) : va_A (vm_ws G mem) sz q ↔ va_A (vm_ws G mem') sz q := by
  constructor
  · rintro (⟨k, e, h⟩ | h)
    · exact Or.inl ⟨k, _, vm_ws_adr h⟩
    · exact Or.inr h
  · rintro (⟨k, e, h⟩ | h)
    · exact Or.inl ⟨k, _, vm_ws_adr h⟩
    · exact Or.inr h
theorem vm_D_mem {G : vm_G} {mem mem' : vm_M} {A B : Nat → Prop} (h : va_D A (vm_ws G mem)) (hB : va_D B (vm_ws G mem')) : va_D B (vm_ws G mem) := by
  refine ⟨h.1, fun k q hk => ?_⟩
  obtain ⟨a, e⟩ := q
  exact hB.2 k (a, vm_cell G mem' k) (vm_ws_adr hk)
theorem vm_RO.moved {G : vm_G} {A : Nat → Prop} {u U : State} {H : Heap} (hvm : u.vm.Alike U.vm) (h : vm_RO G A u H) : vm_RO G A U H :=
  ⟨va_Z.moved hvm h.1, fun c hc => ⟨va_X.moved hvm (h.2 c hc).1, (h.2 c hc).2⟩⟩
theorem vm_RO.at {G : vm_G} {A B : Nat → Prop} {U : State} {H0 H : Heap} {locs : List Loc} (h : vm_RO G A U H0) (hS : va_S A H0 H locs) (hAB : ∀ q, B q → A q) : vm_RO G B U H :=
  ⟨(h.1.kept hS.2.1).narrow hAB, fun c hc => ⟨(h.2 c hc).1.kept (hS.2.1 _ (h.2 c hc).2.1 (h.2 c hc).2.2.1), Nat.lt_of_lt_of_le (h.2 c hc).2.1 hS.1, fun z => (h.2 c hc).2.2.1 (hAB _ z), (h.2 c hc).2.2.2⟩⟩
theorem vm_blind (G : vm_G) (mem : vm_M) (sz : Nat) (av : List Value) : FrameBlind (va_Pc av (vm_Pc G mem sz)) := by
  intro a U g mk q
  obtain ⟨q0, q1, q2, q3, q4, q5, q6⟩ := q
  exact ⟨q0, q1, q2, va_K.moved (u := U) (U := U.calling g mk a) (Vm.Alike.refl U.vm) q3, q4, fun w hw => va_tabs (by have := (List.mem_filter.mp hw).2; cases w <;> first | rfl | (simp [vm_isN] at this; done)) (rfl : U.vm = (U.calling g mk a).vm) (q5 w hw), vm_RO.moved (u := U) (U := U.calling g mk a) (Vm.Alike.refl U.vm) q6⟩
/-- what a callee asks, at the caller's point -/
theorem vm_pre {G : vm_G} {d : Nat} {M : vm_Me} {p : Program} {R : Room} {s : State} {m : MethodId} {args : Array Value} {c : Code} {A : Nat → Prop} {cells slots : Nat} {mem : vm_M} {H : Heap} {locs : List Loc} (C : vm_C G d M p R s m args c A cells slots) (hH : vm_H G mem A s H locs) {av : List Value} (U : State) (hU : U.heap = H) (hW : s.WarmedH U.vm) : va_Pc av (vm_Pc G mem H.size) av.toArray U := by
  obtain ⟨hx, hb, hml, hown, hts, hn, hR, hK, hA, hO⟩ := C
  obtain ⟨hP, hD, hS⟩ := hH
  refine ⟨rfl, by rw [hU], by rw [hU]; exact hP, va_K.moved hW.alike hK, hD.weaken (fun _ _ _ _ => trivial), vm_WN_warm hW hn, ?_⟩
  rw [hU]
  refine vm_RO.moved hW.alike (hO.at hS ?_)
  rintro q (⟨k, e, h⟩ | h)
  · exact hD.2 k _ h
  · exact hA q (Nat.le_trans hS.1 h)
/-- behind a call -/
theorem vm_back {G : vm_G} {d : Nat} {M : vm_Me} {p : Program} {e : Env} {R : Room} {s : State} {m : MethodId} {args : Array Value} {below : List Frame} {meth : Method} {c : Code} {A : Nat → Prop} {cells slots : Nat} {Z : State → Prop} {mem : vm_M} {H : Heap} {locs : List Loc} {pc : Nat} {ls : Array Slot} {st0 rest : List Value} {a : Array Value} {Q : vm_M → Option vm_V → Prop}
    (C : vm_C G d M p R s m args c A cells slots) (hH : vm_H G mem A s H locs)
    (hr : va_Run p G.l e R s m args below meth c H locs cells slots 0 0 (F0 m pc ls st0) rest (vm_Qc G mem H.size Q a) (va_A (vm_ws G mem) H.size))
    (kk : ∀ (r : Option vm_V) (mem' : vm_M) (H1 : Heap) (locs1 : List Loc), Q mem' r → vm_H G mem' A s H1 locs1 → W p G.l e R s m args below meth c H1 locs1 cells slots Z (F0 m (pc + 3) ls ((r.map (vm_cv G)).toList ++ rest))) : W p G.l e R s m args below meth c H locs cells slots Z (F0 m pc ls st0) := by
  obtain ⟨hx, hb, hml, hown, hts, hn, hR, hK, hA, hO⟩ := C
  obtain ⟨hP, hD, hS⟩ := hH
  have hAA : ∀ q, va_A (vm_ws G mem) H.size q → A q := by
    rintro q (⟨k, e, h⟩ | h)
    · exact hD.2 k _ h
    · exact hA q (Nat.le_trans hS.1 h)
  intro T hT X
  obtain ⟨v, st₀, t, T', L, h0, X', hL, e1, e2, ⟨r, mem', hv, hq, hP', hD', hz, hk⟩, st⟩ := hr T hT X
  cases hv
  rw [h0] at hz hk
  obtain ⟨t2, a1, b1⟩ := kk r mem' T'.heap (locs ++ L) hq ⟨by rw [e1]; exact hP', hD'.weaken (fun _ _ _ h => hAA _ h), Nat.le_trans hS.1 (by rw [e1]; exact hz), fun q h1 h2 => by rw [e1, hk q (Nat.lt_of_lt_of_le h1 hS.1) (fun z => h2 (hAA q z))]; exact hS.2.1 q h1 h2, fun q hq => by
      rcases List.mem_append.mp hq with h | h
      · exact hS.2.2 q h
      · exact hAA _ (hL q h)⟩ T' rfl X'
  exact ⟨t2, st t2 a1, b1⟩
theorem vm_map_nil (G : vm_G) (r : Option vm_V) (st : List vm_V) : (r.map (vm_cv G)).toList ++ st.map (vm_cv G) = (r.toList ++ st).map (vm_cv G) := by
  cases r <;> simp
/-- how many words lie on a stack -/
def vm_sw : List vm_V → Nat
  | [] => 0
  | .inr (.inl _) :: st => 2 + vm_sw st
  | _ :: st => 1 + vm_sw st
theorem vm_sw_eq (G : vm_G) : ∀ st : List vm_V, ((st.map (vm_cv G)).map fun v => v.category).sum = vm_sw st
  | [] => rfl
  | .inl x :: st => by simp [vm_sw, vm_cv, Value.category, ← vm_sw_eq G st]
  | .inr (.inl x) :: st => by simp [vm_sw, vm_cv, Value.category, ← vm_sw_eq G st]
  | .inr (.inr x) :: st => by simp [vm_sw, vm_cv, Value.category, ← vm_sw_eq G st]
section VMC
variable {G : vm_G} {d : Nat} {M : vm_Me} {pc : Nat} {al : List (Option vm_V)} {st : List vm_V} {mem : vm_M} {Q : vm_M → Option vm_V → Prop}
theorem ex_invV {M' : vm_Me} {idx n b ci N : Nat} {As : List vm_V} {C : String} {T : u_T} {ty : Nat → FieldType} {x : List Nat} (i : Nat) (hc : vm_nth M.code i = some (pc, .invokevirtual idx, 3, x)) (hcl : vm_clk ci C T N ty) (hkd : vm_nth vm_kinds b = some (0, ci)) (hC : M'.y.cls = C) (hM : vm_calI M' n) (hlk : vm_link M.y.cls idx M'.y) (hn : As.length = n) (hst : Nat.ble (vm_sw st) 8 = true)
    (h : vm_call G d M' (.inr (.inr b) :: As) mem (fun mem' r => vm_ex G (d + 1) M (pc + 3) al (r.toList ++ st) mem' Q)) : vm_ex G (d + 1) M pc al (As.reverse ++ .inr (.inr b) :: st) mem Q := by
  intro ok p e R s m args below meth c A cells slots Z Cx H locs ls hH hl hret
  have hdg := vm_dec ok hc
  obtain ⟨hx, hb, hml, hown, hts, hnn, hR, hK, hA, hO⟩ := id Cx
  obtain ⟨hcl1, hin, hty, hnm, hnf⟩ := hcl
  obtain ⟨⟨hi1, hi2⟩, hcode, hini, hdd, hmx⟩ := hM
  have hb38 : b < 38 := by
    rw [vm_nth_eq] at hkd
    exact (List.getElem?_eq_some_iff.mp hkd).1
  have hcell := vm_ws_at G mem hb38
  rw [vm_cell_obj hkd] at hcell
  have hrecv := va_recv hK hH.1 hcl1 hcell
  have hG : GoodIn vm_WS (vm_wsM M') := fun w hw => by
    rcases List.mem_cons.mp hw with rfl | hw
    · exact vm_WS_good _ hcode
    · exact vm_WS_good _ hw
  have hroom : (vm_rm d).frames + 1 ≤ R.frames ∧ 8 + (M'.maxL + 11) + (vm_rm d).locals ≤ R.locals := ⟨hR.1, by show 8 + (M'.maxL + 11) + 60 * d ≤ R.locals; omega⟩
  have hst8 : ((st.map (vm_cv G)).map fun v => v.category).sum ≤ 8 := by
    rw [vm_sw_eq]; exact Nat.le_of_ble_eq_true hst
  have hstk : (As.reverse ++ .inr (.inr b) :: st).map (vm_cv G) = (As.map (vm_cv G)).reverse ++ .ref (G.adr b) :: st.map (vm_cv G) := by simp [vm_cv]
  have hp : PreV s H C (G.adr b) (va_Pc ((.inr (.inr b) :: As).map (vm_cv G)) (vm_Pc G mem H.size)) (As.map (vm_cv G)) :=
    ⟨vm_blind G mem H.size _, hrecv, fun U hU hW => vm_pre Cx hH U hU hW⟩
  have hrun : va_Run p G.l e R s m args below meth c H locs cells slots 0 0 (F0 m pc ls ((As.map (vm_cv G)).reverse ++ .ref (G.adr b) :: st.map (vm_cv G))) (st.map (vm_cv G)) (vm_Qc G mem H.size (fun mem' r => vm_ex G (d + 1) M (pc + 3) al (r.toList ++ st) mem' Q) (Value.ref (G.adr b) :: As.map (vm_cv G)).toArray) (va_A (vm_ws G mem) H.size) := by
    rcases hlk with hlk | ⟨host, hlk⟩
    · exact va_runV (C := C) ⟨hx, hb, hml, hown, hts⟩ (h H.size) ⟨callB_of n hts hG rfl rfl rfl (hts _ hini) (hts _ hlk) hdd hroom, hts _ hi1, by rw [← hC]; exact hts _ hi2⟩ hp rfl (by rw [List.length_map]; exact hn) hl.1 rfl (lv_room (pc := pc) (ls := ls) (rest := []) (m := m) hst8) hdg ⟨hR.2.2.1, hR.2.2.2⟩
    · exact va_runVN (C := C) ⟨hx, hb, hml, hown, hts⟩ (h H.size) ⟨va_cnB n hts hG rfl rfl rfl (hnn _ hlk) (hts _ hini) hdd hroom, hts _ hi1, by rw [← hC]; exact hts _ hi2⟩ hp rfl (by rw [List.length_map]; exact hn) hl.1 rfl (lv_room (pc := pc) (ls := ls) (rest := []) (m := m) hst8) hdg ⟨hR.2.2.1, hR.2.2.2⟩
  rw [hstk]
  refine vm_back Cx hH hrun (fun r mem' H1 locs1 hq hH1 => ?_)
  rw [vm_map_nil]
  exact hq ok p e R s m args below meth c A cells slots Z Cx H1 locs1 ls hH1 hl hret
theorem ex_invS {M' : vm_Me} {idx n : Nat} {As : List vm_V} {x : List Nat} (i : Nat) (hc : vm_nth M.code i = some (pc, .invokestatic idx, 3, x)) (hM : vm_calS M' n) (hlk : vm_link M.y.cls idx M'.y) (hn : As.length = n) (hst : Nat.ble (vm_sw st) 8 = true)
    (h : vm_call G d M' As mem (fun mem' r => vm_ex G (d + 1) M (pc + 3) al (r.toList ++ st) mem' Q)) : vm_ex G (d + 1) M pc al (As.reverse ++ st) mem Q := by
  intro ok p e R s m args below meth c A cells slots Z Cx H locs ls hH hl hret
  have hdg := vm_dec ok hc
  obtain ⟨hx, hb, hml, hown, hts, hnn, hR, hK, hA, hO⟩ := id Cx
  obtain ⟨hi1, hcode, hini, hdd, hmx⟩ := hM
  have hG : GoodIn vm_WS (vm_wsM M') := fun w hw => by
    rcases List.mem_cons.mp hw with rfl | hw
    · exact vm_WS_good _ hcode
    · exact vm_WS_good _ hw
  have hroom : (vm_rm d).frames + 1 ≤ R.frames ∧ 8 + (M'.maxL + 11) + (vm_rm d).locals ≤ R.locals := ⟨hR.1, by show 8 + (M'.maxL + 11) + 60 * d ≤ R.locals; omega⟩
  have hst8 : ((st.map (vm_cv G)).map fun v => v.category).sum ≤ 8 := by
    rw [vm_sw_eq]; exact Nat.le_of_ble_eq_true hst
  have hstk : (As.reverse ++ st).map (vm_cv G) = (As.map (vm_cv G)).reverse ++ st.map (vm_cv G) := by simp
  have hp : PreS s H (va_Pc (As.map (vm_cv G)) (vm_Pc G mem H.size)) (As.map (vm_cv G)) :=
    ⟨vm_blind G mem H.size _, fun U hU hW => vm_pre Cx hH U hU hW⟩
  have hrun : va_Run p G.l e R s m args below meth c H locs cells slots 0 0 (F0 m pc ls ((As.map (vm_cv G)).reverse ++ st.map (vm_cv G))) (st.map (vm_cv G)) (vm_Qc G mem H.size (fun mem' r => vm_ex G (d + 1) M (pc + 3) al (r.toList ++ st) mem' Q) (As.map (vm_cv G)).toArray) (va_A (vm_ws G mem) H.size) := by
    rcases hlk with hlk | ⟨host, hlk⟩
    · exact va_runS ⟨hx, hb, hml, hown, hts⟩ (h H.size) ⟨callB_of n hts hG rfl rfl rfl (hts _ hini) (hts _ hlk) hdd hroom, hts _ hi1⟩ hp rfl (by rw [List.length_map]; exact hn) hl.1 rfl (lv_room (pc := pc) (ls := ls) (rest := []) (m := m) hst8) hdg ⟨hR.2.2.1, hR.2.2.2⟩
    · exact va_runSN ⟨hx, hb, hml, hown, hts⟩ (h H.size) ⟨va_cnB n hts hG rfl rfl rfl (hnn _ hlk) (hts _ hini) hdd hroom, hts _ hi1, trivial⟩ hp rfl (by rw [List.length_map]; exact hn) hl.1 rfl (lv_room (pc := pc) (ls := ls) (rest := []) (m := m) hst8) hdg ⟨hR.2.2.1, hR.2.2.2⟩
  rw [hstk]
  refine vm_back Cx hH hrun (fun r mem' H1 locs1 hq hH1 => ?_)
  rw [vm_map_nil]
  exact hq ok p e R s m args below meth c A cells slots Z Cx H1 locs1 ls hH1 hl hret
end VMC
end
section
theorem vm_i2lE {a : Int} (h : vm_R a) : (Int32.ofInt a).toInt64 = Int64.ofInt a := by
  rw [← Int64.toInt_inj, Int32.toInt_toInt64, vm_toOf h, Int64.toInt_ofInt]
  unfold vm_R at h
  have hs : (Int64.size : Int) = 18446744073709551616 := rfl
  rw [Int.bmod_def, hs]
  split <;> omega
section VMR
variable {G : vm_G} {d : Nat} {M : vm_Me} {pc : Nat} {al : List (Option vm_V)} {st : List vm_V} {mem : vm_M} {Q : vm_M → Option vm_V → Prop}
theorem ex_iadd {x_ : List Nat} {a b : Int} (i_ : Nat) (hc : vm_nth M.code i_ = some (pc, .iadd, 1, x_)) (h : vm_ex G d M (pc + 1) al (.inl (a + b) :: st) mem Q) : vm_ex G d M pc al (.inl b :: .inl a :: st) mem Q := by
  intro ok p e R s m args below meth c A cells slots Z Cx H locs ls hH hl hret
  obtain ⟨hx, hb, hml, hown, hts, hnn, hR, hK, hA, hO⟩ := id Cx
  have hdg := vm_dec ok hc
  have hk := h ok p e R s m args below meth c A cells slots Z Cx H locs ls hH hl hret
  simp only [List.map_cons, vm_cv, Int32.ofInt_add, Int32.ofInt_sub, Int32.ofInt_mul, Int32.ofInt_neg, vm_ofTo, vm_ofTo64] at hk ⊢
  exact lv_iadd hx hb hdg hk
theorem ex_isub {x_ : List Nat} {a b : Int} (i_ : Nat) (hc : vm_nth M.code i_ = some (pc, .isub, 1, x_)) (h : vm_ex G d M (pc + 1) al (.inl (a - b) :: st) mem Q) : vm_ex G d M pc al (.inl b :: .inl a :: st) mem Q := by
  intro ok p e R s m args below meth c A cells slots Z Cx H locs ls hH hl hret
  obtain ⟨hx, hb, hml, hown, hts, hnn, hR, hK, hA, hO⟩ := id Cx
  have hdg := vm_dec ok hc
  have hk := h ok p e R s m args below meth c A cells slots Z Cx H locs ls hH hl hret
  simp only [List.map_cons, vm_cv, Int32.ofInt_add, Int32.ofInt_sub, Int32.ofInt_mul, Int32.ofInt_neg, vm_ofTo, vm_ofTo64] at hk ⊢
  exact lv_isub hx hb hdg hk
theorem ex_imul {x_ : List Nat} {a b : Int} (i_ : Nat) (hc : vm_nth M.code i_ = some (pc, .imul, 1, x_)) (h : vm_ex G d M (pc + 1) al (.inl (a * b) :: st) mem Q) : vm_ex G d M pc al (.inl b :: .inl a :: st) mem Q := by
  intro ok p e R s m args below meth c A cells slots Z Cx H locs ls hH hl hret
  obtain ⟨hx, hb, hml, hown, hts, hnn, hR, hK, hA, hO⟩ := id Cx
  have hdg := vm_dec ok hc
  have hk := h ok p e R s m args below meth c A cells slots Z Cx H locs ls hH hl hret
  simp only [List.map_cons, vm_cv, Int32.ofInt_add, Int32.ofInt_sub, Int32.ofInt_mul, Int32.ofInt_neg, vm_ofTo, vm_ofTo64] at hk ⊢
  exact lv_imul hx hb hdg hk
theorem ex_iand {x_ : List Nat} {a b : Int} (i_ : Nat) (hc : vm_nth M.code i_ = some (pc, .iand, 1, x_)) (h : vm_ex G d M (pc + 1) al (.inl (vm_and a b) :: st) mem Q) : vm_ex G d M pc al (.inl b :: .inl a :: st) mem Q := by
  intro ok p e R s m args below meth c A cells slots Z Cx H locs ls hH hl hret
  obtain ⟨hx, hb, hml, hown, hts, hnn, hR, hK, hA, hO⟩ := id Cx
  have hdg := vm_dec ok hc
  have hk := h ok p e R s m args below meth c A cells slots Z Cx H locs ls hH hl hret
  simp only [vm_and] at hk
  simp only [List.map_cons, vm_cv, Int32.ofInt_add, Int32.ofInt_sub, Int32.ofInt_mul, Int32.ofInt_neg, vm_ofTo, vm_ofTo64] at hk ⊢
  exact lv_iand hx hb hdg hk
theorem ex_ior {x_ : List Nat} {a b : Int} (i_ : Nat) (hc : vm_nth M.code i_ = some (pc, .ior, 1, x_)) (h : vm_ex G d M (pc + 1) al (.inl (vm_or a b) :: st) mem Q) : vm_ex G d M pc al (.inl b :: .inl a :: st) mem Q := by
  intro ok p e R s m args below meth c A cells slots Z Cx H locs ls hH hl hret
  obtain ⟨hx, hb, hml, hown, hts, hnn, hR, hK, hA, hO⟩ := id Cx
  have hdg := vm_dec ok hc
  have hk := h ok p e R s m args below meth c A cells slots Z Cx H locs ls hH hl hret
  simp only [vm_or] at hk
  simp only [List.map_cons, vm_cv, Int32.ofInt_add, Int32.ofInt_sub, Int32.ofInt_mul, Int32.ofInt_neg, vm_ofTo, vm_ofTo64] at hk ⊢
  exact lv_ior hx hb hdg hk
theorem ex_ixor {x_ : List Nat} {a b : Int} (i_ : Nat) (hc : vm_nth M.code i_ = some (pc, .ixor, 1, x_)) (h : vm_ex G d M (pc + 1) al (.inl (vm_xor a b) :: st) mem Q) : vm_ex G d M pc al (.inl b :: .inl a :: st) mem Q := by
  intro ok p e R s m args below meth c A cells slots Z Cx H locs ls hH hl hret
  obtain ⟨hx, hb, hml, hown, hts, hnn, hR, hK, hA, hO⟩ := id Cx
  have hdg := vm_dec ok hc
  have hk := h ok p e R s m args below meth c A cells slots Z Cx H locs ls hH hl hret
  simp only [vm_xor] at hk
  simp only [List.map_cons, vm_cv, Int32.ofInt_add, Int32.ofInt_sub, Int32.ofInt_mul, Int32.ofInt_neg, vm_ofTo, vm_ofTo64] at hk ⊢
  exact lv_ixor hx hb hdg hk
theorem ex_ishl {x_ : List Nat} {a b : Int} (i_ : Nat) (hc : vm_nth M.code i_ = some (pc, .ishl, 1, x_)) (h : vm_ex G d M (pc + 1) al (.inl (vm_shl a b) :: st) mem Q) : vm_ex G d M pc al (.inl b :: .inl a :: st) mem Q := by
  intro ok p e R s m args below meth c A cells slots Z Cx H locs ls hH hl hret
  obtain ⟨hx, hb, hml, hown, hts, hnn, hR, hK, hA, hO⟩ := id Cx
  have hdg := vm_dec ok hc
  have hk := h ok p e R s m args below meth c A cells slots Z Cx H locs ls hH hl hret
  simp only [vm_shl] at hk
  simp only [List.map_cons, vm_cv, Int32.ofInt_add, Int32.ofInt_sub, Int32.ofInt_mul, Int32.ofInt_neg, vm_ofTo, vm_ofTo64] at hk ⊢
  exact lv_ishl hx hb hdg hk
theorem ex_ishr {x_ : List Nat} {a b : Int} (i_ : Nat) (hc : vm_nth M.code i_ = some (pc, .ishr, 1, x_)) (h : vm_ex G d M (pc + 1) al (.inl (vm_shr a b) :: st) mem Q) : vm_ex G d M pc al (.inl b :: .inl a :: st) mem Q := by
  intro ok p e R s m args below meth c A cells slots Z Cx H locs ls hH hl hret
  obtain ⟨hx, hb, hml, hown, hts, hnn, hR, hK, hA, hO⟩ := id Cx
  have hdg := vm_dec ok hc
  have hk := h ok p e R s m args below meth c A cells slots Z Cx H locs ls hH hl hret
  simp only [vm_shr] at hk
  simp only [List.map_cons, vm_cv, Int32.ofInt_add, Int32.ofInt_sub, Int32.ofInt_mul, Int32.ofInt_neg, vm_ofTo, vm_ofTo64] at hk ⊢
  exact lv_ishr hx hb hdg hk
theorem ex_ineg {x_ : List Nat} {a : Int} (i_ : Nat) (hc : vm_nth M.code i_ = some (pc, .ineg, 1, x_)) (h : vm_ex G d M (pc + 1) al (.inl (-a) :: st) mem Q) : vm_ex G d M pc al (.inl a :: st) mem Q := by
  intro ok p e R s m args below meth c A cells slots Z Cx H locs ls hH hl hret
  obtain ⟨hx, hb, hml, hown, hts, hnn, hR, hK, hA, hO⟩ := id Cx
  have hdg := vm_dec ok hc
  have hk := h ok p e R s m args below meth c A cells slots Z Cx H locs ls hH hl hret
  simp only [List.map_cons, vm_cv, Int32.ofInt_add, Int32.ofInt_sub, Int32.ofInt_mul, Int32.ofInt_neg, vm_ofTo, vm_ofTo64] at hk ⊢
  exact lv_ineg hx hb hdg hk
theorem ex_idiv {x_ : List Nat} {a b : Int} (i_ : Nat) (hc : vm_nth M.code i_ = some (pc, .idiv, 1, x_)) (hb0 : vm_R b ∧ ¬ b = 0) (h : vm_ex G d M (pc + 1) al (.inl (vm_div a b) :: st) mem Q) : vm_ex G d M pc al (.inl b :: .inl a :: st) mem Q := by
  intro ok p e R s m args below meth c A cells slots Z Cx H locs ls hH hl hret
  obtain ⟨hx, hb, hml, hown, hts, hnn, hR, hK, hA, hO⟩ := id Cx
  have hdg := vm_dec ok hc
  have hk := h ok p e R s m args below meth c A cells slots Z Cx H locs ls hH hl hret
  simp only [vm_div] at hk
  simp only [List.map_cons, vm_cv, Int32.ofInt_add, Int32.ofInt_sub, Int32.ofInt_mul, Int32.ofInt_neg, vm_ofTo, vm_ofTo64] at hk ⊢
  exact lv_idiv hx hb hdg (fun e0 => hb0.2 ((vm_eqI hb0.1 vm_R0).mp (e0.trans vm_zero))) hk
theorem ex_irem {x_ : List Nat} {a b : Int} (i_ : Nat) (hc : vm_nth M.code i_ = some (pc, .irem, 1, x_)) (hb0 : vm_R b ∧ ¬ b = 0) (h : vm_ex G d M (pc + 1) al (.inl (vm_rem a b) :: st) mem Q) : vm_ex G d M pc al (.inl b :: .inl a :: st) mem Q := by
  intro ok p e R s m args below meth c A cells slots Z Cx H locs ls hH hl hret
  obtain ⟨hx, hb, hml, hown, hts, hnn, hR, hK, hA, hO⟩ := id Cx
  have hdg := vm_dec ok hc
  have hk := h ok p e R s m args below meth c A cells slots Z Cx H locs ls hH hl hret
  simp only [vm_rem] at hk
  simp only [List.map_cons, vm_cv, Int32.ofInt_add, Int32.ofInt_sub, Int32.ofInt_mul, Int32.ofInt_neg, vm_ofTo, vm_ofTo64] at hk ⊢
  exact lv_irem hx hb hdg (fun e0 => hb0.2 ((vm_eqI hb0.1 vm_R0).mp (e0.trans vm_zero))) hk
theorem ex_land {x_ : List Nat} {a b : Int} (i_ : Nat) (hc : vm_nth M.code i_ = some (pc, .land, 1, x_)) (h : vm_ex G d M (pc + 1) al (.inr (.inl (vm_land a b)) :: st) mem Q) : vm_ex G d M pc al (.inr (.inl b) :: .inr (.inl a) :: st) mem Q := by
  intro ok p e R s m args below meth c A cells slots Z Cx H locs ls hH hl hret
  obtain ⟨hx, hb, hml, hown, hts, hnn, hR, hK, hA, hO⟩ := id Cx
  have hdg := vm_dec ok hc
  have hk := h ok p e R s m args below meth c A cells slots Z Cx H locs ls hH hl hret
  simp only [vm_land] at hk
  simp only [List.map_cons, vm_cv, Int32.ofInt_add, Int32.ofInt_sub, Int32.ofInt_mul, Int32.ofInt_neg, vm_ofTo, vm_ofTo64] at hk ⊢
  exact lv_land hx hb hdg hk
theorem ex_lor {x_ : List Nat} {a b : Int} (i_ : Nat) (hc : vm_nth M.code i_ = some (pc, .lor, 1, x_)) (h : vm_ex G d M (pc + 1) al (.inr (.inl (vm_lor a b)) :: st) mem Q) : vm_ex G d M pc al (.inr (.inl b) :: .inr (.inl a) :: st) mem Q := by
  intro ok p e R s m args below meth c A cells slots Z Cx H locs ls hH hl hret
  obtain ⟨hx, hb, hml, hown, hts, hnn, hR, hK, hA, hO⟩ := id Cx
  have hdg := vm_dec ok hc
  have hk := h ok p e R s m args below meth c A cells slots Z Cx H locs ls hH hl hret
  simp only [vm_lor] at hk
  simp only [List.map_cons, vm_cv, Int32.ofInt_add, Int32.ofInt_sub, Int32.ofInt_mul, Int32.ofInt_neg, vm_ofTo, vm_ofTo64] at hk ⊢
  exact lv_lor hx hb hdg hk
theorem ex_lushr {x_ : List Nat} {a b : Int} (i_ : Nat) (hc : vm_nth M.code i_ = some (pc, .lushr, 1, x_)) (h : vm_ex G d M (pc + 1) al (.inr (.inl (vm_lushr a b)) :: st) mem Q) : vm_ex G d M pc al (.inl b :: .inr (.inl a) :: st) mem Q := by
  intro ok p e R s m args below meth c A cells slots Z Cx H locs ls hH hl hret
  obtain ⟨hx, hb, hml, hown, hts, hnn, hR, hK, hA, hO⟩ := id Cx
  have hdg := vm_dec ok hc
  have hk := h ok p e R s m args below meth c A cells slots Z Cx H locs ls hH hl hret
  simp only [vm_lushr] at hk
  simp only [List.map_cons, vm_cv, Int32.ofInt_add, Int32.ofInt_sub, Int32.ofInt_mul, Int32.ofInt_neg, vm_ofTo, vm_ofTo64] at hk ⊢
  exact lv_lushr hx hb hdg rfl hk
theorem ex_lshl {x_ : List Nat} {a b : Int} (i_ : Nat) (hc : vm_nth M.code i_ = some (pc, .lshl, 1, x_)) (h : vm_ex G d M (pc + 1) al (.inr (.inl (vm_lshl a b)) :: st) mem Q) : vm_ex G d M pc al (.inl b :: .inr (.inl a) :: st) mem Q := by
  intro ok p e R s m args below meth c A cells slots Z Cx H locs ls hH hl hret
  obtain ⟨hx, hb, hml, hown, hts, hnn, hR, hK, hA, hO⟩ := id Cx
  have hdg := vm_dec ok hc
  have hk := h ok p e R s m args below meth c A cells slots Z Cx H locs ls hH hl hret
  simp only [vm_lshl] at hk
  simp only [List.map_cons, vm_cv, Int32.ofInt_add, Int32.ofInt_sub, Int32.ofInt_mul, Int32.ofInt_neg, vm_ofTo, vm_ofTo64] at hk ⊢
  exact lv_lshl hx hb hdg rfl hk
theorem ex_lshr {x_ : List Nat} {a b : Int} (i_ : Nat) (hc : vm_nth M.code i_ = some (pc, .lshr, 1, x_)) (h : vm_ex G d M (pc + 1) al (.inr (.inl (vm_lshr a b)) :: st) mem Q) : vm_ex G d M pc al (.inl b :: .inr (.inl a) :: st) mem Q := by
  intro ok p e R s m args below meth c A cells slots Z Cx H locs ls hH hl hret
  obtain ⟨hx, hb, hml, hown, hts, hnn, hR, hK, hA, hO⟩ := id Cx
  have hdg := vm_dec ok hc
  have hk := h ok p e R s m args below meth c A cells slots Z Cx H locs ls hH hl hret
  simp only [vm_lshr] at hk
  simp only [List.map_cons, vm_cv, Int32.ofInt_add, Int32.ofInt_sub, Int32.ofInt_mul, Int32.ofInt_neg, vm_ofTo, vm_ofTo64] at hk ⊢
  exact lv_lshr hx hb hdg rfl hk
theorem ex_lcmp {x_ : List Nat} {a b : Int} (i_ : Nat) (hc : vm_nth M.code i_ = some (pc, .lcmp, 1, x_)) (h : vm_ex G d M (pc + 1) al (.inl (vm_lcmp a b) :: st) mem Q) : vm_ex G d M pc al (.inr (.inl b) :: .inr (.inl a) :: st) mem Q := by
  intro ok p e R s m args below meth c A cells slots Z Cx H locs ls hH hl hret
  obtain ⟨hx, hb, hml, hown, hts, hnn, hR, hK, hA, hO⟩ := id Cx
  have hdg := vm_dec ok hc
  have hk := h ok p e R s m args below meth c A cells slots Z Cx H locs ls hH hl hret
  simp only [vm_lcmp] at hk
  simp only [List.map_cons, vm_cv, Int32.ofInt_add, Int32.ofInt_sub, Int32.ofInt_mul, Int32.ofInt_neg, vm_ofTo, vm_ofTo64] at hk ⊢
  exact W.lcmp hx hb hdg hk
theorem ex_i2l {x_ : List Nat} {a : Int} (i_ : Nat) (hc : vm_nth M.code i_ = some (pc, .i2l, 1, x_)) (hr : vm_R a) (h : vm_ex G d M (pc + 1) al (.inr (.inl a) :: st) mem Q) : vm_ex G d M pc al (.inl a :: st) mem Q := by
  intro ok p e R s m args below meth c A cells slots Z Cx H locs ls hH hl hret
  obtain ⟨hx, hb, hml, hown, hts, hnn, hR, hK, hA, hO⟩ := id Cx
  have hdg := vm_dec ok hc
  have hk := h ok p e R s m args below meth c A cells slots Z Cx H locs ls hH hl hret
  simp only [List.map_cons, vm_cv, Int32.ofInt_add, Int32.ofInt_sub, Int32.ofInt_mul, Int32.ofInt_neg, vm_ofTo, vm_ofTo64] at hk ⊢
  exact lv_i2l hx hb hdg (vm_i2lE hr) hk
theorem ex_l2i {x_ : List Nat} {a : Int} (i_ : Nat) (hc : vm_nth M.code i_ = some (pc, .l2i, 1, x_)) (h : vm_ex G d M (pc + 1) al (.inl (vm_l2i a) :: st) mem Q) : vm_ex G d M pc al (.inr (.inl a) :: st) mem Q := by
  intro ok p e R s m args below meth c A cells slots Z Cx H locs ls hH hl hret
  obtain ⟨hx, hb, hml, hown, hts, hnn, hR, hK, hA, hO⟩ := id Cx
  have hdg := vm_dec ok hc
  have hk := h ok p e R s m args below meth c A cells slots Z Cx H locs ls hH hl hret
  simp only [vm_l2i] at hk
  simp only [List.map_cons, vm_cv, Int32.ofInt_add, Int32.ofInt_sub, Int32.ofInt_mul, Int32.ofInt_neg, vm_ofTo, vm_ofTo64] at hk ⊢
  exact lv_l2i hx hb hdg rfl hk
theorem ex_i2c {x_ : List Nat} {a : Int} (i_ : Nat) (hc : vm_nth M.code i_ = some (pc, .i2c, 1, x_)) (h : vm_ex G d M (pc + 1) al (.inl (vm_i2c a) :: st) mem Q) : vm_ex G d M pc al (.inl a :: st) mem Q := by
  intro ok p e R s m args below meth c A cells slots Z Cx H locs ls hH hl hret
  obtain ⟨hx, hb, hml, hown, hts, hnn, hR, hK, hA, hO⟩ := id Cx
  have hdg := vm_dec ok hc
  have hk := h ok p e R s m args below meth c A cells slots Z Cx H locs ls hH hl hret
  simp only [vm_i2c] at hk
  simp only [List.map_cons, vm_cv, Int32.ofInt_add, Int32.ofInt_sub, Int32.ofInt_mul, Int32.ofInt_neg, vm_ofTo, vm_ofTo64] at hk ⊢
  exact lv_i2c hx hb hdg rfl hk
theorem ex_iconst {x_ : List Nat} {n : Int} (i_ : Nat) (hc : vm_nth M.code i_ = some (pc, .iconst n, 1, x_)) (h : vm_ex G d M (pc + 1) al (.inl n :: st) mem Q) : vm_ex G d M pc al (st) mem Q := by
  intro ok p e R s m args below meth c A cells slots Z Cx H locs ls hH hl hret
  obtain ⟨hx, hb, hml, hown, hts, hnn, hR, hK, hA, hO⟩ := id Cx
  have hdg := vm_dec ok hc
  have hk := h ok p e R s m args below meth c A cells slots Z Cx H locs ls hH hl hret
  simp only [List.map_cons, vm_cv, Int32.ofInt_add, Int32.ofInt_sub, Int32.ofInt_mul, Int32.ofInt_neg, vm_ofTo, vm_ofTo64] at hk ⊢
  exact lv_iconst hx hb hdg rfl hk
theorem ex_bipush {x_ : List Nat} {n : Int} (i_ : Nat) (hc : vm_nth M.code i_ = some (pc, .bipush n, 2, x_)) (hv : (Int8.ofInt n).toInt32 = Int32.ofInt n) (h : vm_ex G d M (pc + 2) al (.inl n :: st) mem Q) : vm_ex G d M pc al (st) mem Q := by
  intro ok p e R s m args below meth c A cells slots Z Cx H locs ls hH hl hret
  obtain ⟨hx, hb, hml, hown, hts, hnn, hR, hK, hA, hO⟩ := id Cx
  have hdg := vm_dec ok hc
  have hk := h ok p e R s m args below meth c A cells slots Z Cx H locs ls hH hl hret
  simp only [List.map_cons, vm_cv, Int32.ofInt_add, Int32.ofInt_sub, Int32.ofInt_mul, Int32.ofInt_neg, vm_ofTo, vm_ofTo64] at hk ⊢
  exact lv_bipush hx hb hdg hv hk
theorem ex_sipush {x_ : List Nat} {n : Int} (i_ : Nat) (hc : vm_nth M.code i_ = some (pc, .sipush n, 3, x_)) (hv : (Int16.ofInt n).toInt32 = Int32.ofInt n) (h : vm_ex G d M (pc + 3) al (.inl n :: st) mem Q) : vm_ex G d M pc al (st) mem Q := by
  intro ok p e R s m args below meth c A cells slots Z Cx H locs ls hH hl hret
  obtain ⟨hx, hb, hml, hown, hts, hnn, hR, hK, hA, hO⟩ := id Cx
  have hdg := vm_dec ok hc
  have hk := h ok p e R s m args below meth c A cells slots Z Cx H locs ls hH hl hret
  simp only [List.map_cons, vm_cv, Int32.ofInt_add, Int32.ofInt_sub, Int32.ofInt_mul, Int32.ofInt_neg, vm_ofTo, vm_ofTo64] at hk ⊢
  exact lv_sipush hx hb hdg hv hk
theorem ex_lconst {x_ : List Nat} {k : Fin 2} {n : Int} (i_ : Nat) (hc : vm_nth M.code i_ = some (pc, .lconst k, 1, x_)) (hv : Int64.ofNat (k : Nat) = Int64.ofInt n) (h : vm_ex G d M (pc + 1) al (.inr (.inl n) :: st) mem Q) : vm_ex G d M pc al (st) mem Q := by
  intro ok p e R s m args below meth c A cells slots Z Cx H locs ls hH hl hret
  obtain ⟨hx, hb, hml, hown, hts, hnn, hR, hK, hA, hO⟩ := id Cx
  have hdg := vm_dec ok hc
  have hk := h ok p e R s m args below meth c A cells slots Z Cx H locs ls hH hl hret
  simp only [List.map_cons, vm_cv, Int32.ofInt_add, Int32.ofInt_sub, Int32.ofInt_mul, Int32.ofInt_neg, vm_ofTo, vm_ofTo64] at hk ⊢
  exact lv_lconst hx hb hdg hv hk
theorem ex_ldc {x_ : List Nat} {idx : Nat} {v : Int32} {n : Int} (i_ : Nat) (hc : vm_nth M.code i_ = some (pc, .ldc idx, 2, x_)) (hw : Cond.constant M.y.cls idx v ∈ vm_WS) (hv : v = Int32.ofInt n) (h : vm_ex G d M (pc + 2) al (.inl n :: st) mem Q) : vm_ex G d M pc al (st) mem Q := by
  intro ok p e R s m args below meth c A cells slots Z Cx H locs ls hH hl hret
  obtain ⟨hx, hb, hml, hown, hts, hnn, hR, hK, hA, hO⟩ := id Cx
  have hdg := vm_dec ok hc
  have hk := h ok p e R s m args below meth c A cells slots Z Cx H locs ls hH hl hret
  simp only [List.map_cons, vm_cv, Int32.ofInt_add, Int32.ofInt_sub, Int32.ofInt_mul, Int32.ofInt_neg, vm_ofTo, vm_ofTo64] at hk ⊢
  exact lv_ldc hx hb hown (hts _ hw) hdg (hv ▸ hk)
theorem ex_ldc2 {x_ : List Nat} {idx : Nat} {v : Int64} {n : Int} (i_ : Nat) (hc : vm_nth M.code i_ = some (pc, .ldc2_w idx, 3, x_)) (hw : Cond.constantLong M.y.cls idx v ∈ vm_WS) (hv : v = Int64.ofInt n) (h : vm_ex G d M (pc + 3) al (.inr (.inl n) :: st) mem Q) : vm_ex G d M pc al (st) mem Q := by
  intro ok p e R s m args below meth c A cells slots Z Cx H locs ls hH hl hret
  obtain ⟨hx, hb, hml, hown, hts, hnn, hR, hK, hA, hO⟩ := id Cx
  have hdg := vm_dec ok hc
  have hk := h ok p e R s m args below meth c A cells slots Z Cx H locs ls hH hl hret
  simp only [List.map_cons, vm_cv, Int32.ofInt_add, Int32.ofInt_sub, Int32.ofInt_mul, Int32.ofInt_neg, vm_ofTo, vm_ofTo64] at hk ⊢
  exact lv_ldc2 hx hb hown (hts _ hw) hdg (hv ▸ hk)
theorem ex_iload_n {x_ : List Nat} {k : Fin 4} {v : Int} (i_ : Nat) (hc : vm_nth M.code i_ = some (pc, .iload_n k, 1, x_)) (hv : vm_nth al k = some (some (.inl v))) (h : vm_ex G d M (pc + 1) al (.inl v :: st) mem Q) : vm_ex G d M pc al (st) mem Q := by
  intro ok p e R s m args below meth c A cells slots Z Cx H locs ls hH hl hret
  obtain ⟨hx, hb, hml, hown, hts, hnn, hR, hK, hA, hO⟩ := id Cx
  have hdg := vm_dec ok hc
  have hk := h ok p e R s m args below meth c A cells slots Z Cx H locs ls hH hl hret
  have hv := vm_lk_at hl hv
  simp only [List.map_cons, vm_cv, Int32.ofInt_add, Int32.ofInt_sub, Int32.ofInt_mul, Int32.ofInt_neg, vm_ofTo, vm_ofTo64] at hk hv ⊢
  exact lv_iload_n hx hb hdg rfl hv hk
theorem ex_iload {x_ : List Nat} {k : Nat} {v : Int} (i_ : Nat) (hc : vm_nth M.code i_ = some (pc, .iload k, 2, x_)) (hv : vm_nth al k = some (some (.inl v))) (h : vm_ex G d M (pc + 2) al (.inl v :: st) mem Q) : vm_ex G d M pc al (st) mem Q := by
  intro ok p e R s m args below meth c A cells slots Z Cx H locs ls hH hl hret
  obtain ⟨hx, hb, hml, hown, hts, hnn, hR, hK, hA, hO⟩ := id Cx
  have hdg := vm_dec ok hc
  have hk := h ok p e R s m args below meth c A cells slots Z Cx H locs ls hH hl hret
  have hv := vm_lk_at hl hv
  simp only [List.map_cons, vm_cv, Int32.ofInt_add, Int32.ofInt_sub, Int32.ofInt_mul, Int32.ofInt_neg, vm_ofTo, vm_ofTo64] at hk hv ⊢
  exact lv_iload hx hb hdg hv hk
theorem ex_lload_n {x_ : List Nat} {k : Fin 4} {v : Int} (i_ : Nat) (hc : vm_nth M.code i_ = some (pc, .lload_n k, 1, x_)) (hv : vm_nth al k = some (some (.inr (.inl v)))) (h : vm_ex G d M (pc + 1) al (.inr (.inl v) :: st) mem Q) : vm_ex G d M pc al (st) mem Q := by
  intro ok p e R s m args below meth c A cells slots Z Cx H locs ls hH hl hret
  obtain ⟨hx, hb, hml, hown, hts, hnn, hR, hK, hA, hO⟩ := id Cx
  have hdg := vm_dec ok hc
  have hk := h ok p e R s m args below meth c A cells slots Z Cx H locs ls hH hl hret
  have hv := vm_lk_at hl hv
  simp only [List.map_cons, vm_cv, Int32.ofInt_add, Int32.ofInt_sub, Int32.ofInt_mul, Int32.ofInt_neg, vm_ofTo, vm_ofTo64] at hk hv ⊢
  exact lv_lload_n hx hb hdg rfl hv hk
theorem ex_lload {x_ : List Nat} {k : Nat} {v : Int} (i_ : Nat) (hc : vm_nth M.code i_ = some (pc, .lload k, 2, x_)) (hv : vm_nth al k = some (some (.inr (.inl v)))) (h : vm_ex G d M (pc + 2) al (.inr (.inl v) :: st) mem Q) : vm_ex G d M pc al (st) mem Q := by
  intro ok p e R s m args below meth c A cells slots Z Cx H locs ls hH hl hret
  obtain ⟨hx, hb, hml, hown, hts, hnn, hR, hK, hA, hO⟩ := id Cx
  have hdg := vm_dec ok hc
  have hk := h ok p e R s m args below meth c A cells slots Z Cx H locs ls hH hl hret
  have hv := vm_lk_at hl hv
  simp only [List.map_cons, vm_cv, Int32.ofInt_add, Int32.ofInt_sub, Int32.ofInt_mul, Int32.ofInt_neg, vm_ofTo, vm_ofTo64] at hk hv ⊢
  exact lv_lload hx hb hdg hv hk
theorem ex_aload_n {x_ : List Nat} {k : Fin 4} {v : Nat} (i_ : Nat) (hc : vm_nth M.code i_ = some (pc, .aload_n k, 1, x_)) (hv : vm_nth al k = some (some (.inr (.inr v)))) (h : vm_ex G d M (pc + 1) al (.inr (.inr v) :: st) mem Q) : vm_ex G d M pc al (st) mem Q := by
  intro ok p e R s m args below meth c A cells slots Z Cx H locs ls hH hl hret
  obtain ⟨hx, hb, hml, hown, hts, hnn, hR, hK, hA, hO⟩ := id Cx
  have hdg := vm_dec ok hc
  have hk := h ok p e R s m args below meth c A cells slots Z Cx H locs ls hH hl hret
  have hv := vm_lk_at hl hv
  simp only [List.map_cons, vm_cv, Int32.ofInt_add, Int32.ofInt_sub, Int32.ofInt_mul, Int32.ofInt_neg, vm_ofTo, vm_ofTo64] at hk hv ⊢
  exact lv_aload_n hx hb hdg rfl hv hk
theorem ex_aload {x_ : List Nat} {k : Nat} {v : Nat} (i_ : Nat) (hc : vm_nth M.code i_ = some (pc, .aload k, 2, x_)) (hv : vm_nth al k = some (some (.inr (.inr v)))) (h : vm_ex G d M (pc + 2) al (.inr (.inr v) :: st) mem Q) : vm_ex G d M pc al (st) mem Q := by
  intro ok p e R s m args below meth c A cells slots Z Cx H locs ls hH hl hret
  obtain ⟨hx, hb, hml, hown, hts, hnn, hR, hK, hA, hO⟩ := id Cx
  have hdg := vm_dec ok hc
  have hk := h ok p e R s m args below meth c A cells slots Z Cx H locs ls hH hl hret
  have hv := vm_lk_at hl hv
  simp only [List.map_cons, vm_cv, Int32.ofInt_add, Int32.ofInt_sub, Int32.ofInt_mul, Int32.ofInt_neg, vm_ofTo, vm_ofTo64] at hk hv ⊢
  exact lv_aload hx hb hdg hv hk
theorem ex_istore_n {x_ : List Nat} {k : Fin 4} {v : Int} (i_ : Nat) (hc : vm_nth M.code i_ = some (pc, .istore_n k, 1, x_)) (hn : Nat.ble ((k : Nat) + 1) M.maxL = true) (hok : vm_okst al (k : Nat) = true) (h : vm_ex G d M (pc + 1) (vm_set al k (some (.inl v))) (st) mem Q) : vm_ex G d M pc al (.inl v :: st) mem Q := by
  intro ok p e R s m args below meth c A cells slots Z Cx H locs ls hH hl hret
  obtain ⟨hx, hb, hml, hown, hts, hnn, hR, hK, hA, hO⟩ := id Cx
  have hdg := vm_dec ok hc
  have hn := Nat.le_of_ble_eq_true hn
  simp only [List.map_cons, vm_cv]
  exact lv_istore_n hx hb hdg rfl hl hn rfl (fun ls1 hl1 => h ok p e R s m args below meth c A cells slots Z Cx H locs ls1 hH (vm_lk_set hok hl1) hret)
theorem ex_istore {x_ : List Nat} {k : Nat} {v : Int} (i_ : Nat) (hc : vm_nth M.code i_ = some (pc, .istore k, 2, x_)) (hn : Nat.ble (k + 1) M.maxL = true) (hok : vm_okst al k = true) (h : vm_ex G d M (pc + 2) (vm_set al k (some (.inl v))) (st) mem Q) : vm_ex G d M pc al (.inl v :: st) mem Q := by
  intro ok p e R s m args below meth c A cells slots Z Cx H locs ls hH hl hret
  obtain ⟨hx, hb, hml, hown, hts, hnn, hR, hK, hA, hO⟩ := id Cx
  have hdg := vm_dec ok hc
  have hn := Nat.le_of_ble_eq_true hn
  simp only [List.map_cons, vm_cv]
  exact lv_istore hx hb hdg hl hn rfl (fun ls1 hl1 => h ok p e R s m args below meth c A cells slots Z Cx H locs ls1 hH (vm_lk_set hok hl1) hret)
theorem ex_astore_n {x_ : List Nat} {k : Fin 4} {v : Nat} (i_ : Nat) (hc : vm_nth M.code i_ = some (pc, .astore_n k, 1, x_)) (hn : Nat.ble ((k : Nat) + 1) M.maxL = true) (hok : vm_okst al (k : Nat) = true) (h : vm_ex G d M (pc + 1) (vm_set al k (some (.inr (.inr v)))) (st) mem Q) : vm_ex G d M pc al (.inr (.inr v) :: st) mem Q := by
  intro ok p e R s m args below meth c A cells slots Z Cx H locs ls hH hl hret
  obtain ⟨hx, hb, hml, hown, hts, hnn, hR, hK, hA, hO⟩ := id Cx
  have hdg := vm_dec ok hc
  have hn := Nat.le_of_ble_eq_true hn
  simp only [List.map_cons, vm_cv]
  exact lv_astore_n hx hb hdg rfl hl hn rfl (fun ls1 hl1 => h ok p e R s m args below meth c A cells slots Z Cx H locs ls1 hH (vm_lk_set hok hl1) hret)
theorem ex_astore {x_ : List Nat} {k : Nat} {v : Nat} (i_ : Nat) (hc : vm_nth M.code i_ = some (pc, .astore k, 2, x_)) (hn : Nat.ble (k + 1) M.maxL = true) (hok : vm_okst al k = true) (h : vm_ex G d M (pc + 2) (vm_set al k (some (.inr (.inr v)))) (st) mem Q) : vm_ex G d M pc al (.inr (.inr v) :: st) mem Q := by
  intro ok p e R s m args below meth c A cells slots Z Cx H locs ls hH hl hret
  obtain ⟨hx, hb, hml, hown, hts, hnn, hR, hK, hA, hO⟩ := id Cx
  have hdg := vm_dec ok hc
  have hn := Nat.le_of_ble_eq_true hn
  simp only [List.map_cons, vm_cv]
  exact lv_astore hx hb hdg hl hn rfl (fun ls1 hl1 => h ok p e R s m args below meth c A cells slots Z Cx H locs ls1 hH (vm_lk_set hok hl1) hret)
theorem ex_lstore_n {x_ : List Nat} {k : Fin 4} {v : Int} (i_ : Nat) (hc : vm_nth M.code i_ = some (pc, .lstore_n k, 1, x_)) (hn : Nat.ble ((k : Nat) + 2) M.maxL = true) (hok : vm_okst al (k : Nat) = true) (h : vm_ex G d M (pc + 1) (vm_set (vm_set al k (some (.inr (.inl v)))) ((k : Nat) + 1) none) (st) mem Q) : vm_ex G d M pc al (.inr (.inl v) :: st) mem Q := by
  intro ok p e R s m args below meth c A cells slots Z Cx H locs ls hH hl hret
  obtain ⟨hx, hb, hml, hown, hts, hnn, hR, hK, hA, hO⟩ := id Cx
  have hdg := vm_dec ok hc
  have hn := Nat.le_of_ble_eq_true hn
  simp only [List.map_cons, vm_cv]
  exact lv_lstore_n hx hb hdg rfl hl hn rfl (fun ls1 hl1 => h ok p e R s m args below meth c A cells slots Z Cx H locs ls1 hH (vm_lk_set2 hok hl1) hret)
theorem ex_lstore {x_ : List Nat} {k : Nat} {v : Int} (i_ : Nat) (hc : vm_nth M.code i_ = some (pc, .lstore k, 2, x_)) (hn : Nat.ble ((k : Nat) + 2) M.maxL = true) (hok : vm_okst al (k : Nat) = true) (h : vm_ex G d M (pc + 2) (vm_set (vm_set al k (some (.inr (.inl v)))) ((k : Nat) + 1) none) (st) mem Q) : vm_ex G d M pc al (.inr (.inl v) :: st) mem Q := by
  intro ok p e R s m args below meth c A cells slots Z Cx H locs ls hH hl hret
  obtain ⟨hx, hb, hml, hown, hts, hnn, hR, hK, hA, hO⟩ := id Cx
  have hdg := vm_dec ok hc
  have hn := Nat.le_of_ble_eq_true hn
  simp only [List.map_cons, vm_cv]
  exact lv_lstore hx hb hdg hl hn rfl (fun ls1 hl1 => h ok p e R s m args below meth c A cells slots Z Cx H locs ls1 hH (vm_lk_set2 hok hl1) hret)
theorem ex_iinc {x_ : List Nat} {k : Nat} {n v : Int} (i_ : Nat) (hc : vm_nth M.code i_ = some (pc, .iinc k n, 3, x_)) (hv : vm_nth al k = some (some (.inl v))) (hn : Nat.ble (k + 1) M.maxL = true) (hok : vm_okst al k = true) (h : vm_ex G d M (pc + 3) (vm_set al k (some (.inl (v + n)))) (st) mem Q) : vm_ex G d M pc al (st) mem Q := by
  intro ok p e R s m args below meth c A cells slots Z Cx H locs ls hH hl hret
  obtain ⟨hx, hb, hml, hown, hts, hnn, hR, hK, hA, hO⟩ := id Cx
  have hdg := vm_dec ok hc
  have hn := Nat.le_of_ble_eq_true hn
  have hv1 : (k, vm_cv G (.inl v)) ∈ vm_lk G al := vm_lk_mem.mpr ⟨_, by rw [← vm_nth_eq]; exact hv, rfl⟩
  obtain ⟨j, hj⟩ := List.getElem?_of_mem hv1
  exact lv_iinc (k := j) hx hb hdg hl hj (v := Int32.ofInt (v + n)) (by rw [Int32.ofInt_add]) hn rfl (fun ls1 hl1 => h ok p e R s m args below meth c A cells slots Z Cx H locs ls1 hH (vm_lk_set hok hl1) hret)
theorem ex_dupi {x_ : List Nat} {a : Int} (i_ : Nat) (hc : vm_nth M.code i_ = some (pc, .dup, 1, x_)) (h : vm_ex G d M (pc + 1) al (.inl a :: .inl a :: st) mem Q) : vm_ex G d M pc al (.inl a :: st) mem Q := by
  intro ok p e R s m args below meth c A cells slots Z Cx H locs ls hH hl hret
  obtain ⟨hx, hb, hml, hown, hts, hnn, hR, hK, hA, hO⟩ := id Cx
  have hdg := vm_dec ok hc
  have hk := h ok p e R s m args below meth c A cells slots Z Cx H locs ls hH hl hret
  simp only [List.map_cons, vm_cv, Int32.ofInt_add, Int32.ofInt_sub, Int32.ofInt_mul, Int32.ofInt_neg, vm_ofTo, vm_ofTo64] at hk ⊢
  exact lv_dup hx hb hdg rfl hk
theorem ex_dupa {x_ : List Nat} {a : Nat} (i_ : Nat) (hc : vm_nth M.code i_ = some (pc, .dup, 1, x_)) (h : vm_ex G d M (pc + 1) al (.inr (.inr a) :: .inr (.inr a) :: st) mem Q) : vm_ex G d M pc al (.inr (.inr a) :: st) mem Q := by
  intro ok p e R s m args below meth c A cells slots Z Cx H locs ls hH hl hret
  obtain ⟨hx, hb, hml, hown, hts, hnn, hR, hK, hA, hO⟩ := id Cx
  have hdg := vm_dec ok hc
  have hk := h ok p e R s m args below meth c A cells slots Z Cx H locs ls hH hl hret
  simp only [List.map_cons, vm_cv, Int32.ofInt_add, Int32.ofInt_sub, Int32.ofInt_mul, Int32.ofInt_neg, vm_ofTo, vm_ofTo64] at hk ⊢
  exact lv_dup hx hb hdg rfl hk
theorem ex_dup2 {x_ : List Nat} {a : Int} {b : Nat} (i_ : Nat) (hc : vm_nth M.code i_ = some (pc, .dup2, 1, x_)) (h : vm_ex G d M (pc + 1) al (.inl a :: .inr (.inr b) :: .inl a :: .inr (.inr b) :: st) mem Q) : vm_ex G d M pc al (.inl a :: .inr (.inr b) :: st) mem Q := by
  intro ok p e R s m args below meth c A cells slots Z Cx H locs ls hH hl hret
  obtain ⟨hx, hb, hml, hown, hts, hnn, hR, hK, hA, hO⟩ := id Cx
  have hdg := vm_dec ok hc
  have hk := h ok p e R s m args below meth c A cells slots Z Cx H locs ls hH hl hret
  simp only [List.map_cons, vm_cv, Int32.ofInt_add, Int32.ofInt_sub, Int32.ofInt_mul, Int32.ofInt_neg, vm_ofTo, vm_ofTo64] at hk ⊢
  exact lv_dup2_11 hx hb hdg rfl rfl hk
theorem ex_popi {x_ : List Nat} {a : Int} (i_ : Nat) (hc : vm_nth M.code i_ = some (pc, .pop, 1, x_)) (h : vm_ex G d M (pc + 1) al (st) mem Q) : vm_ex G d M pc al (.inl a :: st) mem Q := by
  intro ok p e R s m args below meth c A cells slots Z Cx H locs ls hH hl hret
  obtain ⟨hx, hb, hml, hown, hts, hnn, hR, hK, hA, hO⟩ := id Cx
  have hdg := vm_dec ok hc
  have hk := h ok p e R s m args below meth c A cells slots Z Cx H locs ls hH hl hret
  simp only [List.map_cons, vm_cv, Int32.ofInt_add, Int32.ofInt_sub, Int32.ofInt_mul, Int32.ofInt_neg, vm_ofTo, vm_ofTo64] at hk ⊢
  exact lv_pop hx hb hdg rfl hk
theorem ex_icmp_eq {x_ : List Nat} {off : Int} {a b : Int} (tgt : Nat) (i_ : Nat) (hc : vm_nth M.code i_ = some (pc, .if_icmp .eq off, 3, x_)) (ht : (pc : Int) + off = (tgt : Int)) (ha : vm_R a) (hb0 : vm_R b) (kt : a = b → vm_ex G d M tgt al st mem Q) (kf : ¬ a = b → vm_ex G d M (pc + 3) al st mem Q) : vm_ex G d M pc al (.inl b :: .inl a :: st) mem Q := by
  intro ok p e R s m args below meth c A cells slots Z Cx H locs ls hH hl hret
  obtain ⟨hx, hb, hml, hown, hts, hnn, hR, hK, hA, hO⟩ := id Cx
  have hdg := vm_dec ok hc
  simp only [List.map_cons, vm_cv]
  refine lv_icmp_eq hx hb hdg ht (fun h1 => ?_) (fun h1 => ?_)
  · exact kt ((vm_eqI ha hb0).mp h1) ok p e R s m args below meth c A cells slots Z Cx H locs ls hH hl hret
  · exact kf (fun h2 => h1 ((vm_eqI ha hb0).mpr h2)) ok p e R s m args below meth c A cells slots Z Cx H locs ls hH hl hret
theorem ex_icmp_ne {x_ : List Nat} {off : Int} {a b : Int} (tgt : Nat) (i_ : Nat) (hc : vm_nth M.code i_ = some (pc, .if_icmp .ne off, 3, x_)) (ht : (pc : Int) + off = (tgt : Int)) (ha : vm_R a) (hb0 : vm_R b) (kt : ¬ a = b → vm_ex G d M tgt al st mem Q) (kf : a = b → vm_ex G d M (pc + 3) al st mem Q) : vm_ex G d M pc al (.inl b :: .inl a :: st) mem Q := by
  intro ok p e R s m args below meth c A cells slots Z Cx H locs ls hH hl hret
  obtain ⟨hx, hb, hml, hown, hts, hnn, hR, hK, hA, hO⟩ := id Cx
  have hdg := vm_dec ok hc
  simp only [List.map_cons, vm_cv]
  refine lv_icmp_ne hx hb hdg ht (fun h1 => ?_) (fun h1 => ?_)
  · exact kt ((not_congr (vm_eqI ha hb0)).mp h1) ok p e R s m args below meth c A cells slots Z Cx H locs ls hH hl hret
  · exact kf ((vm_eqI ha hb0).mp h1) ok p e R s m args below meth c A cells slots Z Cx H locs ls hH hl hret
theorem ex_icmp_lt {x_ : List Nat} {off : Int} {a b : Int} (tgt : Nat) (i_ : Nat) (hc : vm_nth M.code i_ = some (pc, .if_icmp .lt off, 3, x_)) (ht : (pc : Int) + off = (tgt : Int)) (ha : vm_R a) (hb0 : vm_R b) (kt : a < b → vm_ex G d M tgt al st mem Q) (kf : ¬ a < b → vm_ex G d M (pc + 3) al st mem Q) : vm_ex G d M pc al (.inl b :: .inl a :: st) mem Q := by
  intro ok p e R s m args below meth c A cells slots Z Cx H locs ls hH hl hret
  obtain ⟨hx, hb, hml, hown, hts, hnn, hR, hK, hA, hO⟩ := id Cx
  have hdg := vm_dec ok hc
  simp only [List.map_cons, vm_cv]
  refine lv_icmp_lt hx hb hdg ht (fun h1 => ?_) (fun h1 => ?_)
  · exact kt ((vm_ltI ha hb0).mp h1) ok p e R s m args below meth c A cells slots Z Cx H locs ls hH hl hret
  · exact kf (fun h2 => h1 ((vm_ltI ha hb0).mpr h2)) ok p e R s m args below meth c A cells slots Z Cx H locs ls hH hl hret
theorem ex_icmp_ge {x_ : List Nat} {off : Int} {a b : Int} (tgt : Nat) (i_ : Nat) (hc : vm_nth M.code i_ = some (pc, .if_icmp .ge off, 3, x_)) (ht : (pc : Int) + off = (tgt : Int)) (ha : vm_R a) (hb0 : vm_R b) (kt : b ≤ a → vm_ex G d M tgt al st mem Q) (kf : ¬ b ≤ a → vm_ex G d M (pc + 3) al st mem Q) : vm_ex G d M pc al (.inl b :: .inl a :: st) mem Q := by
  intro ok p e R s m args below meth c A cells slots Z Cx H locs ls hH hl hret
  obtain ⟨hx, hb, hml, hown, hts, hnn, hR, hK, hA, hO⟩ := id Cx
  have hdg := vm_dec ok hc
  simp only [List.map_cons, vm_cv]
  refine lv_icmp_ge hx hb hdg ht (fun h1 => ?_) (fun h1 => ?_)
  · exact kt ((vm_leI hb0 ha).mp h1) ok p e R s m args below meth c A cells slots Z Cx H locs ls hH hl hret
  · exact kf (fun h2 => h1 ((vm_leI hb0 ha).mpr h2)) ok p e R s m args below meth c A cells slots Z Cx H locs ls hH hl hret
theorem ex_icmp_gt {x_ : List Nat} {off : Int} {a b : Int} (tgt : Nat) (i_ : Nat) (hc : vm_nth M.code i_ = some (pc, .if_icmp .gt off, 3, x_)) (ht : (pc : Int) + off = (tgt : Int)) (ha : vm_R a) (hb0 : vm_R b) (kt : b < a → vm_ex G d M tgt al st mem Q) (kf : ¬ b < a → vm_ex G d M (pc + 3) al st mem Q) : vm_ex G d M pc al (.inl b :: .inl a :: st) mem Q := by
  intro ok p e R s m args below meth c A cells slots Z Cx H locs ls hH hl hret
  obtain ⟨hx, hb, hml, hown, hts, hnn, hR, hK, hA, hO⟩ := id Cx
  have hdg := vm_dec ok hc
  simp only [List.map_cons, vm_cv]
  refine lv_icmp_gt hx hb hdg ht (fun h1 => ?_) (fun h1 => ?_)
  · exact kt ((vm_ltI hb0 ha).mp h1) ok p e R s m args below meth c A cells slots Z Cx H locs ls hH hl hret
  · exact kf (fun h2 => h1 ((vm_ltI hb0 ha).mpr h2)) ok p e R s m args below meth c A cells slots Z Cx H locs ls hH hl hret
theorem ex_icmp_le {x_ : List Nat} {off : Int} {a b : Int} (tgt : Nat) (i_ : Nat) (hc : vm_nth M.code i_ = some (pc, .if_icmp .le off, 3, x_)) (ht : (pc : Int) + off = (tgt : Int)) (ha : vm_R a) (hb0 : vm_R b) (kt : a ≤ b → vm_ex G d M tgt al st mem Q) (kf : ¬ a ≤ b → vm_ex G d M (pc + 3) al st mem Q) : vm_ex G d M pc al (.inl b :: .inl a :: st) mem Q := by
  intro ok p e R s m args below meth c A cells slots Z Cx H locs ls hH hl hret
  obtain ⟨hx, hb, hml, hown, hts, hnn, hR, hK, hA, hO⟩ := id Cx
  have hdg := vm_dec ok hc
  simp only [List.map_cons, vm_cv]
  refine lv_icmp_le hx hb hdg ht (fun h1 => ?_) (fun h1 => ?_)
  · exact kt ((vm_leI ha hb0).mp h1) ok p e R s m args below meth c A cells slots Z Cx H locs ls hH hl hret
  · exact kf (fun h2 => h1 ((vm_leI ha hb0).mpr h2)) ok p e R s m args below meth c A cells slots Z Cx H locs ls hH hl hret

theorem ex_if_eq {x_ : List Nat} {off : Int} {a : Int} (tgt : Nat) (i_ : Nat) (hc : vm_nth M.code i_ = some (pc, .ifCond .eq off, 3, x_)) (ht : (pc : Int) + off = (tgt : Int)) (ha : vm_R a) (kt : a = 0 → vm_ex G d M tgt al st mem Q) (kf : ¬ a = 0 → vm_ex G d M (pc + 3) al st mem Q) : vm_ex G d M pc al (.inl a :: st) mem Q := by
  intro ok p e R s m args below meth c A cells slots Z Cx H locs ls hH hl hret
  obtain ⟨hx, hb, hml, hown, hts, hnn, hR, hK, hA, hO⟩ := id Cx
  have hdg := vm_dec ok hc
  simp only [List.map_cons, vm_cv]
  refine lv_if_eq hx hb hdg ht (fun h1 => ?_) (fun h1 => ?_)
  · exact kt ((vm_eqI ha vm_R0).mp h1) ok p e R s m args below meth c A cells slots Z Cx H locs ls hH hl hret
  · exact kf (fun h2 => h1 ((vm_eqI ha vm_R0).mpr h2)) ok p e R s m args below meth c A cells slots Z Cx H locs ls hH hl hret

theorem ex_if_ne {x_ : List Nat} {off : Int} {a : Int} (tgt : Nat) (i_ : Nat) (hc : vm_nth M.code i_ = some (pc, .ifCond .ne off, 3, x_)) (ht : (pc : Int) + off = (tgt : Int)) (ha : vm_R a) (kt : ¬ a = 0 → vm_ex G d M tgt al st mem Q) (kf : a = 0 → vm_ex G d M (pc + 3) al st mem Q) : vm_ex G d M pc al (.inl a :: st) mem Q := by
  intro ok p e R s m args below meth c A cells slots Z Cx H locs ls hH hl hret
  obtain ⟨hx, hb, hml, hown, hts, hnn, hR, hK, hA, hO⟩ := id Cx
  have hdg := vm_dec ok hc
  simp only [List.map_cons, vm_cv]
  refine lv_if_ne hx hb hdg ht (fun h1 => ?_) (fun h1 => ?_)
  · exact kt ((not_congr (vm_eqI ha vm_R0)).mp h1) ok p e R s m args below meth c A cells slots Z Cx H locs ls hH hl hret
  · exact kf ((vm_eqI ha vm_R0).mp h1) ok p e R s m args below meth c A cells slots Z Cx H locs ls hH hl hret

theorem ex_if_lt {x_ : List Nat} {off : Int} {a : Int} (tgt : Nat) (i_ : Nat) (hc : vm_nth M.code i_ = some (pc, .ifCond .lt off, 3, x_)) (ht : (pc : Int) + off = (tgt : Int)) (ha : vm_R a) (kt : a < 0 → vm_ex G d M tgt al st mem Q) (kf : ¬ a < 0 → vm_ex G d M (pc + 3) al st mem Q) : vm_ex G d M pc al (.inl a :: st) mem Q := by
  intro ok p e R s m args below meth c A cells slots Z Cx H locs ls hH hl hret
  obtain ⟨hx, hb, hml, hown, hts, hnn, hR, hK, hA, hO⟩ := id Cx
  have hdg := vm_dec ok hc
  simp only [List.map_cons, vm_cv]
  refine lv_if_lt hx hb hdg ht (fun h1 => ?_) (fun h1 => ?_)
  · exact kt ((vm_ltI ha vm_R0).mp h1) ok p e R s m args below meth c A cells slots Z Cx H locs ls hH hl hret
  · exact kf (fun h2 => h1 ((vm_ltI ha vm_R0).mpr h2)) ok p e R s m args below meth c A cells slots Z Cx H locs ls hH hl hret

theorem ex_if_ge {x_ : List Nat} {off : Int} {a : Int} (tgt : Nat) (i_ : Nat) (hc : vm_nth M.code i_ = some (pc, .ifCond .ge off, 3, x_)) (ht : (pc : Int) + off = (tgt : Int)) (ha : vm_R a) (kt : 0 ≤ a → vm_ex G d M tgt al st mem Q) (kf : ¬ 0 ≤ a → vm_ex G d M (pc + 3) al st mem Q) : vm_ex G d M pc al (.inl a :: st) mem Q := by
  intro ok p e R s m args below meth c A cells slots Z Cx H locs ls hH hl hret
  obtain ⟨hx, hb, hml, hown, hts, hnn, hR, hK, hA, hO⟩ := id Cx
  have hdg := vm_dec ok hc
  simp only [List.map_cons, vm_cv]
  refine lv_if_ge hx hb hdg ht (fun h1 => ?_) (fun h1 => ?_)
  · exact kt ((vm_leI vm_R0 ha).mp h1) ok p e R s m args below meth c A cells slots Z Cx H locs ls hH hl hret
  · exact kf (fun h2 => h1 ((vm_leI vm_R0 ha).mpr h2)) ok p e R s m args below meth c A cells slots Z Cx H locs ls hH hl hret

theorem ex_if_gt {x_ : List Nat} {off : Int} {a : Int} (tgt : Nat) (i_ : Nat) (hc : vm_nth M.code i_ = some (pc, .ifCond .gt off, 3, x_)) (ht : (pc : Int) + off = (tgt : Int)) (ha : vm_R a) (kt : 0 < a → vm_ex G d M tgt al st mem Q) (kf : ¬ 0 < a → vm_ex G d M (pc + 3) al st mem Q) : vm_ex G d M pc al (.inl a :: st) mem Q := by
  intro ok p e R s m args below meth c A cells slots Z Cx H locs ls hH hl hret
  obtain ⟨hx, hb, hml, hown, hts, hnn, hR, hK, hA, hO⟩ := id Cx
  have hdg := vm_dec ok hc
  simp only [List.map_cons, vm_cv]
  refine lv_if_gt hx hb hdg ht (fun h1 => ?_) (fun h1 => ?_)
  · exact kt ((vm_ltI vm_R0 ha).mp h1) ok p e R s m args below meth c A cells slots Z Cx H locs ls hH hl hret
  · exact kf (fun h2 => h1 ((vm_ltI vm_R0 ha).mpr h2)) ok p e R s m args below meth c A cells slots Z Cx H locs ls hH hl hret

theorem ex_if_le {x_ : List Nat} {off : Int} {a : Int} (tgt : Nat) (i_ : Nat) (hc : vm_nth M.code i_ = some (pc, .ifCond .le off, 3, x_)) (ht : (pc : Int) + off = (tgt : Int)) (ha : vm_R a) (kt : a ≤ 0 → vm_ex G d M tgt al st mem Q) (kf : ¬ a ≤ 0 → vm_ex G d M (pc + 3) al st mem Q) : vm_ex G d M pc al (.inl a :: st) mem Q := by
  intro ok p e R s m args below meth c A cells slots Z Cx H locs ls hH hl hret
  obtain ⟨hx, hb, hml, hown, hts, hnn, hR, hK, hA, hO⟩ := id Cx
  have hdg := vm_dec ok hc
  simp only [List.map_cons, vm_cv]
  refine lv_if_le hx hb hdg ht (fun h1 => ?_) (fun h1 => ?_)
  · exact kt ((vm_leI ha vm_R0).mp h1) ok p e R s m args below meth c A cells slots Z Cx H locs ls hH hl hret
  · exact kf (fun h2 => h1 ((vm_leI ha vm_R0).mpr h2)) ok p e R s m args below meth c A cells slots Z Cx H locs ls hH hl hret
theorem ex_goto {x_ : List Nat} {off : Int} (tgt : Nat) (i_ : Nat) (hc : vm_nth M.code i_ = some (pc, .goto off, 3, x_)) (ht : (pc : Int) + off = (tgt : Int)) (h : vm_ex G d M tgt al st mem Q) : vm_ex G d M pc al st mem Q := by
  intro ok p e R s m args below meth c A cells slots Z Cx H locs ls hH hl hret
  obtain ⟨hx, hb, hml, hown, hts, hnn, hR, hK, hA, hO⟩ := id Cx
  have hdg := vm_dec ok hc
  have hk := h ok p e R s m args below meth c A cells slots Z Cx H locs ls hH hl hret
  exact lv_goto hx hb hdg ht hk
def vm_tsw (pc : Nat) (x : Int) (P : Nat → Prop) : Int → List Int → Prop
  | _, [] => True
  | lo, off :: l => (x = lo → P ((pc : Int) + off).toNat ∧ 0 ≤ (pc : Int) + off) ∧ vm_tsw pc x P (lo + 1) l
theorem vm_tsw_at {pc : Nat} {x : Int} {P : Nat → Prop} : ∀ {l : List Int} {lo : Int} {k : Nat} {off : Int}, vm_tsw pc x P lo l → l[k]? = some off → x = lo + k → P ((pc : Int) + off).toNat ∧ 0 ≤ (pc : Int) + off
  | [], lo, k, off, _, hk, _ => by simp at hk
  | a :: l, lo, 0, off, h, hk, hx => by
    simp at hk
    subst hk
    exact h.1 (by omega)
  | a :: l, lo, k + 1, off, h, hk, hx => vm_tsw_at (l := l) (lo := lo + 1) (k := k) h.2 (by simpa using hk) (by omega)
theorem ex_tsw {x_ : List Nat} {dflt lo hi : Int} {offs : Array Int} {len : Nat} {a : Int} (i_ : Nat) (hc : vm_nth M.code i_ = some (pc, .tableswitch dflt lo hi offs, len, x_)) (ha : vm_R a) (hlen : hi = lo + offs.size - 1) (h : vm_tsw pc a (fun t => vm_ex G d M t al st mem Q) lo offs.toList) (h2 : (a < lo ∨ hi < a) → vm_ex G d M ((pc : Int) + dflt).toNat al st mem Q) (h3 : 0 ≤ (pc : Int) + dflt) : vm_ex G d M pc al (.inl a :: st) mem Q := by
  intro ok p e R s m args below meth c A cells slots Z Cx H locs ls hH hl hret
  obtain ⟨hx, hb, hml, hown, hts, hnn, hR, hK, hA, hO⟩ := id Cx
  have hdg := vm_dec ok hc
  simp only [List.map_cons, vm_cv]
  have hv := vm_toOf ha
  by_cases h4 : a < lo ∨ hi < a
  · exact lv_tableOut (tgt := ((pc : Int) + dflt).toNat) hx hb hdg (by rw [hv]; exact h4) (by omega) (h2 h4 ok p e R s m args below meth c A cells slots Z Cx H locs ls hH hl hret)
  · have hlt : (a - lo).toNat < offs.size := by omega
    have hoff : offs[(a - lo).toNat]? = some offs[(a - lo).toNat] := Array.getElem?_eq_getElem hlt
    have hl2 : offs.toList[(a - lo).toNat]? = some offs[(a - lo).toNat] := by rw [Array.getElem?_toList]; exact hoff
    obtain ⟨hP, hge⟩ := vm_tsw_at h hl2 (by omega)
    exact lv_tableIn (tgt := ((pc : Int) + offs[(a - lo).toNat]).toNat) hx hb hdg (by rw [hv]; omega) (by rw [hv]; omega) (by rw [hv]; exact hoff) (by omega) (hP ok p e R s m args below meth c A cells slots Z Cx H locs ls hH hl hret)
theorem ex_lsw {x_ : List Nat} {dflt off : Int} {ps : Array (Int × Int)} {len : Nat} {a : Int} (tgt : Nat) (i_ : Nat) (hc : vm_nth M.code i_ = some (pc, .lookupswitch dflt ps, len, x_)) (ha : vm_R a) (hp : (ps.toList.zip (ps.toList.drop 1)).all (fun (a, next) => a.1 < next.1) = true) (ho : Op.lookupswitch.offset ps.toList dflt a = off) (ht : (pc : Int) + off = (tgt : Int)) (h : vm_ex G d M tgt al st mem Q) : vm_ex G d M pc al (.inl a :: st) mem Q := by
  intro ok p e R s m args below meth c A cells slots Z Cx H locs ls hH hl hret
  obtain ⟨hx, hb, hml, hown, hts, hnn, hR, hK, hA, hO⟩ := id Cx
  have hdg := vm_dec ok hc
  simp only [List.map_cons, vm_cv]
  exact lv_lookup hx hb hdg hp (by rw [vm_toOf ha]; exact ho) ht (h ok p e R s m args below meth c A cells slots Z Cx H locs ls hH hl hret)
theorem ex_geti {x_ : List Nat} {idx b ci N : Nat} {C : String} {T : u_T} {ty : Nat → FieldType} (j : Nat) (i_ : Nat) (hc : vm_nth M.code i_ = some (pc, .getfield idx, 3, x_)) (hcl : vm_clk ci C T N ty) (hkd : vm_nth vm_kinds b = some (0, ci)) (hj : Nat.ble (j + 1) N = true) (hf : vm_flink M.y.cls idx (T j).1 (T j).2.1 (T j).2.2.1) (hr : vm_rf b j = none) (h : vm_ex G d M (pc + 3) al (.inl (mem b (j : Int)) :: st) mem Q) : vm_ex G d M pc al (.inr (.inr b) :: st) mem Q := by
  intro ok p e R s m args below meth c A cells slots Z Cx H locs ls hH hl hret
  obtain ⟨hx, hb, hml, hown, hts, hnn, hR, hK, hA, hO⟩ := id Cx
  have hdg := vm_dec ok hc
  obtain ⟨hcl1, hin, hty, hnm, hnf⟩ := hcl
  have hb38 : b < 38 := by
    rw [vm_nth_eq] at hkd
    exact (List.getElem?_eq_some_iff.mp hkd).1
  have hcell := vm_ws_at G mem hb38
  rw [vm_cell_obj hkd, hnf] at hcell
  have hj : j < N := Nat.le_of_ble_eq_true hj
  have hk := h ok p e R s m args below meth c A cells slots Z Cx H locs ls hH hl hret
  simp only [List.map_cons, vm_cv] at hk ⊢
  have hv : ((List.range ((some N).getD 0)).map (vm_fv G mem b))[j]? = some (Value.int (Int32.ofInt (mem b (j : Int)))) := by
    simp [List.getElem?_map, List.getElem?_range, hj, vm_fv, hr]
  rcases hf with hf | ⟨host, hf⟩
  · exact va_get (D := G.D) hx hb hts hin hown hK hH.1 b hcell hcl1 j hj (hts _ hf) (fun _ h9 => h9) hv hdg hk
  · exact va_getN (D := G.D) hx hb hts hin hown hK hH.1 b hcell hcl1 j hj (va_Nw.use rfl (hnn _ hf)) (fun _ h9 => h9) hv hdg hk
theorem ex_geta {x_ : List Nat} {idx b ci N t : Nat} {C : String} {T : u_T} {ty : Nat → FieldType} (j : Nat) (i_ : Nat) (hc : vm_nth M.code i_ = some (pc, .getfield idx, 3, x_)) (hcl : vm_clk ci C T N ty) (hkd : vm_nth vm_kinds b = some (0, ci)) (hj : Nat.ble (j + 1) N = true) (hf : vm_flink M.y.cls idx (T j).1 (T j).2.1 (T j).2.2.1) (hr : vm_rf b j = some t) (h : vm_ex G d M (pc + 3) al (.inr (.inr t) :: st) mem Q) : vm_ex G d M pc al (.inr (.inr b) :: st) mem Q := by
  intro ok p e R s m args below meth c A cells slots Z Cx H locs ls hH hl hret
  obtain ⟨hx, hb, hml, hown, hts, hnn, hR, hK, hA, hO⟩ := id Cx
  have hdg := vm_dec ok hc
  obtain ⟨hcl1, hin, hty, hnm, hnf⟩ := hcl
  have hb38 : b < 38 := by
    rw [vm_nth_eq] at hkd
    exact (List.getElem?_eq_some_iff.mp hkd).1
  have hcell := vm_ws_at G mem hb38
  rw [vm_cell_obj hkd, hnf] at hcell
  have hj : j < N := Nat.le_of_ble_eq_true hj
  have hk := h ok p e R s m args below meth c A cells slots Z Cx H locs ls hH hl hret
  simp only [List.map_cons, vm_cv] at hk ⊢
  have hv : ((List.range ((some N).getD 0)).map (vm_fv G mem b))[j]? = some (Value.ref (G.adr t)) := by
    simp [List.getElem?_map, List.getElem?_range, hj, vm_fv, hr]
  rcases hf with hf | ⟨host, hf⟩
  · exact va_get (D := G.D) hx hb hts hin hown hK hH.1 b hcell hcl1 j hj (hts _ hf) (fun _ h9 => h9) hv hdg hk
  · exact va_getN (D := G.D) hx hb hts hin hown hK hH.1 b hcell hcl1 j hj (va_Nw.use rfl (hnn _ hf)) (fun _ h9 => h9) hv hdg hk
theorem vm_put_cell {G : vm_G} {mem : vm_M} {b ci N j : Nat} {v : Int} (hkd : vm_nth vm_kinds b = some (0, ci)) (hnf : vm_nth vm_nf ci = some N) (hj : j < N) (hr : vm_rf b j = none) : vm_cell G (vm_up mem b (j : Int) v) b = .inr (ci, ((List.range ((some N).getD 0)).map (vm_fv G mem b)).set j (.int (Int32.ofInt v))) := by
  rw [vm_cell_obj hkd, hnf]
  congr 2
  apply List.ext_getElem?
  intro k
  rw [List.getElem?_set]
  by_cases hk : j = k
  · subst hk
    simp [List.getElem?_map, List.getElem?_range, hj, vm_fv, hr, vm_up]
  · rw [if_neg hk]
    by_cases hkN : k < N
    · have hne : ¬ ((k : Int) = (j : Int)) := by omega
      simp [List.getElem?_map, List.getElem?_range, hkN, vm_fv, vm_up, hne]
    · simp [List.getElem?_map, List.getElem?_range, hkN]
theorem vm_up_ne {mem : vm_M} {c k : Nat} {i v : Int} (h : k ≠ c) : mem k = vm_up mem c i v k := by
  funext i'
  simp [vm_up, h]
theorem ex_puti {x_ : List Nat} {idx b ci N : Nat} {v : Int} {C : String} {T : u_T} {ty : Nat → FieldType} (j : Nat) (i_ : Nat) (hc : vm_nth M.code i_ = some (pc, .putfield idx, 3, x_)) (hcl : vm_clk ci C T N ty) (hkd : vm_nth vm_kinds b = some (0, ci)) (hj : Nat.ble (j + 1) N = true) (hf : vm_flink M.y.cls idx (T j).1 (T j).2.1 (T j).2.2.1) (hr : vm_rf b j = none) (hfin : (T j).2.2.2 = false) (ht : ty j = .int) (h : vm_ex G d M (pc + 3) al st (vm_up mem b (j : Int) v) Q) : vm_ex G d M pc al (.inl v :: .inr (.inr b) :: st) mem Q := by
  intro ok p e R s m args below meth c A cells slots Z Cx H locs ls hH hl hret
  obtain ⟨hx, hb, hml, hown, hts, hnn, hR, hK, hA, hO⟩ := id Cx
  have hdg := vm_dec ok hc
  obtain ⟨hcl1, hin, hty, hnm, hnf⟩ := hcl
  have hb38 : b < 38 := by
    rw [vm_nth_eq] at hkd
    exact (List.getElem?_eq_some_iff.mp hkd).1
  have hcell := vm_ws_at G mem hb38
  rw [vm_cell_obj hkd, hnf] at hcell
  have hj : j < N := Nat.le_of_ble_eq_true hj
  have hd : parseFieldDescriptor (T j).2.2.1 = some .int := by rw [← ht]; exact hty j hj
  simp only [List.map_cons, vm_cv]
  have hlen : j < ((List.range ((some N).getD 0)).map (vm_fv G mem b)).length := by simp [hj]
  have go : ∀ (H1 : Heap) (locs1 : List Loc), va_P G.D vwCl ((vm_ws G mem).set b (G.adr b, .inr (ci, ((List.range ((some N).getD 0)).map (vm_fv G mem b)).set j (.int (Int32.ofInt v))))) H1 → va_D A ((vm_ws G mem).set b (G.adr b, .inr (ci, ((List.range ((some N).getD 0)).map (vm_fv G mem b)).set j (.int (Int32.ofInt v))))) → va_S A s.heap H1 locs1 → W p G.l e R s m args below meth c H1 locs1 cells slots Z (F0 m (pc + 3) ls (st.map (vm_cv G))) := by
    intro H1 locs1 hP1 hD1 hS1
    rw [vm_ws_set hb38 (vm_put_cell hkd hnf hj hr) (fun k hk => vm_up_ne hk)] at hP1 hD1
    exact h ok p e R s m args below meth c A cells slots Z Cx H1 locs1 ls ⟨hP1, hD1, hS1⟩ hl hret
  rcases hf with hf | ⟨host, hf⟩
  · exact va_put (D := G.D) hx hb hts hin ty hty hnm hown hK hH.1 hH.2.1 hH.2.2 b hcell hcl1 j hj (hts _ hf) (fun _ h9 => h9) hfin hd rfl rfl hlen hdg go
  · exact va_putN (D := G.D) hx hb hts hin ty hty hnm hown hK hH.1 hH.2.1 hH.2.2 b hcell hcl1 j hj (va_Nw.use rfl (hnn _ hf)) (fun _ h9 => h9) hfin hd rfl rfl hlen hdg go
theorem ex_putz {x_ : List Nat} {idx b ci N : Nat} {v : Int} {C : String} {T : u_T} {ty : Nat → FieldType} (j : Nat) (i_ : Nat) (hc : vm_nth M.code i_ = some (pc, .putfield idx, 3, x_)) (hcl : vm_clk ci C T N ty) (hkd : vm_nth vm_kinds b = some (0, ci)) (hj : Nat.ble (j + 1) N = true) (hf : vm_flink M.y.cls idx (T j).1 (T j).2.1 (T j).2.2.1) (hr : vm_rf b j = none) (hfin : (T j).2.2.2 = false) (ht : ty j = .boolean) (hz : v = 0 ∨ v = 1) (h : vm_ex G d M (pc + 3) al st (vm_up mem b (j : Int) v) Q) : vm_ex G d M pc al (.inl v :: .inr (.inr b) :: st) mem Q := by
  intro ok p e R s m args below meth c A cells slots Z Cx H locs ls hH hl hret
  obtain ⟨hx, hb, hml, hown, hts, hnn, hR, hK, hA, hO⟩ := id Cx
  have hdg := vm_dec ok hc
  obtain ⟨hcl1, hin, hty, hnm, hnf⟩ := hcl
  have hb38 : b < 38 := by
    rw [vm_nth_eq] at hkd
    exact (List.getElem?_eq_some_iff.mp hkd).1
  have hcell := vm_ws_at G mem hb38
  rw [vm_cell_obj hkd, hnf] at hcell
  have hj : j < N := Nat.le_of_ble_eq_true hj
  have hd : parseFieldDescriptor (T j).2.2.1 = some .boolean := by rw [← ht]; exact hty j hj
  simp only [List.map_cons, vm_cv]
  have hlen : j < ((List.range ((some N).getD 0)).map (vm_fv G mem b)).length := by simp [hj]
  have go : ∀ (H1 : Heap) (locs1 : List Loc), va_P G.D vwCl ((vm_ws G mem).set b (G.adr b, .inr (ci, ((List.range ((some N).getD 0)).map (vm_fv G mem b)).set j (.int (Int32.ofInt v))))) H1 → va_D A ((vm_ws G mem).set b (G.adr b, .inr (ci, ((List.range ((some N).getD 0)).map (vm_fv G mem b)).set j (.int (Int32.ofInt v))))) → va_S A s.heap H1 locs1 → W p G.l e R s m args below meth c H1 locs1 cells slots Z (F0 m (pc + 3) ls (st.map (vm_cv G))) := by
    intro H1 locs1 hP1 hD1 hS1
    rw [vm_ws_set hb38 (vm_put_cell hkd hnf hj hr) (fun k hk => vm_up_ne hk)] at hP1 hD1
    exact h ok p e R s m args below meth c A cells slots Z Cx H1 locs1 ls ⟨hP1, hD1, hS1⟩ hl hret
  rcases hf with hf | ⟨host, hf⟩
  · exact va_put (D := G.D) hx hb hts hin ty hty hnm hown hK hH.1 hH.2.1 hH.2.2 b hcell hcl1 j hj (hts _ hf) (fun _ h9 => h9) hfin hd (by rcases hz with rfl | rfl <;> decide) (by rcases hz with rfl | rfl <;> decide) hlen hdg go
  · exact va_putN (D := G.D) hx hb hts hin ty hty hnm hown hK hH.1 hH.2.1 hH.2.2 b hcell hcl1 j hj (va_Nw.use rfl (hnn _ hf)) (fun _ h9 => h9) hfin hd (by rcases hz with rfl | rfl <;> decide) (by rcases hz with rfl | rfl <;> decide) hlen hdg go
theorem ex_gets {x_ : List Nat} {idx : Nat} (i_ : Nat) (hc : vm_nth M.code i_ = some (pc, .getstatic idx, 3, x_)) (hf : Cond.fieldLink M.y.cls idx "BagCounts$Logic" "OPPOSITES" "[I" ∈ vm_WS) (h : vm_ex G d M (pc + 3) al (.inr (.inr 38) :: st) mem Q) : vm_ex G d M pc al st mem Q := by
  intro ok p e R s m args below meth c A cells slots Z Cx H locs ls hH hl hret
  obtain ⟨hx, hb, hml, hown, hts, hnn, hR, hK, hA, hO⟩ := id Cx
  have hdg := vm_dec ok hc
  have hk := h ok p e R s m args below meth c A cells slots Z Cx H locs ls hH hl hret
  simp only [List.map_cons, vm_cv] at hk ⊢
  exact va_gets hx hb hO.1 hH.2.2 hown (hts _ hf) (fun _ h9 => h9) hdg hk
theorem ex_iaload {x_ : List Nat} {b n : Nat} {a : Int} (i_ : Nat) (hc : vm_nth M.code i_ = some (pc, .iaload, 1, x_)) (hkd : vm_nth vm_kinds b = some (1, n)) (hn6 : Nat.ble n 1000000 = true) (ha : 0 ≤ a ∧ a < (n : Int)) (h : vm_ex G d M (pc + 1) al (.inl (mem b a) :: st) mem Q) : vm_ex G d M pc al (.inl a :: .inr (.inr b) :: st) mem Q := by
  intro ok p e R s m args below meth c A cells slots Z Cx H locs ls hH hl hret
  obtain ⟨hx, hb, hml, hown, hts, hnn, hR, hK, hA, hO⟩ := id Cx
  have hdg := vm_dec ok hc
  have hb38 : b < 38 := by
    rw [vm_nth_eq] at hkd
    exact (List.getElem?_eq_some_iff.mp hkd).1
  have hcell := vm_ws_at G mem hb38
  rw [vm_cell_arr hkd] at hcell
  have hnn6 : n ≤ 1000000 := Nat.le_of_ble_eq_true hn6
  have hk := h ok p e R s m args below meth c A cells slots Z Cx H locs ls hH hl hret
  simp only [List.map_cons, vm_cv] at hk ⊢
  refine va_iald (D := G.D) hx hb hK hH.1 b 0 hcell rfl (vm_in ha.1 ha.2 hnn6) hdg ?_
  rw [vm_nat ha.1 (by omega), Int.toNat_of_nonneg ha.1]
  exact hk
theorem ex_caload {x_ : List Nat} {b n : Nat} {a : Int} (i_ : Nat) (hc : vm_nth M.code i_ = some (pc, .caload, 1, x_)) (hkd : vm_nth vm_kinds b = some (2, n)) (hn6 : Nat.ble n 1000000 = true) (ha : 0 ≤ a ∧ a < (n : Int)) (h : vm_ex G d M (pc + 1) al (.inl (mem b a) :: st) mem Q) : vm_ex G d M pc al (.inl a :: .inr (.inr b) :: st) mem Q := by
  intro ok p e R s m args below meth c A cells slots Z Cx H locs ls hH hl hret
  obtain ⟨hx, hb, hml, hown, hts, hnn, hR, hK, hA, hO⟩ := id Cx
  have hdg := vm_dec ok hc
  have hb38 : b < 38 := by
    rw [vm_nth_eq] at hkd
    exact (List.getElem?_eq_some_iff.mp hkd).1
  have hcell := vm_ws_at G mem hb38
  rw [vm_cell_arr hkd] at hcell
  have hnn6 : n ≤ 1000000 := Nat.le_of_ble_eq_true hn6
  have hk := h ok p e R s m args below meth c A cells slots Z Cx H locs ls hH hl hret
  simp only [List.map_cons, vm_cv] at hk ⊢
  refine va_cald (D := G.D) hx hb hK hH.1 b 1 hcell rfl (vm_in ha.1 ha.2 hnn6) hdg ?_
  rw [vm_nat ha.1 (by omega), Int.toNat_of_nonneg ha.1]
  exact hk
theorem ex_baload {x_ : List Nat} {b n : Nat} {a : Int} (i_ : Nat) (hc : vm_nth M.code i_ = some (pc, .baload, 1, x_)) (hkd : vm_nth vm_kinds b = some (3, n)) (hn6 : Nat.ble n 1000000 = true) (ha : 0 ≤ a ∧ a < (n : Int)) (h : vm_ex G d M (pc + 1) al (.inl (mem b a) :: st) mem Q) : vm_ex G d M pc al (.inl a :: .inr (.inr b) :: st) mem Q := by
  intro ok p e R s m args below meth c A cells slots Z Cx H locs ls hH hl hret
  obtain ⟨hx, hb, hml, hown, hts, hnn, hR, hK, hA, hO⟩ := id Cx
  have hdg := vm_dec ok hc
  have hb38 : b < 38 := by
    rw [vm_nth_eq] at hkd
    exact (List.getElem?_eq_some_iff.mp hkd).1
  have hcell := vm_ws_at G mem hb38
  rw [vm_cell_arr hkd] at hcell
  have hnn6 : n ≤ 1000000 := Nat.le_of_ble_eq_true hn6
  have hk := h ok p e R s m args below meth c A cells slots Z Cx H locs ls hH hl hret
  simp only [List.map_cons, vm_cv] at hk ⊢
  refine va_zald (D := G.D) hx hb hK hH.1 b 2 hcell rfl (vm_in ha.1 ha.2 hnn6) hdg ?_
  rw [vm_nat ha.1 (by omega), Int.toNat_of_nonneg ha.1]
  exact hk
theorem ex_iastore {x_ : List Nat} {b n : Nat} {a v : Int} (i_ : Nat) (hc : vm_nth M.code i_ = some (pc, .iastore, 1, x_)) (hkd : vm_nth vm_kinds b = some (1, n)) (hn6 : Nat.ble n 1000000 = true) (ha : 0 ≤ a ∧ a < (n : Int)) (h : vm_ex G d M (pc + 1) al st (vm_up mem b a v) Q) : vm_ex G d M pc al (.inl v :: .inl a :: .inr (.inr b) :: st) mem Q := by
  intro ok p e R s m args below meth c A cells slots Z Cx H locs ls hH hl hret
  obtain ⟨hx, hb, hml, hown, hts, hnn, hR, hK, hA, hO⟩ := id Cx
  have hdg := vm_dec ok hc
  have hb38 : b < 38 := by
    rw [vm_nth_eq] at hkd
    exact (List.getElem?_eq_some_iff.mp hkd).1
  have hcell := vm_ws_at G mem hb38
  rw [vm_cell_arr hkd] at hcell
  have hnn6 : n ≤ 1000000 := Nat.le_of_ble_eq_true hn6
  simp only [List.map_cons, vm_cv]
  refine va_iast (D := G.D) hx hb hK hH.1 hH.2.1 hH.2.2 b 0 hcell rfl (vm_in ha.1 ha.2 hnn6) hdg (fun H1 locs1 hP1 hD1 hS1 => ?_)
  rw [vm_nat ha.1 (by omega)] at hP1 hD1
  have hset := vm_ws_set (G := G) (mem := mem) (mem' := vm_up mem b a v) hb38 (vm_cell_arr hkd) (fun k hk => vm_up_ne hk)
  have hfun : (fun i : Nat => Int32.ofInt (vm_up mem b a v b (i : Int))) = upd (fun i : Nat => Int32.ofInt (mem b (i : Int))) a.toNat (Int32.ofInt v) := by
    funext i
    unfold upd vm_up
    by_cases hi : i = a.toNat
    · have hi2 : (i : Int) = a := by omega
      rw [if_pos hi, if_pos ⟨rfl, hi2⟩]
    · have hi2 : ¬ (i : Int) = a := by omega
      rw [if_neg hi, if_neg (fun z => hi2 z.2)]
  rw [hfun] at hset
  rw [hset] at hP1 hD1
  exact h ok p e R s m args below meth c A cells slots Z Cx H1 locs1 ls ⟨hP1, hD1, hS1⟩ hl hret
theorem ex_castore {x_ : List Nat} {b n : Nat} {a v : Int} (i_ : Nat) (hc : vm_nth M.code i_ = some (pc, .castore, 1, x_)) (hkd : vm_nth vm_kinds b = some (2, n)) (hn6 : Nat.ble n 1000000 = true) (ha : 0 ≤ a ∧ a < (n : Int)) (h : vm_ex G d M (pc + 1) al st (vm_up mem b a (vm_chr v)) Q) : vm_ex G d M pc al (.inl v :: .inl a :: .inr (.inr b) :: st) mem Q := by
  intro ok p e R s m args below meth c A cells slots Z Cx H locs ls hH hl hret
  obtain ⟨hx, hb, hml, hown, hts, hnn, hR, hK, hA, hO⟩ := id Cx
  have hdg := vm_dec ok hc
  have hb38 : b < 38 := by
    rw [vm_nth_eq] at hkd
    exact (List.getElem?_eq_some_iff.mp hkd).1
  have hcell := vm_ws_at G mem hb38
  rw [vm_cell_arr hkd] at hcell
  have hnn6 : n ≤ 1000000 := Nat.le_of_ble_eq_true hn6
  simp only [List.map_cons, vm_cv]
  refine va_cast (D := G.D) hx hb hK hH.1 hH.2.1 hH.2.2 b 1 hcell rfl (vm_in ha.1 ha.2 hnn6) hdg (fun H1 locs1 hP1 hD1 hS1 => ?_)
  rw [vm_nat ha.1 (by omega)] at hP1 hD1
  have hset := vm_ws_set (G := G) (mem := mem) (mem' := vm_up mem b a (vm_chr v)) hb38 (vm_cell_arr hkd) (fun k hk => vm_up_ne hk)
  have hfun : (fun i : Nat => Int32.ofInt (vm_up mem b a (vm_chr v) b (i : Int))) = upd (fun i : Nat => Int32.ofInt (mem b (i : Int))) a.toNat (vp_nar .char (Int32.ofInt v)) := by
    funext i
    unfold upd vm_up
    by_cases hi : i = a.toNat
    · have hi2 : (i : Int) = a := by omega
      rw [if_pos hi, if_pos ⟨rfl, hi2⟩]
      simp only [vm_chr, vm_ofTo]
    · have hi2 : ¬ (i : Int) = a := by omega
      rw [if_neg hi, if_neg (fun z => hi2 z.2)]
  rw [hfun] at hset
  rw [hset] at hP1 hD1
  exact h ok p e R s m args below meth c A cells slots Z Cx H1 locs1 ls ⟨hP1, hD1, hS1⟩ hl hret
theorem ex_bastore {x_ : List Nat} {b n : Nat} {a v : Int} (i_ : Nat) (hc : vm_nth M.code i_ = some (pc, .bastore, 1, x_)) (hkd : vm_nth vm_kinds b = some (3, n)) (hn6 : Nat.ble n 1000000 = true) (ha : 0 ≤ a ∧ a < (n : Int)) (h : vm_ex G d M (pc + 1) al st (vm_up mem b a (vm_bool v)) Q) : vm_ex G d M pc al (.inl v :: .inl a :: .inr (.inr b) :: st) mem Q := by
  intro ok p e R s m args below meth c A cells slots Z Cx H locs ls hH hl hret
  obtain ⟨hx, hb, hml, hown, hts, hnn, hR, hK, hA, hO⟩ := id Cx
  have hdg := vm_dec ok hc
  have hb38 : b < 38 := by
    rw [vm_nth_eq] at hkd
    exact (List.getElem?_eq_some_iff.mp hkd).1
  have hcell := vm_ws_at G mem hb38
  rw [vm_cell_arr hkd] at hcell
  have hnn6 : n ≤ 1000000 := Nat.le_of_ble_eq_true hn6
  simp only [List.map_cons, vm_cv]
  refine va_zast (D := G.D) hx hb hK hH.1 hH.2.1 hH.2.2 b 2 hcell rfl (vm_in ha.1 ha.2 hnn6) hdg (fun H1 locs1 hP1 hD1 hS1 => ?_)
  rw [vm_nat ha.1 (by omega)] at hP1 hD1
  have hset := vm_ws_set (G := G) (mem := mem) (mem' := vm_up mem b a (vm_bool v)) hb38 (vm_cell_arr hkd) (fun k hk => vm_up_ne hk)
  have hfun : (fun i : Nat => Int32.ofInt (vm_up mem b a (vm_bool v) b (i : Int))) = upd (fun i : Nat => Int32.ofInt (mem b (i : Int))) a.toNat (vp_nar .boolean (Int32.ofInt v)) := by
    funext i
    unfold upd vm_up
    by_cases hi : i = a.toNat
    · have hi2 : (i : Int) = a := by omega
      rw [if_pos hi, if_pos ⟨rfl, hi2⟩]
      simp only [vm_bool, vm_ofTo]
    · have hi2 : ¬ (i : Int) = a := by omega
      rw [if_neg hi, if_neg (fun z => hi2 z.2)]
  rw [hfun] at hset
  rw [hset] at hP1 hD1
  exact h ok p e R s m args below meth c A cells slots Z Cx H1 locs1 ls ⟨hP1, hD1, hS1⟩ hl hret
theorem ex_roload {x_ : List Nat} {b : Nat} {a : Int} (i_ : Nat) (hc : vm_nth M.code i_ = some (pc, .iaload, 1, x_)) (hb0 : b = 38 ∨ b = 39) (ha : 0 ≤ a ∧ a < (G.len b : Int)) (h : vm_ex G d M (pc + 1) al (.inl (G.rom b a) :: st) mem Q) : vm_ex G d M pc al (.inl a :: .inr (.inr b) :: st) mem Q := by
  intro ok p e R s m args below meth c A cells slots Z Cx H locs ls hH hl hret
  obtain ⟨hx, hb, hml, hown, hts, hnn, hR, hK, hA, hO⟩ := id Cx
  have hdg := vm_dec ok hc
  have hk := h ok p e R s m args below meth c A cells slots Z Cx H locs ls hH hl hret
  simp only [List.map_cons, vm_cv] at hk ⊢
  obtain ⟨hX, hbl, hbA, hlen⟩ := hO.2 b hb0
  refine va_sld hx hb hX hbl hbA hH.2.2 (vm_in ha.1 ha.2 hlen) hdg ?_
  rw [vm_nat ha.1 (by omega), Int.toNat_of_nonneg ha.1]
  exact hk
theorem ex_rolen {x_ : List Nat} {b : Nat} (i_ : Nat) (hc : vm_nth M.code i_ = some (pc, .arraylength, 1, x_)) (hb0 : b = 38 ∨ b = 39) (h : vm_ex G d M (pc + 1) al (.inl (G.len b : Int) :: st) mem Q) : vm_ex G d M pc al (.inr (.inr b) :: st) mem Q := by
  intro ok p e R s m args below meth c A cells slots Z Cx H locs ls hH hl hret
  obtain ⟨hx, hb, hml, hown, hts, hnn, hR, hK, hA, hO⟩ := id Cx
  have hdg := vm_dec ok hc
  have hk := h ok p e R s m args below meth c A cells slots Z Cx H locs ls hH hl hret
  simp only [List.map_cons, vm_cv] at hk ⊢
  obtain ⟨hX, hbl, hbA, hlen⟩ := hO.2 b hb0
  exact va_slen hx hb hX hbl hbA hH.2.2 hdg hk
theorem ex_ret (i_ : Nat) {x_ : List Nat} (hc : vm_nth M.code i_ = some (pc, .return_, 1, x_)) (hz : M.ret = none) (h : Q mem none) : vm_ex G d M pc al [] mem Q := by
  intro ok p e R s m args below meth c A cells slots Z Cx H locs ls hH hl hret
  obtain ⟨hx, hb, hml, hown, hts, hnn, hR, hK, hA, hO⟩ := id Cx
  have hdg := vm_dec ok hc
  exact hret H locs ls pc mem none h hH (Or.inl ⟨rfl, hz, hdg⟩)
theorem ex_iret {v : Int} (i_ : Nat) {x_ : List Nat} (hc : vm_nth M.code i_ = some (pc, .ireturn, 1, x_)) (hz : M.ret = some .int ∨ (M.ret = some .boolean ∧ (v = 0 ∨ v = 1))) (h : Q mem (some (.inl v))) : vm_ex G d M pc al [.inl v] mem Q := by
  intro ok p e R s m args below meth c A cells slots Z Cx H locs ls hH hl hret
  obtain ⟨hx, hb, hml, hown, hts, hnn, hR, hK, hA, hO⟩ := id Cx
  have hdg := vm_dec ok hc
  exact hret H locs ls pc mem (some (.inl v)) h hH (Or.inr ⟨v, rfl, hz, hdg⟩)
theorem ex_mmax {x_ : List Nat} {idx : Nat} {a b : Int} (i_ : Nat) (hc : vm_nth M.code i_ = some (pc, .invokestatic idx, 3, x_)) (hlk : Cond.methodLink M.y.cls idx Lib.Math.max.name ∈ vm_WS) (hw1 : Cond.static Lib.Math.max.name ∈ vm_WS) (hw2 : Cond.initialized "java/lang/Math" ∈ vm_WS) (hw3 : Cond.code Lib.Math.max.name Lib.Math.max.code 2 (some .int) ∈ vm_WS) (ha : vm_R a) (hb0 : vm_R b) (hst : Nat.ble (vm_sw st) 8 = true) (h : vm_ex G (d + 1) M (pc + 3) al (.inl (if a < b then b else a) :: st) mem Q) : vm_ex G (d + 1) M pc al (.inl b :: .inl a :: st) mem Q := by
  intro ok p e R s m args below meth c A cells slots Z Cx H locs ls hH hl hret
  obtain ⟨hx, hb, hml, hown, hts, hnn, hR, hK, hA, hO⟩ := id Cx
  have hdg := vm_dec ok hc
  have hk := h ok p e R s m args below meth c A cells slots Z Cx H locs ls hH hl hret
  simp only [List.map_cons, vm_cv] at hk ⊢
  have hst8 : ((st.map (vm_cv G)).map fun v => v.category).sum ≤ 8 := by
    rw [vm_sw_eq]; exact Nat.le_of_ble_eq_true hst
  refine va_mmax hx hb (hml.trans hl.1.symm) hown (hts _ hlk) (hts _ hw1) (hts _ hw2) (hts _ hw3) (by omega) (by omega) hR.2.2.1 hR.2.2.2 hdg ?_
  have he : Int32.ofInt (if a < b then b else a) = if Int32.ofInt a < Int32.ofInt b then Int32.ofInt b else Int32.ofInt a := by
    simp only [vm_ltI ha hb0]
    split <;> rfl
  rw [← he]
  exact hk
theorem ex_mmin {x_ : List Nat} {idx : Nat} {a b : Int} (i_ : Nat) (hc : vm_nth M.code i_ = some (pc, .invokestatic idx, 3, x_)) (hlk : Cond.methodLink M.y.cls idx Lib.Math.min.name ∈ vm_WS) (hw1 : Cond.static Lib.Math.min.name ∈ vm_WS) (hw2 : Cond.initialized "java/lang/Math" ∈ vm_WS) (hw3 : Cond.code Lib.Math.min.name Lib.Math.min.code 2 (some .int) ∈ vm_WS) (ha : vm_R a) (hb0 : vm_R b) (hst : Nat.ble (vm_sw st) 8 = true) (h : vm_ex G (d + 1) M (pc + 3) al (.inl (if b < a then b else a) :: st) mem Q) : vm_ex G (d + 1) M pc al (.inl b :: .inl a :: st) mem Q := by
  intro ok p e R s m args below meth c A cells slots Z Cx H locs ls hH hl hret
  obtain ⟨hx, hb, hml, hown, hts, hnn, hR, hK, hA, hO⟩ := id Cx
  have hdg := vm_dec ok hc
  have hk := h ok p e R s m args below meth c A cells slots Z Cx H locs ls hH hl hret
  simp only [List.map_cons, vm_cv] at hk ⊢
  have hst8 : ((st.map (vm_cv G)).map fun v => v.category).sum ≤ 8 := by
    rw [vm_sw_eq]; exact Nat.le_of_ble_eq_true hst
  refine va_mmin hx hb (hml.trans hl.1.symm) hown (hts _ hlk) (hts _ hw1) (hts _ hw2) (hts _ hw3) (by omega) (by omega) hR.2.2.1 hR.2.2.2 hdg ?_
  have he : Int32.ofInt (if b < a then b else a) = if Int32.ofInt b < Int32.ofInt a then Int32.ofInt b else Int32.ofInt a := by
    simp only [vm_ltI hb0 ha]
    split <;> rfl
  rw [← he]
  exact hk
theorem vm_cpy_cell {G : vm_G} {mem : vm_M} {b0 b1 n1 : Nat} {sp dp n : Int} (hkd : vm_nth vm_kinds b1 = some (1, n1)) (h1 : 0 ≤ sp) (h2 : 0 ≤ dp) (h3 : 0 ≤ n) : vm_cell G (vm_cpy mem b0 b1 sp dp n) b1 = .inl (G.cA 1, n1, .inl (va_cpy (fun i : Nat => Int32.ofInt (mem b0 (i : Int))) (fun i : Nat => Int32.ofInt (mem b1 (i : Int))) sp.toNat dp.toNat n.toNat)) := by
  rw [vm_cell_arr hkd]
  congr 3
  congr 1
  funext i
  unfold va_cpy vm_cpy
  by_cases hi : dp.toNat ≤ i ∧ i < dp.toNat + n.toNat
  · rw [if_pos hi, if_pos ⟨rfl, by omega, by omega⟩]
    have : sp + ((i : Int) - dp) = ((sp.toNat + (i - dp.toNat) : Nat) : Int) := by omega
    rw [this]
  · rw [if_neg hi, if_neg (fun z => hi (by omega))]
theorem ex_copy {x_ : List Nat} {idx b0 b1 n0 n1 : Nat} {sp dp n : Int} (i_ : Nat) (hc : vm_nth M.code i_ = some (pc, .invokestatic idx, 3, x_)) (hlk : Cond.methodLink M.y.cls idx arraycopyName ∈ vm_WS) (hw1 : Cond.native arraycopyName ∈ vm_WS) (hw2 : Cond.static arraycopyName ∈ vm_WS) (hw3 : Cond.initialized "java/lang/System" ∈ vm_WS) (hkd0 : vm_nth vm_kinds b0 = some (1, n0)) (hkd1 : vm_nth vm_kinds b1 = some (1, n1)) (hn6 : Nat.ble (n0 + n1) 1000000 = true) (hs : 0 ≤ sp ∧ 0 ≤ dp ∧ 0 ≤ n ∧ sp + n ≤ (n0 : Int) ∧ dp + n ≤ (n1 : Int)) (hst : Nat.ble (vm_sw st) 8 = true) (h : vm_ex G (d + 1) M (pc + 3) al st (vm_cpy mem b0 b1 sp dp n) Q) : vm_ex G (d + 1) M pc al (.inl n :: .inl dp :: .inr (.inr b1) :: .inl sp :: .inr (.inr b0) :: st) mem Q := by
  intro ok p e R s m args below meth c A cells slots Z Cx H locs ls hH hl hret
  obtain ⟨hx, hb, hml, hown, hts, hnn, hR, hK, hA, hO⟩ := id Cx
  have hdg := vm_dec ok hc
  obtain ⟨h1, h2, h3, h4, h5⟩ := hs
  have hn6 := Nat.le_of_ble_eq_true hn6
  have hb0 : b0 < 38 := by
    rw [vm_nth_eq] at hkd0
    exact (List.getElem?_eq_some_iff.mp hkd0).1
  have hb1 : b1 < 38 := by
    rw [vm_nth_eq] at hkd1
    exact (List.getElem?_eq_some_iff.mp hkd1).1
  have hc0 := vm_ws_at G mem hb0
  rw [vm_cell_arr hkd0] at hc0
  have hc1 := vm_ws_at G mem hb1
  rw [vm_cell_arr hkd1] at hc1
  have hst8 : ((st.map (vm_cv G)).map fun v => v.category).sum ≤ 8 := by
    rw [vm_sw_eq]; exact Nat.le_of_ble_eq_true hst
  have e1 := vm_nat h1 (show sp ≤ 2147483647 by omega)
  have e2 := vm_nat h2 (show dp ≤ 2147483647 by omega)
  have e3 := vm_nat h3 (show n ≤ 2147483647 by omega)
  have neg : ∀ z : Int, 0 ≤ z → z ≤ 2147483647 → ¬ Int32.ofInt z < 0 := fun z z0 z1 => by
    rw [vm_zero, vm_ltI ⟨by omega, z1⟩ vm_R0]; omega
  simp only [List.map_cons, vm_cv]
  refine va_copyi (D := G.D) hx hb (hml.trans hl.1.symm) hown (hts _ hlk) (hts _ hw1) (hts _ hw2) (hts _ hw3) hK hH.1 hH.2.1 hH.2.2 b0 b1 0 0 (ty := .int) hc0 hc1 rfl rfl rfl (neg _ h1 (by omega)) (neg _ h2 (by omega)) (neg _ h3 (by omega)) (by rw [e1, e3]; omega) (by rw [e2, e3]; omega) (fun _ _ => rfl) (by omega) (by
    have hw : nativeFrameWords "java/lang/System" "arraycopy" 5 = 7 := by decide +kernel
    rw [hw]; omega) hdg (fun H1 locs1 hP1 hD1 hS1 => ?_)
  rw [e1, e2, e3] at hP1 hD1
  have hset := vm_ws_set (G := G) (mem := mem) (mem' := vm_cpy mem b0 b1 sp dp n) hb1 (vm_cpy_cell hkd1 h1 h2 h3) (fun k hk => by funext i'; simp [vm_cpy, hk])
  rw [hset] at hP1 hD1
  exact h ok p e R s m args below meth c A cells slots Z Cx H1 locs1 ls ⟨hP1, hD1, hS1⟩ hl hret
end VMR
end
section
/-! FROM A METHOD'S ENTRY TO ITS CONTRACT -/
def vm_ents : List vm_V → List (Option vm_V)
  | [] => []
  | .inr (.inl x) :: l => some (.inr (.inl x)) :: none :: vm_ents l
  | .inl x :: l => some (.inl x) :: vm_ents l
  | .inr (.inr x) :: l => some (.inr (.inr x)) :: vm_ents l
theorem vm_ents_sl (G : vm_G) : ∀ l : List vm_V, (lg_sl (l.map (vm_cv G))).length = (vm_ents l).length
  | [] => rfl
  | .inr (.inl x) :: l => by
    have ih := vm_ents_sl G l
    simp only [lg_sl, List.map_cons, List.flatMap_cons, List.length_append, vm_ents, List.length_cons] at ih ⊢
    rw [ih]
    simp [vm_cv, Value.category]
    omega
  | .inl x :: l => by
    have ih := vm_ents_sl G l
    simp only [lg_sl, List.map_cons, List.flatMap_cons, List.length_append, vm_ents, List.length_cons] at ih ⊢
    rw [ih]
    simp [vm_cv, Value.category]
    omega
  | .inr (.inr x) :: l => by
    have ih := vm_ents_sl G l
    simp only [lg_sl, List.map_cons, List.flatMap_cons, List.length_append, vm_ents, List.length_cons] at ih ⊢
    rw [ih]
    simp [vm_cv, Value.category]
    omega
theorem vm_ents_at (G : vm_G) : ∀ (l : List vm_V) (i j : Nat) (v : vm_V), (vm_ents l)[j]? = some (some v) → (i + j, vm_cv G v) ∈ lv_args i (l.map (vm_cv G))
  | [], i, j, v, h => by simp [vm_ents] at h
  | .inr (.inl x) :: l, i, 0, v, h => by
    simp [vm_ents] at h; subst h
    exact List.mem_cons_self
  | .inr (.inl x) :: l, i, 1, v, h => by simp [vm_ents] at h
  | .inr (.inl x) :: l, i, j + 2, v, h => by
    have ih := vm_ents_at G l (i + 2) j v (by simpa [vm_ents] using h)
    have e : i + 2 + j = i + (j + 2) := by omega
    rw [e] at ih
    exact List.mem_cons_of_mem _ (by simpa [vm_cv, Value.category] using ih)
  | .inl x :: l, i, 0, v, h => by
    simp [vm_ents] at h; subst h
    exact List.mem_cons_self
  | .inl x :: l, i, j + 1, v, h => by
    have ih := vm_ents_at G l (i + 1) j v (by simpa [vm_ents] using h)
    have e : i + 1 + j = i + (j + 1) := by omega
    rw [e] at ih
    exact List.mem_cons_of_mem _ (by simpa [vm_cv, Value.category] using ih)
  | .inr (.inr x) :: l, i, 0, v, h => by
    simp [vm_ents] at h; subst h
    exact List.mem_cons_self
  | .inr (.inr x) :: l, i, j + 1, v, h => by
    have ih := vm_ents_at G l (i + 1) j v (by simpa [vm_ents] using h)
    have e : i + 1 + j = i + (j + 1) := by omega
    rw [e] at ih
    exact List.mem_cons_of_mem _ (by simpa [vm_cv, Value.category] using ih)
theorem vm_enter {G : vm_G} {d : Nat} {M : vm_Me} {al : List (Option vm_V)} {As : List vm_V} {mem : vm_M} {Q : vm_M → Option vm_V → Prop} (n : Nat) (ok : vm_okM M) (hp : plainName M.y.cls = true) (hal : al = vm_ents As ++ List.replicate n none) (hn : M.maxL = (vm_ents As).length + n) (h : vm_ex G d M 0 al [] mem Q) : vm_call G d M As mem Q := by
  intro sz
  refine Met.ofW (cc := M.bytes) (maxL := M.maxL) (ret := M.ret) hp rfl ?_
  intro p e s m args below meth c s₁ B hml hv
  obtain ⟨rfl, hsz, hP, hK, hD0, hN, hO⟩ := hv
  have hx := B.exec
  have hb := B.bytes
  have hr := B.returns
  have hts := atoms_spec (ws := vm_wsM M) B.pre
  have hown : s.vm.findClass M.y.cls = some m.cls := findClass_of_methodNamed B.named
  have hlocks := B.notSynchronized
  subst hsz
  have hlen := vm_ents_sl G As
  have hl := lv_entry (As.map (vm_cv G)) (n := M.maxL) (by omega)
  rw [lg_entry_eq]
  generalize (lg_sl (As.map (vm_cv G)) ++ List.replicate (M.maxL - (lg_sl (As.map (vm_cv G))).length) Slot.unset).toArray = ls at hl ⊢
  have hl2 : lv_has ls M.maxL (vm_lk G al) := by
    refine ⟨hl.1, hl.2.1, fun q hq => hl.2.2 q ?_⟩
    obtain ⟨j, x⟩ := q
    obtain ⟨w, h1, rfl⟩ := vm_lk_mem.mp hq
    rw [hal] at h1
    have h2 : (vm_ents As)[j]? = some (some w) := by
      rw [List.getElem?_append] at h1
      split at h1
      · exact h1
      · rw [List.getElem?_replicate] at h1
        split at h1 <;> cases h1
    have h3 := vm_ents_at G As 0 j w h2
    rwa [Nat.zero_add] at h3
  have hA : ∀ q, s.heap.size ≤ q → va_A (vm_ws G mem) s.heap.size q := fun q h => Or.inr h
  have hD : va_D (va_A (vm_ws G mem) s.heap.size) (vm_ws G mem) := hD0.self
  have Cx : vm_C G d M p (headSpec (vm_wsM M) (vm_rm d)).room s m (As.map (vm_cv G)).toArray c (va_A (vm_ws G mem) s.heap.size) 0 0 :=
    ⟨hx, hb, hml, hown, fun w hw => hts w (List.mem_cons_of_mem _ hw), hN, ⟨Nat.le_refl _, Nat.le_refl _, Nat.zero_le _, Nat.zero_le _⟩, hK, hA, hO⟩
  refine h ok p e _ s m _ below meth c _ 0 0 _ Cx s.heap [] ls ⟨hP, hD, va_S.rf⟩ hl2 ?_
  intro H' locs' ls' pc' mem' r hq hH' hend
  have hf : ∀ q ∈ locs', va_A (vm_ws G mem) s.heap.size q.base := hH'.2.2.2.2
  have fin : ∀ t : State, t.heap = H' → vm_Qc G mem s.heap.size Q (As.map (vm_cv G)).toArray s (.returned (r.map (vm_cv G))) t := fun t ht => ⟨r, mem', rfl, hq, by rw [ht]; exact hH'.1, hH'.2.1, hH'.2.2.F ht⟩
  rcases hend with ⟨rfl, hnone, hdg⟩ | ⟨v, rfl, hz, hdg⟩
  · exact W.vret hx hb (hr.trans hnone) (fun t ht _ => fin t ht) hf hdg
  · rcases hz with hz | ⟨hz, hv⟩
    · exact W.iret hx hb (hr.trans hz) (fun t ht _ => fin t ht) hf hdg
    · exact W.zret hx hb (hr.trans hz) (by rcases hv with rfl | rfl <;> decide) (fun t ht _ => fin t ht) hf hdg
theorem vm_call.mono {G : vm_G} {d : Nat} {M : vm_Me} {As : List vm_V} {mem : vm_M} {Q Q' : vm_M → Option vm_V → Prop} (h : vm_call G d M As mem Q) (hQ : ∀ m r, Q m r → Q' m r) : vm_call G d M As mem Q' := by
  intro sz p e ha hc hk s m args below hf happ hP hK
  obtain ⟨n, o, h1, h2, h3, h4⟩ := h sz p e ha hc hk s m args below hf happ hP hK
  obtain ⟨⟨r, mem', hv, hq, hrest⟩, hL⟩ := h4
  exact ⟨n, o, h1, h2, h3, ⟨r, mem', hv, hQ _ _ hq, hrest⟩, hL⟩
/-! answers by their kinds -/
def vm_b2i (b : Bool) : Int := if b then 1 else 0
theorem vm_b2i_R (b : Bool) : vm_R (vm_b2i b) := by cases b <;> exact ⟨by decide, by decide⟩
theorem vm_b2i_01 (b : Bool) : vm_b2i b = 0 ∨ vm_b2i b = 1 := by cases b <;> simp [vm_b2i]
theorem vm_b2i_0 {b : Bool} : vm_b2i b = 0 ↔ b = false := by cases b <;> simp [vm_b2i]
theorem vm_b2i_n {b : Bool} : ¬ vm_b2i b = 0 ↔ b = true := by cases b <;> simp [vm_b2i]
def vm_qi (Q : vm_M → Int → Prop) : vm_M → Option vm_V → Prop := fun m r => ∃ v, r = some (.inl v) ∧ Q m v
def vm_qn (Q : vm_M → Prop) : vm_M → Option vm_V → Prop := fun m r => r = none ∧ Q m
def vm_qb (Q : vm_M → Bool → Prop) : vm_M → Option vm_V → Prop := fun m r => ∃ b, r = some (.inl (vm_b2i b)) ∧ Q m b
/-- the answer is a number -/
def vm_ci (G : vm_G) (d : Nat) (M : vm_Me) (As : List vm_V) (mem : vm_M) (Q : vm_M → Int → Prop) : Prop := vm_call G d M As mem (vm_qi Q)
/-- there is no answer -/
def vm_cn (G : vm_G) (d : Nat) (M : vm_Me) (As : List vm_V) (mem : vm_M) (Q : vm_M → Prop) : Prop := vm_call G d M As mem (vm_qn Q)
theorem vm_ci.mono {G : vm_G} {d : Nat} {M : vm_Me} {As : List vm_V} {mem : vm_M} {Q Q' : vm_M → Int → Prop} (h : vm_ci G d M As mem Q) (hQ : ∀ m r, Q m r → Q' m r) : vm_ci G d M As mem Q' := vm_call.mono h (fun m _ ⟨v, e, q⟩ => ⟨v, e, hQ m v q⟩)
theorem vm_cn.mono {G : vm_G} {d : Nat} {M : vm_Me} {As : List vm_V} {mem : vm_M} {Q Q' : vm_M → Prop} (h : vm_cn G d M As mem Q) (hQ : ∀ m, Q m → Q' m) : vm_cn G d M As mem Q' := vm_call.mono h (fun m _ ⟨e, q⟩ => ⟨e, hQ m q⟩)
def vm_cb (G : vm_G) (d : Nat) (M : vm_Me) (As : List vm_V) (mem : vm_M) (Q : vm_M → Bool → Prop) : Prop := vm_call G d M As mem (vm_qb Q)
theorem vm_cb.mono {G : vm_G} {d : Nat} {M : vm_Me} {As : List vm_V} {mem : vm_M} {Q Q' : vm_M → Bool → Prop} (h : vm_cb G d M As mem Q) (hQ : ∀ m r, Q m r → Q' m r) : vm_cb G d M As mem Q' := vm_call.mono h (fun m _ ⟨v, e, q⟩ => ⟨v, e, hQ m v q⟩)
/-- fewer locals known -/
def vm_le : List (Option vm_V) → List (Option vm_V) → Prop
  | [], _ => True
  | none :: a, _ :: b => vm_le a b
  | some v :: a, some w :: b => v = w ∧ vm_le a b
  | _, _ => False
theorem vm_le_at : ∀ {a b : List (Option vm_V)} {j : Nat} {v : vm_V}, vm_le a b → a[j]? = some (some v) → b[j]? = some (some v)
  | [], _, j, v, _, h => by simp at h
  | none :: a, [], j, v, h, _ => by simp [vm_le] at h
  | none :: a, _ :: b, 0, v, _, h => by simp at h
  | none :: a, _ :: b, j + 1, v, hl, h => by
    simp only [List.getElem?_cons_succ] at h ⊢
    exact vm_le_at (by simpa [vm_le] using hl) h
  | some v :: a, [], j, w, h, _ => by simp [vm_le] at h
  | some v :: a, none :: b, j, w, h, _ => by simp [vm_le] at h
  | some v :: a, some w :: b, 0, u, hl, h => by
    simp only [vm_le] at hl
    simp at h ⊢
    rw [← hl.1, h]
  | some v :: a, some w :: b, j + 1, u, hl, h => by
    simp only [vm_le] at hl
    simp only [List.getElem?_cons_succ] at h ⊢
    exact vm_le_at hl.2 h
theorem ex_less {G : vm_G} {d : Nat} {M : vm_Me} {pc : Nat} {al : List (Option vm_V)} {st : List vm_V} {mem : vm_M} {Q : vm_M → Option vm_V → Prop} (al' : List (Option vm_V)) (hle : vm_le al' al) (h : vm_ex G d M pc al' st mem Q) : vm_ex G d M pc al st mem Q := by
  intro ok p e R s m args below meth c A cells slots Z Cx H locs ls hH hl hret
  refine h ok p e R s m args below meth c A cells slots Z Cx H locs ls hH ⟨hl.1, hl.2.1, fun q hq => hl.2.2 q ?_⟩ hret
  obtain ⟨j, x⟩ := q
  obtain ⟨w, h1, rfl⟩ := vm_lk_mem.mp hq
  exact vm_lk_mem.mpr ⟨w, vm_le_at hle h1, rfl⟩
end
