section
-- ===== PART A: goes FIRST, ahead of the names: the tables' words, and 'selects' of the private methods out of them =====
/-- a private method of a class that the tables say can be made, by its rows of tables_1 -/
def lw_okq (q : MethodName × Nat) : Prop := (q.1.cls ≠ "java/lang/invoke/MethodHandle" ∧ q.1.cls ≠ "java/lang/invoke/VarHandle") ∧ Cond.instantiable q.1.cls q.2 ∈ tables_1 ∧ Cond.privateMethod q.1 ∈ tables_1 ∧ Cond.instanceMethod q.1 ∈ tables_1
theorem lw_p0 : lw_okq (⟨"FewTypes", "forgetPulls", "()V"⟩, 13) := ⟨⟨by decide +kernel, by decide +kernel⟩, List.mem_of_getElem? (i := 16) (by decide +kernel), List.mem_of_getElem? (i := 310) (by decide +kernel), List.mem_of_getElem? (i := 311) (by decide +kernel)⟩
theorem lw_p1 : lw_okq (⟨"FewTypes$Tape", "nextSign", "()I"⟩, 3) := ⟨⟨by decide +kernel, by decide +kernel⟩, List.mem_of_getElem? (i := 146) (by decide +kernel), List.mem_of_getElem? (i := 372) (by decide +kernel), List.mem_of_getElem? (i := 373) (by decide +kernel)⟩
theorem lw_p2 : lw_okq (⟨"FewTypes$Tape", "fault", "()I"⟩, 3) := ⟨⟨by decide +kernel, by decide +kernel⟩, List.mem_of_getElem? (i := 146) (by decide +kernel), List.mem_of_getElem? (i := 376) (by decide +kernel), List.mem_of_getElem? (i := 377) (by decide +kernel)⟩
theorem lw_p3 : lw_okq (⟨"FewTypes$Tape", "readType", "(LFewTypes$Case;)Z"⟩, 3) := ⟨⟨by decide +kernel, by decide +kernel⟩, List.mem_of_getElem? (i := 146) (by decide +kernel), List.mem_of_getElem? (i := 398) (by decide +kernel), List.mem_of_getElem? (i := 399) (by decide +kernel)⟩
theorem lw_p4 : lw_okq (⟨"FewTypes", "isSetOfPlaces", "(I)Z"⟩, 13) := ⟨⟨by decide +kernel, by decide +kernel⟩, List.mem_of_getElem? (i := 16) (by decide +kernel), List.mem_of_getElem? (i := 445) (by decide +kernel), List.mem_of_getElem? (i := 446) (by decide +kernel)⟩
theorem lw_p5 : lw_okq (⟨"FewTypes", "lockLine", "()V"⟩, 13) := ⟨⟨by decide +kernel, by decide +kernel⟩, List.mem_of_getElem? (i := 16) (by decide +kernel), List.mem_of_getElem? (i := 449) (by decide +kernel), List.mem_of_getElem? (i := 450) (by decide +kernel)⟩
theorem lw_p6 : lw_okq (⟨"FewTypes$Press", "lockType", "(LFewTypes$Line;LFewTypes$Case;I)Z"⟩, 11) := ⟨⟨by decide +kernel, by decide +kernel⟩, List.mem_of_getElem? (i := 163) (by decide +kernel), List.mem_of_getElem? (i := 458) (by decide +kernel), List.mem_of_getElem? (i := 459) (by decide +kernel)⟩
theorem lw_p7 : lw_okq (⟨"FewTypes$Press", "setRow", "(IJ)V"⟩, 11) := ⟨⟨by decide +kernel, by decide +kernel⟩, List.mem_of_getElem? (i := 163) (by decide +kernel), List.mem_of_getElem? (i := 472) (by decide +kernel), List.mem_of_getElem? (i := 473) (by decide +kernel)⟩
theorem lw_p8 : lw_okq (⟨"FewTypes$Press", "fillRows", "(II)V"⟩, 11) := ⟨⟨by decide +kernel, by decide +kernel⟩, List.mem_of_getElem? (i := 163) (by decide +kernel), List.mem_of_getElem? (i := 480) (by decide +kernel), List.mem_of_getElem? (i := 481) (by decide +kernel)⟩
theorem lw_p9 : lw_okq (⟨"FewTypes$Press", "mayPrintAlone", "(II)I"⟩, 11) := ⟨⟨by decide +kernel, by decide +kernel⟩, List.mem_of_getElem? (i := 163) (by decide +kernel), List.mem_of_getElem? (i := 485) (by decide +kernel), List.mem_of_getElem? (i := 486) (by decide +kernel)⟩
theorem lw_p10 : lw_okq (⟨"FewTypes$Press", "pairsOf", "(I)I"⟩, 11) := ⟨⟨by decide +kernel, by decide +kernel⟩, List.mem_of_getElem? (i := 163) (by decide +kernel), List.mem_of_getElem? (i := 489) (by decide +kernel), List.mem_of_getElem? (i := 490) (by decide +kernel)⟩
theorem lw_p11 : lw_okq (⟨"FewTypes$Press", "addWays", "(III)V"⟩, 11) := ⟨⟨by decide +kernel, by decide +kernel⟩, List.mem_of_getElem? (i := 163) (by decide +kernel), List.mem_of_getElem? (i := 493) (by decide +kernel), List.mem_of_getElem? (i := 494) (by decide +kernel)⟩
theorem lw_p12 : lw_okq (⟨"FewTypes$Press", "mayPrintJoined", "(II)I"⟩, 11) := ⟨⟨by decide +kernel, by decide +kernel⟩, List.mem_of_getElem? (i := 163) (by decide +kernel), List.mem_of_getElem? (i := 499) (by decide +kernel), List.mem_of_getElem? (i := 500) (by decide +kernel)⟩
theorem lw_p13 : lw_okq (⟨"FewTypes$Press", "allUseful", "()I"⟩, 11) := ⟨⟨by decide +kernel, by decide +kernel⟩, List.mem_of_getElem? (i := 163) (by decide +kernel), List.mem_of_getElem? (i := 504) (by decide +kernel), List.mem_of_getElem? (i := 505) (by decide +kernel)⟩
theorem lw_p14 : lw_okq (⟨"FewTypes$Press", "isEnough", "(II)Z"⟩, 11) := ⟨⟨by decide +kernel, by decide +kernel⟩, List.mem_of_getElem? (i := 163) (by decide +kernel), List.mem_of_getElem? (i := 508) (by decide +kernel), List.mem_of_getElem? (i := 509) (by decide +kernel)⟩
theorem lw_p15 : lw_okq (⟨"FewTypes$Press", "leastType", "(III)I"⟩, 11) := ⟨⟨by decide +kernel, by decide +kernel⟩, List.mem_of_getElem? (i := 163) (by decide +kernel), List.mem_of_getElem? (i := 522) (by decide +kernel), List.mem_of_getElem? (i := 523) (by decide +kernel)⟩
def lw_privs_1 : List (MethodName × Nat) := [(⟨"FewTypes", "forgetPulls", "()V"⟩, 13), (⟨"FewTypes$Tape", "nextSign", "()I"⟩, 3), (⟨"FewTypes$Tape", "fault", "()I"⟩, 3), (⟨"FewTypes$Tape", "readType", "(LFewTypes$Case;)Z"⟩, 3), (⟨"FewTypes", "isSetOfPlaces", "(I)Z"⟩, 13), (⟨"FewTypes", "lockLine", "()V"⟩, 13), (⟨"FewTypes$Press", "lockType", "(LFewTypes$Line;LFewTypes$Case;I)Z"⟩, 11), (⟨"FewTypes$Press", "setRow", "(IJ)V"⟩, 11), (⟨"FewTypes$Press", "fillRows", "(II)V"⟩, 11), (⟨"FewTypes$Press", "mayPrintAlone", "(II)I"⟩, 11), (⟨"FewTypes$Press", "pairsOf", "(I)I"⟩, 11), (⟨"FewTypes$Press", "addWays", "(III)V"⟩, 11), (⟨"FewTypes$Press", "mayPrintJoined", "(II)I"⟩, 11), (⟨"FewTypes$Press", "allUseful", "()I"⟩, 11), (⟨"FewTypes$Press", "isEnough", "(II)Z"⟩, 11), (⟨"FewTypes$Press", "leastType", "(III)I"⟩, 11)]
theorem lw_r1 : ∀ q ∈ lw_privs_1, lw_okq q := List.forall_mem_cons.mpr ⟨lw_p0, List.forall_mem_cons.mpr ⟨lw_p1, List.forall_mem_cons.mpr ⟨lw_p2, List.forall_mem_cons.mpr ⟨lw_p3, List.forall_mem_cons.mpr ⟨lw_p4, List.forall_mem_cons.mpr ⟨lw_p5, List.forall_mem_cons.mpr ⟨lw_p6, List.forall_mem_cons.mpr ⟨lw_p7, List.forall_mem_cons.mpr ⟨lw_p8, List.forall_mem_cons.mpr ⟨lw_p9, List.forall_mem_cons.mpr ⟨lw_p10, List.forall_mem_cons.mpr ⟨lw_p11, List.forall_mem_cons.mpr ⟨lw_p12, List.forall_mem_cons.mpr ⟨lw_p13, List.forall_mem_cons.mpr ⟨lw_p14, List.forall_mem_cons.mpr ⟨lw_p15, fun _ h => absurd h List.not_mem_nil⟩⟩⟩⟩⟩⟩⟩⟩⟩⟩⟩⟩⟩⟩⟩⟩
theorem lw_p16 : lw_okq (⟨"FewTypes", "pullsFor", "(I)I"⟩, 13) := ⟨⟨by decide +kernel, by decide +kernel⟩, List.mem_of_getElem? (i := 16) (by decide +kernel), List.mem_of_getElem? (i := 530) (by decide +kernel), List.mem_of_getElem? (i := 531) (by decide +kernel)⟩
theorem lw_p17 : lw_okq (⟨"FewTypes$Press", "fillLeast", "(I)V"⟩, 11) := ⟨⟨by decide +kernel, by decide +kernel⟩, List.mem_of_getElem? (i := 163) (by decide +kernel), List.mem_of_getElem? (i := 552) (by decide +kernel), List.mem_of_getElem? (i := 553) (by decide +kernel)⟩
theorem lw_p18 : lw_okq (⟨"FewTypes$Press", "lowestOf", "(I)I"⟩, 11) := ⟨⟨by decide +kernel, by decide +kernel⟩, List.mem_of_getElem? (i := 163) (by decide +kernel), List.mem_of_getElem? (i := 562) (by decide +kernel), List.mem_of_getElem? (i := 563) (by decide +kernel)⟩
theorem lw_p19 : lw_okq (⟨"FewTypes$Press", "leastApart", "(I)I"⟩, 11) := ⟨⟨by decide +kernel, by decide +kernel⟩, List.mem_of_getElem? (i := 163) (by decide +kernel), List.mem_of_getElem? (i := 566) (by decide +kernel), List.mem_of_getElem? (i := 567) (by decide +kernel)⟩
theorem lw_p20 : lw_okq (⟨"FewTypes$Press", "firstPull", "(I)I"⟩, 11) := ⟨⟨by decide +kernel, by decide +kernel⟩, List.mem_of_getElem? (i := 163) (by decide +kernel), List.mem_of_getElem? (i := 580) (by decide +kernel), List.mem_of_getElem? (i := 581) (by decide +kernel)⟩
theorem lw_p21 : lw_okq (⟨"FewTypes$Orders", "pullOf", "([II)I"⟩, 5) := ⟨⟨by decide +kernel, by decide +kernel⟩, List.mem_of_getElem? (i := 204) (by decide +kernel), List.mem_of_getElem? (i := 614) (by decide +kernel), List.mem_of_getElem? (i := 615) (by decide +kernel)⟩
theorem lw_p22 : lw_okq (⟨"FewTypes$Orders", "weighPair", "(LFewTypes$Shop;IIII)V"⟩, 5) := ⟨⟨by decide +kernel, by decide +kernel⟩, List.mem_of_getElem? (i := 204) (by decide +kernel), List.mem_of_getElem? (i := 619) (by decide +kernel), List.mem_of_getElem? (i := 620) (by decide +kernel)⟩
theorem lw_p23 : lw_okq (⟨"FewTypes$Orders", "clashesWithEarlier", "(I)I"⟩, 5) := ⟨⟨by decide +kernel, by decide +kernel⟩, List.mem_of_getElem? (i := 204) (by decide +kernel), List.mem_of_getElem? (i := 631) (by decide +kernel), List.mem_of_getElem? (i := 632) (by decide +kernel)⟩
theorem lw_p24 : lw_okq (⟨"FewTypes$Orders", "tryFrom", "(III)V"⟩, 5) := ⟨⟨by decide +kernel, by decide +kernel⟩, List.mem_of_getElem? (i := 204) (by decide +kernel), List.mem_of_getElem? (i := 639) (by decide +kernel), List.mem_of_getElem? (i := 640) (by decide +kernel)⟩
theorem lw_p25 : lw_okq (⟨"FewTypes", "wearSoap", "(II)V"⟩, 13) := ⟨⟨by decide +kernel, by decide +kernel⟩, List.mem_of_getElem? (i := 16) (by decide +kernel), List.mem_of_getElem? (i := 648) (by decide +kernel), List.mem_of_getElem? (i := 649) (by decide +kernel)⟩
theorem lw_p26 : lw_okq (⟨"FewTypes", "wearByPull", "(II)V"⟩, 13) := ⟨⟨by decide +kernel, by decide +kernel⟩, List.mem_of_getElem? (i := 16) (by decide +kernel), List.mem_of_getElem? (i := 652) (by decide +kernel), List.mem_of_getElem? (i := 653) (by decide +kernel)⟩
theorem lw_p27 : lw_okq (⟨"FewTypes$Jobs", "sortByDue", "()V"⟩, 4) := ⟨⟨by decide +kernel, by decide +kernel⟩, List.mem_of_getElem? (i := 82) (by decide +kernel), List.mem_of_getElem? (i := 695) (by decide +kernel), List.mem_of_getElem? (i := 696) (by decide +kernel)⟩
theorem lw_p28 : lw_okq (⟨"FewTypes$Jobs", "isInTime", "(I)Z"⟩, 4) := ⟨⟨by decide +kernel, by decide +kernel⟩, List.mem_of_getElem? (i := 82) (by decide +kernel), List.mem_of_getElem? (i := 700) (by decide +kernel), List.mem_of_getElem? (i := 701) (by decide +kernel)⟩
theorem lw_p29 : lw_okq (⟨"FewTypes", "refusal", "(IIII)I"⟩, 13) := ⟨⟨by decide +kernel, by decide +kernel⟩, List.mem_of_getElem? (i := 16) (by decide +kernel), List.mem_of_getElem? (i := 732) (by decide +kernel), List.mem_of_getElem? (i := 733) (by decide +kernel)⟩
theorem lw_p30 : lw_okq (⟨"FewTypes", "sortByPull", "(LFewTypes$Sheet;I)Z"⟩, 13) := ⟨⟨by decide +kernel, by decide +kernel⟩, List.mem_of_getElem? (i := 16) (by decide +kernel), List.mem_of_getElem? (i := 746) (by decide +kernel), List.mem_of_getElem? (i := 747) (by decide +kernel)⟩
theorem lw_p31 : lw_okq (⟨"FewTypes", "pullsOfLeaf", "()I"⟩, 13) := ⟨⟨by decide +kernel, by decide +kernel⟩, List.mem_of_getElem? (i := 16) (by decide +kernel), List.mem_of_getElem? (i := 750) (by decide +kernel), List.mem_of_getElem? (i := 751) (by decide +kernel)⟩
def lw_privs_2 : List (MethodName × Nat) := [(⟨"FewTypes", "pullsFor", "(I)I"⟩, 13), (⟨"FewTypes$Press", "fillLeast", "(I)V"⟩, 11), (⟨"FewTypes$Press", "lowestOf", "(I)I"⟩, 11), (⟨"FewTypes$Press", "leastApart", "(I)I"⟩, 11), (⟨"FewTypes$Press", "firstPull", "(I)I"⟩, 11), (⟨"FewTypes$Orders", "pullOf", "([II)I"⟩, 5), (⟨"FewTypes$Orders", "weighPair", "(LFewTypes$Shop;IIII)V"⟩, 5), (⟨"FewTypes$Orders", "clashesWithEarlier", "(I)I"⟩, 5), (⟨"FewTypes$Orders", "tryFrom", "(III)V"⟩, 5), (⟨"FewTypes", "wearSoap", "(II)V"⟩, 13), (⟨"FewTypes", "wearByPull", "(II)V"⟩, 13), (⟨"FewTypes$Jobs", "sortByDue", "()V"⟩, 4), (⟨"FewTypes$Jobs", "isInTime", "(I)Z"⟩, 4), (⟨"FewTypes", "refusal", "(IIII)I"⟩, 13), (⟨"FewTypes", "sortByPull", "(LFewTypes$Sheet;I)Z"⟩, 13), (⟨"FewTypes", "pullsOfLeaf", "()I"⟩, 13)]
theorem lw_r2 : ∀ q ∈ lw_privs_2, lw_okq q := List.forall_mem_cons.mpr ⟨lw_p16, List.forall_mem_cons.mpr ⟨lw_p17, List.forall_mem_cons.mpr ⟨lw_p18, List.forall_mem_cons.mpr ⟨lw_p19, List.forall_mem_cons.mpr ⟨lw_p20, List.forall_mem_cons.mpr ⟨lw_p21, List.forall_mem_cons.mpr ⟨lw_p22, List.forall_mem_cons.mpr ⟨lw_p23, List.forall_mem_cons.mpr ⟨lw_p24, List.forall_mem_cons.mpr ⟨lw_p25, List.forall_mem_cons.mpr ⟨lw_p26, List.forall_mem_cons.mpr ⟨lw_p27, List.forall_mem_cons.mpr ⟨lw_p28, List.forall_mem_cons.mpr ⟨lw_p29, List.forall_mem_cons.mpr ⟨lw_p30, List.forall_mem_cons.mpr ⟨lw_p31, fun _ h => absurd h List.not_mem_nil⟩⟩⟩⟩⟩⟩⟩⟩⟩⟩⟩⟩⟩⟩⟩⟩
theorem lw_p32 : lw_okq (⟨"FewTypesModel", "comes", "(IIII)V"⟩, 37) := ⟨⟨by decide +kernel, by decide +kernel⟩, List.mem_of_getElem? (i := 790) (by decide +kernel), List.mem_of_getElem? (i := 924) (by decide +kernel), List.mem_of_getElem? (i := 925) (by decide +kernel)⟩
theorem lw_p33 : lw_okq (⟨"FewTypesModel", "isOne", "(I)Z"⟩, 37) := ⟨⟨by decide +kernel, by decide +kernel⟩, List.mem_of_getElem? (i := 790) (by decide +kernel), List.mem_of_getElem? (i := 932) (by decide +kernel), List.mem_of_getElem? (i := 933) (by decide +kernel)⟩
theorem lw_p34 : lw_okq (⟨"FewTypesModel", "goes", "(I)V"⟩, 37) := ⟨⟨by decide +kernel, by decide +kernel⟩, List.mem_of_getElem? (i := 790) (by decide +kernel), List.mem_of_getElem? (i := 941) (by decide +kernel), List.mem_of_getElem? (i := 942) (by decide +kernel)⟩
theorem lw_p35 : lw_okq (⟨"FewTypesModel", "byteOf", "(III)I"⟩, 37) := ⟨⟨by decide +kernel, by decide +kernel⟩, List.mem_of_getElem? (i := 790) (by decide +kernel), List.mem_of_getElem? (i := 967) (by decide +kernel), List.mem_of_getElem? (i := 968) (by decide +kernel)⟩
theorem lw_p36 : lw_okq (⟨"FewTypesModel", "here", "()I"⟩, 37) := ⟨⟨by decide +kernel, by decide +kernel⟩, List.mem_of_getElem? (i := 790) (by decide +kernel), List.mem_of_getElem? (i := 971) (by decide +kernel), List.mem_of_getElem? (i := 972) (by decide +kernel)⟩
theorem lw_p37 : lw_okq (⟨"FewTypesModel", "has", "(I)Z"⟩, 37) := ⟨⟨by decide +kernel, by decide +kernel⟩, List.mem_of_getElem? (i := 790) (by decide +kernel), List.mem_of_getElem? (i := 975) (by decide +kernel), List.mem_of_getElem? (i := 976) (by decide +kernel)⟩
theorem lw_p38 : lw_okq (⟨"FewTypesModel", "clause", "(I)V"⟩, 37) := ⟨⟨by decide +kernel, by decide +kernel⟩, List.mem_of_getElem? (i := 790) (by decide +kernel), List.mem_of_getElem? (i := 983) (by decide +kernel), List.mem_of_getElem? (i := 984) (by decide +kernel)⟩
theorem lw_p39 : lw_okq (⟨"FewTypesModel", "leftOf", "(I)I"⟩, 37) := ⟨⟨by decide +kernel, by decide +kernel⟩, List.mem_of_getElem? (i := 790) (by decide +kernel), List.mem_of_getElem? (i := 991) (by decide +kernel), List.mem_of_getElem? (i := 992) (by decide +kernel)⟩
theorem lw_p40 : lw_okq (⟨"FewTypesModel", "isBeside", "(I)Z"⟩, 37) := ⟨⟨by decide +kernel, by decide +kernel⟩, List.mem_of_getElem? (i := 790) (by decide +kernel), List.mem_of_getElem? (i := 995) (by decide +kernel), List.mem_of_getElem? (i := 996) (by decide +kernel)⟩
theorem lw_p41 : lw_okq (⟨"FewTypesModel", "isSet", "(I)Z"⟩, 37) := ⟨⟨by decide +kernel, by decide +kernel⟩, List.mem_of_getElem? (i := 790) (by decide +kernel), List.mem_of_getElem? (i := 1007) (by decide +kernel), List.mem_of_getElem? (i := 1008) (by decide +kernel)⟩
theorem lw_p42 : lw_okq (⟨"FewTypesModel", "canBe", "(I)Z"⟩, 37) := ⟨⟨by decide +kernel, by decide +kernel⟩, List.mem_of_getElem? (i := 790) (by decide +kernel), List.mem_of_getElem? (i := 1011) (by decide +kernel), List.mem_of_getElem? (i := 1012) (by decide +kernel)⟩
theorem lw_p43 : lw_okq (⟨"FewTypesModel", "prints", "(II)Z"⟩, 37) := ⟨⟨by decide +kernel, by decide +kernel⟩, List.mem_of_getElem? (i := 790) (by decide +kernel), List.mem_of_getElem? (i := 1015) (by decide +kernel), List.mem_of_getElem? (i := 1016) (by decide +kernel)⟩
theorem lw_p44 : lw_okq (⟨"FewTypesModel", "isClose", "(II)Z"⟩, 37) := ⟨⟨by decide +kernel, by decide +kernel⟩, List.mem_of_getElem? (i := 790) (by decide +kernel), List.mem_of_getElem? (i := 1019) (by decide +kernel), List.mem_of_getElem? (i := 1020) (by decide +kernel)⟩
theorem lw_p45 : lw_okq (⟨"FewTypesModel", "joins", "(III)Z"⟩, 37) := ⟨⟨by decide +kernel, by decide +kernel⟩, List.mem_of_getElem? (i := 790) (by decide +kernel), List.mem_of_getElem? (i := 1023) (by decide +kernel), List.mem_of_getElem? (i := 1024) (by decide +kernel)⟩
theorem lw_p46 : lw_okq (⟨"FewTypesModel", "least", "(I)Z"⟩, 37) := ⟨⟨by decide +kernel, by decide +kernel⟩, List.mem_of_getElem? (i := 790) (by decide +kernel), List.mem_of_getElem? (i := 1031) (by decide +kernel), List.mem_of_getElem? (i := 1032) (by decide +kernel)⟩
theorem lw_p47 : lw_okq (⟨"FewTypesModel", "looks", "(I)V"⟩, 37) := ⟨⟨by decide +kernel, by decide +kernel⟩, List.mem_of_getElem? (i := 790) (by decide +kernel), List.mem_of_getElem? (i := 1035) (by decide +kernel), List.mem_of_getElem? (i := 1036) (by decide +kernel)⟩
def lw_privs_3 : List (MethodName × Nat) := [(⟨"FewTypesModel", "comes", "(IIII)V"⟩, 37), (⟨"FewTypesModel", "isOne", "(I)Z"⟩, 37), (⟨"FewTypesModel", "goes", "(I)V"⟩, 37), (⟨"FewTypesModel", "byteOf", "(III)I"⟩, 37), (⟨"FewTypesModel", "here", "()I"⟩, 37), (⟨"FewTypesModel", "has", "(I)Z"⟩, 37), (⟨"FewTypesModel", "clause", "(I)V"⟩, 37), (⟨"FewTypesModel", "leftOf", "(I)I"⟩, 37), (⟨"FewTypesModel", "isBeside", "(I)Z"⟩, 37), (⟨"FewTypesModel", "isSet", "(I)Z"⟩, 37), (⟨"FewTypesModel", "canBe", "(I)Z"⟩, 37), (⟨"FewTypesModel", "prints", "(II)Z"⟩, 37), (⟨"FewTypesModel", "isClose", "(II)Z"⟩, 37), (⟨"FewTypesModel", "joins", "(III)Z"⟩, 37), (⟨"FewTypesModel", "least", "(I)Z"⟩, 37), (⟨"FewTypesModel", "looks", "(I)V"⟩, 37)]
theorem lw_r3 : ∀ q ∈ lw_privs_3, lw_okq q := List.forall_mem_cons.mpr ⟨lw_p32, List.forall_mem_cons.mpr ⟨lw_p33, List.forall_mem_cons.mpr ⟨lw_p34, List.forall_mem_cons.mpr ⟨lw_p35, List.forall_mem_cons.mpr ⟨lw_p36, List.forall_mem_cons.mpr ⟨lw_p37, List.forall_mem_cons.mpr ⟨lw_p38, List.forall_mem_cons.mpr ⟨lw_p39, List.forall_mem_cons.mpr ⟨lw_p40, List.forall_mem_cons.mpr ⟨lw_p41, List.forall_mem_cons.mpr ⟨lw_p42, List.forall_mem_cons.mpr ⟨lw_p43, List.forall_mem_cons.mpr ⟨lw_p44, List.forall_mem_cons.mpr ⟨lw_p45, List.forall_mem_cons.mpr ⟨lw_p46, List.forall_mem_cons.mpr ⟨lw_p47, fun _ h => absurd h List.not_mem_nil⟩⟩⟩⟩⟩⟩⟩⟩⟩⟩⟩⟩⟩⟩⟩⟩
theorem lw_p48 : lw_okq (⟨"FewTypesModel", "mayBy", "(IIII)Z"⟩, 37) := ⟨⟨by decide +kernel, by decide +kernel⟩, List.mem_of_getElem? (i := 790) (by decide +kernel), List.mem_of_getElem? (i := 1039) (by decide +kernel), List.mem_of_getElem? (i := 1040) (by decide +kernel)⟩
theorem lw_p49 : lw_okq (⟨"FewTypesModel", "fewestOf", "()I"⟩, 37) := ⟨⟨by decide +kernel, by decide +kernel⟩, List.mem_of_getElem? (i := 790) (by decide +kernel), List.mem_of_getElem? (i := 1047) (by decide +kernel), List.mem_of_getElem? (i := 1048) (by decide +kernel)⟩
theorem lw_p50 : lw_okq (⟨"FewTypesModel", "plans", "()I"⟩, 37) := ⟨⟨by decide +kernel, by decide +kernel⟩, List.mem_of_getElem? (i := 790) (by decide +kernel), List.mem_of_getElem? (i := 1055) (by decide +kernel), List.mem_of_getElem? (i := 1056) (by decide +kernel)⟩
theorem lw_p51 : lw_okq (⟨"FewTypesModel", "clashes", "(I)I"⟩, 37) := ⟨⟨by decide +kernel, by decide +kernel⟩, List.mem_of_getElem? (i := 790) (by decide +kernel), List.mem_of_getElem? (i := 1068) (by decide +kernel), List.mem_of_getElem? (i := 1069) (by decide +kernel)⟩
theorem lw_p52 : lw_okq (⟨"FewTypesModel", "turns", "(I)Z"⟩, 37) := ⟨⟨by decide +kernel, by decide +kernel⟩, List.mem_of_getElem? (i := 790) (by decide +kernel), List.mem_of_getElem? (i := 1072) (by decide +kernel), List.mem_of_getElem? (i := 1073) (by decide +kernel)⟩
theorem lw_p53 : lw_okq (⟨"FewTypesModel", "needsOf", "(I)I"⟩, 37) := ⟨⟨by decide +kernel, by decide +kernel⟩, List.mem_of_getElem? (i := 790) (by decide +kernel), List.mem_of_getElem? (i := 1089) (by decide +kernel), List.mem_of_getElem? (i := 1090) (by decide +kernel)⟩
theorem lw_p54 : lw_okq (⟨"FewTypesModel", "isDone", "(I)Z"⟩, 37) := ⟨⟨by decide +kernel, by decide +kernel⟩, List.mem_of_getElem? (i := 790) (by decide +kernel), List.mem_of_getElem? (i := 1114) (by decide +kernel), List.mem_of_getElem? (i := 1115) (by decide +kernel)⟩
theorem lw_p55 : lw_okq (⟨"FewTypesModel", "lay", "([II)I"⟩, 37) := ⟨⟨by decide +kernel, by decide +kernel⟩, List.mem_of_getElem? (i := 790) (by decide +kernel), List.mem_of_getElem? (i := 1126) (by decide +kernel), List.mem_of_getElem? (i := 1127) (by decide +kernel)⟩
theorem lw_p56 : lw_okq (⟨"FewTypesModel", "gives", "(I[I)I"⟩, 37) := ⟨⟨by decide +kernel, by decide +kernel⟩, List.mem_of_getElem? (i := 790) (by decide +kernel), List.mem_of_getElem? (i := 1134) (by decide +kernel), List.mem_of_getElem? (i := 1135) (by decide +kernel)⟩
theorem lw_p57 : lw_okq (⟨"FewTypesModel", "finds", "(IIII)I"⟩, 37) := ⟨⟨by decide +kernel, by decide +kernel⟩, List.mem_of_getElem? (i := 790) (by decide +kernel), List.mem_of_getElem? (i := 1148) (by decide +kernel), List.mem_of_getElem? (i := 1149) (by decide +kernel)⟩
def lw_privs_4 : List (MethodName × Nat) := [(⟨"FewTypesModel", "mayBy", "(IIII)Z"⟩, 37), (⟨"FewTypesModel", "fewestOf", "()I"⟩, 37), (⟨"FewTypesModel", "plans", "()I"⟩, 37), (⟨"FewTypesModel", "clashes", "(I)I"⟩, 37), (⟨"FewTypesModel", "turns", "(I)Z"⟩, 37), (⟨"FewTypesModel", "needsOf", "(I)I"⟩, 37), (⟨"FewTypesModel", "isDone", "(I)Z"⟩, 37), (⟨"FewTypesModel", "lay", "([II)I"⟩, 37), (⟨"FewTypesModel", "gives", "(I[I)I"⟩, 37), (⟨"FewTypesModel", "finds", "(IIII)I"⟩, 37)]
theorem lw_r4 : ∀ q ∈ lw_privs_4, lw_okq q := List.forall_mem_cons.mpr ⟨lw_p48, List.forall_mem_cons.mpr ⟨lw_p49, List.forall_mem_cons.mpr ⟨lw_p50, List.forall_mem_cons.mpr ⟨lw_p51, List.forall_mem_cons.mpr ⟨lw_p52, List.forall_mem_cons.mpr ⟨lw_p53, List.forall_mem_cons.mpr ⟨lw_p54, List.forall_mem_cons.mpr ⟨lw_p55, List.forall_mem_cons.mpr ⟨lw_p56, List.forall_mem_cons.mpr ⟨lw_p57, fun _ h => absurd h List.not_mem_nil⟩⟩⟩⟩⟩⟩⟩⟩⟩⟩
def lw_privs : List (MethodName × Nat) := lw_privs_1 ++ (lw_privs_2 ++ (lw_privs_3 ++ (lw_privs_4)))
def lw_tbl : List Cond := k2_sels lw_privs ++ tables_1
theorem lw_privs_ok : ∀ q ∈ lw_privs, lw_okq q := by
  show ∀ q ∈ lw_privs_1 ++ (lw_privs_2 ++ (lw_privs_3 ++ (lw_privs_4))), lw_okq q
  exact List.forall_mem_append.mpr ⟨lw_r1, List.forall_mem_append.mpr ⟨lw_r2, List.forall_mem_append.mpr ⟨lw_r3, lw_r4⟩⟩⟩
def fw_tb : List Cond := lw_tbl.filter goodWord
theorem fw_m {w : Cond} (i : Nat) (h : lw_tbl[i]? = some w) (hg : goodWord w = true) : w ∈ fw_tb := List.mem_filter.mpr ⟨List.mem_of_getElem? h, hg⟩
-- the classes whose objects the worlds hold, their fields in the order of the slots
def fw_T0 : u_T := fun k => match k with
  | 0 => ("FewTypes$Case", "kinds", "[I", true)
  | 1 => ("FewTypes$Case", "letters", "[I", true)
  | 2 => ("FewTypes$Case", "mores", "[I", true)
  | _ => ("FewTypes$Case", "size", "I", false)
def fw_t0 : Nat → FieldType := fun k => match k with
  | 0 => .array .int
  | 1 => .array .int
  | 2 => .array .int
  | _ => .int
theorem fw_n0 : ∀ a, a < 4 → ∀ b, b < 4 → a ≠ b → (fw_T0 a).2.1 ≠ (fw_T0 b).2.1 := by decide +kernel
theorem fw_k0 : ∀ k, k < 4 → parseFieldDescriptor (fw_T0 k).2.2.1 = some (fw_t0 k) := by decide +kernel
set_option maxRecDepth 20000 in
theorem fw_j0 : ∀ w ∈ u_ws "FewTypes$Case" fw_T0 4, w ∈ lw_tbl ∧ goodWord w = true := by decide +kernel
theorem fw_i0 : ∀ w ∈ u_ws "FewTypes$Case" fw_T0 4, w ∈ fw_tb := fun w h => List.mem_filter.mpr (fw_j0 w h)
def fw_T1 : u_T := fun k => match k with
  | 0 => ("FewTypes$Jobs", "hours", "[I", true)
  | 1 => ("FewTypes$Jobs", "dues", "[I", true)
  | 2 => ("FewTypes$Jobs", "byDue", "[I", true)
  | _ => ("FewTypes$Jobs", "size", "I", false)
def fw_t1 : Nat → FieldType := fun k => match k with
  | 0 => .array .int
  | 1 => .array .int
  | 2 => .array .int
  | _ => .int
theorem fw_n1 : ∀ a, a < 4 → ∀ b, b < 4 → a ≠ b → (fw_T1 a).2.1 ≠ (fw_T1 b).2.1 := by decide +kernel
theorem fw_k1 : ∀ k, k < 4 → parseFieldDescriptor (fw_T1 k).2.2.1 = some (fw_t1 k) := by decide +kernel
set_option maxRecDepth 20000 in
theorem fw_j1 : ∀ w ∈ u_ws "FewTypes$Jobs" fw_T1 4, w ∈ lw_tbl ∧ goodWord w = true := by decide +kernel
theorem fw_i1 : ∀ w ∈ u_ws "FewTypes$Jobs" fw_T1 4, w ∈ fw_tb := fun w h => List.mem_filter.mpr (fw_j1 w h)
def fw_T2 : u_T := fun k => match k with
  | 0 => ("FewTypes$Line", "letters", "[I", true)
  | 1 => ("FewTypes$Line", "size", "I", false)
  | _ => ("FewTypes$Line", "besides", "I", false)
def fw_t2 : Nat → FieldType := fun k => match k with
  | 0 => .array .int
  | 1 => .int
  | _ => .int
theorem fw_n2 : ∀ a, a < 3 → ∀ b, b < 3 → a ≠ b → (fw_T2 a).2.1 ≠ (fw_T2 b).2.1 := by decide +kernel
theorem fw_k2 : ∀ k, k < 3 → parseFieldDescriptor (fw_T2 k).2.2.1 = some (fw_t2 k) := by decide +kernel
set_option maxRecDepth 20000 in
theorem fw_j2 : ∀ w ∈ u_ws "FewTypes$Line" fw_T2 3, w ∈ lw_tbl ∧ goodWord w = true := by decide +kernel
theorem fw_i2 : ∀ w ∈ u_ws "FewTypes$Line" fw_T2 3, w ∈ fw_tb := fun w h => List.mem_filter.mpr (fw_j2 w h)
def fw_T3 : u_T := fun k => match k with
  | 0 => ("FewTypes$Orders", "clashes", "[I", true)
  | 1 => ("FewTypes$Orders", "tried", "[I", true)
  | 2 => ("FewTypes$Orders", "best", "[I", true)
  | 3 => ("FewTypes$Orders", "pulls", "I", false)
  | _ => ("FewTypes$Orders", "fewestClashes", "I", false)
def fw_t3 : Nat → FieldType := fun k => match k with
  | 0 => .array .int
  | 1 => .array .int
  | 2 => .array .int
  | 3 => .int
  | _ => .int
theorem fw_n3 : ∀ a, a < 5 → ∀ b, b < 5 → a ≠ b → (fw_T3 a).2.1 ≠ (fw_T3 b).2.1 := by decide +kernel
theorem fw_k3 : ∀ k, k < 5 → parseFieldDescriptor (fw_T3 k).2.2.1 = some (fw_t3 k) := by decide +kernel
set_option maxRecDepth 20000 in
theorem fw_j3 : ∀ w ∈ u_ws "FewTypes$Orders" fw_T3 5, w ∈ lw_tbl ∧ goodWord w = true := by decide +kernel
theorem fw_i3 : ∀ w ∈ u_ws "FewTypes$Orders" fw_T3 5, w ∈ fw_tb := fun w h => List.mem_filter.mpr (fw_j3 w h)
def fw_T4 : u_T := fun k => match k with
  | 0 => ("FewTypes$Press", "numbers", "[I", true)
  | 1 => ("FewTypes$Press", "alone", "[I", true)
  | 2 => ("FewTypes$Press", "joined", "[I", true)
  | 3 => ("FewTypes$Press", "rows", "[J", true)
  | 4 => ("FewTypes$Press", "least", "[I", true)
  | 5 => ("FewTypes$Press", "places", "I", false)
  | 6 => ("FewTypes$Press", "besides", "I", false)
  | 7 => ("FewTypes$Press", "wedges", "Z", false)
  | 8 => ("FewTypes$Press", "useful", "I", false)
  | 9 => ("FewTypes$Press", "words", "I", false)
  | _ => ("FewTypes$Press", "capacity", "I", false)
def fw_t4 : Nat → FieldType := fun k => match k with
  | 0 => .array .int
  | 1 => .array .int
  | 2 => .array .int
  | 3 => .array .long
  | 4 => .array .int
  | 5 => .int
  | 6 => .int
  | 7 => .boolean
  | 8 => .int
  | 9 => .int
  | _ => .int
theorem fw_n4 : ∀ a, a < 11 → ∀ b, b < 11 → a ≠ b → (fw_T4 a).2.1 ≠ (fw_T4 b).2.1 := by decide +kernel
theorem fw_k4 : ∀ k, k < 11 → parseFieldDescriptor (fw_T4 k).2.2.1 = some (fw_t4 k) := by decide +kernel
set_option maxRecDepth 20000 in
theorem fw_j4 : ∀ w ∈ u_ws "FewTypes$Press" fw_T4 11, w ∈ lw_tbl ∧ goodWord w = true := by decide +kernel
theorem fw_i4 : ∀ w ∈ u_ws "FewTypes$Press" fw_T4 11, w ∈ fw_tb := fun w h => List.mem_filter.mpr (fw_j4 w h)
def fw_T5 : u_T := fun k => match k with
  | 0 => ("FewTypes$Sheet", "items", "[I", true)
  | 1 => ("FewTypes$Sheet", "lane", "I", false)
  | 2 => ("FewTypes$Sheet", "size", "I", false)
  | _ => ("FewTypes$Sheet", "isThere", "Z", false)
def fw_t5 : Nat → FieldType := fun k => match k with
  | 0 => .array .int
  | 1 => .int
  | 2 => .int
  | _ => .boolean
theorem fw_n5 : ∀ a, a < 4 → ∀ b, b < 4 → a ≠ b → (fw_T5 a).2.1 ≠ (fw_T5 b).2.1 := by decide +kernel
theorem fw_k5 : ∀ k, k < 4 → parseFieldDescriptor (fw_T5 k).2.2.1 = some (fw_t5 k) := by decide +kernel
set_option maxRecDepth 20000 in
theorem fw_j5 : ∀ w ∈ u_ws "FewTypes$Sheet" fw_T5 4, w ∈ lw_tbl ∧ goodWord w = true := by decide +kernel
theorem fw_i5 : ∀ w ∈ u_ws "FewTypes$Sheet" fw_T5 4, w ∈ fw_tb := fun w h => List.mem_filter.mpr (fw_j5 w h)
def fw_T6 : u_T := fun k => match k with
  | 0 => ("FewTypes$Shop", "types", "LFewTypes$Case;", true)
  | 1 => ("FewTypes$Shop", "told", "LFewTypes$Line;", true)
  | 2 => ("FewTypes$Shop", "widths", "[I", true)
  | 3 => ("FewTypes$Shop", "rules", "[I", true)
  | 4 => ("FewTypes$Shop", "texts", "[LFewTypes$Line;", true)
  | 5 => ("FewTypes$Shop", "senses", "[I", true)
  | 6 => ("FewTypes$Shop", "textCount", "I", false)
  | _ => ("FewTypes$Shop", "jobs", "LFewTypes$Jobs;", true)
def fw_t6 : Nat → FieldType := fun k => match k with
  | 0 => .object "FewTypes$Case"
  | 1 => .object "FewTypes$Line"
  | 2 => .array .int
  | 3 => .array .int
  | 4 => .array (.object "FewTypes$Line")
  | 5 => .array .int
  | 6 => .int
  | _ => .object "FewTypes$Jobs"
theorem fw_n6 : ∀ a, a < 8 → ∀ b, b < 8 → a ≠ b → (fw_T6 a).2.1 ≠ (fw_T6 b).2.1 := by decide +kernel
theorem fw_k6 : ∀ k, k < 8 → parseFieldDescriptor (fw_T6 k).2.2.1 = some (fw_t6 k) := by decide +kernel
set_option maxRecDepth 20000 in
theorem fw_j6 : ∀ w ∈ u_ws "FewTypes$Shop" fw_T6 8, w ∈ lw_tbl ∧ goodWord w = true := by decide +kernel
theorem fw_i6 : ∀ w ∈ u_ws "FewTypes$Shop" fw_T6 8, w ∈ fw_tb := fun w h => List.mem_filter.mpr (fw_j6 w h)
def fw_T7 : u_T := fun k => match k with
  | 0 => ("FewTypes$Tape", "bytes", "[I", true)
  | 1 => ("FewTypes$Tape", "size", "I", false)
  | _ => ("FewTypes$Tape", "at", "I", false)
def fw_t7 : Nat → FieldType := fun k => match k with
  | 0 => .array .int
  | 1 => .int
  | _ => .int
theorem fw_n7 : ∀ a, a < 3 → ∀ b, b < 3 → a ≠ b → (fw_T7 a).2.1 ≠ (fw_T7 b).2.1 := by decide +kernel
theorem fw_k7 : ∀ k, k < 3 → parseFieldDescriptor (fw_T7 k).2.2.1 = some (fw_t7 k) := by decide +kernel
set_option maxRecDepth 20000 in
theorem fw_j7 : ∀ w ∈ u_ws "FewTypes$Tape" fw_T7 3, w ∈ lw_tbl ∧ goodWord w = true := by decide +kernel
theorem fw_i7 : ∀ w ∈ u_ws "FewTypes$Tape" fw_T7 3, w ∈ fw_tb := fun w h => List.mem_filter.mpr (fw_j7 w h)
def fw_T8 : u_T := fun k => match k with
  | 0 => ("FewTypes", "now", "LFewTypes$Shop;", true)
  | 1 => ("FewTypes", "kept", "LFewTypes$Shop;", true)
  | 2 => ("FewTypes", "hasImage", "Z", false)
  | 3 => ("FewTypes", "tape", "LFewTypes$Tape;", true)
  | 4 => ("FewTypes", "press", "LFewTypes$Press;", true)
  | 5 => ("FewTypes", "orders", "LFewTypes$Orders;", true)
  | 6 => ("FewTypes", "readLine", "LFewTypes$Line;", true)
  | 7 => ("FewTypes", "readCase", "LFewTypes$Case;", true)
  | 8 => ("FewTypes", "pullsKept", "[I", true)
  | 9 => ("FewTypes", "planSets", "[I", true)
  | 10 => ("FewTypes", "chosen", "[I", true)
  | 11 => ("FewTypes", "leafSets", "[I", true)
  | _ => ("FewTypes", "sheets", "[LFewTypes$Sheet;", true)
def fw_t8 : Nat → FieldType := fun k => match k with
  | 0 => .object "FewTypes$Shop"
  | 1 => .object "FewTypes$Shop"
  | 2 => .boolean
  | 3 => .object "FewTypes$Tape"
  | 4 => .object "FewTypes$Press"
  | 5 => .object "FewTypes$Orders"
  | 6 => .object "FewTypes$Line"
  | 7 => .object "FewTypes$Case"
  | 8 => .array .int
  | 9 => .array .int
  | 10 => .array .int
  | 11 => .array .int
  | _ => .array (.object "FewTypes$Sheet")
theorem fw_n8 : ∀ a, a < 13 → ∀ b, b < 13 → a ≠ b → (fw_T8 a).2.1 ≠ (fw_T8 b).2.1 := by decide +kernel
theorem fw_k8 : ∀ k, k < 13 → parseFieldDescriptor (fw_T8 k).2.2.1 = some (fw_t8 k) := by decide +kernel
set_option maxRecDepth 20000 in
theorem fw_j8 : ∀ w ∈ u_ws "FewTypes" fw_T8 13, w ∈ lw_tbl ∧ goodWord w = true := by decide +kernel
theorem fw_i8 : ∀ w ∈ u_ws "FewTypes" fw_T8 13, w ∈ fw_tb := fun w h => List.mem_filter.mpr (fw_j8 w h)
def fw_T9 : u_T := fun k => match k with
  | 0 => ("FewTypesModel", "types", "I", false)
  | 1 => ("FewTypesModel", "kinds", "[I", true)
  | 2 => ("FewTypesModel", "letters", "[I", true)
  | 3 => ("FewTypesModel", "mores", "[I", true)
  | 4 => ("FewTypesModel", "widths", "[I", true)
  | 5 => ("FewTypesModel", "rules", "[I", true)
  | 6 => ("FewTypesModel", "places", "I", false)
  | 7 => ("FewTypesModel", "row", "[I", true)
  | 8 => ("FewTypesModel", "blanks", "I", false)
  | 9 => ("FewTypesModel", "texts", "I", false)
  | 10 => ("FewTypesModel", "kept", "[I", true)
  | 11 => ("FewTypesModel", "jobs", "I", false)
  | 12 => ("FewTypesModel", "hours", "[I", true)
  | 13 => ("FewTypesModel", "dues", "[I", true)
  | 14 => ("FewTypesModel", "tape", "[I", true)
  | 15 => ("FewTypesModel", "taped", "I", false)
  | 16 => ("FewTypesModel", "at", "I", false)
  | 17 => ("FewTypesModel", "wrong", "Z", false)
  | 18 => ("FewTypesModel", "read", "[I", true)
  | 19 => ("FewTypesModel", "rest", "[Z", true)
  | 20 => ("FewTypesModel", "mark", "[I", true)
  | 21 => ("FewTypesModel", "marks", "I", false)
  | 22 => ("FewTypesModel", "bys", "[I", true)
  | 23 => ("FewTypesModel", "cans", "[Z", true)
  | 24 => ("FewTypesModel", "few", "[I", true)
  | 25 => ("FewTypesModel", "pulls", "[I", true)
  | 26 => ("FewTypesModel", "order", "[I", true)
  | 27 => ("FewTypesModel", "bestOrder", "[I", true)
  | 28 => ("FewTypesModel", "from", "[I", true)
  | 29 => ("FewTypesModel", "wears", "[I", true)
  | 30 => ("FewTypesModel", "aside", "[I", true)
  | 31 => ("FewTypesModel", "image", "[I", true)
  | 32 => ("FewTypesModel", "isImage", "Z", false)
  | 33 => ("FewTypesModel", "lanes", "[I", true)
  | 34 => ("FewTypesModel", "sizes", "[I", true)
  | 35 => ("FewTypesModel", "items", "[I", true)
  | _ => ("FewTypesModel", "moved", "[I", true)
def fw_t9 : Nat → FieldType := fun k => match k with
  | 0 => .int
  | 1 => .array .int
  | 2 => .array .int
  | 3 => .array .int
  | 4 => .array .int
  | 5 => .array .int
  | 6 => .int
  | 7 => .array .int
  | 8 => .int
  | 9 => .int
  | 10 => .array .int
  | 11 => .int
  | 12 => .array .int
  | 13 => .array .int
  | 14 => .array .int
  | 15 => .int
  | 16 => .int
  | 17 => .boolean
  | 18 => .array .int
  | 19 => .array .boolean
  | 20 => .array .int
  | 21 => .int
  | 22 => .array .int
  | 23 => .array .boolean
  | 24 => .array .int
  | 25 => .array .int
  | 26 => .array .int
  | 27 => .array .int
  | 28 => .array .int
  | 29 => .array .int
  | 30 => .array .int
  | 31 => .array .int
  | 32 => .boolean
  | 33 => .array .int
  | 34 => .array .int
  | 35 => .array .int
  | _ => .array .int
theorem fw_n9 : ∀ a, a < 37 → ∀ b, b < 37 → a ≠ b → (fw_T9 a).2.1 ≠ (fw_T9 b).2.1 := by decide +kernel
theorem fw_k9 : ∀ k, k < 37 → parseFieldDescriptor (fw_T9 k).2.2.1 = some (fw_t9 k) := by decide +kernel
set_option maxRecDepth 20000 in
theorem fw_j9 : ∀ w ∈ u_ws "FewTypesModel" fw_T9 37, w ∈ lw_tbl ∧ goodWord w = true := by decide +kernel
theorem fw_i9 : ∀ w ∈ u_ws "FewTypesModel" fw_T9 37, w ∈ fw_tb := fun w h => List.mem_filter.mpr (fw_j9 w h)
abbrev fw_cl : List vw_C := [("FewTypes$Case", fw_T0, 4), ("FewTypes$Jobs", fw_T1, 4), ("FewTypes$Line", fw_T2, 3), ("FewTypes$Orders", fw_T3, 5), ("FewTypes$Press", fw_T4, 11), ("FewTypes$Sheet", fw_T5, 4), ("FewTypes$Shop", fw_T6, 8), ("FewTypes$Tape", fw_T7, 3), ("FewTypes", fw_T8, 13), ("FewTypesModel", fw_T9, 37)]
theorem fw_gin : GoodIn fw_tb fw_tb := fun w hw => ⟨hw, good_of_word (List.mem_filter.mp hw).2⟩
end
section
/-! THE PURE MACHINE'S STATE: ints by cell and place, longs by cell and place; the shape of the cells never changes behind the constructors -/
abbrev fw_M : Type := (Nat → Nat → Int32) × (Nat → Nat → Int64)
/-- a cell's shape: .inl (its class, its fields: none an int, some r the cell r); .inr (kind 0 int, 1 boolean, 2 long, 3 Line, 4 Sheet; its length; of references their cells) -/
abbrev fw_K : Type := (Nat × List (Option Nat)) ⊕ (Nat × Nat × List Nat)
def fw_fe (ad : Nat → Nat) (μ : fw_M) (k j : Nat) (o : Option Nat) : Value := match o with
  | none => .int (μ.1 k j)
  | some r => .ref (ad r)
def fw_ar (ad : Nat → Nat) (μ : fw_M) (k kind n : Nat) (rs : List Nat) : vp_A := match kind with
  | 0 => (n, .inl (μ.1 k))
  | 1 => (n, .inl (μ.1 k))
  | 2 => (n, .inr (.inl (μ.2 k)))
  | _ => (n, .inr (.inr (.inr (.inr (fun i => (rs[i]?).map ad)))))
def fw_ce (ad : Nat → Nat) (dA : Nat → ClassId) (μ : fw_M) (k : Nat) (s : fw_K) : va_E := match s with
  | .inl o => .inr (o.1, o.2.mapIdx (fw_fe ad μ k))
  | .inr a => .inl (dA a.1, fw_ar ad μ k a.1 a.2.1 a.2.2)
def fw_w (sh : List fw_K) (ad : Nat → Nat) (dA : Nat → ClassId) (μ : fw_M) : va_W := sh.mapIdx (fun k s => (ad k, fw_ce ad dA μ k s))
theorem fw_wget {sh : List fw_K} {ad : Nat → Nat} {dA : Nat → ClassId} {μ : fw_M} {k : Nat} {s : fw_K} (h : sh[k]? = some s) : (fw_w sh ad dA μ)[k]? = some (ad k, fw_ce ad dA μ k s) := by
  simp [fw_w, List.getElem?_mapIdx, h]
theorem fw_wset {sh : List fw_K} {ad : Nat → Nat} {dA : Nat → ClassId} {μ μ1 : fw_M} {k : Nat} {s : fw_K} (h : sh[k]? = some s) (hμ : ∀ (j : Nat) (t : fw_K), j ≠ k → fw_ce ad dA μ1 j t = fw_ce ad dA μ j t) : (fw_w sh ad dA μ).set k (ad k, fw_ce ad dA μ1 k s) = fw_w sh ad dA μ1 := by
  apply List.ext_getElem?
  intro j
  rw [List.getElem?_set]
  by_cases hj : k = j
  · subst hj
    have hl : k < sh.length := (List.getElem?_eq_some_iff.mp h).1
    simp [fw_wget h, fw_w, hl]
    exact (List.getElem?_eq_some_iff.mp h).2 ▸ rfl
  · simp only [hj, if_false]
    simp only [fw_w, List.getElem?_mapIdx]
    cases hs : sh[j]? with
    | none => rfl
    | some t => simp [hμ j t (fun e => hj e.symm)]
def fw_wr (μ : fw_M) (k j : Nat) (v : Int32) : fw_M := (fun a => if a = k then upd (μ.1 k) j v else μ.1 a, μ.2)
def fw_wl (μ : fw_M) (k j : Nat) (v : Int64) : fw_M := (μ.1, fun a => if a = k then vp_updL (μ.2 k) j v else μ.2 a)
def fw_wc (μ : fw_M) (k : Nat) (f : Nat → Int32) : fw_M := (fun a => if a = k then f else μ.1 a, μ.2)
def fw_wd (μ : fw_M) (k : Nat) (f : Nat → Int64) : fw_M := (μ.1, fun a => if a = k then f else μ.2 a)
theorem fw_ce_wc {ad : Nat → Nat} {dA : Nat → ClassId} {μ : fw_M} {k : Nat} {f : Nat → Int32} (j : Nat) (t : fw_K) (h : j ≠ k) : fw_ce ad dA (fw_wc μ k f) j t = fw_ce ad dA μ j t := by
  cases t with
  | inl o =>
    simp only [fw_ce]
    congr 2
    apply List.ext_getElem?
    intro i
    simp only [List.getElem?_mapIdx]
    congr 1
    funext o
    cases o <;> simp [fw_fe, fw_wc, h]
  | inr a =>
    simp only [fw_ce, fw_ar, fw_wc]
    split <;> simp [h]
theorem fw_ce_wd {ad : Nat → Nat} {dA : Nat → ClassId} {μ : fw_M} {k : Nat} {f : Nat → Int64} (j : Nat) (t : fw_K) (h : j ≠ k) : fw_ce ad dA (fw_wd μ k f) j t = fw_ce ad dA μ j t := by
  cases t with
  | inl o => rfl
  | inr a =>
    simp only [fw_ce, fw_ar, fw_wd]
    split <;> simp [h]
theorem fw_wr_wc (μ : fw_M) (k j : Nat) (v : Int32) : fw_wr μ k j v = fw_wc μ k (upd (μ.1 k) j v) := rfl
theorem fw_wl_wd (μ : fw_M) (k j : Nat) (v : Int64) : fw_wl μ k j v = fw_wd μ k (vp_updL (μ.2 k) j v) := rfl
/-- a value of the pure machine, its cells by their addresses -/
def fw_v (ad : Nat → Nat) : Value → Value
  | .ref k => .ref (ad k)
  | v => v
theorem fw_vcat (ad : Nat → Nat) (v : Value) : (fw_v ad v).category = v.category := by cases v <;> rfl
def fw_g (ad : Nat → Nat) (q : Nat × Value) : Nat × Value := (q.1, fw_v ad q.2)
theorem fw_fil (ad : Nat → Nat) (i : Nat) (l : List (Nat × Value)) : (l.map (fw_g ad)).filter (fun q => !(q.1 == i) && !(q.1 + 1 == i && q.2.category == 2)) = (l.filter (fun q => !(q.1 == i) && !(q.1 + 1 == i && q.2.category == 2))).map (fw_g ad) := by
  rw [List.filter_map]
  congr 1
  apply List.filter_congr
  intro q _
  simp [fw_g, fw_vcat]
theorem fw_fil2 (ad : Nat → Nat) (i : Nat) (l : List (Nat × Value)) : (l.map (fw_g ad)).filter (fun q => !(q.1 == i) && (!(q.1 == i + 1) && !(q.1 + 1 == i && q.2.category == 2))) = (l.filter (fun q => !(q.1 == i) && (!(q.1 == i + 1) && !(q.1 + 1 == i && q.2.category == 2)))).map (fw_g ad) := by
  rw [List.filter_map]
  congr 1
  apply List.filter_congr
  intro q _
  simp [fw_g, fw_vcat]
theorem fw_lat {ls : Array Slot} {nL : Nat} {ad : Nat → Nat} {l : List (Nat × Value)} (h : lv_has ls nL (l.map (fw_g ad))) (k : Nat) {i : Nat} {v : Value} (hk : l[k]? = some (i, v)) : ls[i]? = some (.val (fw_v ad v)) := lv_at h k (by rw [List.getElem?_map, hk]; rfl)
theorem fw_largs (ad : Nat → Nat) (vs : List Value) : ∀ i, lv_args i (vs.map (fw_v ad)) = (lv_args i vs).map (fw_g ad) := by
  induction vs with
  | nil => intro i; rfl
  | cons v vs ih =>
    intro i
    simp only [List.map_cons, lv_args, fw_vcat, ih]
    rfl
/-- partial pieces -/
def fw_rd (n : Nat) (f : Nat → Int32) (i : Int32) : Option Int32 := if i < 0 ∨ n ≤ i.toNatClampNeg then none else some (f i.toNatClampNeg)
def fw_rl (n : Nat) (f : Nat → Int64) (i : Int32) : Option Int64 := if i < 0 ∨ n ≤ i.toNatClampNeg then none else some (f i.toNatClampNeg)
def fw_rq (n : Nat) (rs : List Nat) (i : Int32) : Option Nat := if i < 0 ∨ n ≤ i.toNatClampNeg then none else rs[i.toNatClampNeg]?
def fw_si (n : Nat) (μ : fw_M) (k : Nat) (i v : Int32) : Option fw_M := if i < 0 ∨ n ≤ i.toNatClampNeg then none else some (fw_wr μ k i.toNatClampNeg v)
def fw_sz (n : Nat) (μ : fw_M) (k : Nat) (i v : Int32) : Option fw_M := if i < 0 ∨ n ≤ i.toNatClampNeg then none else if v = 0 ∨ v = 1 then some (fw_wr μ k i.toNatClampNeg v) else none
def fw_sl (n : Nat) (μ : fw_M) (k : Nat) (i : Int32) (v : Int64) : Option fw_M := if i < 0 ∨ n ≤ i.toNatClampNeg then none else some (fw_wl μ k i.toNatClampNeg v)
def fw_cp (n0 n1 : Nat) (μ : fw_M) (k0 : Nat) (sp : Int32) (k1 : Nat) (dp n : Int32) : Option fw_M := if sp < 0 ∨ dp < 0 ∨ n < 0 ∨ n0 < sp.toNatClampNeg + n.toNatClampNeg ∨ n1 < dp.toNatClampNeg + n.toNatClampNeg then none else some (fw_wc μ k1 (va_cpy (μ.1 k0) (μ.1 k1) sp.toNatClampNeg dp.toNatClampNeg n.toNatClampNeg))
def fw_cl2 (n0 n1 : Nat) (μ : fw_M) (k0 : Nat) (sp : Int32) (k1 : Nat) (dp n : Int32) : Option fw_M := if sp < 0 ∨ dp < 0 ∨ n < 0 ∨ n0 < sp.toNatClampNeg + n.toNatClampNeg ∨ n1 < dp.toNatClampNeg + n.toNatClampNeg then none else some (fw_wd μ k1 (va_cpy (μ.2 k0) (μ.2 k1) sp.toNatClampNeg dp.toNatClampNeg n.toNatClampNeg))
def fw_dv (x y : Int32) : Option Int32 := if y = 0 then none else some (x / y)
def fw_rm2 (x y : Int32) : Option Int32 := if y = 0 then none else some (x - x / y * y)
def fw_ld (x y : Int64) : Option Int64 := if y = 0 then none else some (x / y)
def fw_lr (x y : Int64) : Option Int64 := if y = 0 then none else some (x - x / y * y)
def fw_bz (v : Int32) : Option Int32 := if v = 0 ∨ v = 1 then some v else none
def fw_nm {α β : Type} (a : α) (K : α → β) : β := K a
def fw_wh {S E : Type} (body : S → Option (S ⊕ E)) : Nat → S → Option E
  | 0, _ => none
  | n + 1, s => match body s with
    | none => none
    | some (.inl s1) => fw_wh body n s1
    | some (.inr e) => some e
def fw_N : Nat := 100000000
/-- taking the pure terms apart -/
theorem fw_be {α β : Type} {X : Option α} {K : α → Option β} {r : β} (h : X.bind K = some r) : ∃ v, X = some v ∧ K v = some r := by
  cases X with
  | none => cases h
  | some v => exact ⟨v, rfl, h⟩
theorem fw_ne {α β : Type} {a : α} {K : α → β} {r : β} (h : fw_nm a K = r) : ∃ x, x = a ∧ K x = r := ⟨a, rfl, h⟩
theorem fw_it {β : Type} {c : Prop} [Decidable c] {a b r : β} (hc : c) (h : (if c then a else b) = r) : a = r := by rw [if_pos hc] at h; exact h
theorem fw_if {β : Type} {c : Prop} [Decidable c] {a b r : β} (hc : ¬ c) (h : (if c then a else b) = r) : b = r := by rw [if_neg hc] at h; exact h
theorem fw_gu {β : Type} {c : Prop} [Decidable c] {a : Option β} {r : β} (h : (if c then a else none) = some r) : c ∧ a = some r := by
  by_cases hc : c
  · rw [if_pos hc] at h; exact ⟨hc, h⟩
  · rw [if_neg hc] at h; cases h
theorem fw_we {S E : Type} {body : S → Option (S ⊕ E)} {e : E} (P : S → Prop) (step : ∀ (s : S) (x : S ⊕ E), body s = some x → (∀ s1, x = .inl s1 → P s1) → (∀ e1, x = .inr e1 → e1 = e) → P s) : ∀ (n : Nat) (s : S), fw_wh body n s = some e → P s := by
  intro n
  induction n with
  | zero => intro s h; cases h
  | succ n ih =>
    intro s h
    rw [fw_wh] at h
    cases hb : body s with
    | none => rw [hb] at h; cases h
    | some x =>
      rw [hb] at h
      cases x with
      | inl s1 => exact step s _ hb (fun s2 e2 => by cases e2; exact ih s1 h) (fun _ e2 => by cases e2)
      | inr e1 => exact step s _ hb (fun _ e2 => by cases e2) (fun e2 h2 => by cases h2; exact Option.some.inj h)
end
section
/-! THE JUDGEMENT fw_R: from this place of a method, with these locals, this stack, this memory, the method comes to its end with the answer rt and the memory μ1 -/
abbrev fw_Y : Type := MethodName × ByteArray × Nat × Option FieldType
def fw_rm (d : Nat) : Room := { frames := d, cells := 0, slots := 0, locals := 40 * d }
def fw_ty (dA : Nat → ClassId) : List (ClassId × FieldType) := [(dA 0, .int), (dA 1, .boolean), (dA 2, .long), (dA 3, .object "FewTypes$Line"), (dA 4, .object "FewTypes$Sheet")]
/-- the static rows, told as cells 1000 .. -/
def fw_s0 (j : Nat) : Int32 := match j with | 0 => 0 | 1 => 0 | _ => 1
def fw_s1 (j : Nat) : Int32 := match j with | 0 => 1 | 1 => 3 | _ => 9
def fw_s2 (j : Nat) : Int64 := match j with | 0 => 6148914691236517205 | 1 => 3689348814741910323 | 2 => 1085102592571150095 | 3 => 71777214294589695 | 4 => 281470681808895 | _ => 4294967295
def fw_St (ad : Nat → Nat) (A : Nat → Prop) (U : State) (H : Heap) : Prop :=
  va_Z "FewTypes" "RULE_LEAST" "[I" (.ref (ad 1000)) A U H ∧ va_T .int (ad 1000) 3 (fun j => .int (fw_s0 j)) A U H ∧
  va_Z "FewTypes" "RULE_MOST" "[I" (.ref (ad 1001)) A U H ∧ va_T .int (ad 1001) 3 (fun j => .int (fw_s1 j)) A U H ∧
  va_Z "FewTypes$Press" "LACKING" "[J" (.ref (ad 1002)) A U H ∧ va_T .long (ad 1002) 6 (fun j => .long (fw_s2 j)) A U H
theorem fw_St.moved {ad : Nat → Nat} {A : Nat → Prop} {u U : State} {H : Heap} (hvm : u.vm.Alike U.vm) (h : fw_St ad A u H) : fw_St ad A U H := ⟨h.1.moved hvm, h.2.1.moved hvm, h.2.2.1.moved hvm, h.2.2.2.1.moved hvm, h.2.2.2.2.1.moved hvm, h.2.2.2.2.2.moved hvm⟩
theorem fw_St.kept {ad : Nat → Nat} {A : Nat → Prop} {U : State} {H H1 : Heap} (h : fw_St ad A U H) (hq : ∀ a : Nat, a < H.size → ¬ A a → H1[a]? = H[a]?) : fw_St ad A U H1 := ⟨h.1.kept hq, h.2.1.kept hq, h.2.2.1.kept hq, h.2.2.2.1.kept hq, h.2.2.2.2.1.kept hq, h.2.2.2.2.2.kept hq⟩
/-- links to private members of nest mates -/
def fw_nl : List (String × Nat × MethodName) := [("FewTypes$Case", 25, ⟨"FewTypes", "isLetter", "(I)Z"⟩), ("FewTypes$Tape", 41, ⟨"FewTypes", "isLetter", "(I)Z"⟩), ("FewTypes$Line", 28, ⟨"FewTypes", "inSet", "(II)Z"⟩), ("FewTypes$Press", 133, ⟨"FewTypes", "inSet", "(II)Z"⟩), ("FewTypes$Press", 124, ⟨"FewTypes", "cutUp", "(II)I"⟩), ("FewTypes$Orders", 59, ⟨"FewTypes", "inSet", "(II)Z"⟩), ("FewTypes$Jobs", 44, ⟨"FewTypes", "inSet", "(II)Z"⟩)]
def fw_Ne (U : State) : Prop := ∀ q ∈ fw_nl, va_Nw (.methodLinkNest q.1 q.2.1 q.2.2 "FewTypes") U
theorem fw_Ne.same {u U : State} (h : u.vm = U.vm) (hn : fw_Ne u) : fw_Ne U := fun q hq => va_Nw.same rfl h (hn q hq)
theorem fw_Ne.warm {s U : State} (hW : s.WarmedH U.vm) (hn : fw_Ne s) : fw_Ne U := fun q hq => va_Nw.warmM hW (hn q hq)
/-- a method's start -/
def fw_Pre (sh : List fw_K) (D : va_G) (dA : Nat → ClassId) (ad : Nat → Nat) (A : Nat → Prop) (μ : fw_M) (U : State) : Prop :=
  (∀ q, U.heap.size ≤ q → A q) ∧ va_P D fw_cl (fw_w sh ad dA μ) U.heap ∧ va_K D fw_cl (fw_ty dA) U ∧ va_D A (fw_w sh ad dA μ) ∧ fw_St ad A U U.heap ∧ fw_Ne U
def fw_B (sh : List fw_K) (D : va_G) (dA : Nat → ClassId) (ad : Nat → Nat) (A : Nat → Prop) (u : fw_M) (t : State) : Prop := va_P D fw_cl (fw_w sh ad dA u) t.heap ∧ va_K D fw_cl (fw_ty dA) t ∧ va_D A (fw_w sh ad dA u)
def fw_Q (sh : List fw_K) (D : va_G) (dA : Nat → ClassId) (ad : Nat → Nat) (A : Nat → Prop) (rt : Option Int32) (μ1 : fw_M) : Array Value → State → Outcome → State → Prop := match rt with
  | some r => va_Qi (fun x u => x = r ∧ u = μ1) (fw_B sh D dA ad A) A
  | none => va_Qv (fun u => u = μ1) (fw_B sh D dA ad A) A
def fw_Con (Y : fw_Y) (sh : List fw_K) (d : Nat) (as : List Value) (rt : Option Int32) (μ μ1 : fw_M) : Prop :=
  ∀ (l : Launch) (D : va_G) (dA : Nat → ClassId) (ad : Nat → Nat) (A : Nat → Prop), Met l Y.1 (Cond.code Y.1 Y.2.1 Y.2.2.1 Y.2.2.2 :: fw_tb) (fw_rm d) (va_Pc (as.map (fw_v ad)) (fw_Pre sh D dA ad A μ)) (fw_Q sh D dA ad A rt μ1) 0 0 A
def fw_Cx (own : String) (cc : ByteArray) (nL : Nat) (rty : Option FieldType) (p : Program) (s : State) (m : MethodId) (args : Array Value) (meth : Method) (c : Code) (D : va_G) (dA : Nat → ClassId) (ad : Nat → Nat) (A : Nat → Prop) : Prop :=
  p.tables.exec = Jvm.exec ∧ c.code = cc ∧ c.maxLocals = nL ∧ s.vm.findClass own = some m.cls ∧ (∀ w ∈ fw_tb, w.before args s = true) ∧ meth.sig.returnType = rty ∧ meth.locks = false ∧ va_K D fw_cl (fw_ty dA) s ∧ (∀ q, s.heap.size ≤ q → A q) ∧ fw_St ad A s s.heap ∧ fw_Ne s
def fw_R (own : String) (cc : ByteArray) (nL : Nat) (rty : Option FieldType) (sh : List fw_K) (d : Nat) (rt : Option Int32) (μ1 : fw_M) (pc : Nat) (lv : List (Nat × Value)) (st : List Value) (μ : fw_M) : Prop :=
  ∀ ⦃p : Program⦄ ⦃l : Launch⦄ ⦃e : Env⦄ ⦃s : State⦄ ⦃m : MethodId⦄ ⦃args : Array Value⦄ ⦃below : List Frame⦄ ⦃meth : Method⦄ ⦃c : Code⦄ ⦃D : va_G⦄ ⦃dA : Nat → ClassId⦄ ⦃ad : Nat → Nat⦄ ⦃A : Nat → Prop⦄ ⦃H : Heap⦄ ⦃locs : List Loc⦄ ⦃ls : Array Slot⦄,
    fw_Cx own cc nL rty p s m args meth c D dA ad A → lv_has ls nL (lv.map (fw_g ad)) → va_P D fw_cl (fw_w sh ad dA μ) H → va_D A (fw_w sh ad dA μ) → va_S A s.heap H locs →
    W p l e (fw_rm d) s m args below meth c H locs 0 0 (MQ below (fw_Q sh D dA ad A rt μ1) args s 0 0 A) (F0 m pc ls (st.map (fw_v ad)))
section FWR
variable {own : String} {cc : ByteArray} {nL : Nat} {rty : Option FieldType} {sh : List fw_K} {d : Nat} {rt : Option Int32} {μ1 : fw_M} {pc : Nat} {lv : List (Nat × Value)} {st : List Value} {μ : fw_M}
theorem fw_con {Y : fw_Y} {as : List Value} (hy : plainName Y.1.cls = true) (hl : (lg_sl as).length ≤ Y.2.2.1) (h : fw_R Y.1.cls Y.2.1 Y.2.2.1 Y.2.2.2 sh d rt μ1 0 (lv_args 0 as) [] μ) : fw_Con Y sh d as rt μ μ1 := by
  intro l D dA ad A
  refine Met.ofW (cc := Y.2.1) (maxL := Y.2.2.1) (ret := Y.2.2.2) hy rfl ?_
  intro p e s m args below meth c s₁ B hml hv
  obtain ⟨rfl, hA, hP, hK, hD, hSt, hNe⟩ := hv
  have hts := atoms_spec (ws := Cond.code Y.1 Y.2.1 Y.2.2.1 Y.2.2.2 :: fw_tb) B.pre
  have hown : s.vm.findClass Y.1.cls = some m.cls := findClass_of_methodNamed B.named
  have hlen : (lg_sl (as.map (fw_v ad))).length ≤ Y.2.2.1 := by
    have e1 : ∀ vs : List Value, (lg_sl (vs.map (fw_v ad))).length = (lg_sl vs).length := by
      intro vs
      induction vs with
      | nil => rfl
      | cons v vs ih =>
        simp only [lg_sl, List.map_cons, List.flatMap_cons, List.length_append] at ih ⊢
        rw [ih]
        cases v <;> rfl
    rw [e1]; exact hl
  have hl2 := lv_entry (as.map (fw_v ad)) (n := Y.2.2.1) hlen
  rw [fw_largs] at hl2
  rw [lg_entry_eq]
  exact h ⟨B.exec, B.bytes, hml, hown, fun w hw => hts w (List.mem_cons_of_mem _ hw), B.returns, B.notSynchronized, hK, hA, hSt, hNe⟩ hl2 hP hD va_S.rf
theorem fw_pick (ad : Nat → Nat) (l : List (Nat × Value)) (ks : List Nat) : lv_pick (l.map (fw_g ad)) ks = (lv_pick l ks).map (fw_g ad) := by
  induction ks with
  | nil => rfl
  | cons a ks ih =>
    simp only [lv_pick, List.filterMap_cons, List.getElem?_map] at ih ⊢
    cases l[a]? with
    | none => exact ih
    | some q => simp only [Option.map_some, List.map_cons]; rw [ih]
theorem fw_sub {lv1 : List (Nat × Value)} (ks : List Nat) (h : lv_pick lv ks = lv1) (k : fw_R own cc nL rty sh d rt μ1 pc lv1 st μ) : fw_R own cc nL rty sh d rt μ1 pc lv st μ := by
  intro p l e s m args below meth c D dA ad A H locs ls C hl hP hD hS
  refine k C (lv_sub hl ks ?_) hP hD hS
  rw [← h]
  exact fw_pick ad lv ks
theorem fw_top {x y : Int32} (h : y = x) (k : fw_R own cc nL rty sh d rt μ1 pc lv (.int y :: st) μ) : fw_R own cc nL rty sh d rt μ1 pc lv (.int x :: st) μ := h ▸ k
theorem fw_topl {x y : Int64} (h : y = x) (k : fw_R own cc nL rty sh d rt μ1 pc lv (.long y :: st) μ) : fw_R own cc nL rty sh d rt μ1 pc lv (.long x :: st) μ := h ▸ k
theorem fw_mem {μ2 : fw_M} (h : μ2 = μ) (k : fw_R own cc nL rty sh d rt μ1 pc lv st μ2) : fw_R own cc nL rty sh d rt μ1 pc lv st μ := h ▸ k
-- constants
theorem fw_iconst {n : Int} {v : Int32} (hd : decode cc pc = .ok (.iconst n, 1)) (hv : Int32.ofInt n = v) (k : fw_R own cc nL rty sh d rt μ1 (pc + 1) lv (.int v :: st) μ) : fw_R own cc nL rty sh d rt μ1 pc lv st μ := fun _ _ _ _ _ _ _ _ _ _ _ _ _ _ _ _ C hl hP hD hS => lv_iconst C.1 C.2.1 hd hv (k C hl hP hD hS)
theorem fw_bipush {n : Int} {v : Int32} (hd : decode cc pc = .ok (.bipush n, 2)) (hv : (Int8.ofInt n).toInt32 = v) (k : fw_R own cc nL rty sh d rt μ1 (pc + 2) lv (.int v :: st) μ) : fw_R own cc nL rty sh d rt μ1 pc lv st μ := fun _ _ _ _ _ _ _ _ _ _ _ _ _ _ _ _ C hl hP hD hS => lv_bipush C.1 C.2.1 hd hv (k C hl hP hD hS)
theorem fw_sipush {n : Int} {v : Int32} (hd : decode cc pc = .ok (.sipush n, 3)) (hv : (Int16.ofInt n).toInt32 = v) (k : fw_R own cc nL rty sh d rt μ1 (pc + 3) lv (.int v :: st) μ) : fw_R own cc nL rty sh d rt μ1 pc lv st μ := fun _ _ _ _ _ _ _ _ _ _ _ _ _ _ _ _ C hl hP hD hS => lv_sipush C.1 C.2.1 hd hv (k C hl hP hD hS)
theorem fw_lconst {n : Fin 2} {v : Int64} (hd : decode cc pc = .ok (.lconst n, 1)) (hv : Int64.ofNat (n : Nat) = v) (k : fw_R own cc nL rty sh d rt μ1 (pc + 1) lv (.long v :: st) μ) : fw_R own cc nL rty sh d rt μ1 pc lv st μ := fun _ _ _ _ _ _ _ _ _ _ _ _ _ _ _ _ C hl hP hD hS => lv_lconst C.1 C.2.1 hd hv (k C hl hP hD hS)
theorem fw_ldcw {index : Nat} {v : Int32} (hd : decode cc pc = .ok (.ldc_w index, 3)) (hw : Cond.constant own index v ∈ fw_tb) (k : fw_R own cc nL rty sh d rt μ1 (pc + 3) lv (.int v :: st) μ) : fw_R own cc nL rty sh d rt μ1 pc lv st μ := fun _ _ _ _ _ _ _ _ _ _ _ _ _ _ _ _ C hl hP hD hS => lv_ldcw C.1 C.2.1 C.2.2.2.1 (C.2.2.2.2.1 _ hw) hd (k C hl hP hD hS)
theorem fw_ldc2 {index : Nat} {v : Int64} (hd : decode cc pc = .ok (.ldc2_w index, 3)) (hw : Cond.constantLong own index v ∈ fw_tb) (k : fw_R own cc nL rty sh d rt μ1 (pc + 3) lv (.long v :: st) μ) : fw_R own cc nL rty sh d rt μ1 pc lv st μ := fun _ _ _ _ _ _ _ _ _ _ _ _ _ _ _ _ C hl hP hD hS => lv_ldc2 C.1 C.2.1 C.2.2.2.1 (C.2.2.2.2.1 _ hw) hd (k C hl hP hD hS)
-- locals
theorem fw_iload_n {k : Fin 4} {i : Nat} {x : Int32} (hd : decode cc pc = .ok (.iload_n k, 1)) (j : Nat) (hi : (k : Nat) = i) (h : lv[j]? = some (i, .int x)) (kk : fw_R own cc nL rty sh d rt μ1 (pc + 1) lv (.int x :: st) μ) : fw_R own cc nL rty sh d rt μ1 pc lv st μ := fun _ _ _ _ _ _ _ _ _ _ _ _ _ _ _ _ C hl hP hD hS => lv_iload_n C.1 C.2.1 hd hi (fw_lat hl j h) (kk C hl hP hD hS)
theorem fw_iload {i : Nat} {x : Int32} (hd : decode cc pc = .ok (.iload i, 2)) (j : Nat) (h : lv[j]? = some (i, .int x)) (kk : fw_R own cc nL rty sh d rt μ1 (pc + 2) lv (.int x :: st) μ) : fw_R own cc nL rty sh d rt μ1 pc lv st μ := fun _ _ _ _ _ _ _ _ _ _ _ _ _ _ _ _ C hl hP hD hS => lv_iload C.1 C.2.1 hd (fw_lat hl j h) (kk C hl hP hD hS)
theorem fw_lload_n {k : Fin 4} {i : Nat} {x : Int64} (hd : decode cc pc = .ok (.lload_n k, 1)) (j : Nat) (hi : (k : Nat) = i) (h : lv[j]? = some (i, .long x)) (kk : fw_R own cc nL rty sh d rt μ1 (pc + 1) lv (.long x :: st) μ) : fw_R own cc nL rty sh d rt μ1 pc lv st μ := fun _ _ _ _ _ _ _ _ _ _ _ _ _ _ _ _ C hl hP hD hS => lv_lload_n C.1 C.2.1 hd hi (fw_lat hl j h) (kk C hl hP hD hS)
theorem fw_lload {i : Nat} {x : Int64} (hd : decode cc pc = .ok (.lload i, 2)) (j : Nat) (h : lv[j]? = some (i, .long x)) (kk : fw_R own cc nL rty sh d rt μ1 (pc + 2) lv (.long x :: st) μ) : fw_R own cc nL rty sh d rt μ1 pc lv st μ := fun _ _ _ _ _ _ _ _ _ _ _ _ _ _ _ _ C hl hP hD hS => lv_lload C.1 C.2.1 hd (fw_lat hl j h) (kk C hl hP hD hS)
theorem fw_aload_n {k : Fin 4} {i : Nat} {x : Nat} (hd : decode cc pc = .ok (.aload_n k, 1)) (j : Nat) (hi : (k : Nat) = i) (h : lv[j]? = some (i, .ref x)) (kk : fw_R own cc nL rty sh d rt μ1 (pc + 1) lv (.ref x :: st) μ) : fw_R own cc nL rty sh d rt μ1 pc lv st μ := fun _ _ _ _ _ _ _ _ _ _ _ _ _ _ _ _ C hl hP hD hS => lv_aload_n C.1 C.2.1 hd hi (fw_lat hl j h) (kk C hl hP hD hS)
theorem fw_aload {i : Nat} {x : Nat} (hd : decode cc pc = .ok (.aload i, 2)) (j : Nat) (h : lv[j]? = some (i, .ref x)) (kk : fw_R own cc nL rty sh d rt μ1 (pc + 2) lv (.ref x :: st) μ) : fw_R own cc nL rty sh d rt μ1 pc lv st μ := fun _ _ _ _ _ _ _ _ _ _ _ _ _ _ _ _ C hl hP hD hS => lv_aload C.1 C.2.1 hd (fw_lat hl j h) (kk C hl hP hD hS)
theorem fw_istore_n {k : Fin 4} {i : Nat} {x : Int32} {lv1 : List (Nat × Value)} (hd : decode cc pc = .ok (.istore_n k, 1)) (hi : (k : Nat) = i) (hn : i < nL) (h : (i, Value.int x) :: lv.filter (fun q => !(q.1 == i) && !(q.1 + 1 == i && q.2.category == 2)) = lv1) (kk : fw_R own cc nL rty sh d rt μ1 (pc + 1) lv1 st μ) : fw_R own cc nL rty sh d rt μ1 pc lv (.int x :: st) μ := fun ⦃p l e s m args below meth c D dA ad A H locs ls⦄ C hl hP hD hS => lv_istore_n (lv' := lv1.map (fw_g ad)) C.1 C.2.1 hd hi hl hn (by rw [fw_fil, ← h]; rfl) (fun ls1 hl1 => kk C hl1 hP hD hS)
theorem fw_istore {i : Nat} {x : Int32} {lv1 : List (Nat × Value)} (hd : decode cc pc = .ok (.istore i, 2)) (hn : i < nL) (h : (i, Value.int x) :: lv.filter (fun q => !(q.1 == i) && !(q.1 + 1 == i && q.2.category == 2)) = lv1) (kk : fw_R own cc nL rty sh d rt μ1 (pc + 2) lv1 st μ) : fw_R own cc nL rty sh d rt μ1 pc lv (.int x :: st) μ := fun ⦃p l e s m args below meth c D dA ad A H locs ls⦄ C hl hP hD hS => lv_istore (lv' := lv1.map (fw_g ad)) C.1 C.2.1 hd hl hn (by rw [fw_fil, ← h]; rfl) (fun ls1 hl1 => kk C hl1 hP hD hS)
theorem fw_astore_n {k : Fin 4} {i : Nat} {x : Nat} {lv1 : List (Nat × Value)} (hd : decode cc pc = .ok (.astore_n k, 1)) (hi : (k : Nat) = i) (hn : i < nL) (h : (i, Value.ref x) :: lv.filter (fun q => !(q.1 == i) && !(q.1 + 1 == i && q.2.category == 2)) = lv1) (kk : fw_R own cc nL rty sh d rt μ1 (pc + 1) lv1 st μ) : fw_R own cc nL rty sh d rt μ1 pc lv (.ref x :: st) μ := fun ⦃p l e s m args below meth c D dA ad A H locs ls⦄ C hl hP hD hS => lv_astore_n (lv' := lv1.map (fw_g ad)) C.1 C.2.1 hd hi hl hn (by rw [fw_fil, ← h]; rfl) (fun ls1 hl1 => kk C hl1 hP hD hS)
theorem fw_astore {i : Nat} {x : Nat} {lv1 : List (Nat × Value)} (hd : decode cc pc = .ok (.astore i, 2)) (hn : i < nL) (h : (i, Value.ref x) :: lv.filter (fun q => !(q.1 == i) && !(q.1 + 1 == i && q.2.category == 2)) = lv1) (kk : fw_R own cc nL rty sh d rt μ1 (pc + 2) lv1 st μ) : fw_R own cc nL rty sh d rt μ1 pc lv (.ref x :: st) μ := fun ⦃p l e s m args below meth c D dA ad A H locs ls⦄ C hl hP hD hS => lv_astore (lv' := lv1.map (fw_g ad)) C.1 C.2.1 hd hl hn (by rw [fw_fil, ← h]; rfl) (fun ls1 hl1 => kk C hl1 hP hD hS)
theorem fw_lstore {i : Nat} {x : Int64} {lv1 : List (Nat × Value)} (hd : decode cc pc = .ok (.lstore i, 2)) (hn : i + 1 < nL) (h : (i, Value.long x) :: lv.filter (fun q => !(q.1 == i) && (!(q.1 == i + 1) && !(q.1 + 1 == i && q.2.category == 2))) = lv1) (kk : fw_R own cc nL rty sh d rt μ1 (pc + 2) lv1 st μ) : fw_R own cc nL rty sh d rt μ1 pc lv (.long x :: st) μ := fun ⦃p l e s m args below meth c D dA ad A H locs ls⦄ C hl hP hD hS => lv_lstore (lv' := lv1.map (fw_g ad)) C.1 C.2.1 hd hl hn (by rw [fw_fil2, ← h]; rfl) (fun ls1 hl1 => kk C hl1 hP hD hS)
theorem fw_iinc {i j : Nat} {n : Int} {x v : Int32} {lv1 : List (Nat × Value)} (hd : decode cc pc = .ok (.iinc i n, 3)) (hj : lv[j]? = some (i, .int x)) (hv : v = x + Int32.ofInt n) (hn : i < nL) (h : (i, Value.int v) :: lv.filter (fun q => !(q.1 == i) && !(q.1 + 1 == i && q.2.category == 2)) = lv1) (kk : fw_R own cc nL rty sh d rt μ1 (pc + 3) lv1 st μ) : fw_R own cc nL rty sh d rt μ1 pc lv st μ := fun ⦃p l e s m args below meth c D dA ad A H locs ls⦄ C hl hP hD hS => lv_iinc (k := j) (x := x) (lv' := lv1.map (fw_g ad)) C.1 C.2.1 hd hl (by rw [List.getElem?_map, hj]; rfl) hv.symm hn (by rw [fw_fil, ← h]; rfl) (fun ls1 hl1 => kk C hl1 hP hD hS)
-- stack
theorem fw_dup {v : Value} (hd : decode cc pc = .ok (.dup, 1)) (hv : v.category = 1) (k : fw_R own cc nL rty sh d rt μ1 (pc + 1) lv (v :: v :: st) μ) : fw_R own cc nL rty sh d rt μ1 pc lv (v :: st) μ := fun _ _ _ _ _ _ _ _ _ _ _ _ _ _ _ _ C hl hP hD hS => lv_dup C.1 C.2.1 hd ((fw_vcat _ v).trans hv) (k C hl hP hD hS)
theorem fw_pop {v : Value} (hd : decode cc pc = .ok (.pop, 1)) (hv : v.category = 1) (k : fw_R own cc nL rty sh d rt μ1 (pc + 1) lv st μ) : fw_R own cc nL rty sh d rt μ1 pc lv (v :: st) μ := fun _ _ _ _ _ _ _ _ _ _ _ _ _ _ _ _ C hl hP hD hS => lv_pop C.1 C.2.1 hd ((fw_vcat _ v).trans hv) (k C hl hP hD hS)
theorem fw_dup2 {v w : Value} (hd : decode cc pc = .ok (.dup2, 1)) (hv : v.category = 1) (hw : w.category = 1) (k : fw_R own cc nL rty sh d rt μ1 (pc + 1) lv (v :: w :: v :: w :: st) μ) : fw_R own cc nL rty sh d rt μ1 pc lv (v :: w :: st) μ := fun _ _ _ _ _ _ _ _ _ _ _ _ _ _ _ _ C hl hP hD hS => lv_dup2_11 C.1 C.2.1 hd ((fw_vcat _ v).trans hv) ((fw_vcat _ w).trans hw) (k C hl hP hD hS)
-- ints
theorem fw_iadd {x y : Int32} (hd : decode cc pc = .ok (.iadd, 1)) (k : fw_R own cc nL rty sh d rt μ1 (pc + 1) lv (.int (x + y) :: st) μ) : fw_R own cc nL rty sh d rt μ1 pc lv (.int y :: .int x :: st) μ := fun _ _ _ _ _ _ _ _ _ _ _ _ _ _ _ _ C hl hP hD hS => lv_iadd C.1 C.2.1 hd (k C hl hP hD hS)
theorem fw_isub {x y : Int32} (hd : decode cc pc = .ok (.isub, 1)) (k : fw_R own cc nL rty sh d rt μ1 (pc + 1) lv (.int (x - y) :: st) μ) : fw_R own cc nL rty sh d rt μ1 pc lv (.int y :: .int x :: st) μ := fun _ _ _ _ _ _ _ _ _ _ _ _ _ _ _ _ C hl hP hD hS => lv_isub C.1 C.2.1 hd (k C hl hP hD hS)
theorem fw_imul {x y : Int32} (hd : decode cc pc = .ok (.imul, 1)) (k : fw_R own cc nL rty sh d rt μ1 (pc + 1) lv (.int (x * y) :: st) μ) : fw_R own cc nL rty sh d rt μ1 pc lv (.int y :: .int x :: st) μ := fun _ _ _ _ _ _ _ _ _ _ _ _ _ _ _ _ C hl hP hD hS => lv_imul C.1 C.2.1 hd (k C hl hP hD hS)
theorem fw_iand {x y : Int32} (hd : decode cc pc = .ok (.iand, 1)) (k : fw_R own cc nL rty sh d rt μ1 (pc + 1) lv (.int (x &&& y) :: st) μ) : fw_R own cc nL rty sh d rt μ1 pc lv (.int y :: .int x :: st) μ := fun _ _ _ _ _ _ _ _ _ _ _ _ _ _ _ _ C hl hP hD hS => lv_iand C.1 C.2.1 hd (k C hl hP hD hS)
theorem fw_ior {x y : Int32} (hd : decode cc pc = .ok (.ior, 1)) (k : fw_R own cc nL rty sh d rt μ1 (pc + 1) lv (.int (x ||| y) :: st) μ) : fw_R own cc nL rty sh d rt μ1 pc lv (.int y :: .int x :: st) μ := fun _ _ _ _ _ _ _ _ _ _ _ _ _ _ _ _ C hl hP hD hS => lv_ior C.1 C.2.1 hd (k C hl hP hD hS)
theorem fw_ixor {x y : Int32} (hd : decode cc pc = .ok (.ixor, 1)) (k : fw_R own cc nL rty sh d rt μ1 (pc + 1) lv (.int (x ^^^ y) :: st) μ) : fw_R own cc nL rty sh d rt μ1 pc lv (.int y :: .int x :: st) μ := fun _ _ _ _ _ _ _ _ _ _ _ _ _ _ _ _ C hl hP hD hS => lv_ixor C.1 C.2.1 hd (k C hl hP hD hS)
theorem fw_ishl {x y : Int32} (hd : decode cc pc = .ok (.ishl, 1)) (k : fw_R own cc nL rty sh d rt μ1 (pc + 1) lv (.int (x <<< (y &&& 31)) :: st) μ) : fw_R own cc nL rty sh d rt μ1 pc lv (.int y :: .int x :: st) μ := fun _ _ _ _ _ _ _ _ _ _ _ _ _ _ _ _ C hl hP hD hS => lv_ishl C.1 C.2.1 hd (k C hl hP hD hS)
theorem fw_ishr {x y : Int32} (hd : decode cc pc = .ok (.ishr, 1)) (k : fw_R own cc nL rty sh d rt μ1 (pc + 1) lv (.int (x >>> (y &&& 31)) :: st) μ) : fw_R own cc nL rty sh d rt μ1 pc lv (.int y :: .int x :: st) μ := fun _ _ _ _ _ _ _ _ _ _ _ _ _ _ _ _ C hl hP hD hS => lv_ishr C.1 C.2.1 hd (k C hl hP hD hS)
theorem fw_iushr {x y : Int32} (hd : decode cc pc = .ok (.iushr, 1)) (k : fw_R own cc nL rty sh d rt μ1 (pc + 1) lv (.int ((x.toUInt32 >>> (y.toUInt32 &&& Int32.toUInt32 31)).toInt32) :: st) μ) : fw_R own cc nL rty sh d rt μ1 pc lv (.int y :: .int x :: st) μ := fun _ _ _ _ _ _ _ _ _ _ _ _ _ _ _ _ C hl hP hD hS => lv_iushr C.1 C.2.1 hd rfl (k C hl hP hD hS)
theorem fw_idiv {x y v : Int32} (hd : decode cc pc = .ok (.idiv, 1)) (hv : fw_dv x y = some v) (k : fw_R own cc nL rty sh d rt μ1 (pc + 1) lv (.int v :: st) μ) : fw_R own cc nL rty sh d rt μ1 pc lv (.int y :: .int x :: st) μ := by
  unfold fw_dv at hv
  split at hv
  · cases hv
  · rename_i h0; cases hv; exact fun _ _ _ _ _ _ _ _ _ _ _ _ _ _ _ _ C hl hP hD hS => lv_idiv C.1 C.2.1 hd h0 (k C hl hP hD hS)
theorem fw_irem {x y v : Int32} (hd : decode cc pc = .ok (.irem, 1)) (hv : fw_rm2 x y = some v) (k : fw_R own cc nL rty sh d rt μ1 (pc + 1) lv (.int v :: st) μ) : fw_R own cc nL rty sh d rt μ1 pc lv (.int y :: .int x :: st) μ := by
  unfold fw_rm2 at hv
  split at hv
  · cases hv
  · rename_i h0; cases hv; exact fun _ _ _ _ _ _ _ _ _ _ _ _ _ _ _ _ C hl hP hD hS => lv_irem C.1 C.2.1 hd h0 (k C hl hP hD hS)
theorem fw_i2l {x : Int32} (hd : decode cc pc = .ok (.i2l, 1)) (k : fw_R own cc nL rty sh d rt μ1 (pc + 1) lv (.long x.toInt64 :: st) μ) : fw_R own cc nL rty sh d rt μ1 pc lv (.int x :: st) μ := fun _ _ _ _ _ _ _ _ _ _ _ _ _ _ _ _ C hl hP hD hS => lv_i2l C.1 C.2.1 hd rfl (k C hl hP hD hS)
theorem fw_i2b {x : Int32} (hd : decode cc pc = .ok (.i2b, 1)) (k : fw_R own cc nL rty sh d rt μ1 (pc + 1) lv (.int x.toInt8.toInt32 :: st) μ) : fw_R own cc nL rty sh d rt μ1 pc lv (.int x :: st) μ := fun _ _ _ _ _ _ _ _ _ _ _ _ _ _ _ _ C hl hP hD hS => lv_i2b C.1 C.2.1 hd rfl (k C hl hP hD hS)
theorem fw_i2s {x : Int32} (hd : decode cc pc = .ok (.i2s, 1)) (k : fw_R own cc nL rty sh d rt μ1 (pc + 1) lv (.int x.toInt16.toInt32 :: st) μ) : fw_R own cc nL rty sh d rt μ1 pc lv (.int x :: st) μ := fun _ _ _ _ _ _ _ _ _ _ _ _ _ _ _ _ C hl hP hD hS => lv_i2s C.1 C.2.1 hd rfl (k C hl hP hD hS)
-- longs
theorem fw_l2i {x : Int64} (hd : decode cc pc = .ok (.l2i, 1)) (k : fw_R own cc nL rty sh d rt μ1 (pc + 1) lv (.int x.toInt32 :: st) μ) : fw_R own cc nL rty sh d rt μ1 pc lv (.long x :: st) μ := fun _ _ _ _ _ _ _ _ _ _ _ _ _ _ _ _ C hl hP hD hS => lv_l2i C.1 C.2.1 hd rfl (k C hl hP hD hS)
theorem fw_ladd {x y : Int64} (hd : decode cc pc = .ok (.ladd, 1)) (k : fw_R own cc nL rty sh d rt μ1 (pc + 1) lv (.long (x + y) :: st) μ) : fw_R own cc nL rty sh d rt μ1 pc lv (.long y :: .long x :: st) μ := fun _ _ _ _ _ _ _ _ _ _ _ _ _ _ _ _ C hl hP hD hS => lv_ladd C.1 C.2.1 hd (k C hl hP hD hS)
theorem fw_lsub {x y : Int64} (hd : decode cc pc = .ok (.lsub, 1)) (k : fw_R own cc nL rty sh d rt μ1 (pc + 1) lv (.long (x - y) :: st) μ) : fw_R own cc nL rty sh d rt μ1 pc lv (.long y :: .long x :: st) μ := fun _ _ _ _ _ _ _ _ _ _ _ _ _ _ _ _ C hl hP hD hS => lv_lsub C.1 C.2.1 hd (k C hl hP hD hS)
theorem fw_land {x y : Int64} (hd : decode cc pc = .ok (.land, 1)) (k : fw_R own cc nL rty sh d rt μ1 (pc + 1) lv (.long (x &&& y) :: st) μ) : fw_R own cc nL rty sh d rt μ1 pc lv (.long y :: .long x :: st) μ := fun _ _ _ _ _ _ _ _ _ _ _ _ _ _ _ _ C hl hP hD hS => lv_land C.1 C.2.1 hd (k C hl hP hD hS)
theorem fw_lor {x y : Int64} (hd : decode cc pc = .ok (.lor, 1)) (k : fw_R own cc nL rty sh d rt μ1 (pc + 1) lv (.long (x ||| y) :: st) μ) : fw_R own cc nL rty sh d rt μ1 pc lv (.long y :: .long x :: st) μ := fun _ _ _ _ _ _ _ _ _ _ _ _ _ _ _ _ C hl hP hD hS => lv_lor C.1 C.2.1 hd (k C hl hP hD hS)
theorem fw_lshl {x : Int64} {y : Int32} (hd : decode cc pc = .ok (.lshl, 1)) (k : fw_R own cc nL rty sh d rt μ1 (pc + 1) lv (.long (x <<< (y.toInt64 &&& 63)) :: st) μ) : fw_R own cc nL rty sh d rt μ1 pc lv (.int y :: .long x :: st) μ := fun _ _ _ _ _ _ _ _ _ _ _ _ _ _ _ _ C hl hP hD hS => lv_lshl C.1 C.2.1 hd rfl (k C hl hP hD hS)
theorem fw_lshr {x : Int64} {y : Int32} (hd : decode cc pc = .ok (.lshr, 1)) (k : fw_R own cc nL rty sh d rt μ1 (pc + 1) lv (.long (x >>> (y.toInt64 &&& 63)) :: st) μ) : fw_R own cc nL rty sh d rt μ1 pc lv (.int y :: .long x :: st) μ := fun _ _ _ _ _ _ _ _ _ _ _ _ _ _ _ _ C hl hP hD hS => lv_lshr C.1 C.2.1 hd rfl (k C hl hP hD hS)
theorem fw_lushr {x : Int64} {y : Int32} (hd : decode cc pc = .ok (.lushr, 1)) (k : fw_R own cc nL rty sh d rt μ1 (pc + 1) lv (.long ((x.toUInt64 >>> (y.toInt64.toUInt64 &&& Int64.toUInt64 63)).toInt64) :: st) μ) : fw_R own cc nL rty sh d rt μ1 pc lv (.int y :: .long x :: st) μ := fun _ _ _ _ _ _ _ _ _ _ _ _ _ _ _ _ C hl hP hD hS => lv_lushr C.1 C.2.1 hd rfl (k C hl hP hD hS)
theorem fw_lcmp {x y : Int64} (hd : decode cc pc = .ok (.lcmp, 1)) (k : fw_R own cc nL rty sh d rt μ1 (pc + 1) lv (.int (lg_cmp x y) :: st) μ) : fw_R own cc nL rty sh d rt μ1 pc lv (.long y :: .long x :: st) μ := fun _ _ _ _ _ _ _ _ _ _ _ _ _ _ _ _ C hl hP hD hS => W.lcmp C.1 C.2.1 hd (k C hl hP hD hS)
theorem fw_ldiv {x y v : Int64} (hd : decode cc pc = .ok (.ldiv, 1)) (hv : fw_ld x y = some v) (k : fw_R own cc nL rty sh d rt μ1 (pc + 1) lv (.long v :: st) μ) : fw_R own cc nL rty sh d rt μ1 pc lv (.long y :: .long x :: st) μ := by
  unfold fw_ld at hv
  split at hv
  · cases hv
  · rename_i h0; cases hv; exact fun _ _ _ _ _ _ _ _ _ _ _ _ _ _ _ _ C hl hP hD hS => lv_ldiv C.1 C.2.1 hd h0 (k C hl hP hD hS)
theorem fw_lrem {x y v : Int64} (hd : decode cc pc = .ok (.lrem, 1)) (hv : fw_lr x y = some v) (k : fw_R own cc nL rty sh d rt μ1 (pc + 1) lv (.long v :: st) μ) : fw_R own cc nL rty sh d rt μ1 pc lv (.long y :: .long x :: st) μ := by
  unfold fw_lr at hv
  split at hv
  · cases hv
  · rename_i h0; cases hv; exact fun _ _ _ _ _ _ _ _ _ _ _ _ _ _ _ _ C hl hP hD hS => lv_lrem C.1 C.2.1 hd h0 (k C hl hP hD hS)
-- branches
theorem fw_goto {off : Int} {tgt : Nat} (hd : decode cc pc = .ok (.goto off, 3)) (ht : (pc : Int) + off = (tgt : Int)) (k : fw_R own cc nL rty sh d rt μ1 tgt lv st μ) : fw_R own cc nL rty sh d rt μ1 pc lv st μ := fun _ _ _ _ _ _ _ _ _ _ _ _ _ _ _ _ C hl hP hD hS => lv_goto C.1 C.2.1 hd ht (k C hl hP hD hS)
theorem fw_if_eq {x : Int32} {off : Int} {tgt : Nat} (hd : decode cc pc = .ok (.ifCond .eq off, 3)) (ht : (pc : Int) + off = (tgt : Int)) (kp : x = 0 → fw_R own cc nL rty sh d rt μ1 tgt lv st μ) (kn : ¬ x = 0 → fw_R own cc nL rty sh d rt μ1 (pc + 3) lv st μ) : fw_R own cc nL rty sh d rt μ1 pc lv (.int x :: st) μ := fun _ _ _ _ _ _ _ _ _ _ _ _ _ _ _ _ C hl hP hD hS => lv_if_eq C.1 C.2.1 hd ht (fun h => kp h C hl hP hD hS) (fun h => kn h C hl hP hD hS)
theorem fw_icmp_eq {x y : Int32} {off : Int} {tgt : Nat} (hd : decode cc pc = .ok (.if_icmp .eq off, 3)) (ht : (pc : Int) + off = (tgt : Int)) (kp : x = y → fw_R own cc nL rty sh d rt μ1 tgt lv st μ) (kn : ¬ x = y → fw_R own cc nL rty sh d rt μ1 (pc + 3) lv st μ) : fw_R own cc nL rty sh d rt μ1 pc lv (.int y :: .int x :: st) μ := fun _ _ _ _ _ _ _ _ _ _ _ _ _ _ _ _ C hl hP hD hS => lv_icmp_eq C.1 C.2.1 hd ht (fun h => kp h C hl hP hD hS) (fun h => kn h C hl hP hD hS)
theorem fw_if_ne {x : Int32} {off : Int} {tgt : Nat} (hd : decode cc pc = .ok (.ifCond .ne off, 3)) (ht : (pc : Int) + off = (tgt : Int)) (kp : x = 0 → fw_R own cc nL rty sh d rt μ1 (pc + 3) lv st μ) (kn : ¬ x = 0 → fw_R own cc nL rty sh d rt μ1 tgt lv st μ) : fw_R own cc nL rty sh d rt μ1 pc lv (.int x :: st) μ := fun _ _ _ _ _ _ _ _ _ _ _ _ _ _ _ _ C hl hP hD hS => lv_if_ne C.1 C.2.1 hd ht (fun h => kn h C hl hP hD hS) (fun h => kp h C hl hP hD hS)
theorem fw_icmp_ne {x y : Int32} {off : Int} {tgt : Nat} (hd : decode cc pc = .ok (.if_icmp .ne off, 3)) (ht : (pc : Int) + off = (tgt : Int)) (kp : x = y → fw_R own cc nL rty sh d rt μ1 (pc + 3) lv st μ) (kn : ¬ x = y → fw_R own cc nL rty sh d rt μ1 tgt lv st μ) : fw_R own cc nL rty sh d rt μ1 pc lv (.int y :: .int x :: st) μ := fun _ _ _ _ _ _ _ _ _ _ _ _ _ _ _ _ C hl hP hD hS => lv_icmp_ne C.1 C.2.1 hd ht (fun h => kn h C hl hP hD hS) (fun h => kp h C hl hP hD hS)
theorem fw_if_lt {x : Int32} {off : Int} {tgt : Nat} (hd : decode cc pc = .ok (.ifCond .lt off, 3)) (ht : (pc : Int) + off = (tgt : Int)) (kp : x < 0 → fw_R own cc nL rty sh d rt μ1 tgt lv st μ) (kn : ¬ x < 0 → fw_R own cc nL rty sh d rt μ1 (pc + 3) lv st μ) : fw_R own cc nL rty sh d rt μ1 pc lv (.int x :: st) μ := fun _ _ _ _ _ _ _ _ _ _ _ _ _ _ _ _ C hl hP hD hS => lv_if_lt C.1 C.2.1 hd ht (fun h => kp h C hl hP hD hS) (fun h => kn h C hl hP hD hS)
theorem fw_icmp_lt {x y : Int32} {off : Int} {tgt : Nat} (hd : decode cc pc = .ok (.if_icmp .lt off, 3)) (ht : (pc : Int) + off = (tgt : Int)) (kp : x < y → fw_R own cc nL rty sh d rt μ1 tgt lv st μ) (kn : ¬ x < y → fw_R own cc nL rty sh d rt μ1 (pc + 3) lv st μ) : fw_R own cc nL rty sh d rt μ1 pc lv (.int y :: .int x :: st) μ := fun _ _ _ _ _ _ _ _ _ _ _ _ _ _ _ _ C hl hP hD hS => lv_icmp_lt C.1 C.2.1 hd ht (fun h => kp h C hl hP hD hS) (fun h => kn h C hl hP hD hS)
theorem fw_if_ge {x : Int32} {off : Int} {tgt : Nat} (hd : decode cc pc = .ok (.ifCond .ge off, 3)) (ht : (pc : Int) + off = (tgt : Int)) (kp : 0 ≤ x → fw_R own cc nL rty sh d rt μ1 tgt lv st μ) (kn : ¬ 0 ≤ x → fw_R own cc nL rty sh d rt μ1 (pc + 3) lv st μ) : fw_R own cc nL rty sh d rt μ1 pc lv (.int x :: st) μ := fun _ _ _ _ _ _ _ _ _ _ _ _ _ _ _ _ C hl hP hD hS => lv_if_ge C.1 C.2.1 hd ht (fun h => kp h C hl hP hD hS) (fun h => kn h C hl hP hD hS)
theorem fw_icmp_ge {x y : Int32} {off : Int} {tgt : Nat} (hd : decode cc pc = .ok (.if_icmp .ge off, 3)) (ht : (pc : Int) + off = (tgt : Int)) (kp : y ≤ x → fw_R own cc nL rty sh d rt μ1 tgt lv st μ) (kn : ¬ y ≤ x → fw_R own cc nL rty sh d rt μ1 (pc + 3) lv st μ) : fw_R own cc nL rty sh d rt μ1 pc lv (.int y :: .int x :: st) μ := fun _ _ _ _ _ _ _ _ _ _ _ _ _ _ _ _ C hl hP hD hS => lv_icmp_ge C.1 C.2.1 hd ht (fun h => kp h C hl hP hD hS) (fun h => kn h C hl hP hD hS)
theorem fw_if_gt {x : Int32} {off : Int} {tgt : Nat} (hd : decode cc pc = .ok (.ifCond .gt off, 3)) (ht : (pc : Int) + off = (tgt : Int)) (kp : 0 < x → fw_R own cc nL rty sh d rt μ1 tgt lv st μ) (kn : ¬ 0 < x → fw_R own cc nL rty sh d rt μ1 (pc + 3) lv st μ) : fw_R own cc nL rty sh d rt μ1 pc lv (.int x :: st) μ := fun _ _ _ _ _ _ _ _ _ _ _ _ _ _ _ _ C hl hP hD hS => lv_if_gt C.1 C.2.1 hd ht (fun h => kp h C hl hP hD hS) (fun h => kn h C hl hP hD hS)
theorem fw_icmp_gt {x y : Int32} {off : Int} {tgt : Nat} (hd : decode cc pc = .ok (.if_icmp .gt off, 3)) (ht : (pc : Int) + off = (tgt : Int)) (kp : y < x → fw_R own cc nL rty sh d rt μ1 tgt lv st μ) (kn : ¬ y < x → fw_R own cc nL rty sh d rt μ1 (pc + 3) lv st μ) : fw_R own cc nL rty sh d rt μ1 pc lv (.int y :: .int x :: st) μ := fun _ _ _ _ _ _ _ _ _ _ _ _ _ _ _ _ C hl hP hD hS => lv_icmp_gt C.1 C.2.1 hd ht (fun h => kp h C hl hP hD hS) (fun h => kn h C hl hP hD hS)
theorem fw_if_le {x : Int32} {off : Int} {tgt : Nat} (hd : decode cc pc = .ok (.ifCond .le off, 3)) (ht : (pc : Int) + off = (tgt : Int)) (kp : x ≤ 0 → fw_R own cc nL rty sh d rt μ1 tgt lv st μ) (kn : ¬ x ≤ 0 → fw_R own cc nL rty sh d rt μ1 (pc + 3) lv st μ) : fw_R own cc nL rty sh d rt μ1 pc lv (.int x :: st) μ := fun _ _ _ _ _ _ _ _ _ _ _ _ _ _ _ _ C hl hP hD hS => lv_if_le C.1 C.2.1 hd ht (fun h => kp h C hl hP hD hS) (fun h => kn h C hl hP hD hS)
theorem fw_icmp_le {x y : Int32} {off : Int} {tgt : Nat} (hd : decode cc pc = .ok (.if_icmp .le off, 3)) (ht : (pc : Int) + off = (tgt : Int)) (kp : x ≤ y → fw_R own cc nL rty sh d rt μ1 tgt lv st μ) (kn : ¬ x ≤ y → fw_R own cc nL rty sh d rt μ1 (pc + 3) lv st μ) : fw_R own cc nL rty sh d rt μ1 pc lv (.int y :: .int x :: st) μ := fun _ _ _ _ _ _ _ _ _ _ _ _ _ _ _ _ C hl hP hD hS => lv_icmp_le C.1 C.2.1 hd ht (fun h => kp h C hl hP hD hS) (fun h => kn h C hl hP hD hS)
-- switches
theorem fw_tin {dflt lo hi : Int} {offs : Array Int} {len : Nat} {x : Int32} {off : Int} {tgt : Nat} (hd : decode cc pc = .ok (.tableswitch dflt lo hi offs, len)) (h1 : ¬ x.toInt < lo) (h2 : ¬ hi < x.toInt) (ho : offs[(x.toInt - lo).toNat]? = some off) (ht : (pc : Int) + off = (tgt : Int)) (k : fw_R own cc nL rty sh d rt μ1 tgt lv st μ) : fw_R own cc nL rty sh d rt μ1 pc lv (.int x :: st) μ := fun _ _ _ _ _ _ _ _ _ _ _ _ _ _ _ _ C hl hP hD hS => lv_tableIn C.1 C.2.1 hd h1 h2 ho ht (k C hl hP hD hS)
theorem fw_tout {dflt lo hi : Int} {offs : Array Int} {len : Nat} {x : Int32} {tgt : Nat} (hd : decode cc pc = .ok (.tableswitch dflt lo hi offs, len)) (h : x.toInt < lo ∨ hi < x.toInt) (ht : (pc : Int) + dflt = (tgt : Int)) (k : fw_R own cc nL rty sh d rt μ1 tgt lv st μ) : fw_R own cc nL rty sh d rt μ1 pc lv (.int x :: st) μ := fun _ _ _ _ _ _ _ _ _ _ _ _ _ _ _ _ C hl hP hD hS => lv_tableOut C.1 C.2.1 hd h ht (k C hl hP hD hS)
theorem fw_lsw {dflt : Int} {ps : Array (Int × Int)} {len : Nat} {x : Int32} {off : Int} {tgt : Nat} (hd : decode cc pc = .ok (.lookupswitch dflt ps, len)) (hp : (ps.toList.zip (ps.toList.drop 1)).all (fun (a, next) => a.1 < next.1) = true) (ho : Op.lookupswitch.offset ps.toList dflt x.toInt = off) (ht : (pc : Int) + off = (tgt : Int)) (k : fw_R own cc nL rty sh d rt μ1 tgt lv st μ) : fw_R own cc nL rty sh d rt μ1 pc lv (.int x :: st) μ := fun _ _ _ _ _ _ _ _ _ _ _ _ _ _ _ _ C hl hP hD hS => lv_lookup C.1 C.2.1 hd hp ho ht (k C hl hP hD hS)
-- fields
def fw_FL (own : String) (index ci j : Nat) : Prop := ∃ (C : String) (T : u_T) (N : Nat), fw_cl[ci]? = some (C, T, N) ∧ (∀ w ∈ u_ws C T N, w ∈ fw_tb) ∧ j < N ∧ Cond.fieldLink own index (T j).1 (T j).2.1 (T j).2.2.1 ∈ fw_tb
theorem fw_getI {index ci j k : Nat} {fs : List (Option Nat)} (hd : decode cc pc = .ok (.getfield index, 3)) (hF : fw_FL own index ci j) (hs : sh[k]? = some (.inl (ci, fs))) (hf : fs[j]? = some none) (kk : fw_R own cc nL rty sh d rt μ1 (pc + 3) lv (.int (μ.1 k j) :: st) μ) : fw_R own cc nL rty sh d rt μ1 pc lv (.ref k :: st) μ := by
  obtain ⟨C0, T, N, hc, hin, hj, hw⟩ := hF
  exact fun ⦃p l e s m args below meth c D dA ad A H locs ls⦄ C hl hP hD hS => va_get (D := D) (ci := ci) (v := .int (μ.1 k j)) (fs := fs.mapIdx (fw_fe ad μ k)) C.1 C.2.1 C.2.2.2.2.1 hin C.2.2.2.1 C.2.2.2.2.2.2.2.1 hP k (fw_wget hs) hc j hj (C.2.2.2.2.1 _ hw) (fun _ h => h) (by rw [List.getElem?_mapIdx, hf]; rfl) hd (kk C hl hP hD hS)
theorem fw_getR {index ci j k r : Nat} {fs : List (Option Nat)} (hd : decode cc pc = .ok (.getfield index, 3)) (hF : fw_FL own index ci j) (hs : sh[k]? = some (.inl (ci, fs))) (hf : fs[j]? = some (some r)) (kk : fw_R own cc nL rty sh d rt μ1 (pc + 3) lv (.ref r :: st) μ) : fw_R own cc nL rty sh d rt μ1 pc lv (.ref k :: st) μ := by
  obtain ⟨C0, T, N, hc, hin, hj, hw⟩ := hF
  exact fun ⦃p l e s m args below meth c D dA ad A H locs ls⦄ C hl hP hD hS => va_get (D := D) (ci := ci) (v := .ref (ad r)) (fs := fs.mapIdx (fw_fe ad μ k)) C.1 C.2.1 C.2.2.2.2.1 hin C.2.2.2.1 C.2.2.2.2.2.2.2.1 hP k (fw_wget hs) hc j hj (C.2.2.2.2.1 _ hw) (fun _ h => h) (by rw [List.getElem?_mapIdx, hf]; rfl) hd (kk C hl hP hD hS)
def fw_FP (own : String) (index ci j : Nat) (ty : FieldType) : Prop := ∃ (C : String) (T : u_T) (N : Nat) (ty0 : Nat → FieldType), fw_cl[ci]? = some (C, T, N) ∧ (∀ w ∈ u_ws C T N, w ∈ fw_tb) ∧ j < N ∧ Cond.fieldLink own index (T j).1 (T j).2.1 (T j).2.2.1 ∈ fw_tb ∧ (∀ k, k < N → parseFieldDescriptor (T k).2.2.1 = some (ty0 k)) ∧ (∀ a, a < N → ∀ b, b < N → a ≠ b → (T a).2.1 ≠ (T b).2.1) ∧ (T j).2.2.2 = false ∧ parseFieldDescriptor (T j).2.2.1 = some ty
theorem fw_put0 {index ci j k : Nat} {v : Int32} {ty : FieldType} {fs : List (Option Nat)} (hn : narrow ty (.int v) = .int v) (hfit : fits ty (.int v) = true) (hd : decode cc pc = .ok (.putfield index, 3)) (hF : fw_FP own index ci j ty) (hs : sh[k]? = some (.inl (ci, fs))) (hf : fs[j]? = some none) (kk : fw_R own cc nL rty sh d rt μ1 (pc + 3) lv st (fw_wr μ k j v)) : fw_R own cc nL rty sh d rt μ1 pc lv (.int v :: .ref k :: st) μ := by
  obtain ⟨C0, T, N, ty0, hc, hin, hj, hw, h1, h2, h3, h4⟩ := hF
  have hlen : j < fs.length := (List.getElem?_eq_some_iff.mp hf).1
  intro p l e s m args below meth c D dA ad A H locs ls C hl hP hD hS
  have e0 : (fw_w sh ad dA μ).set k (ad k, .inr (ci, (fs.mapIdx (fw_fe ad μ k)).set j (.int v))) = fw_w sh ad dA (fw_wr μ k j v) := by
    have e1 : (Sum.inr (ci, (fs.mapIdx (fw_fe ad μ k)).set j (.int v)) : va_E) = fw_ce ad dA (fw_wr μ k j v) k (.inl (ci, fs)) := by
      show Sum.inr (ci, _) = Sum.inr (ci, _)
      congr 2
      apply List.ext_getElem?
      intro i
      rw [List.getElem?_set]
      simp only [List.length_mapIdx, List.getElem?_mapIdx]
      by_cases hi : j = i
      · subst hi
        rw [if_pos rfl, if_pos hlen, hf]
        simp [fw_fe, fw_wr, upd]
      · simp only [hi, if_false]
        cases fs[i]? with
        | none => rfl
        | some o => cases o <;> simp [fw_fe, fw_wr, upd, Ne.symm hi, show ¬ i = j from fun e => hi e.symm]
    rw [e1]
    exact fw_wset hs (fun a t ha => by rw [fw_wr_wc]; exact fw_ce_wc a t ha)
  exact va_put (D := D) (ci := ci) (v := .int v) (ty := ty) (fs := fs.mapIdx (fw_fe ad μ k)) C.1 C.2.1 C.2.2.2.2.1 hin ty0 h1 h2 C.2.2.2.1 C.2.2.2.2.2.2.2.1 hP hD hS k (fw_wget hs) hc j hj (C.2.2.2.2.1 _ hw) (fun _ h => h) h3 h4 hn hfit (by rw [List.length_mapIdx]; exact hlen) hd (fun H1 locs1 hP1 hD1 hS1 => kk C hl (by rw [← e0]; exact hP1) (by rw [← e0]; exact hD1) hS1)
theorem fw_putI {index ci j k : Nat} {v : Int32} {fs : List (Option Nat)} (hd : decode cc pc = .ok (.putfield index, 3)) (hF : fw_FP own index ci j .int) (hs : sh[k]? = some (.inl (ci, fs))) (hf : fs[j]? = some none) (kk : fw_R own cc nL rty sh d rt μ1 (pc + 3) lv st (fw_wr μ k j v)) : fw_R own cc nL rty sh d rt μ1 pc lv (.int v :: .ref k :: st) μ := fw_put0 rfl rfl hd hF hs hf kk
theorem fw_putZ {index ci j k : Nat} {v v2 : Int32} {fs : List (Option Nat)} (hd : decode cc pc = .ok (.putfield index, 3)) (hv : fw_bz v = some v2) (hF : fw_FP own index ci j .boolean) (hs : sh[k]? = some (.inl (ci, fs))) (hf : fs[j]? = some none) (kk : fw_R own cc nL rty sh d rt μ1 (pc + 3) lv st (fw_wr μ k j v2)) : fw_R own cc nL rty sh d rt μ1 pc lv (.int v :: .ref k :: st) μ := by
  unfold fw_bz at hv
  split at hv
  · rename_i h0
    cases hv
    rcases h0 with rfl | rfl
    · exact fw_put0 rfl rfl hd hF hs hf kk
    · exact fw_put0 rfl rfl hd hF hs hf kk
  · cases hv
-- arrays
theorem fw_iald {k n : Nat} {rs : List Nat} {i v : Int32} (hd : decode cc pc = .ok (.iaload, 1)) (hs : sh[k]? = some (.inr (0, n, rs))) (hv : fw_rd n (μ.1 k) i = some v) (kk : fw_R own cc nL rty sh d rt μ1 (pc + 1) lv (.int v :: st) μ) : fw_R own cc nL rty sh d rt μ1 pc lv (.int i :: .ref k :: st) μ := by
  unfold fw_rd at hv
  split at hv
  · cases hv
  · rename_i h0; cases hv
    exact fun ⦃p l e s m args below meth c D dA ad A H locs ls⦄ C hl hP hD hS => va_iald (cA := dA 0) C.1 C.2.1 C.2.2.2.2.2.2.2.1 hP k 0 (fw_wget hs) rfl h0 hd (kk C hl hP hD hS)
theorem fw_zald {k n : Nat} {rs : List Nat} {i v : Int32} (hd : decode cc pc = .ok (.baload, 1)) (hs : sh[k]? = some (.inr (1, n, rs))) (hv : fw_rd n (μ.1 k) i = some v) (kk : fw_R own cc nL rty sh d rt μ1 (pc + 1) lv (.int v :: st) μ) : fw_R own cc nL rty sh d rt μ1 pc lv (.int i :: .ref k :: st) μ := by
  unfold fw_rd at hv
  split at hv
  · cases hv
  · rename_i h0; cases hv
    exact fun ⦃p l e s m args below meth c D dA ad A H locs ls⦄ C hl hP hD hS => va_zald (cA := dA 1) C.1 C.2.1 C.2.2.2.2.2.2.2.1 hP k 1 (fw_wget hs) rfl h0 hd (kk C hl hP hD hS)
theorem fw_lald {k n : Nat} {rs : List Nat} {i : Int32} {v : Int64} (hd : decode cc pc = .ok (.laload, 1)) (hs : sh[k]? = some (.inr (2, n, rs))) (hv : fw_rl n (μ.2 k) i = some v) (kk : fw_R own cc nL rty sh d rt μ1 (pc + 1) lv (.long v :: st) μ) : fw_R own cc nL rty sh d rt μ1 pc lv (.int i :: .ref k :: st) μ := by
  unfold fw_rl at hv
  split at hv
  · cases hv
  · rename_i h0; cases hv
    exact fun ⦃p l e s m args below meth c D dA ad A H locs ls⦄ C hl hP hD hS => va_lald (cA := dA 2) C.1 C.2.1 C.2.2.2.2.2.2.2.1 hP k 2 (fw_wget hs) rfl h0 hd (kk C hl hP hD hS)
theorem fw_aald {k n r : Nat} {rs : List Nat} {i : Int32} (kd : Nat) {C0 : String} (hd : decode cc pc = .ok (.aaload, 1)) (hk : ∀ dA : Nat → ClassId, (fw_ty dA)[kd + 3]? = some (dA (kd + 3), .object C0)) (hs : sh[k]? = some (.inr (kd + 3, n, rs))) (hv : fw_rq n rs i = some r) (kk : fw_R own cc nL rty sh d rt μ1 (pc + 1) lv (.ref r :: st) μ) : fw_R own cc nL rty sh d rt μ1 pc lv (.int i :: .ref k :: st) μ := by
  unfold fw_rq at hv
  split at hv
  · cases hv
  · rename_i h0
    intro p l e s m args below meth c D dA ad A H locs ls C hl hP hD hS
    refine va_aldq (cA := dA (kd + 3)) (f := fun i => (rs[i]?).map ad) C.1 C.2.1 C.2.2.2.2.2.2.2.1 hP k (kd + 3) (fw_wget hs) (hk dA) h0 hd ?_
    show W _ _ _ _ _ _ _ _ _ _ _ _ _ _ _ (F0 m (pc + 1) ls (va_rf ((rs[i.toNatClampNeg]?).map ad) :: _))
    rw [hv]
    exact kk C hl hP hD hS
theorem fw_alen {k kd n : Nat} {rs : List Nat} (hd : decode cc pc = .ok (.arraylength, 1)) (hs : sh[k]? = some (.inr (kd, n, rs))) {ty : Nat → FieldType} (hk : ∀ dA : Nat → ClassId, (fw_ty dA)[kd]? = some (dA kd, ty kd)) (kk : fw_R own cc nL rty sh d rt μ1 (pc + 1) lv (.int (nI n) :: st) μ) : fw_R own cc nL rty sh d rt μ1 pc lv (.ref k :: st) μ :=
  fun ⦃p l e s m args below meth c D dA ad A H locs ls⦄ C hl hP hD hS => va_alen (cA := dA kd) C.1 C.2.1 C.2.2.2.2.2.2.2.1 hP k kd (fw_wget hs) (hk dA) (by simp only [fw_ar]; split <;> rfl) hd (kk C hl hP hD hS)
theorem fw_iast {k n : Nat} {rs : List Nat} {i v : Int32} {μ2 : fw_M} (hd : decode cc pc = .ok (.iastore, 1)) (hs : sh[k]? = some (.inr (0, n, rs))) (hv : fw_si n μ k i v = some μ2) (kk : fw_R own cc nL rty sh d rt μ1 (pc + 1) lv st μ2) : fw_R own cc nL rty sh d rt μ1 pc lv (.int v :: .int i :: .ref k :: st) μ := by
  unfold fw_si at hv
  split at hv
  · cases hv
  · rename_i h0; cases hv
    intro p l e s m args below meth c D dA ad A H locs ls C hl hP hD hS
    have e0 : (fw_w sh ad dA μ).set k (ad k, .inl (dA 0, n, .inl (upd (μ.1 k) i.toNatClampNeg v))) = fw_w sh ad dA (fw_wr μ k i.toNatClampNeg v) := by
      have e1 : (Sum.inl (dA 0, n, .inl (upd (μ.1 k) i.toNatClampNeg v)) : va_E) = fw_ce ad dA (fw_wr μ k i.toNatClampNeg v) k (.inr (0, n, rs)) := by
        simp [fw_ce, fw_ar, fw_wr]
      rw [e1]
      exact fw_wset hs (fun a t ha => by rw [fw_wr_wc]; exact fw_ce_wc a t ha)
    exact va_iast (cA := dA 0) C.1 C.2.1 C.2.2.2.2.2.2.2.1 hP hD hS k 0 (fw_wget hs) rfl h0 hd (fun H1 locs1 hP1 hD1 hS1 => kk C hl (by rw [← e0]; exact hP1) (by rw [← e0]; exact hD1) hS1)
theorem fw_zast {k n : Nat} {rs : List Nat} {i v : Int32} {μ2 : fw_M} (hd : decode cc pc = .ok (.bastore, 1)) (hs : sh[k]? = some (.inr (1, n, rs))) (hv : fw_sz n μ k i v = some μ2) (kk : fw_R own cc nL rty sh d rt μ1 (pc + 1) lv st μ2) : fw_R own cc nL rty sh d rt μ1 pc lv (.int v :: .int i :: .ref k :: st) μ := by
  unfold fw_sz at hv
  split at hv
  · cases hv
  · rename_i h0
    split at hv
    · rename_i hz; cases hv
      intro p l e s m args below meth c D dA ad A H locs ls C hl hP hD hS
      have hnar : vp_nar .boolean v = v := by rcases hz with rfl | rfl <;> rfl
      have e0 : (fw_w sh ad dA μ).set k (ad k, .inl (dA 1, n, .inl (upd (μ.1 k) i.toNatClampNeg (vp_nar .boolean v)))) = fw_w sh ad dA (fw_wr μ k i.toNatClampNeg v) := by
        rw [hnar]
        have e1 : (Sum.inl (dA 1, n, .inl (upd (μ.1 k) i.toNatClampNeg v)) : va_E) = fw_ce ad dA (fw_wr μ k i.toNatClampNeg v) k (.inr (1, n, rs)) := by
          simp [fw_ce, fw_ar, fw_wr]
        rw [e1]
        exact fw_wset hs (fun a t ha => by rw [fw_wr_wc]; exact fw_ce_wc a t ha)
      exact va_zast (cA := dA 1) C.1 C.2.1 C.2.2.2.2.2.2.2.1 hP hD hS k 1 (fw_wget hs) rfl h0 hd (fun H1 locs1 hP1 hD1 hS1 => kk C hl (by rw [← e0]; exact hP1) (by rw [← e0]; exact hD1) hS1)
    · cases hv
theorem fw_last {k n : Nat} {rs : List Nat} {i : Int32} {v : Int64} {μ2 : fw_M} (hd : decode cc pc = .ok (.lastore, 1)) (hs : sh[k]? = some (.inr (2, n, rs))) (hv : fw_sl n μ k i v = some μ2) (kk : fw_R own cc nL rty sh d rt μ1 (pc + 1) lv st μ2) : fw_R own cc nL rty sh d rt μ1 pc lv (.long v :: .int i :: .ref k :: st) μ := by
  unfold fw_sl at hv
  split at hv
  · cases hv
  · rename_i h0; cases hv
    intro p l e s m args below meth c D dA ad A H locs ls C hl hP hD hS
    have e0 : (fw_w sh ad dA μ).set k (ad k, .inl (dA 2, n, .inr (.inl (vp_updL (μ.2 k) i.toNatClampNeg v)))) = fw_w sh ad dA (fw_wl μ k i.toNatClampNeg v) := by
      have e1 : (Sum.inl (dA 2, n, .inr (.inl (vp_updL (μ.2 k) i.toNatClampNeg v))) : va_E) = fw_ce ad dA (fw_wl μ k i.toNatClampNeg v) k (.inr (2, n, rs)) := by
        simp [fw_ce, fw_ar, fw_wl]
      rw [e1]
      exact fw_wset hs (fun a t ha => by rw [fw_wl_wd]; exact fw_ce_wd a t ha)
    exact va_last (cA := dA 2) C.1 C.2.1 C.2.2.2.2.2.2.2.1 hP hD hS k 2 (fw_wget hs) rfl h0 hd (fun H1 locs1 hP1 hD1 hS1 => kk C hl (by rw [← e0]; exact hP1) (by rw [← e0]; exact hD1) hS1)
end FWR
end
section
section FWC
variable {own : String} {cc : ByteArray} {nL : Nat} {rty : Option FieldType} {sh : List fw_K} {d : Nat} {rt : Option Int32} {μ1 : fw_M} {pc : Nat} {lv : List (Nat × Value)} {st : List Value} {μ : fw_M}
-- returns
theorem fw_iret {v : Int32} (hd : decode cc pc = .ok (.ireturn, 1)) (hr : rty = some .int) : fw_R own cc nL rty sh d (some v) μ pc lv [.int v] μ :=
  fun ⦃p l e s m args below meth c D dA ad A H locs ls⦄ C hl hP hD hS => W.iret (v := v) (Qc := fw_Q sh D dA ad A (some v) μ) C.1 C.2.1 (C.2.2.2.2.2.1.trans hr) (fun t ht hW => ⟨⟨v, μ, rfl, ⟨rfl, rfl⟩, by rw [ht]; exact hP, va_K.moved hW.alike C.2.2.2.2.2.2.2.1, hD⟩, hS.F ht⟩) hS.2.2 hd C.2.2.2.2.2.2.1
theorem fw_zret {v v2 : Int32} (hd : decode cc pc = .ok (.ireturn, 1)) (hr : rty = some .boolean) (hv : fw_bz v = some v2) : fw_R own cc nL rty sh d (some v2) μ pc lv [.int v] μ := by
  unfold fw_bz at hv
  split at hv
  · rename_i h0
    cases hv
    have hn : narrow .boolean (.int v) = .int v := by rcases h0 with rfl | rfl <;> rfl
    exact fun ⦃p l e s m args below meth c D dA ad A H locs ls⦄ C hl hP hD hS => W.zret (v := v) (Qc := fw_Q sh D dA ad A (some v) μ) C.1 C.2.1 (C.2.2.2.2.2.1.trans hr) hn (fun t ht hW => ⟨⟨v, μ, rfl, ⟨rfl, rfl⟩, by rw [ht]; exact hP, va_K.moved hW.alike C.2.2.2.2.2.2.2.1, hD⟩, hS.F ht⟩) hS.2.2 hd C.2.2.2.2.2.2.1
  · cases hv
theorem fw_vret (hd : decode cc pc = .ok (.return_, 1)) (hr : rty = none) : fw_R own cc nL rty sh d none μ pc lv [] μ :=
  fun ⦃p l e s m args below meth c D dA ad A H locs ls⦄ C hl hP hD hS => W.vret (Qc := fw_Q sh D dA ad A none μ) C.1 C.2.1 (C.2.2.2.2.2.1.trans hr) (fun t ht hW => ⟨⟨μ, rfl, rfl, by rw [ht]; exact hP, va_K.moved hW.alike C.2.2.2.2.2.2.2.1, hD⟩, hS.F ht⟩) hS.2.2 hd C.2.2.2.2.2.2.1
-- static rows
theorem fw_gs0 {index : Nat} (hd : decode cc pc = .ok (.getstatic index, 3)) (hw : Cond.fieldLink own index "FewTypes" "RULE_LEAST" "[I" ∈ fw_tb) (k : fw_R own cc nL rty sh d rt μ1 (pc + 3) lv (.ref 1000 :: st) μ) : fw_R own cc nL rty sh d rt μ1 pc lv st μ := fun ⦃p l e s m args below meth c D dA ad A H locs ls⦄ C hl hP hD hS => va_gets C.1 C.2.1 C.2.2.2.2.2.2.2.2.2.1.1 hS C.2.2.2.1 (C.2.2.2.2.1 _ hw) (fun _ h => h) hd (k C hl hP hD hS)
theorem fw_gs1 {index : Nat} (hd : decode cc pc = .ok (.getstatic index, 3)) (hw : Cond.fieldLink own index "FewTypes" "RULE_MOST" "[I" ∈ fw_tb) (k : fw_R own cc nL rty sh d rt μ1 (pc + 3) lv (.ref 1001 :: st) μ) : fw_R own cc nL rty sh d rt μ1 pc lv st μ := fun ⦃p l e s m args below meth c D dA ad A H locs ls⦄ C hl hP hD hS => va_gets C.1 C.2.1 C.2.2.2.2.2.2.2.2.2.1.2.2.1 hS C.2.2.2.1 (C.2.2.2.2.1 _ hw) (fun _ h => h) hd (k C hl hP hD hS)
theorem fw_gs2 {index : Nat} (hd : decode cc pc = .ok (.getstatic index, 3)) (hw : Cond.fieldLink own index "FewTypes$Press" "LACKING" "[J" ∈ fw_tb) (k : fw_R own cc nL rty sh d rt μ1 (pc + 3) lv (.ref 1002 :: st) μ) : fw_R own cc nL rty sh d rt μ1 pc lv st μ := fun ⦃p l e s m args below meth c D dA ad A H locs ls⦄ C hl hP hD hS => va_gets C.1 C.2.1 C.2.2.2.2.2.2.2.2.2.1.2.2.2.2.1 hS C.2.2.2.1 (C.2.2.2.2.1 _ hw) (fun _ h => h) hd (k C hl hP hD hS)
theorem fw_t0ld {i v : Int32} (hd : decode cc pc = .ok (.iaload, 1)) (hv : fw_rd 3 fw_s0 i = some v) (kk : fw_R own cc nL rty sh d rt μ1 (pc + 1) lv (.int v :: st) μ) : fw_R own cc nL rty sh d rt μ1 pc lv (.int i :: .ref 1000 :: st) μ := by
  unfold fw_rd at hv
  split at hv
  · cases hv
  · rename_i h0; cases hv
    exact fun ⦃p l e s m args below meth c D dA ad A H locs ls⦄ C hl hP hD hS => va_ti C.1 C.2.1 C.2.2.2.2.2.2.2.2.2.1.2.1 hS h0 rfl hd (kk C hl hP hD hS)
theorem fw_t1ld {i v : Int32} (hd : decode cc pc = .ok (.iaload, 1)) (hv : fw_rd 3 fw_s1 i = some v) (kk : fw_R own cc nL rty sh d rt μ1 (pc + 1) lv (.int v :: st) μ) : fw_R own cc nL rty sh d rt μ1 pc lv (.int i :: .ref 1001 :: st) μ := by
  unfold fw_rd at hv
  split at hv
  · cases hv
  · rename_i h0; cases hv
    exact fun ⦃p l e s m args below meth c D dA ad A H locs ls⦄ C hl hP hD hS => va_ti C.1 C.2.1 C.2.2.2.2.2.2.2.2.2.1.2.2.2.1 hS h0 rfl hd (kk C hl hP hD hS)
theorem fw_t2ld {i : Int32} {v : Int64} (hd : decode cc pc = .ok (.laload, 1)) (hv : fw_rl 6 fw_s2 i = some v) (kk : fw_R own cc nL rty sh d rt μ1 (pc + 1) lv (.long v :: st) μ) : fw_R own cc nL rty sh d rt μ1 pc lv (.int i :: .ref 1002 :: st) μ := by
  unfold fw_rl at hv
  split at hv
  · cases hv
  · rename_i h0; cases hv
    exact fun ⦃p l e s m args below meth c D dA ad A H locs ls⦄ C hl hP hD hS => va_tl C.1 C.2.1 C.2.2.2.2.2.2.2.2.2.1.2.2.2.2.2 hS h0 rfl hd (kk C hl hP hD hS)
theorem fw_t2len (hd : decode cc pc = .ok (.arraylength, 1)) (kk : fw_R own cc nL rty sh d rt μ1 (pc + 1) lv (.int 6 :: st) μ) : fw_R own cc nL rty sh d rt μ1 pc lv (.ref 1002 :: st) μ := fun ⦃p l e s m args below meth c D dA ad A H locs ls⦄ C hl hP hD hS => va_tlen C.1 C.2.1 C.2.2.2.2.2.2.2.2.2.1.2.2.2.2.2 hS rfl hd (kk C hl hP hD hS)
-- System.arraycopy
theorem fw_ac1 : Cond.native arraycopyName ∈ fw_tb := fw_m 166 (by decide +kernel) (by decide +kernel)
theorem fw_ac2 : Cond.static arraycopyName ∈ fw_tb := fw_m 165 (by decide +kernel) (by decide +kernel)
theorem fw_ac3 : Cond.initialized "java/lang/System" ∈ fw_tb := fw_m 65 (by decide +kernel) (by decide +kernel)
theorem fw_cat (ad : Nat → Nat) (st : List Value) : ((st.map (fw_v ad)).map fun v => v.category) = st.map fun v => v.category := by
  rw [List.map_map]; exact List.map_congr_left (fun v _ => fw_vcat ad v)
theorem fw_acpI {index k0 k1 n0 n1 : Nat} {r0 r1 : List Nat} {sp dp n : Int32} {μ2 : fw_M} (hd : decode cc pc = .ok (.invokestatic index, 3)) (hw : Cond.methodLink own index arraycopyName ∈ fw_tb) (hs0 : sh[k0]? = some (.inr (0, n0, r0))) (hs1 : sh[k1]? = some (.inr (0, n1, r1))) (hv : fw_cp n0 n1 μ k0 sp k1 dp n = some μ2) (hd1 : 1 ≤ d) (hroom : (st.map fun v => v.category).sum ≤ 8) (kk : fw_R own cc nL rty sh d rt μ1 (pc + 3) lv st μ2) : fw_R own cc nL rty sh d rt μ1 pc lv (.int n :: .int dp :: .ref k1 :: .int sp :: .ref k0 :: st) μ := by
  unfold fw_cp at hv
  split at hv
  · cases hv
  · rename_i h0; cases hv
    have g1 : ¬ sp < 0 := fun h => h0 (Or.inl h)
    have g2 : ¬ dp < 0 := fun h => h0 (Or.inr (Or.inl h))
    have g3 : ¬ n < 0 := fun h => h0 (Or.inr (Or.inr (Or.inl h)))
    have g4 : sp.toNatClampNeg + n.toNatClampNeg ≤ n0 := Nat.le_of_not_lt (fun h => h0 (Or.inr (Or.inr (Or.inr (Or.inl h)))))
    have g5 : dp.toNatClampNeg + n.toNatClampNeg ≤ n1 := Nat.le_of_not_lt (fun h => h0 (Or.inr (Or.inr (Or.inr (Or.inr h)))))
    intro p l e s m args below meth c D dA ad A H locs ls C hl hP hD hS
    have e0 : (fw_w sh ad dA μ).set k1 (ad k1, .inl (dA 0, n1, .inl (va_cpy (μ.1 k0) (μ.1 k1) sp.toNatClampNeg dp.toNatClampNeg n.toNatClampNeg))) = fw_w sh ad dA (fw_wc μ k1 (va_cpy (μ.1 k0) (μ.1 k1) sp.toNatClampNeg dp.toNatClampNeg n.toNatClampNeg)) := by
      have e1 : (Sum.inl (dA 0, n1, .inl (va_cpy (μ.1 k0) (μ.1 k1) sp.toNatClampNeg dp.toNatClampNeg n.toNatClampNeg)) : va_E) = fw_ce ad dA (fw_wc μ k1 (va_cpy (μ.1 k0) (μ.1 k1) sp.toNatClampNeg dp.toNatClampNeg n.toNatClampNeg)) k1 (.inr (0, n1, r1)) := by
        simp [fw_ce, fw_ar, fw_wc]
      rw [e1]
      exact fw_wset hs1 (fun a t ha => fw_ce_wc a t ha)
    refine va_copyi (c0 := dA 0) (c1 := dA 0) (ty := .int) C.1 C.2.1 (C.2.2.1.trans hl.1.symm) C.2.2.2.1 (C.2.2.2.2.1 _ hw) (C.2.2.2.2.1 _ fw_ac1) (C.2.2.2.2.1 _ fw_ac2) (C.2.2.2.2.1 _ fw_ac3) C.2.2.2.2.2.2.2.1 hP hD hS k0 k1 0 0 (fw_wget hs0) (fw_wget hs1) rfl rfl rfl g1 g2 g3 g4 g5 (fun _ _ => rfl) hd1 ?_ hd (fun H1 locs1 hP1 hD1 hS1 => kk C hl (by rw [← e0]; exact hP1) (by rw [← e0]; exact hD1) hS1)
    rw [fw_cat]
    have e2 : nativeFrameWords "java/lang/System" "arraycopy" 5 + 11 ≤ 32 := by decide
    show _ ≤ 40 * d
    omega
theorem fw_acpL {index k0 k1 n0 n1 : Nat} {r0 r1 : List Nat} {sp dp n : Int32} {μ2 : fw_M} (hd : decode cc pc = .ok (.invokestatic index, 3)) (hw : Cond.methodLink own index arraycopyName ∈ fw_tb) (hs0 : sh[k0]? = some (.inr (2, n0, r0))) (hs1 : sh[k1]? = some (.inr (2, n1, r1))) (hv : fw_cl2 n0 n1 μ k0 sp k1 dp n = some μ2) (hd1 : 1 ≤ d) (hroom : (st.map fun v => v.category).sum ≤ 8) (kk : fw_R own cc nL rty sh d rt μ1 (pc + 3) lv st μ2) : fw_R own cc nL rty sh d rt μ1 pc lv (.int n :: .int dp :: .ref k1 :: .int sp :: .ref k0 :: st) μ := by
  unfold fw_cl2 at hv
  split at hv
  · cases hv
  · rename_i h0; cases hv
    have g1 : ¬ sp < 0 := fun h => h0 (Or.inl h)
    have g2 : ¬ dp < 0 := fun h => h0 (Or.inr (Or.inl h))
    have g3 : ¬ n < 0 := fun h => h0 (Or.inr (Or.inr (Or.inl h)))
    have g4 : sp.toNatClampNeg + n.toNatClampNeg ≤ n0 := Nat.le_of_not_lt (fun h => h0 (Or.inr (Or.inr (Or.inr (Or.inl h)))))
    have g5 : dp.toNatClampNeg + n.toNatClampNeg ≤ n1 := Nat.le_of_not_lt (fun h => h0 (Or.inr (Or.inr (Or.inr (Or.inr h)))))
    intro p l e s m args below meth c D dA ad A H locs ls C hl hP hD hS
    have e0 : (fw_w sh ad dA μ).set k1 (ad k1, .inl (dA 2, n1, .inr (.inl (va_cpy (μ.2 k0) (μ.2 k1) sp.toNatClampNeg dp.toNatClampNeg n.toNatClampNeg)))) = fw_w sh ad dA (fw_wd μ k1 (va_cpy (μ.2 k0) (μ.2 k1) sp.toNatClampNeg dp.toNatClampNeg n.toNatClampNeg)) := by
      have e1 : (Sum.inl (dA 2, n1, .inr (.inl (va_cpy (μ.2 k0) (μ.2 k1) sp.toNatClampNeg dp.toNatClampNeg n.toNatClampNeg))) : va_E) = fw_ce ad dA (fw_wd μ k1 (va_cpy (μ.2 k0) (μ.2 k1) sp.toNatClampNeg dp.toNatClampNeg n.toNatClampNeg)) k1 (.inr (2, n1, r1)) := by
        simp [fw_ce, fw_ar, fw_wd]
      rw [e1]
      exact fw_wset hs1 (fun a t ha => fw_ce_wd a t ha)
    refine va_copyl (c0 := dA 2) (c1 := dA 2) (ty := .long) C.1 C.2.1 (C.2.2.1.trans hl.1.symm) C.2.2.2.1 (C.2.2.2.2.1 _ hw) (C.2.2.2.2.1 _ fw_ac1) (C.2.2.2.2.1 _ fw_ac2) (C.2.2.2.2.1 _ fw_ac3) C.2.2.2.2.2.2.2.1 hP hD hS k0 k1 2 2 (fw_wget hs0) (fw_wget hs1) rfl rfl rfl g1 g2 g3 g4 g5 (fun _ _ => rfl) hd1 ?_ hd (fun H1 locs1 hP1 hD1 hS1 => kk C hl (by rw [← e0]; exact hP1) (by rw [← e0]; exact hD1) hS1)
    rw [fw_cat]
    have e2 : nativeFrameWords "java/lang/System" "arraycopy" 5 + 11 ≤ 32 := by decide
    show _ ≤ 40 * d
    omega
-- calls
def fw_mh (y : MethodName) (n : Nat) : Prop := y.cls ≠ "java/lang/invoke/MethodHandle" ∧ y.cls ≠ "java/lang/invoke/VarHandle" ∧ (parseMethodDescriptor y.desc).map (fun d => d.parameters.length) = some n
def fw_MS (own : String) (index : Nat) (Z : fw_Y) (n : Nat) : Prop := Cond.methodLink own index Z.1 ∈ fw_tb ∧ Cond.static Z.1 ∈ fw_tb ∧ Cond.initialized Z.1.cls ∈ fw_tb ∧ Cond.code Z.1 Z.2.1 Z.2.2.1 Z.2.2.2 ∈ fw_tb ∧ fw_mh Z.1 n ∧ Z.2.2.1 ≤ 20
def fw_MN (own : String) (index : Nat) (Z : fw_Y) (n : Nat) : Prop := (own, index, Z.1) ∈ fw_nl ∧ Cond.static Z.1 ∈ fw_tb ∧ Cond.initialized Z.1.cls ∈ fw_tb ∧ Cond.code Z.1 Z.2.1 Z.2.2.1 Z.2.2.2 ∈ fw_tb ∧ fw_mh Z.1 n ∧ Z.2.2.1 ≤ 20
def fw_MV (own : String) (index : Nat) (Z : fw_Y) (ci n : Nat) : Prop := Cond.methodLink own index Z.1 ∈ fw_tb ∧ Cond.instanceMethod Z.1 ∈ fw_tb ∧ Cond.selects Z.1.cls Z.1 Z.1 ∈ fw_tb ∧ Cond.initialized Z.1.cls ∈ fw_tb ∧ Cond.code Z.1 Z.2.1 Z.2.2.1 Z.2.2.2 ∈ fw_tb ∧ fw_mh Z.1 n ∧ Z.2.2.1 ≤ 20 ∧ ∃ T N, fw_cl[ci]? = some (Z.1.cls, T, N)
theorem fw_blind {sh : List fw_K} {D : va_G} {dA : Nat → ClassId} {ad : Nat → Nat} {A : Nat → Prop} {μ : fw_M} {av : List Value} : FrameBlind (va_Pc av (fw_Pre sh D dA ad A μ)) := by
  intro a U g mk q
  obtain ⟨q0, q1, qP, qK, qD, qS, qN⟩ := q
  exact ⟨q0, q1, qP, va_K.moved (u := U) (U := U.calling g mk a) (Vm.Alike.refl U.vm) qK, qD, fw_St.moved (u := U) (U := U.calling g mk a) (Vm.Alike.refl U.vm) qS, fw_Ne.same rfl qN⟩
theorem fw_enter {sh : List fw_K} {p : Program} {s : State} {m : MethodId} {args : Array Value} {meth : Method} {c : Code} {D : va_G} {dA : Nat → ClassId} {ad : Nat → Nat} {A : Nat → Prop} {μ : fw_M} {av : List Value} {H : Heap} {locs : List Loc} (C : fw_Cx own cc nL rty p s m args meth c D dA ad A) (hP : va_P D fw_cl (fw_w sh ad dA μ) H) (hD : va_D A (fw_w sh ad dA μ)) (hS : va_S A s.heap H locs) : ∀ U : State, U.heap = H → s.WarmedH U.vm → va_Pc av (fw_Pre sh D dA ad A μ) av.toArray U := by
  intro U hU hW
  refine ⟨rfl, fun q hq => C.2.2.2.2.2.2.2.2.1 q (Nat.le_trans hS.1 (by rw [hU] at hq; exact hq)), by rw [hU]; exact hP, va_K.moved hW.alike C.2.2.2.2.2.2.2.1, hD, ?_, fw_Ne.warm hW C.2.2.2.2.2.2.2.2.2.2⟩
  rw [hU]
  exact (C.2.2.2.2.2.2.2.2.2.1.kept hS.2.1).moved hW.alike
theorem fw_rmok {d2 d n : Nat} (h : d2 < d) (hn : n ≤ 20) : (fw_rm d2).frames + 1 ≤ (fw_rm d).frames ∧ 8 + (n + 11) + (fw_rm d2).locals ≤ (fw_rm d).locals := by
  constructor
  · show d2 + 1 ≤ d; omega
  · show 8 + (n + 11) + 40 * d2 ≤ 40 * d; omega
theorem fw_gS {own : String} {index : Nat} {Z : fw_Y} {n : Nat} (h : fw_MS own index Z n) : GoodIn fw_tb (va_wsS own index Z.1 (Cond.code Z.1 Z.2.1 Z.2.2.1 Z.2.2.2 :: fw_tb)) := by
  intro w hw
  refine fw_gin w ?_
  simp only [va_wsS, List.mem_append, List.mem_cons, List.not_mem_nil, or_false] at hw
  rcases hw with (rfl | rfl | rfl) | rfl | hw
  · exact h.1
  · exact h.2.1
  · exact h.2.2.1
  · exact h.2.2.2.1
  · exact hw
theorem fw_gV {own : String} {index : Nat} {Z : fw_Y} {ci n : Nat} (h : fw_MV own index Z ci n) : GoodIn fw_tb (wsV own index Z.1.cls Z.1 (Cond.code Z.1 Z.2.1 Z.2.2.1 Z.2.2.2 :: fw_tb)) := by
  intro w hw
  refine fw_gin w ?_
  simp only [wsV, List.mem_append, List.mem_cons, List.not_mem_nil, or_false] at hw
  rcases hw with (rfl | rfl | rfl | rfl) | rfl | hw
  · exact h.1
  · exact h.2.1
  · exact h.2.2.1
  · exact h.2.2.2.1
  · exact h.2.2.2.2.1
  · exact hw
theorem fw_gC {Z : fw_Y} (h : Cond.code Z.1 Z.2.1 Z.2.2.1 Z.2.2.2 ∈ fw_tb) : GoodIn fw_tb (Cond.code Z.1 Z.2.1 Z.2.2.1 Z.2.2.2 :: fw_tb) := by
  intro w hw
  refine fw_gin w ?_
  rcases List.mem_cons.mp hw with rfl | hw
  · exact h
  · exact hw
theorem fw_rev (ad : Nat → Nat) (as st : List Value) : (as.reverse ++ st).map (fw_v ad) = (as.map (fw_v ad)).reverse ++ st.map (fw_v ad) := by rw [List.map_append, List.map_reverse]
theorem fw_revV (ad : Nat → Nat) (k : Nat) (as st : List Value) : (as.reverse ++ .ref k :: st).map (fw_v ad) = (as.map (fw_v ad)).reverse ++ .ref (ad k) :: st.map (fw_v ad) := by rw [List.map_append, List.map_reverse]; rfl
theorem fw_callSi {index d2 n : Nat} {Z : fw_Y} {as st0 : List Value} {r : Int32} {μ2 : fw_M} (hd : decode cc pc = .ok (.invokestatic index, 3)) (hM : fw_MS own index Z n) (hc : fw_Con Z sh d2 as (some r) μ μ2) (hdd : d2 < d) (hn : as.length = n) (hst : as.reverse ++ st = st0) (hroom : (st.map fun v => v.category).sum ≤ 8) (kk : fw_R own cc nL rty sh d rt μ1 (pc + 3) lv (.int r :: st) μ2) : fw_R own cc nL rty sh d rt μ1 pc lv st0 μ := by
  subst hst
  intro p l e s m args below meth c D dA ad A H locs ls C hl hP hD hS
  rw [fw_rev]
  refine va_calli (post := fun x u => x = r ∧ u = μ2) (B := fw_B sh D dA ad A) (A1 := A) (a := (as.map (fw_v ad)).toArray) (va_runS (As := as.map (fw_v ad)) (rest := st.map (fw_v ad)) (Qc := fw_Q sh D dA ad A (some r) μ2) ⟨C.1, C.2.1, C.2.2.1, C.2.2.2.1, C.2.2.2.2.1⟩ (hc l D dA ad A) (va_cwS n C.2.2.2.2.1 (fw_gS hM) rfl rfl rfl hM.2.2.2.2.1 (fw_rmok hdd hM.2.2.2.2.2)) ⟨fw_blind, fw_enter C hP hD hS⟩ rfl (by rw [List.length_map]; exact hn) hl.1 rfl (lv_room (by rw [fw_cat]; exact hroom)) hd ⟨Nat.zero_le _, Nat.zero_le _⟩) hS (fun q _ h => h) (fun q h => h) ?_
  intro r2 u t H1 locs1 ht hvm hp hB hz hk hS1
  obtain ⟨rfl, rfl⟩ := hp
  obtain ⟨hP1, -, hD1⟩ := hB
  exact kk C hl (by rw [← ht]; exact hP1) hD1 hS1
theorem fw_callSv {index d2 n : Nat} {Z : fw_Y} {as st0 : List Value} {μ2 : fw_M} (hd : decode cc pc = .ok (.invokestatic index, 3)) (hM : fw_MS own index Z n) (hc : fw_Con Z sh d2 as none μ μ2) (hdd : d2 < d) (hn : as.length = n) (hst : as.reverse ++ st = st0) (hroom : (st.map fun v => v.category).sum ≤ 8) (kk : fw_R own cc nL rty sh d rt μ1 (pc + 3) lv st μ2) : fw_R own cc nL rty sh d rt μ1 pc lv st0 μ := by
  subst hst
  intro p l e s m args below meth c D dA ad A H locs ls C hl hP hD hS
  rw [fw_rev]
  refine va_callv (post := fun u => u = μ2) (B := fw_B sh D dA ad A) (A1 := A) (a := (as.map (fw_v ad)).toArray) (va_runS (As := as.map (fw_v ad)) (rest := st.map (fw_v ad)) (Qc := fw_Q sh D dA ad A none μ2) ⟨C.1, C.2.1, C.2.2.1, C.2.2.2.1, C.2.2.2.2.1⟩ (hc l D dA ad A) (va_cwS n C.2.2.2.2.1 (fw_gS hM) rfl rfl rfl hM.2.2.2.2.1 (fw_rmok hdd hM.2.2.2.2.2)) ⟨fw_blind, fw_enter C hP hD hS⟩ rfl (by rw [List.length_map]; exact hn) hl.1 rfl (lv_room (by rw [fw_cat]; exact hroom)) hd ⟨Nat.zero_le _, Nat.zero_le _⟩) hS (fun q _ h => h) (fun q h => h) ?_
  intro u t H1 locs1 ht hvm hp hB hz hk hS1
  obtain rfl := hp
  obtain ⟨hP1, -, hD1⟩ := hB
  exact kk C hl (by rw [← ht]; exact hP1) hD1 hS1
theorem fw_callNi {index d2 n : Nat} {Z : fw_Y} {as st0 : List Value} {r : Int32} {μ2 : fw_M} (hd : decode cc pc = .ok (.invokestatic index, 3)) (hM : fw_MN own index Z n) (hc : fw_Con Z sh d2 as (some r) μ μ2) (hdd : d2 < d) (hn : as.length = n) (hst : as.reverse ++ st = st0) (hroom : (st.map fun v => v.category).sum ≤ 8) (kk : fw_R own cc nL rty sh d rt μ1 (pc + 3) lv (.int r :: st) μ2) : fw_R own cc nL rty sh d rt μ1 pc lv st0 μ := by
  subst hst
  intro p l e s m args below meth c D dA ad A H locs ls C hl hP hD hS
  rw [fw_rev]
  refine va_calli (post := fun x u => x = r ∧ u = μ2) (B := fw_B sh D dA ad A) (A1 := A) (a := (as.map (fw_v ad)).toArray) (va_runSN (As := as.map (fw_v ad)) (rest := st.map (fw_v ad)) (Qc := fw_Q sh D dA ad A (some r) μ2) ⟨C.1, C.2.1, C.2.2.1, C.2.2.2.1, C.2.2.2.2.1⟩ (hc l D dA ad A) ⟨va_cnB n C.2.2.2.2.1 (fw_gC hM.2.2.2.1) rfl rfl rfl (C.2.2.2.2.2.2.2.2.2.2 _ hM.1) (C.2.2.2.2.1 _ hM.2.2.1) hM.2.2.2.2.1 (fw_rmok hdd hM.2.2.2.2.2), C.2.2.2.2.1 _ hM.2.1, trivial⟩ ⟨fw_blind, fw_enter C hP hD hS⟩ rfl (by rw [List.length_map]; exact hn) hl.1 rfl (lv_room (by rw [fw_cat]; exact hroom)) hd ⟨Nat.zero_le _, Nat.zero_le _⟩) hS (fun q _ h => h) (fun q h => h) ?_
  intro r2 u t H1 locs1 ht hvm hp hB hz hk hS1
  obtain ⟨rfl, rfl⟩ := hp
  obtain ⟨hP1, -, hD1⟩ := hB
  exact kk C hl (by rw [← ht]; exact hP1) hD1 hS1
theorem fw_callVi {index d2 n ci k : Nat} {fs : List (Option Nat)} {Z : fw_Y} {as st0 : List Value} {r : Int32} {μ2 : fw_M} (hd : decode cc pc = .ok (.invokevirtual index, 3)) (hM : fw_MV own index Z ci n) (hs : sh[k]? = some (.inl (ci, fs))) (hc : fw_Con Z sh d2 (.ref k :: as) (some r) μ μ2) (hdd : d2 < d) (hn : as.length = n) (hst : as.reverse ++ .ref k :: st = st0) (hroom : (st.map fun v => v.category).sum ≤ 8) (kk : fw_R own cc nL rty sh d rt μ1 (pc + 3) lv (.int r :: st) μ2) : fw_R own cc nL rty sh d rt μ1 pc lv st0 μ := by
  subst hst
  intro p l e s m args below meth c D dA ad A H locs ls C hl hP hD hS
  rw [fw_revV]
  obtain ⟨T, N, hcl⟩ := hM.2.2.2.2.2.2.2
  refine va_calli (post := fun x u => x = r ∧ u = μ2) (B := fw_B sh D dA ad A) (A1 := A) (a := (Value.ref (ad k) :: as.map (fw_v ad)).toArray) (va_runV (As := as.map (fw_v ad)) (rest := st.map (fw_v ad)) (b := ad k) (Qc := fw_Q sh D dA ad A (some r) μ2) ⟨C.1, C.2.1, C.2.2.1, C.2.2.2.1, C.2.2.2.2.1⟩ (hc l D dA ad A) (cwV n C.2.2.2.2.1 (fw_gV hM) rfl rfl rfl ⟨rfl, hM.2.2.2.2.2.1⟩ (fw_rmok hdd hM.2.2.2.2.2.2.1)) ⟨fw_blind, va_recv C.2.2.2.2.2.2.2.1 hP hcl (fw_wget hs), fw_enter C hP hD hS⟩ rfl (by rw [List.length_map]; exact hn) hl.1 rfl (lv_room (by rw [fw_cat]; exact hroom)) hd ⟨Nat.zero_le _, Nat.zero_le _⟩) hS (fun q _ h => h) (fun q h => h) ?_
  intro r2 u t H1 locs1 ht hvm hp hB hz hk hS1
  obtain ⟨rfl, rfl⟩ := hp
  obtain ⟨hP1, -, hD1⟩ := hB
  exact kk C hl (by rw [← ht]; exact hP1) hD1 hS1
theorem fw_callVv {index d2 n ci k : Nat} {fs : List (Option Nat)} {Z : fw_Y} {as st0 : List Value} {μ2 : fw_M} (hd : decode cc pc = .ok (.invokevirtual index, 3)) (hM : fw_MV own index Z ci n) (hs : sh[k]? = some (.inl (ci, fs))) (hc : fw_Con Z sh d2 (.ref k :: as) none μ μ2) (hdd : d2 < d) (hn : as.length = n) (hst : as.reverse ++ .ref k :: st = st0) (hroom : (st.map fun v => v.category).sum ≤ 8) (kk : fw_R own cc nL rty sh d rt μ1 (pc + 3) lv st μ2) : fw_R own cc nL rty sh d rt μ1 pc lv st0 μ := by
  subst hst
  intro p l e s m args below meth c D dA ad A H locs ls C hl hP hD hS
  rw [fw_revV]
  obtain ⟨T, N, hcl⟩ := hM.2.2.2.2.2.2.2
  refine va_callv (post := fun u => u = μ2) (B := fw_B sh D dA ad A) (A1 := A) (a := (Value.ref (ad k) :: as.map (fw_v ad)).toArray) (va_runV (As := as.map (fw_v ad)) (rest := st.map (fw_v ad)) (b := ad k) (Qc := fw_Q sh D dA ad A none μ2) ⟨C.1, C.2.1, C.2.2.1, C.2.2.2.1, C.2.2.2.2.1⟩ (hc l D dA ad A) (cwV n C.2.2.2.2.1 (fw_gV hM) rfl rfl rfl ⟨rfl, hM.2.2.2.2.2.1⟩ (fw_rmok hdd hM.2.2.2.2.2.2.1)) ⟨fw_blind, va_recv C.2.2.2.2.2.2.2.1 hP hcl (fw_wget hs), fw_enter C hP hD hS⟩ rfl (by rw [List.length_map]; exact hn) hl.1 rfl (lv_room (by rw [fw_cat]; exact hroom)) hd ⟨Nat.zero_le _, Nat.zero_le _⟩) hS (fun q _ h => h) (fun q h => h) ?_
  intro u t H1 locs1 ht hvm hp hB hz hk hS1
  obtain rfl := hp
  obtain ⟨hP1, -, hD1⟩ := hB
  exact kk C hl (by rw [← ht]; exact hP1) hD1 hS1
end FWC
end
section
-- the shapes: the cells of a FewTypes, of a FewTypesModel
def fw_X : List fw_K := [.inl (8, [some 1, some 32, none, some 63, some 65, some 71, some 75, some 77, some 81, some 82, some 83, some 84, some 85]), .inl (6, [some 2, some 6, some 8, some 9, some 10, some 27, none, some 28]), .inl (0, [some 3, some 4, some 5, none]), .inr (0, 10, []), .inr (0, 10, []), .inr (0, 10, []), .inl (2, [some 7, none, none]), .inr (0, 10, []), .inr (0, 12, []), .inr (0, 3, []), .inr (3, 8, [11, 13, 15, 17, 19, 21, 23, 25]), .inl (2, [some 12, none, none]), .inr (0, 10, []), .inl (2, [some 14, none, none]), .inr (0, 10, []), .inl (2, [some 16, none, none]), .inr (0, 10, []), .inl (2, [some 18, none, none]), .inr (0, 10, []), .inl (2, [some 20, none, none]), .inr (0, 10, []), .inl (2, [some 22, none, none]), .inr (0, 10, []), .inl (2, [some 24, none, none]), .inr (0, 10, []), .inl (2, [some 26, none, none]), .inr (0, 10, []), .inr (0, 8, []), .inl (1, [some 29, some 30, some 31, none]), .inr (0, 8, []), .inr (0, 8, []), .inr (0, 8, []), .inl (6, [some 33, some 37, some 39, some 40, some 41, some 58, none, some 59]), .inl (0, [some 34, some 35, some 36, none]), .inr (0, 10, []), .inr (0, 10, []), .inr (0, 10, []), .inl (2, [some 38, none, none]), .inr (0, 10, []), .inr (0, 12, []), .inr (0, 3, []), .inr (3, 8, [42, 44, 46, 48, 50, 52, 54, 56]), .inl (2, [some 43, none, none]), .inr (0, 10, []), .inl (2, [some 45, none, none]), .inr (0, 10, []), .inl (2, [some 47, none, none]), .inr (0, 10, []), .inl (2, [some 49, none, none]), .inr (0, 10, []), .inl (2, [some 51, none, none]), .inr (0, 10, []), .inl (2, [some 53, none, none]), .inr (0, 10, []), .inl (2, [some 55, none, none]), .inr (0, 10, []), .inl (2, [some 57, none, none]), .inr (0, 10, []), .inr (0, 8, []), .inl (1, [some 60, some 61, some 62, none]), .inr (0, 8, []), .inr (0, 8, []), .inr (0, 8, []), .inl (7, [some 64, none, none]), .inr (0, 60, []), .inl (4, [some 66, some 67, some 68, some 69, some 70, none, none, none, none, none, none]), .inr (0, 10, []), .inr (0, 10, []), .inr (0, 10, []), .inr (2, 176, []), .inr (0, 1024, []), .inl (3, [some 72, some 73, some 74, none, none]), .inr (0, 216, []), .inr (0, 6, []), .inr (0, 6, []), .inl (2, [some 76, none, none]), .inr (0, 10, []), .inl (0, [some 78, some 79, some 80, none]), .inr (0, 10, []), .inr (0, 10, []), .inr (0, 10, []), .inr (0, 9, []), .inr (0, 10, []), .inr (0, 10, []), .inr (0, 10, []), .inr (4, 4, [86, 88, 90, 92]), .inl (5, [some 87, none, none, none]), .inr (0, 24, []), .inl (5, [some 89, none, none, none]), .inr (0, 24, []), .inl (5, [some 91, none, none, none]), .inr (0, 24, []), .inl (5, [some 93, none, none, none]), .inr (0, 24, [])]
theorem fw_X0 : fw_X[0]? = some (.inl (8, [some 1, some 32, none, some 63, some 65, some 71, some 75, some 77, some 81, some 82, some 83, some 84, some 85])) := rfl
theorem fw_X1 : fw_X[1]? = some (.inl (6, [some 2, some 6, some 8, some 9, some 10, some 27, none, some 28])) := rfl
theorem fw_X2 : fw_X[2]? = some (.inl (0, [some 3, some 4, some 5, none])) := rfl
theorem fw_X3 : fw_X[3]? = some (.inr (0, 10, [])) := rfl
theorem fw_X4 : fw_X[4]? = some (.inr (0, 10, [])) := rfl
theorem fw_X5 : fw_X[5]? = some (.inr (0, 10, [])) := rfl
theorem fw_X6 : fw_X[6]? = some (.inl (2, [some 7, none, none])) := rfl
theorem fw_X7 : fw_X[7]? = some (.inr (0, 10, [])) := rfl
theorem fw_X8 : fw_X[8]? = some (.inr (0, 12, [])) := rfl
theorem fw_X9 : fw_X[9]? = some (.inr (0, 3, [])) := rfl
theorem fw_X10 : fw_X[10]? = some (.inr (3, 8, [11, 13, 15, 17, 19, 21, 23, 25])) := rfl
theorem fw_X11 : fw_X[11]? = some (.inl (2, [some 12, none, none])) := rfl
theorem fw_X12 : fw_X[12]? = some (.inr (0, 10, [])) := rfl
theorem fw_X13 : fw_X[13]? = some (.inl (2, [some 14, none, none])) := rfl
theorem fw_X14 : fw_X[14]? = some (.inr (0, 10, [])) := rfl
theorem fw_X15 : fw_X[15]? = some (.inl (2, [some 16, none, none])) := rfl
theorem fw_X16 : fw_X[16]? = some (.inr (0, 10, [])) := rfl
theorem fw_X17 : fw_X[17]? = some (.inl (2, [some 18, none, none])) := rfl
theorem fw_X18 : fw_X[18]? = some (.inr (0, 10, [])) := rfl
theorem fw_X19 : fw_X[19]? = some (.inl (2, [some 20, none, none])) := rfl
theorem fw_X20 : fw_X[20]? = some (.inr (0, 10, [])) := rfl
theorem fw_X21 : fw_X[21]? = some (.inl (2, [some 22, none, none])) := rfl
theorem fw_X22 : fw_X[22]? = some (.inr (0, 10, [])) := rfl
theorem fw_X23 : fw_X[23]? = some (.inl (2, [some 24, none, none])) := rfl
theorem fw_X24 : fw_X[24]? = some (.inr (0, 10, [])) := rfl
theorem fw_X25 : fw_X[25]? = some (.inl (2, [some 26, none, none])) := rfl
theorem fw_X26 : fw_X[26]? = some (.inr (0, 10, [])) := rfl
theorem fw_X27 : fw_X[27]? = some (.inr (0, 8, [])) := rfl
theorem fw_X28 : fw_X[28]? = some (.inl (1, [some 29, some 30, some 31, none])) := rfl
theorem fw_X29 : fw_X[29]? = some (.inr (0, 8, [])) := rfl
theorem fw_X30 : fw_X[30]? = some (.inr (0, 8, [])) := rfl
theorem fw_X31 : fw_X[31]? = some (.inr (0, 8, [])) := rfl
theorem fw_X32 : fw_X[32]? = some (.inl (6, [some 33, some 37, some 39, some 40, some 41, some 58, none, some 59])) := rfl
theorem fw_X33 : fw_X[33]? = some (.inl (0, [some 34, some 35, some 36, none])) := rfl
theorem fw_X34 : fw_X[34]? = some (.inr (0, 10, [])) := rfl
theorem fw_X35 : fw_X[35]? = some (.inr (0, 10, [])) := rfl
theorem fw_X36 : fw_X[36]? = some (.inr (0, 10, [])) := rfl
theorem fw_X37 : fw_X[37]? = some (.inl (2, [some 38, none, none])) := rfl
theorem fw_X38 : fw_X[38]? = some (.inr (0, 10, [])) := rfl
theorem fw_X39 : fw_X[39]? = some (.inr (0, 12, [])) := rfl
theorem fw_X40 : fw_X[40]? = some (.inr (0, 3, [])) := rfl
theorem fw_X41 : fw_X[41]? = some (.inr (3, 8, [42, 44, 46, 48, 50, 52, 54, 56])) := rfl
theorem fw_X42 : fw_X[42]? = some (.inl (2, [some 43, none, none])) := rfl
theorem fw_X43 : fw_X[43]? = some (.inr (0, 10, [])) := rfl
theorem fw_X44 : fw_X[44]? = some (.inl (2, [some 45, none, none])) := rfl
theorem fw_X45 : fw_X[45]? = some (.inr (0, 10, [])) := rfl
theorem fw_X46 : fw_X[46]? = some (.inl (2, [some 47, none, none])) := rfl
theorem fw_X47 : fw_X[47]? = some (.inr (0, 10, [])) := rfl
theorem fw_X48 : fw_X[48]? = some (.inl (2, [some 49, none, none])) := rfl
theorem fw_X49 : fw_X[49]? = some (.inr (0, 10, [])) := rfl
theorem fw_X50 : fw_X[50]? = some (.inl (2, [some 51, none, none])) := rfl
theorem fw_X51 : fw_X[51]? = some (.inr (0, 10, [])) := rfl
theorem fw_X52 : fw_X[52]? = some (.inl (2, [some 53, none, none])) := rfl
theorem fw_X53 : fw_X[53]? = some (.inr (0, 10, [])) := rfl
theorem fw_X54 : fw_X[54]? = some (.inl (2, [some 55, none, none])) := rfl
theorem fw_X55 : fw_X[55]? = some (.inr (0, 10, [])) := rfl
theorem fw_X56 : fw_X[56]? = some (.inl (2, [some 57, none, none])) := rfl
theorem fw_X57 : fw_X[57]? = some (.inr (0, 10, [])) := rfl
theorem fw_X58 : fw_X[58]? = some (.inr (0, 8, [])) := rfl
theorem fw_X59 : fw_X[59]? = some (.inl (1, [some 60, some 61, some 62, none])) := rfl
theorem fw_X60 : fw_X[60]? = some (.inr (0, 8, [])) := rfl
theorem fw_X61 : fw_X[61]? = some (.inr (0, 8, [])) := rfl
theorem fw_X62 : fw_X[62]? = some (.inr (0, 8, [])) := rfl
theorem fw_X63 : fw_X[63]? = some (.inl (7, [some 64, none, none])) := rfl
theorem fw_X64 : fw_X[64]? = some (.inr (0, 60, [])) := rfl
theorem fw_X65 : fw_X[65]? = some (.inl (4, [some 66, some 67, some 68, some 69, some 70, none, none, none, none, none, none])) := rfl
theorem fw_X66 : fw_X[66]? = some (.inr (0, 10, [])) := rfl
theorem fw_X67 : fw_X[67]? = some (.inr (0, 10, [])) := rfl
theorem fw_X68 : fw_X[68]? = some (.inr (0, 10, [])) := rfl
theorem fw_X69 : fw_X[69]? = some (.inr (2, 176, [])) := rfl
theorem fw_X70 : fw_X[70]? = some (.inr (0, 1024, [])) := rfl
theorem fw_X71 : fw_X[71]? = some (.inl (3, [some 72, some 73, some 74, none, none])) := rfl
theorem fw_X72 : fw_X[72]? = some (.inr (0, 216, [])) := rfl
theorem fw_X73 : fw_X[73]? = some (.inr (0, 6, [])) := rfl
theorem fw_X74 : fw_X[74]? = some (.inr (0, 6, [])) := rfl
theorem fw_X75 : fw_X[75]? = some (.inl (2, [some 76, none, none])) := rfl
theorem fw_X76 : fw_X[76]? = some (.inr (0, 10, [])) := rfl
theorem fw_X77 : fw_X[77]? = some (.inl (0, [some 78, some 79, some 80, none])) := rfl
theorem fw_X78 : fw_X[78]? = some (.inr (0, 10, [])) := rfl
theorem fw_X79 : fw_X[79]? = some (.inr (0, 10, [])) := rfl
theorem fw_X80 : fw_X[80]? = some (.inr (0, 10, [])) := rfl
theorem fw_X81 : fw_X[81]? = some (.inr (0, 9, [])) := rfl
theorem fw_X82 : fw_X[82]? = some (.inr (0, 10, [])) := rfl
theorem fw_X83 : fw_X[83]? = some (.inr (0, 10, [])) := rfl
theorem fw_X84 : fw_X[84]? = some (.inr (0, 10, [])) := rfl
theorem fw_X85 : fw_X[85]? = some (.inr (4, 4, [86, 88, 90, 92])) := rfl
theorem fw_X86 : fw_X[86]? = some (.inl (5, [some 87, none, none, none])) := rfl
theorem fw_X87 : fw_X[87]? = some (.inr (0, 24, [])) := rfl
theorem fw_X88 : fw_X[88]? = some (.inl (5, [some 89, none, none, none])) := rfl
theorem fw_X89 : fw_X[89]? = some (.inr (0, 24, [])) := rfl
theorem fw_X90 : fw_X[90]? = some (.inl (5, [some 91, none, none, none])) := rfl
theorem fw_X91 : fw_X[91]? = some (.inr (0, 24, [])) := rfl
theorem fw_X92 : fw_X[92]? = some (.inl (5, [some 93, none, none, none])) := rfl
theorem fw_X93 : fw_X[93]? = some (.inr (0, 24, [])) := rfl
def fw_Mo : List fw_K := [.inl (9, [none, some 1, some 2, some 3, some 4, some 5, none, some 6, none, none, some 7, none, some 8, some 9, some 10, none, none, none, some 11, some 12, some 13, none, some 14, some 15, some 16, some 17, some 18, some 19, some 20, some 21, some 22, some 23, none, some 24, some 25, some 26, some 27]), .inr (0, 10, []), .inr (0, 10, []), .inr (0, 10, []), .inr (0, 12, []), .inr (0, 3, []), .inr (0, 10, []), .inr (0, 104, []), .inr (0, 8, []), .inr (0, 8, []), .inr (0, 60, []), .inr (0, 30, []), .inr (1, 11264, []), .inr (0, 11264, []), .inr (0, 10, []), .inr (1, 1024, []), .inr (0, 1024, []), .inr (0, 10, []), .inr (0, 6, []), .inr (0, 6, []), .inr (0, 10, []), .inr (0, 10, []), .inr (0, 12, []), .inr (0, 190, []), .inr (0, 4, []), .inr (0, 4, []), .inr (0, 96, []), .inr (0, 24, [])]
theorem fw_Mo0 : fw_Mo[0]? = some (.inl (9, [none, some 1, some 2, some 3, some 4, some 5, none, some 6, none, none, some 7, none, some 8, some 9, some 10, none, none, none, some 11, some 12, some 13, none, some 14, some 15, some 16, some 17, some 18, some 19, some 20, some 21, some 22, some 23, none, some 24, some 25, some 26, some 27])) := rfl
theorem fw_Mo1 : fw_Mo[1]? = some (.inr (0, 10, [])) := rfl
theorem fw_Mo2 : fw_Mo[2]? = some (.inr (0, 10, [])) := rfl
theorem fw_Mo3 : fw_Mo[3]? = some (.inr (0, 10, [])) := rfl
theorem fw_Mo4 : fw_Mo[4]? = some (.inr (0, 12, [])) := rfl
theorem fw_Mo5 : fw_Mo[5]? = some (.inr (0, 3, [])) := rfl
theorem fw_Mo6 : fw_Mo[6]? = some (.inr (0, 10, [])) := rfl
theorem fw_Mo7 : fw_Mo[7]? = some (.inr (0, 104, [])) := rfl
theorem fw_Mo8 : fw_Mo[8]? = some (.inr (0, 8, [])) := rfl
theorem fw_Mo9 : fw_Mo[9]? = some (.inr (0, 8, [])) := rfl
theorem fw_Mo10 : fw_Mo[10]? = some (.inr (0, 60, [])) := rfl
theorem fw_Mo11 : fw_Mo[11]? = some (.inr (0, 30, [])) := rfl
theorem fw_Mo12 : fw_Mo[12]? = some (.inr (1, 11264, [])) := rfl
theorem fw_Mo13 : fw_Mo[13]? = some (.inr (0, 11264, [])) := rfl
theorem fw_Mo14 : fw_Mo[14]? = some (.inr (0, 10, [])) := rfl
theorem fw_Mo15 : fw_Mo[15]? = some (.inr (1, 1024, [])) := rfl
theorem fw_Mo16 : fw_Mo[16]? = some (.inr (0, 1024, [])) := rfl
theorem fw_Mo17 : fw_Mo[17]? = some (.inr (0, 10, [])) := rfl
theorem fw_Mo18 : fw_Mo[18]? = some (.inr (0, 6, [])) := rfl
theorem fw_Mo19 : fw_Mo[19]? = some (.inr (0, 6, [])) := rfl
theorem fw_Mo20 : fw_Mo[20]? = some (.inr (0, 10, [])) := rfl
theorem fw_Mo21 : fw_Mo[21]? = some (.inr (0, 10, [])) := rfl
theorem fw_Mo22 : fw_Mo[22]? = some (.inr (0, 12, [])) := rfl
theorem fw_Mo23 : fw_Mo[23]? = some (.inr (0, 190, [])) := rfl
theorem fw_Mo24 : fw_Mo[24]? = some (.inr (0, 4, [])) := rfl
theorem fw_Mo25 : fw_Mo[25]? = some (.inr (0, 4, [])) := rfl
theorem fw_Mo26 : fw_Mo[26]? = some (.inr (0, 96, [])) := rfl
theorem fw_Mo27 : fw_Mo[27]? = some (.inr (0, 24, [])) := rfl
abbrev fw_okL (t : Nat) : Prop := fw_X[t]? = some (.inl (2, [some (t + 1), none, none])) ∧ fw_X[t + 1]? = some (.inr (0, 10, []))
abbrev fw_okS (t : Nat) : Prop := fw_X[t]? = some (.inl (5, [some (t + 1), none, none, none])) ∧ fw_X[t + 1]? = some (.inr (0, 24, []))
theorem fw_bz0 : fw_bz 0 = some 0 := by decide
theorem fw_bz1 : fw_bz 1 = some 1 := by decide
theorem fw_icm1 : Int32.ofInt (-1) = (-1) := by decide
theorem fw_ic0 : Int32.ofInt (0) = 0 := by decide
theorem fw_ic1 : Int32.ofInt (1) = 1 := by decide
theorem fw_ic2 : Int32.ofInt (2) = 2 := by decide
theorem fw_ic3 : Int32.ofInt (3) = 3 := by decide
theorem fw_ic4 : Int32.ofInt (4) = 4 := by decide
theorem fw_bpm20 : (Int8.ofInt (-20)).toInt32 = (-20) := by decide
theorem fw_bpm14 : (Int8.ofInt (-14)).toInt32 = (-14) := by decide
theorem fw_bpm13 : (Int8.ofInt (-13)).toInt32 = (-13) := by decide
theorem fw_bpm12 : (Int8.ofInt (-12)).toInt32 = (-12) := by decide
theorem fw_bpm11 : (Int8.ofInt (-11)).toInt32 = (-11) := by decide
theorem fw_bpm4 : (Int8.ofInt (-4)).toInt32 = (-4) := by decide
theorem fw_bpm3 : (Int8.ofInt (-3)).toInt32 = (-3) := by decide
theorem fw_bpm2 : (Int8.ofInt (-2)).toInt32 = (-2) := by decide
theorem fw_bp6 : (Int8.ofInt (6)).toInt32 = 6 := by decide
theorem fw_bp8 : (Int8.ofInt (8)).toInt32 = 8 := by decide
theorem fw_bp9 : (Int8.ofInt (9)).toInt32 = 9 := by decide
theorem fw_bp10 : (Int8.ofInt (10)).toInt32 = 10 := by decide
theorem fw_bp11 : (Int8.ofInt (11)).toInt32 = 11 := by decide
theorem fw_bp12 : (Int8.ofInt (12)).toInt32 = 12 := by decide
theorem fw_bp13 : (Int8.ofInt (13)).toInt32 = 13 := by decide
theorem fw_bp16 : (Int8.ofInt (16)).toInt32 = 16 := by decide
theorem fw_bp24 : (Int8.ofInt (24)).toInt32 = 24 := by decide
theorem fw_bp32 : (Int8.ofInt (32)).toInt32 = 32 := by decide
theorem fw_bp44 : (Int8.ofInt (44)).toInt32 = 44 := by decide
theorem fw_bp48 : (Int8.ofInt (48)).toInt32 = 48 := by decide
theorem fw_bp49 : (Int8.ofInt (49)).toInt32 = 49 := by decide
theorem fw_bp57 : (Int8.ofInt (57)).toInt32 = 57 := by decide
theorem fw_bp60 : (Int8.ofInt (60)).toInt32 = 60 := by decide
theorem fw_bp63 : (Int8.ofInt (63)).toInt32 = 63 := by decide
theorem fw_bp95 : (Int8.ofInt (95)).toInt32 = 95 := by decide
theorem fw_bp97 : (Int8.ofInt (97)).toInt32 = 97 := by decide
theorem fw_bp98 : (Int8.ofInt (98)).toInt32 = 98 := by decide
theorem fw_bp99 : (Int8.ofInt (99)).toInt32 = 99 := by decide
theorem fw_bp108 : (Int8.ofInt (108)).toInt32 = 108 := by decide
theorem fw_bp109 : (Int8.ofInt (109)).toInt32 = 109 := by decide
theorem fw_bp110 : (Int8.ofInt (110)).toInt32 = 110 := by decide
theorem fw_bp116 : (Int8.ofInt (116)).toInt32 = 116 := by decide
theorem fw_bp126 : (Int8.ofInt (126)).toInt32 = 126 := by decide
theorem fw_sp200 : (Int16.ofInt (200)).toInt32 = 200 := by decide
theorem fw_sp1000 : (Int16.ofInt (1000)).toInt32 = 1000 := by decide
theorem fw_sp1024 : (Int16.ofInt (1024)).toInt32 = 1024 := by decide
theorem fw_ti {x c : Int32} (h : ¬ x = c) : x.toInt ≠ c.toInt := fun e => h (Int32.toInt_inj.mp e)
theorem fw_sw0_2 {x : Int32} : x.toInt ≠ (0 : Int32).toInt → x.toInt ≠ (1 : Int32).toInt → x.toInt ≠ (2 : Int32).toInt → x.toInt < 0 ∨ 2 < x.toInt := by
  intro g0 g1 g2
  have e0 : (0 : Int32).toInt = 0 := by decide
  have e1 : (1 : Int32).toInt = 1 := by decide
  have e2 : (2 : Int32).toInt = 2 := by decide
  omega
theorem fw_sw0_3 {x : Int32} : x.toInt ≠ (0 : Int32).toInt → x.toInt ≠ (1 : Int32).toInt → x.toInt ≠ (2 : Int32).toInt → x.toInt ≠ (3 : Int32).toInt → x.toInt < 0 ∨ 3 < x.toInt := by
  intro g0 g1 g2 g3
  have e0 : (0 : Int32).toInt = 0 := by decide
  have e1 : (1 : Int32).toInt = 1 := by decide
  have e2 : (2 : Int32).toInt = 2 := by decide
  have e3 : (3 : Int32).toInt = 3 := by decide
  omega
theorem fw_sw0_4 {x : Int32} : x.toInt ≠ (0 : Int32).toInt → x.toInt ≠ (1 : Int32).toInt → x.toInt ≠ (2 : Int32).toInt → x.toInt ≠ (3 : Int32).toInt → x.toInt ≠ (4 : Int32).toInt → x.toInt < 0 ∨ 4 < x.toInt := by
  intro g0 g1 g2 g3 g4
  have e0 : (0 : Int32).toInt = 0 := by decide
  have e1 : (1 : Int32).toInt = 1 := by decide
  have e2 : (2 : Int32).toInt = 2 := by decide
  have e3 : (3 : Int32).toInt = 3 := by decide
  have e4 : (4 : Int32).toInt = 4 := by decide
  omega
theorem fw_lk_kindOf_1 {x : Int32} : x.toInt ≠ (109 : Int32).toInt → x.toInt ≠ (110 : Int32).toInt → x.toInt ≠ (116 : Int32).toInt → Op.lookupswitch.offset (#[(109, 39), (110, 37), (116, 35)] : Array (Int × Int)).toList 41 x.toInt = 41 := by
  intro g0 g1 g2
  rw [show (109 : Int32).toInt = 109 by decide] at g0
  rw [show (110 : Int32).toInt = 110 by decide] at g1
  rw [show (116 : Int32).toInt = 116 by decide] at g2
  simp only [Op.lookupswitch.offset]
  rw [if_neg (Ne.symm g0), if_neg (Ne.symm g1), if_neg (Ne.symm g2)]
section FWI
variable {own : String} {cc : ByteArray} {nL : Nat} {rty : Option FieldType} {sh : List fw_K} {d : Nat} {rt : Option Int32} {μ1 : fw_M} {pc : Nat} {lv : List (Nat × Value)} {st : List Value} {μ : fw_M}
theorem fw_iinc2 {i j : Nat} {n : Int} {x v c : Int32} {lv1 : List (Nat × Value)} (hd : decode cc pc = .ok (.iinc i n, 3)) (hj : lv[j]? = some (i, .int x)) (hc : Int32.ofInt n = c) (hv : v = x + c) (hn : i < nL) (h : (i, Value.int v) :: lv.filter (fun q => !(q.1 == i) && !(q.1 + 1 == i && q.2.category == 2)) = lv1) (kk : fw_R own cc nL rty sh d rt μ1 (pc + 3) lv1 st μ) : fw_R own cc nL rty sh d rt μ1 pc lv st μ := fw_iinc hd hj (hc ▸ hv) hn h kk
end FWI
end
section
abbrev Y_X_isLetter : fw_Y := (⟨"FewTypes", "isLetter", "(I)Z"⟩, prog_1_method_34_code, 1, (some .boolean))
abbrev Y_Case_fits : fw_Y := (⟨"FewTypes$Case", "fits", "(III)Z"⟩, prog_2_method_2_code, 3, (some .boolean))
abbrev Y_Case_add : fw_Y := (⟨"FewTypes$Case", "add", "(III)V"⟩, prog_2_method_4_code, 4, none)
abbrev Y_Arrays_fill : fw_Y := (⟨"java/util/Arrays", "fill", "([II)V"⟩, prog_15_method_103_code, 4, none)
abbrev Y_X_forgetPulls : fw_Y := (⟨"FewTypes", "forgetPulls", "()V"⟩, prog_1_method_42_code, 1, none)
abbrev Y_X_cast : fw_Y := (⟨"FewTypes", "cast", "(III)I"⟩, prog_1_method_2_code, 4, (some .int))
abbrev Y_Case_has : fw_Y := (⟨"FewTypes$Case", "has", "(I)Z"⟩, prog_2_method_3_code, 2, (some .boolean))
abbrev Y_X_told : fw_Y := (⟨"FewTypes", "told", "(II)I"⟩, prog_1_method_3_code, 3, (some .int))
abbrev Y_Case_remove : fw_Y := (⟨"FewTypes$Case", "remove", "(I)V"⟩, prog_2_method_5_code, 3, none)
abbrev Y_X_lose : fw_Y := (⟨"FewTypes", "lose", "(I)I"⟩, prog_1_method_4_code, 2, (some .int))
abbrev Y_X_width : fw_Y := (⟨"FewTypes", "width", "(II)I"⟩, prog_1_method_5_code, 4, (some .int))
abbrev Y_X_rule : fw_Y := (⟨"FewTypes", "rule", "(II)I"⟩, prog_1_method_6_code, 4, (some .int))
abbrev Y_Tape_byteOf : fw_Y := (⟨"FewTypes$Tape", "byteOf", "(JI)I"⟩, prog_9_method_3_code, 3, (some .int))
abbrev Y_Tape_takes : fw_Y := (⟨"FewTypes$Tape", "takes", "(JI)Z"⟩, prog_9_method_2_code, 5, (some .boolean))
abbrev Y_Tape_add : fw_Y := (⟨"FewTypes$Tape", "add", "(JI)V"⟩, prog_9_method_4_code, 5, none)
abbrev Y_X_type : fw_Y := (⟨"FewTypes", "type", "(JI)I"⟩, prog_1_method_7_code, 4, (some .int))
abbrev Y_Line_empty : fw_Y := (⟨"FewTypes$Line", "empty", "()V"⟩, prog_4_method_3_code, 1, none)
abbrev Y_Tape_nextSign : fw_Y := (⟨"FewTypes$Tape", "nextSign", "()I"⟩, prog_9_method_9_code, 1, (some .int))
abbrev Y_Tape_fault : fw_Y := (⟨"FewTypes$Tape", "fault", "()I"⟩, prog_9_method_10_code, 1, (some .int))
abbrev Y_Line_add : fw_Y := (⟨"FewTypes$Line", "add", "(IZ)V"⟩, prog_4_method_4_code, 3, none)
theorem ms_X_78 : fw_MS "FewTypes" 78 Y_Case_fits 3 := ⟨fw_m 357 (by decide +kernel) (by decide +kernel), fw_m 358 (by decide +kernel) (by decide +kernel), fw_m 61 (by decide +kernel) (by decide +kernel), fw_m 359 (by decide +kernel) (by decide +kernel), ⟨by decide +kernel, by decide +kernel, by decide +kernel⟩, by decide⟩
theorem ms_Case_25 : fw_MN "FewTypes$Case" 25 Y_X_isLetter 1 := ⟨by decide +kernel, fw_m 361 (by decide +kernel) (by decide +kernel), fw_m 59 (by decide +kernel) (by decide +kernel), fw_m 362 (by decide +kernel) (by decide +kernel), ⟨by decide +kernel, by decide +kernel, by decide +kernel⟩, by decide⟩
theorem fl_X_12 : fw_FL "FewTypes" 12 8 0 := ⟨_, _, _, rfl, fw_i8, by decide, fw_m 313 (by decide +kernel) (by decide +kernel)⟩
theorem fl_X_82 : fw_FL "FewTypes" 82 6 0 := ⟨_, _, _, rfl, fw_i6, by decide, fw_m 168 (by decide +kernel) (by decide +kernel)⟩
theorem fl_X_85 : fw_FL "FewTypes" 85 0 3 := ⟨_, _, _, rfl, fw_i0, by decide, fw_m 101 (by decide +kernel) (by decide +kernel)⟩
theorem mv_X_89 : fw_MV "FewTypes" 89 Y_Case_add 0 3 := ⟨fw_m 363 (by decide +kernel) (by decide +kernel), fw_m 364 (by decide +kernel) (by decide +kernel), fw_m 365 (by decide +kernel) (by decide +kernel), fw_m 61 (by decide +kernel) (by decide +kernel), fw_m 366 (by decide +kernel) (by decide +kernel), ⟨by decide +kernel, by decide +kernel, by decide +kernel⟩, by decide, _, _, rfl⟩
theorem fl_Case_21 : fw_FL "FewTypes$Case" 21 0 3 := ⟨_, _, _, rfl, fw_i0, by decide, fw_m 100 (by decide +kernel) (by decide +kernel)⟩
theorem fl_Case_9 : fw_FL "FewTypes$Case" 9 0 0 := ⟨_, _, _, rfl, fw_i0, by decide, fw_m 93 (by decide +kernel) (by decide +kernel)⟩
theorem fl_Case_15 : fw_FL "FewTypes$Case" 15 0 1 := ⟨_, _, _, rfl, fw_i0, by decide, fw_m 96 (by decide +kernel) (by decide +kernel)⟩
theorem fl_Case_18 : fw_FL "FewTypes$Case" 18 0 2 := ⟨_, _, _, rfl, fw_i0, by decide, fw_m 98 (by decide +kernel) (by decide +kernel)⟩
theorem fp_Case_21 : fw_FP "FewTypes$Case" 21 0 3 .int := ⟨_, _, _, fw_t0, rfl, fw_i0, by decide, fw_m 100 (by decide +kernel) (by decide +kernel), fw_k0, fw_n0, rfl, by decide +kernel⟩
theorem mv_X_93 : fw_MV "FewTypes" 93 Y_X_forgetPulls 8 0 := ⟨fw_m 367 (by decide +kernel) (by decide +kernel), fw_m 369 (by decide +kernel) (by decide +kernel), fw_m 0 (by decide +kernel) (by decide +kernel), fw_m 59 (by decide +kernel) (by decide +kernel), fw_m 370 (by decide +kernel) (by decide +kernel), ⟨by decide +kernel, by decide +kernel, by decide +kernel⟩, by decide, _, _, rfl⟩
theorem fl_X_58 : fw_FL "FewTypes" 58 8 8 := ⟨_, _, _, rfl, fw_i8, by decide, fw_m 321 (by decide +kernel) (by decide +kernel)⟩
theorem ms_X_304 : fw_MS "FewTypes" 304 Y_Arrays_fill 2 := ⟨fw_m 371 (by decide +kernel) (by decide +kernel), fw_m 160 (by decide +kernel) (by decide +kernel), fw_m 64 (by decide +kernel) (by decide +kernel), fw_m 161 (by decide +kernel) (by decide +kernel), ⟨by decide +kernel, by decide +kernel, by decide +kernel⟩, by decide⟩
theorem mv_X_96 : fw_MV "FewTypes" 96 Y_Case_has 0 1 := ⟨fw_m 376 (by decide +kernel) (by decide +kernel), fw_m 377 (by decide +kernel) (by decide +kernel), fw_m 378 (by decide +kernel) (by decide +kernel), fw_m 61 (by decide +kernel) (by decide +kernel), fw_m 379 (by decide +kernel) (by decide +kernel), ⟨by decide +kernel, by decide +kernel, by decide +kernel⟩, by decide, _, _, rfl⟩
theorem fl_X_100 : fw_FL "FewTypes" 100 0 0 := ⟨_, _, _, rfl, fw_i0, by decide, fw_m 95 (by decide +kernel) (by decide +kernel)⟩
theorem fl_X_103 : fw_FL "FewTypes" 103 0 1 := ⟨_, _, _, rfl, fw_i0, by decide, fw_m 97 (by decide +kernel) (by decide +kernel)⟩
theorem fl_X_106 : fw_FL "FewTypes" 106 0 2 := ⟨_, _, _, rfl, fw_i0, by decide, fw_m 99 (by decide +kernel) (by decide +kernel)⟩
theorem mv_X_109 : fw_MV "FewTypes" 109 Y_Case_remove 0 1 := ⟨fw_m 384 (by decide +kernel) (by decide +kernel), fw_m 385 (by decide +kernel) (by decide +kernel), fw_m 386 (by decide +kernel) (by decide +kernel), fw_m 61 (by decide +kernel) (by decide +kernel), fw_m 387 (by decide +kernel) (by decide +kernel), ⟨by decide +kernel, by decide +kernel, by decide +kernel⟩, by decide, _, _, rfl⟩
theorem mv_Case_29 : fw_MV "FewTypes$Case" 29 Y_Case_has 0 1 := ⟨fw_m 388 (by decide +kernel) (by decide +kernel), fw_m 377 (by decide +kernel) (by decide +kernel), fw_m 378 (by decide +kernel) (by decide +kernel), fw_m 61 (by decide +kernel) (by decide +kernel), fw_m 379 (by decide +kernel) (by decide +kernel), ⟨by decide +kernel, by decide +kernel, by decide +kernel⟩, by decide, _, _, rfl⟩
theorem ms_X_113 : fw_MS "FewTypes" 113 Y_X_isLetter 1 := ⟨fw_m 393 (by decide +kernel) (by decide +kernel), fw_m 361 (by decide +kernel) (by decide +kernel), fw_m 59 (by decide +kernel) (by decide +kernel), fw_m 362 (by decide +kernel) (by decide +kernel), ⟨by decide +kernel, by decide +kernel, by decide +kernel⟩, by decide⟩
theorem fl_X_116 : fw_FL "FewTypes" 116 6 2 := ⟨_, _, _, rfl, fw_i6, by decide, fw_m 174 (by decide +kernel) (by decide +kernel)⟩
theorem gs_X_119 : Cond.fieldLink "FewTypes" 119 "FewTypes" "RULE_LEAST" "[I" ∈ fw_tb := fw_m 398 (by decide +kernel) (by decide +kernel)
theorem gs_X_122 : Cond.fieldLink "FewTypes" 122 "FewTypes" "RULE_MOST" "[I" ∈ fw_tb := fw_m 400 (by decide +kernel) (by decide +kernel)
theorem fl_X_125 : fw_FL "FewTypes" 125 6 3 := ⟨_, _, _, rfl, fw_i6, by decide, fw_m 177 (by decide +kernel) (by decide +kernel)⟩
theorem ms_X_128 : fw_MS "FewTypes" 128 Y_Tape_takes 2 := ⟨fw_m 406 (by decide +kernel) (by decide +kernel), fw_m 407 (by decide +kernel) (by decide +kernel), fw_m 66 (by decide +kernel) (by decide +kernel), fw_m 408 (by decide +kernel) (by decide +kernel), ⟨by decide +kernel, by decide +kernel, by decide +kernel⟩, by decide⟩
theorem ms_Tape_22 : fw_MS "FewTypes$Tape" 22 Y_Tape_byteOf 2 := ⟨fw_m 409 (by decide +kernel) (by decide +kernel), fw_m 410 (by decide +kernel) (by decide +kernel), fw_m 66 (by decide +kernel) (by decide +kernel), fw_m 411 (by decide +kernel) (by decide +kernel), ⟨by decide +kernel, by decide +kernel, by decide +kernel⟩, by decide⟩
theorem cl_Tape_26 : Cond.constantLong "FewTypes$Tape" 26 255 ∈ fw_tb := fw_m 412 (by decide +kernel) (by decide +kernel)
theorem fl_X_26 : fw_FL "FewTypes" 26 8 3 := ⟨_, _, _, rfl, fw_i8, by decide, fw_m 316 (by decide +kernel) (by decide +kernel)⟩
theorem fl_X_132 : fw_FL "FewTypes" 132 7 1 := ⟨_, _, _, rfl, fw_i7, by decide, fw_m 211 (by decide +kernel) (by decide +kernel)⟩
theorem mv_X_133 : fw_MV "FewTypes" 133 Y_Tape_add 7 2 := ⟨fw_m 413 (by decide +kernel) (by decide +kernel), fw_m 414 (by decide +kernel) (by decide +kernel), fw_m 415 (by decide +kernel) (by decide +kernel), fw_m 66 (by decide +kernel) (by decide +kernel), fw_m 416 (by decide +kernel) (by decide +kernel), ⟨by decide +kernel, by decide +kernel, by decide +kernel⟩, by decide, _, _, rfl⟩
theorem fl_Tape_15 : fw_FL "FewTypes$Tape" 15 7 1 := ⟨_, _, _, rfl, fw_i7, by decide, fw_m 210 (by decide +kernel) (by decide +kernel)⟩
theorem fl_Tape_9 : fw_FL "FewTypes$Tape" 9 7 0 := ⟨_, _, _, rfl, fw_i7, by decide, fw_m 209 (by decide +kernel) (by decide +kernel)⟩
theorem fp_Tape_15 : fw_FP "FewTypes$Tape" 15 7 1 .int := ⟨_, _, _, fw_t7, rfl, fw_i7, by decide, fw_m 210 (by decide +kernel) (by decide +kernel), fw_k7, fw_n7, rfl, by decide +kernel⟩
theorem fp_Tape_19 : fw_FP "FewTypes$Tape" 19 7 2 .int := ⟨_, _, _, fw_t7, rfl, fw_i7, by decide, fw_m 212 (by decide +kernel) (by decide +kernel), fw_k7, fw_n7, rfl, by decide +kernel⟩
theorem fp_Line_15 : fw_FP "FewTypes$Line" 15 2 1 .int := ⟨_, _, _, fw_t2, rfl, fw_i2, by decide, fw_m 124 (by decide +kernel) (by decide +kernel), fw_k2, fw_n2, rfl, by decide +kernel⟩
theorem fp_Line_19 : fw_FP "FewTypes$Line" 19 2 2 .int := ⟨_, _, _, fw_t2, rfl, fw_i2, by decide, fw_m 129 (by decide +kernel) (by decide +kernel), fw_k2, fw_n2, rfl, by decide +kernel⟩
theorem fl_Tape_19 : fw_FL "FewTypes$Tape" 19 7 2 := ⟨_, _, _, rfl, fw_i7, by decide, fw_m 212 (by decide +kernel) (by decide +kernel)⟩
theorem fl_Line_15 : fw_FL "FewTypes$Line" 15 2 1 := ⟨_, _, _, rfl, fw_i2, by decide, fw_m 124 (by decide +kernel) (by decide +kernel)⟩
theorem fl_Line_19 : fw_FL "FewTypes$Line" 19 2 2 := ⟨_, _, _, rfl, fw_i2, by decide, fw_m 129 (by decide +kernel) (by decide +kernel)⟩
theorem fl_Line_9 : fw_FL "FewTypes$Line" 9 2 0 := ⟨_, _, _, rfl, fw_i2, by decide, fw_m 120 (by decide +kernel) (by decide +kernel)⟩
theorem d_X_isLetter_0 : decode prog_1_method_34_code 0 = .ok (.iload_n 0, 1) := by decide +kernel
theorem d_X_isLetter_1 : decode prog_1_method_34_code 1 = .ok (.ifCond .lt 13, 3) := by decide +kernel
theorem d_X_isLetter_4 : decode prog_1_method_34_code 4 = .ok (.iload_n 0, 1) := by decide +kernel
theorem d_X_isLetter_5 : decode prog_1_method_34_code 5 = .ok (.bipush 12, 2) := by decide +kernel
theorem d_X_isLetter_7 : decode prog_1_method_34_code 7 = .ok (.if_icmp .ge 7, 3) := by decide +kernel
theorem d_X_isLetter_10 : decode prog_1_method_34_code 10 = .ok (.iconst 1, 1) := by decide +kernel
theorem d_X_isLetter_11 : decode prog_1_method_34_code 11 = .ok (.goto 4, 3) := by decide +kernel
theorem d_X_isLetter_14 : decode prog_1_method_34_code 14 = .ok (.iconst 0, 1) := by decide +kernel
theorem d_X_isLetter_15 : decode prog_1_method_34_code 15 = .ok (.ireturn, 1) := by decide +kernel
theorem d_Case_fits_0 : decode prog_2_method_2_code 0 = .ok (.iload_n 1, 1) := by decide +kernel
theorem d_Case_fits_1 : decode prog_2_method_2_code 1 = .ok (.invokestatic 25, 3) := by decide +kernel
theorem d_Case_fits_4 : decode prog_2_method_2_code 4 = .ok (.ifCond .ne 5, 3) := by decide +kernel
theorem d_Case_fits_7 : decode prog_2_method_2_code 7 = .ok (.iconst 0, 1) := by decide +kernel
theorem d_Case_fits_8 : decode prog_2_method_2_code 8 = .ok (.ireturn, 1) := by decide +kernel
theorem d_Case_fits_9 : decode prog_2_method_2_code 9 = .ok (.iload_n 0, 1) := by decide +kernel
theorem d_Case_fits_10 : decode prog_2_method_2_code 10 = .ok (.tableswitch 80 0 3 #[30, 40, 58, 63], 30) := by decide +kernel
theorem d_Case_fits_40 : decode prog_2_method_2_code 40 = .ok (.iload_n 2, 1) := by decide +kernel
theorem d_Case_fits_41 : decode prog_2_method_2_code 41 = .ok (.ifCond .ne 7, 3) := by decide +kernel
theorem d_Case_fits_44 : decode prog_2_method_2_code 44 = .ok (.iconst 1, 1) := by decide +kernel
theorem d_Case_fits_45 : decode prog_2_method_2_code 45 = .ok (.goto 4, 3) := by decide +kernel
theorem d_Case_fits_48 : decode prog_2_method_2_code 48 = .ok (.iconst 0, 1) := by decide +kernel
theorem d_Case_fits_49 : decode prog_2_method_2_code 49 = .ok (.ireturn, 1) := by decide +kernel
theorem d_Case_fits_50 : decode prog_2_method_2_code 50 = .ok (.iload_n 2, 1) := by decide +kernel
theorem d_Case_fits_51 : decode prog_2_method_2_code 51 = .ok (.invokestatic 25, 3) := by decide +kernel
theorem d_Case_fits_54 : decode prog_2_method_2_code 54 = .ok (.ifCond .eq 12, 3) := by decide +kernel
theorem d_Case_fits_57 : decode prog_2_method_2_code 57 = .ok (.iload_n 2, 1) := by decide +kernel
theorem d_Case_fits_58 : decode prog_2_method_2_code 58 = .ok (.iload_n 1, 1) := by decide +kernel
theorem d_Case_fits_59 : decode prog_2_method_2_code 59 = .ok (.if_icmp .eq 7, 3) := by decide +kernel
theorem d_Case_fits_62 : decode prog_2_method_2_code 62 = .ok (.iconst 1, 1) := by decide +kernel
theorem d_Case_fits_63 : decode prog_2_method_2_code 63 = .ok (.goto 4, 3) := by decide +kernel
theorem d_Case_fits_66 : decode prog_2_method_2_code 66 = .ok (.iconst 0, 1) := by decide +kernel
theorem d_Case_fits_67 : decode prog_2_method_2_code 67 = .ok (.ireturn, 1) := by decide +kernel
theorem d_Case_fits_68 : decode prog_2_method_2_code 68 = .ok (.iload_n 2, 1) := by decide +kernel
theorem d_Case_fits_69 : decode prog_2_method_2_code 69 = .ok (.invokestatic 25, 3) := by decide +kernel
theorem d_Case_fits_72 : decode prog_2_method_2_code 72 = .ok (.ireturn, 1) := by decide +kernel
theorem d_Case_fits_73 : decode prog_2_method_2_code 73 = .ok (.iload_n 2, 1) := by decide +kernel
theorem d_Case_fits_74 : decode prog_2_method_2_code 74 = .ok (.iconst 1, 1) := by decide +kernel
theorem d_Case_fits_75 : decode prog_2_method_2_code 75 = .ok (.if_icmp .lt 13, 3) := by decide +kernel
theorem d_Case_fits_78 : decode prog_2_method_2_code 78 = .ok (.iload_n 2, 1) := by decide +kernel
theorem d_Case_fits_79 : decode prog_2_method_2_code 79 = .ok (.bipush 9, 2) := by decide +kernel
theorem d_Case_fits_81 : decode prog_2_method_2_code 81 = .ok (.if_icmp .gt 7, 3) := by decide +kernel
theorem d_Case_fits_84 : decode prog_2_method_2_code 84 = .ok (.iconst 1, 1) := by decide +kernel
theorem d_Case_fits_85 : decode prog_2_method_2_code 85 = .ok (.goto 4, 3) := by decide +kernel
theorem d_Case_fits_88 : decode prog_2_method_2_code 88 = .ok (.iconst 0, 1) := by decide +kernel
theorem d_Case_fits_89 : decode prog_2_method_2_code 89 = .ok (.ireturn, 1) := by decide +kernel
theorem d_Case_fits_90 : decode prog_2_method_2_code 90 = .ok (.iconst 0, 1) := by decide +kernel
theorem d_Case_fits_91 : decode prog_2_method_2_code 91 = .ok (.ireturn, 1) := by decide +kernel
theorem d_Case_add_0 : decode prog_2_method_4_code 0 = .ok (.aload_n 0, 1) := by decide +kernel
theorem d_Case_add_1 : decode prog_2_method_4_code 1 = .ok (.getfield 21, 3) := by decide +kernel
theorem d_Case_add_4 : decode prog_2_method_4_code 4 = .ok (.bipush 10, 2) := by decide +kernel
theorem d_Case_add_6 : decode prog_2_method_4_code 6 = .ok (.if_icmp .ge 43, 3) := by decide +kernel
theorem d_Case_add_9 : decode prog_2_method_4_code 9 = .ok (.aload_n 0, 1) := by decide +kernel
theorem d_Case_add_10 : decode prog_2_method_4_code 10 = .ok (.getfield 9, 3) := by decide +kernel
theorem d_Case_add_13 : decode prog_2_method_4_code 13 = .ok (.aload_n 0, 1) := by decide +kernel
theorem d_Case_add_14 : decode prog_2_method_4_code 14 = .ok (.getfield 21, 3) := by decide +kernel
theorem d_Case_add_17 : decode prog_2_method_4_code 17 = .ok (.iload_n 1, 1) := by decide +kernel
theorem d_Case_add_18 : decode prog_2_method_4_code 18 = .ok (.iastore, 1) := by decide +kernel
theorem d_Case_add_19 : decode prog_2_method_4_code 19 = .ok (.aload_n 0, 1) := by decide +kernel
theorem d_Case_add_20 : decode prog_2_method_4_code 20 = .ok (.getfield 15, 3) := by decide +kernel
theorem d_Case_add_23 : decode prog_2_method_4_code 23 = .ok (.aload_n 0, 1) := by decide +kernel
theorem d_Case_add_24 : decode prog_2_method_4_code 24 = .ok (.getfield 21, 3) := by decide +kernel
theorem d_Case_add_27 : decode prog_2_method_4_code 27 = .ok (.iload_n 2, 1) := by decide +kernel
theorem d_Case_add_28 : decode prog_2_method_4_code 28 = .ok (.iastore, 1) := by decide +kernel
theorem d_Case_add_29 : decode prog_2_method_4_code 29 = .ok (.aload_n 0, 1) := by decide +kernel
theorem d_Case_add_30 : decode prog_2_method_4_code 30 = .ok (.getfield 18, 3) := by decide +kernel
theorem d_Case_add_33 : decode prog_2_method_4_code 33 = .ok (.aload_n 0, 1) := by decide +kernel
theorem d_Case_add_34 : decode prog_2_method_4_code 34 = .ok (.getfield 21, 3) := by decide +kernel
theorem d_Case_add_37 : decode prog_2_method_4_code 37 = .ok (.iload_n 3, 1) := by decide +kernel
theorem d_Case_add_38 : decode prog_2_method_4_code 38 = .ok (.iastore, 1) := by decide +kernel
theorem d_Case_add_39 : decode prog_2_method_4_code 39 = .ok (.aload_n 0, 1) := by decide +kernel
theorem d_Case_add_40 : decode prog_2_method_4_code 40 = .ok (.dup, 1) := by decide +kernel
theorem d_Case_add_41 : decode prog_2_method_4_code 41 = .ok (.getfield 21, 3) := by decide +kernel
theorem d_Case_add_44 : decode prog_2_method_4_code 44 = .ok (.iconst 1, 1) := by decide +kernel
theorem d_Case_add_45 : decode prog_2_method_4_code 45 = .ok (.iadd, 1) := by decide +kernel
theorem d_Case_add_46 : decode prog_2_method_4_code 46 = .ok (.putfield 21, 3) := by decide +kernel
theorem d_Case_add_49 : decode prog_2_method_4_code 49 = .ok (.return_, 1) := by decide +kernel
theorem d_Arrays_fill_0 : decode prog_15_method_103_code 0 = .ok (.iconst 0, 1) := by decide +kernel
theorem d_Arrays_fill_1 : decode prog_15_method_103_code 1 = .ok (.istore_n 2, 1) := by decide +kernel
theorem d_Arrays_fill_2 : decode prog_15_method_103_code 2 = .ok (.aload_n 0, 1) := by decide +kernel
theorem d_Arrays_fill_3 : decode prog_15_method_103_code 3 = .ok (.arraylength, 1) := by decide +kernel
theorem d_Arrays_fill_4 : decode prog_15_method_103_code 4 = .ok (.istore_n 3, 1) := by decide +kernel
theorem d_Arrays_fill_5 : decode prog_15_method_103_code 5 = .ok (.iload_n 2, 1) := by decide +kernel
theorem d_Arrays_fill_6 : decode prog_15_method_103_code 6 = .ok (.iload_n 3, 1) := by decide +kernel
theorem d_Arrays_fill_7 : decode prog_15_method_103_code 7 = .ok (.if_icmp .ge 13, 3) := by decide +kernel
theorem d_Arrays_fill_10 : decode prog_15_method_103_code 10 = .ok (.aload_n 0, 1) := by decide +kernel
theorem d_Arrays_fill_11 : decode prog_15_method_103_code 11 = .ok (.iload_n 2, 1) := by decide +kernel
theorem d_Arrays_fill_12 : decode prog_15_method_103_code 12 = .ok (.iload_n 1, 1) := by decide +kernel
theorem d_Arrays_fill_13 : decode prog_15_method_103_code 13 = .ok (.iastore, 1) := by decide +kernel
theorem d_Arrays_fill_14 : decode prog_15_method_103_code 14 = .ok (.iinc 2 1, 3) := by decide +kernel
theorem d_Arrays_fill_17 : decode prog_15_method_103_code 17 = .ok (.goto (-12), 3) := by decide +kernel
theorem d_Arrays_fill_20 : decode prog_15_method_103_code 20 = .ok (.return_, 1) := by decide +kernel
theorem d_X_forgetPulls_0 : decode prog_1_method_42_code 0 = .ok (.aload_n 0, 1) := by decide +kernel
theorem d_X_forgetPulls_1 : decode prog_1_method_42_code 1 = .ok (.getfield 58, 3) := by decide +kernel
theorem d_X_forgetPulls_4 : decode prog_1_method_42_code 4 = .ok (.iconst 0, 1) := by decide +kernel
theorem d_X_forgetPulls_5 : decode prog_1_method_42_code 5 = .ok (.invokestatic 304, 3) := by decide +kernel
theorem d_X_forgetPulls_8 : decode prog_1_method_42_code 8 = .ok (.return_, 1) := by decide +kernel
theorem d_X_cast_0 : decode prog_1_method_2_code 0 = .ok (.iload_n 1, 1) := by decide +kernel
theorem d_X_cast_1 : decode prog_1_method_2_code 1 = .ok (.iload_n 2, 1) := by decide +kernel
theorem d_X_cast_2 : decode prog_1_method_2_code 2 = .ok (.iload_n 3, 1) := by decide +kernel
theorem d_X_cast_3 : decode prog_1_method_2_code 3 = .ok (.invokestatic 78, 3) := by decide +kernel
theorem d_X_cast_6 : decode prog_1_method_2_code 6 = .ok (.ifCond .ne 5, 3) := by decide +kernel
theorem d_X_cast_9 : decode prog_1_method_2_code 9 = .ok (.iconst (-1), 1) := by decide +kernel
theorem d_X_cast_10 : decode prog_1_method_2_code 10 = .ok (.ireturn, 1) := by decide +kernel
theorem d_X_cast_11 : decode prog_1_method_2_code 11 = .ok (.aload_n 0, 1) := by decide +kernel
theorem d_X_cast_12 : decode prog_1_method_2_code 12 = .ok (.getfield 12, 3) := by decide +kernel
theorem d_X_cast_15 : decode prog_1_method_2_code 15 = .ok (.getfield 82, 3) := by decide +kernel
theorem d_X_cast_18 : decode prog_1_method_2_code 18 = .ok (.getfield 85, 3) := by decide +kernel
theorem d_X_cast_21 : decode prog_1_method_2_code 21 = .ok (.bipush 10, 2) := by decide +kernel
theorem d_X_cast_23 : decode prog_1_method_2_code 23 = .ok (.if_icmp .lt 6, 3) := by decide +kernel
theorem d_X_cast_26 : decode prog_1_method_2_code 26 = .ok (.bipush (-3), 2) := by decide +kernel
theorem d_X_cast_28 : decode prog_1_method_2_code 28 = .ok (.ireturn, 1) := by decide +kernel
theorem d_X_cast_29 : decode prog_1_method_2_code 29 = .ok (.aload_n 0, 1) := by decide +kernel
theorem d_X_cast_30 : decode prog_1_method_2_code 30 = .ok (.getfield 12, 3) := by decide +kernel
theorem d_X_cast_33 : decode prog_1_method_2_code 33 = .ok (.getfield 82, 3) := by decide +kernel
theorem d_X_cast_36 : decode prog_1_method_2_code 36 = .ok (.iload_n 1, 1) := by decide +kernel
theorem d_X_cast_37 : decode prog_1_method_2_code 37 = .ok (.iload_n 2, 1) := by decide +kernel
theorem d_X_cast_38 : decode prog_1_method_2_code 38 = .ok (.iload_n 3, 1) := by decide +kernel
theorem d_X_cast_39 : decode prog_1_method_2_code 39 = .ok (.invokevirtual 89, 3) := by decide +kernel
theorem d_X_cast_42 : decode prog_1_method_2_code 42 = .ok (.aload_n 0, 1) := by decide +kernel
theorem d_X_cast_43 : decode prog_1_method_2_code 43 = .ok (.invokevirtual 93, 3) := by decide +kernel
theorem d_X_cast_46 : decode prog_1_method_2_code 46 = .ok (.aload_n 0, 1) := by decide +kernel
theorem d_X_cast_47 : decode prog_1_method_2_code 47 = .ok (.getfield 12, 3) := by decide +kernel
theorem d_X_cast_50 : decode prog_1_method_2_code 50 = .ok (.getfield 82, 3) := by decide +kernel
theorem d_X_cast_53 : decode prog_1_method_2_code 53 = .ok (.getfield 85, 3) := by decide +kernel
theorem d_X_cast_56 : decode prog_1_method_2_code 56 = .ok (.iconst 1, 1) := by decide +kernel
theorem d_X_cast_57 : decode prog_1_method_2_code 57 = .ok (.isub, 1) := by decide +kernel
theorem d_X_cast_58 : decode prog_1_method_2_code 58 = .ok (.ireturn, 1) := by decide +kernel
theorem d_Case_has_0 : decode prog_2_method_3_code 0 = .ok (.iload_n 1, 1) := by decide +kernel
theorem d_Case_has_1 : decode prog_2_method_3_code 1 = .ok (.ifCond .lt 15, 3) := by decide +kernel
theorem d_Case_has_4 : decode prog_2_method_3_code 4 = .ok (.iload_n 1, 1) := by decide +kernel
theorem d_Case_has_5 : decode prog_2_method_3_code 5 = .ok (.aload_n 0, 1) := by decide +kernel
theorem d_Case_has_6 : decode prog_2_method_3_code 6 = .ok (.getfield 21, 3) := by decide +kernel
theorem d_Case_has_9 : decode prog_2_method_3_code 9 = .ok (.if_icmp .ge 7, 3) := by decide +kernel
theorem d_Case_has_12 : decode prog_2_method_3_code 12 = .ok (.iconst 1, 1) := by decide +kernel
theorem d_Case_has_13 : decode prog_2_method_3_code 13 = .ok (.goto 4, 3) := by decide +kernel
theorem d_Case_has_16 : decode prog_2_method_3_code 16 = .ok (.iconst 0, 1) := by decide +kernel
theorem d_Case_has_17 : decode prog_2_method_3_code 17 = .ok (.ireturn, 1) := by decide +kernel
theorem d_X_told_0 : decode prog_1_method_3_code 0 = .ok (.aload_n 0, 1) := by decide +kernel
theorem d_X_told_1 : decode prog_1_method_3_code 1 = .ok (.getfield 12, 3) := by decide +kernel
theorem d_X_told_4 : decode prog_1_method_3_code 4 = .ok (.getfield 82, 3) := by decide +kernel
theorem d_X_told_7 : decode prog_1_method_3_code 7 = .ok (.iload_n 1, 1) := by decide +kernel
theorem d_X_told_8 : decode prog_1_method_3_code 8 = .ok (.invokevirtual 96, 3) := by decide +kernel
theorem d_X_told_11 : decode prog_1_method_3_code 11 = .ok (.ifCond .ne 5, 3) := by decide +kernel
theorem d_X_told_14 : decode prog_1_method_3_code 14 = .ok (.iconst (-1), 1) := by decide +kernel
theorem d_X_told_15 : decode prog_1_method_3_code 15 = .ok (.ireturn, 1) := by decide +kernel
theorem d_X_told_16 : decode prog_1_method_3_code 16 = .ok (.iload_n 2, 1) := by decide +kernel
theorem d_X_told_17 : decode prog_1_method_3_code 17 = .ok (.tableswitch 66 0 2 #[27, 40, 53], 27) := by decide +kernel
theorem d_X_told_44 : decode prog_1_method_3_code 44 = .ok (.aload_n 0, 1) := by decide +kernel
theorem d_X_told_45 : decode prog_1_method_3_code 45 = .ok (.getfield 12, 3) := by decide +kernel
theorem d_X_told_48 : decode prog_1_method_3_code 48 = .ok (.getfield 82, 3) := by decide +kernel
theorem d_X_told_51 : decode prog_1_method_3_code 51 = .ok (.getfield 100, 3) := by decide +kernel
theorem d_X_told_54 : decode prog_1_method_3_code 54 = .ok (.iload_n 1, 1) := by decide +kernel
theorem d_X_told_55 : decode prog_1_method_3_code 55 = .ok (.iaload, 1) := by decide +kernel
theorem d_X_told_56 : decode prog_1_method_3_code 56 = .ok (.ireturn, 1) := by decide +kernel
theorem d_X_told_57 : decode prog_1_method_3_code 57 = .ok (.aload_n 0, 1) := by decide +kernel
theorem d_X_told_58 : decode prog_1_method_3_code 58 = .ok (.getfield 12, 3) := by decide +kernel
theorem d_X_told_61 : decode prog_1_method_3_code 61 = .ok (.getfield 82, 3) := by decide +kernel
theorem d_X_told_64 : decode prog_1_method_3_code 64 = .ok (.getfield 103, 3) := by decide +kernel
theorem d_X_told_67 : decode prog_1_method_3_code 67 = .ok (.iload_n 1, 1) := by decide +kernel
theorem d_X_told_68 : decode prog_1_method_3_code 68 = .ok (.iaload, 1) := by decide +kernel
theorem d_X_told_69 : decode prog_1_method_3_code 69 = .ok (.ireturn, 1) := by decide +kernel
theorem d_X_told_70 : decode prog_1_method_3_code 70 = .ok (.aload_n 0, 1) := by decide +kernel
theorem d_X_told_71 : decode prog_1_method_3_code 71 = .ok (.getfield 12, 3) := by decide +kernel
theorem d_X_told_74 : decode prog_1_method_3_code 74 = .ok (.getfield 82, 3) := by decide +kernel
theorem d_X_told_77 : decode prog_1_method_3_code 77 = .ok (.getfield 106, 3) := by decide +kernel
theorem d_X_told_80 : decode prog_1_method_3_code 80 = .ok (.iload_n 1, 1) := by decide +kernel
theorem d_X_told_81 : decode prog_1_method_3_code 81 = .ok (.iaload, 1) := by decide +kernel
theorem d_X_told_82 : decode prog_1_method_3_code 82 = .ok (.ireturn, 1) := by decide +kernel
theorem d_X_told_83 : decode prog_1_method_3_code 83 = .ok (.iconst (-1), 1) := by decide +kernel
theorem d_X_told_84 : decode prog_1_method_3_code 84 = .ok (.ireturn, 1) := by decide +kernel
theorem d_Case_remove_0 : decode prog_2_method_5_code 0 = .ok (.aload_n 0, 1) := by decide +kernel
theorem d_Case_remove_1 : decode prog_2_method_5_code 1 = .ok (.iload_n 1, 1) := by decide +kernel
theorem d_Case_remove_2 : decode prog_2_method_5_code 2 = .ok (.invokevirtual 29, 3) := by decide +kernel
theorem d_Case_remove_5 : decode prog_2_method_5_code 5 = .ok (.ifCond .eq 73, 3) := by decide +kernel
theorem d_Case_remove_8 : decode prog_2_method_5_code 8 = .ok (.iload_n 1, 1) := by decide +kernel
theorem d_Case_remove_9 : decode prog_2_method_5_code 9 = .ok (.istore_n 2, 1) := by decide +kernel
theorem d_Case_remove_10 : decode prog_2_method_5_code 10 = .ok (.iload_n 2, 1) := by decide +kernel
theorem d_Case_remove_11 : decode prog_2_method_5_code 11 = .ok (.aload_n 0, 1) := by decide +kernel
theorem d_Case_remove_12 : decode prog_2_method_5_code 12 = .ok (.getfield 21, 3) := by decide +kernel
theorem d_Case_remove_15 : decode prog_2_method_5_code 15 = .ok (.iconst 1, 1) := by decide +kernel
theorem d_Case_remove_16 : decode prog_2_method_5_code 16 = .ok (.isub, 1) := by decide +kernel
theorem d_Case_remove_17 : decode prog_2_method_5_code 17 = .ok (.if_icmp .ge 51, 3) := by decide +kernel
theorem d_Case_remove_20 : decode prog_2_method_5_code 20 = .ok (.aload_n 0, 1) := by decide +kernel
theorem d_Case_remove_21 : decode prog_2_method_5_code 21 = .ok (.getfield 9, 3) := by decide +kernel
theorem d_Case_remove_24 : decode prog_2_method_5_code 24 = .ok (.iload_n 2, 1) := by decide +kernel
theorem d_Case_remove_25 : decode prog_2_method_5_code 25 = .ok (.aload_n 0, 1) := by decide +kernel
theorem d_Case_remove_26 : decode prog_2_method_5_code 26 = .ok (.getfield 9, 3) := by decide +kernel
theorem d_Case_remove_29 : decode prog_2_method_5_code 29 = .ok (.iload_n 2, 1) := by decide +kernel
theorem d_Case_remove_30 : decode prog_2_method_5_code 30 = .ok (.iconst 1, 1) := by decide +kernel
theorem d_Case_remove_31 : decode prog_2_method_5_code 31 = .ok (.iadd, 1) := by decide +kernel
theorem d_Case_remove_32 : decode prog_2_method_5_code 32 = .ok (.iaload, 1) := by decide +kernel
theorem d_Case_remove_33 : decode prog_2_method_5_code 33 = .ok (.iastore, 1) := by decide +kernel
theorem d_Case_remove_34 : decode prog_2_method_5_code 34 = .ok (.aload_n 0, 1) := by decide +kernel
theorem d_Case_remove_35 : decode prog_2_method_5_code 35 = .ok (.getfield 15, 3) := by decide +kernel
theorem d_Case_remove_38 : decode prog_2_method_5_code 38 = .ok (.iload_n 2, 1) := by decide +kernel
theorem d_Case_remove_39 : decode prog_2_method_5_code 39 = .ok (.aload_n 0, 1) := by decide +kernel
theorem d_Case_remove_40 : decode prog_2_method_5_code 40 = .ok (.getfield 15, 3) := by decide +kernel
theorem d_Case_remove_43 : decode prog_2_method_5_code 43 = .ok (.iload_n 2, 1) := by decide +kernel
theorem d_Case_remove_44 : decode prog_2_method_5_code 44 = .ok (.iconst 1, 1) := by decide +kernel
theorem d_Case_remove_45 : decode prog_2_method_5_code 45 = .ok (.iadd, 1) := by decide +kernel
theorem d_Case_remove_46 : decode prog_2_method_5_code 46 = .ok (.iaload, 1) := by decide +kernel
theorem d_Case_remove_47 : decode prog_2_method_5_code 47 = .ok (.iastore, 1) := by decide +kernel
theorem d_Case_remove_48 : decode prog_2_method_5_code 48 = .ok (.aload_n 0, 1) := by decide +kernel
theorem d_Case_remove_49 : decode prog_2_method_5_code 49 = .ok (.getfield 18, 3) := by decide +kernel
theorem d_Case_remove_52 : decode prog_2_method_5_code 52 = .ok (.iload_n 2, 1) := by decide +kernel
theorem d_Case_remove_53 : decode prog_2_method_5_code 53 = .ok (.aload_n 0, 1) := by decide +kernel
theorem d_Case_remove_54 : decode prog_2_method_5_code 54 = .ok (.getfield 18, 3) := by decide +kernel
theorem d_Case_remove_57 : decode prog_2_method_5_code 57 = .ok (.iload_n 2, 1) := by decide +kernel
theorem d_Case_remove_58 : decode prog_2_method_5_code 58 = .ok (.iconst 1, 1) := by decide +kernel
theorem d_Case_remove_59 : decode prog_2_method_5_code 59 = .ok (.iadd, 1) := by decide +kernel
theorem d_Case_remove_60 : decode prog_2_method_5_code 60 = .ok (.iaload, 1) := by decide +kernel
theorem d_Case_remove_61 : decode prog_2_method_5_code 61 = .ok (.iastore, 1) := by decide +kernel
theorem d_Case_remove_62 : decode prog_2_method_5_code 62 = .ok (.iinc 2 1, 3) := by decide +kernel
theorem d_Case_remove_65 : decode prog_2_method_5_code 65 = .ok (.goto (-55), 3) := by decide +kernel
theorem d_Case_remove_68 : decode prog_2_method_5_code 68 = .ok (.aload_n 0, 1) := by decide +kernel
theorem d_Case_remove_69 : decode prog_2_method_5_code 69 = .ok (.dup, 1) := by decide +kernel
theorem d_Case_remove_70 : decode prog_2_method_5_code 70 = .ok (.getfield 21, 3) := by decide +kernel
theorem d_Case_remove_73 : decode prog_2_method_5_code 73 = .ok (.iconst 1, 1) := by decide +kernel
theorem d_Case_remove_74 : decode prog_2_method_5_code 74 = .ok (.isub, 1) := by decide +kernel
theorem d_Case_remove_75 : decode prog_2_method_5_code 75 = .ok (.putfield 21, 3) := by decide +kernel
theorem d_Case_remove_78 : decode prog_2_method_5_code 78 = .ok (.return_, 1) := by decide +kernel
theorem d_X_lose_0 : decode prog_1_method_4_code 0 = .ok (.aload_n 0, 1) := by decide +kernel
theorem d_X_lose_1 : decode prog_1_method_4_code 1 = .ok (.getfield 12, 3) := by decide +kernel
theorem d_X_lose_4 : decode prog_1_method_4_code 4 = .ok (.getfield 82, 3) := by decide +kernel
theorem d_X_lose_7 : decode prog_1_method_4_code 7 = .ok (.iload_n 1, 1) := by decide +kernel
theorem d_X_lose_8 : decode prog_1_method_4_code 8 = .ok (.invokevirtual 96, 3) := by decide +kernel
theorem d_X_lose_11 : decode prog_1_method_4_code 11 = .ok (.ifCond .ne 5, 3) := by decide +kernel
theorem d_X_lose_14 : decode prog_1_method_4_code 14 = .ok (.iconst (-1), 1) := by decide +kernel
theorem d_X_lose_15 : decode prog_1_method_4_code 15 = .ok (.ireturn, 1) := by decide +kernel
theorem d_X_lose_16 : decode prog_1_method_4_code 16 = .ok (.aload_n 0, 1) := by decide +kernel
theorem d_X_lose_17 : decode prog_1_method_4_code 17 = .ok (.getfield 12, 3) := by decide +kernel
theorem d_X_lose_20 : decode prog_1_method_4_code 20 = .ok (.getfield 82, 3) := by decide +kernel
theorem d_X_lose_23 : decode prog_1_method_4_code 23 = .ok (.iload_n 1, 1) := by decide +kernel
theorem d_X_lose_24 : decode prog_1_method_4_code 24 = .ok (.invokevirtual 109, 3) := by decide +kernel
theorem d_X_lose_27 : decode prog_1_method_4_code 27 = .ok (.aload_n 0, 1) := by decide +kernel
theorem d_X_lose_28 : decode prog_1_method_4_code 28 = .ok (.invokevirtual 93, 3) := by decide +kernel
theorem d_X_lose_31 : decode prog_1_method_4_code 31 = .ok (.aload_n 0, 1) := by decide +kernel
theorem d_X_lose_32 : decode prog_1_method_4_code 32 = .ok (.getfield 12, 3) := by decide +kernel
theorem d_X_lose_35 : decode prog_1_method_4_code 35 = .ok (.getfield 82, 3) := by decide +kernel
theorem d_X_lose_38 : decode prog_1_method_4_code 38 = .ok (.getfield 85, 3) := by decide +kernel
theorem d_X_lose_41 : decode prog_1_method_4_code 41 = .ok (.ireturn, 1) := by decide +kernel
theorem d_X_width_0 : decode prog_1_method_5_code 0 = .ok (.iload_n 1, 1) := by decide +kernel
theorem d_X_width_1 : decode prog_1_method_5_code 1 = .ok (.invokestatic 113, 3) := by decide +kernel
theorem d_X_width_4 : decode prog_1_method_5_code 4 = .ok (.ifCond .eq 13, 3) := by decide +kernel
theorem d_X_width_7 : decode prog_1_method_5_code 7 = .ok (.iload_n 2, 1) := by decide +kernel
theorem d_X_width_8 : decode prog_1_method_5_code 8 = .ok (.iconst 1, 1) := by decide +kernel
theorem d_X_width_9 : decode prog_1_method_5_code 9 = .ok (.if_icmp .lt 8, 3) := by decide +kernel
theorem d_X_width_12 : decode prog_1_method_5_code 12 = .ok (.iload_n 2, 1) := by decide +kernel
theorem d_X_width_13 : decode prog_1_method_5_code 13 = .ok (.iconst 4, 1) := by decide +kernel
theorem d_X_width_14 : decode prog_1_method_5_code 14 = .ok (.if_icmp .le 5, 3) := by decide +kernel
theorem d_X_width_17 : decode prog_1_method_5_code 17 = .ok (.iconst (-1), 1) := by decide +kernel
theorem d_X_width_18 : decode prog_1_method_5_code 18 = .ok (.ireturn, 1) := by decide +kernel
theorem d_X_width_19 : decode prog_1_method_5_code 19 = .ok (.aload_n 0, 1) := by decide +kernel
theorem d_X_width_20 : decode prog_1_method_5_code 20 = .ok (.getfield 12, 3) := by decide +kernel
theorem d_X_width_23 : decode prog_1_method_5_code 23 = .ok (.getfield 116, 3) := by decide +kernel
theorem d_X_width_26 : decode prog_1_method_5_code 26 = .ok (.iload_n 1, 1) := by decide +kernel
theorem d_X_width_27 : decode prog_1_method_5_code 27 = .ok (.iaload, 1) := by decide +kernel
theorem d_X_width_28 : decode prog_1_method_5_code 28 = .ok (.istore_n 3, 1) := by decide +kernel
theorem d_X_width_29 : decode prog_1_method_5_code 29 = .ok (.aload_n 0, 1) := by decide +kernel
theorem d_X_width_30 : decode prog_1_method_5_code 30 = .ok (.getfield 12, 3) := by decide +kernel
theorem d_X_width_33 : decode prog_1_method_5_code 33 = .ok (.getfield 116, 3) := by decide +kernel
theorem d_X_width_36 : decode prog_1_method_5_code 36 = .ok (.iload_n 1, 1) := by decide +kernel
theorem d_X_width_37 : decode prog_1_method_5_code 37 = .ok (.iload_n 2, 1) := by decide +kernel
theorem d_X_width_38 : decode prog_1_method_5_code 38 = .ok (.iastore, 1) := by decide +kernel
theorem d_X_width_39 : decode prog_1_method_5_code 39 = .ok (.iload_n 3, 1) := by decide +kernel
theorem d_X_width_40 : decode prog_1_method_5_code 40 = .ok (.ireturn, 1) := by decide +kernel
theorem d_X_rule_0 : decode prog_1_method_6_code 0 = .ok (.iload_n 1, 1) := by decide +kernel
theorem d_X_rule_1 : decode prog_1_method_6_code 1 = .ok (.ifCond .lt 26, 3) := by decide +kernel
theorem d_X_rule_4 : decode prog_1_method_6_code 4 = .ok (.iload_n 1, 1) := by decide +kernel
theorem d_X_rule_5 : decode prog_1_method_6_code 5 = .ok (.iconst 3, 1) := by decide +kernel
theorem d_X_rule_6 : decode prog_1_method_6_code 6 = .ok (.if_icmp .ge 21, 3) := by decide +kernel
theorem d_X_rule_9 : decode prog_1_method_6_code 9 = .ok (.iload_n 2, 1) := by decide +kernel
theorem d_X_rule_10 : decode prog_1_method_6_code 10 = .ok (.getstatic 119, 3) := by decide +kernel
theorem d_X_rule_13 : decode prog_1_method_6_code 13 = .ok (.iload_n 1, 1) := by decide +kernel
theorem d_X_rule_14 : decode prog_1_method_6_code 14 = .ok (.iaload, 1) := by decide +kernel
theorem d_X_rule_15 : decode prog_1_method_6_code 15 = .ok (.if_icmp .lt 12, 3) := by decide +kernel
theorem d_X_rule_18 : decode prog_1_method_6_code 18 = .ok (.iload_n 2, 1) := by decide +kernel
theorem d_X_rule_19 : decode prog_1_method_6_code 19 = .ok (.getstatic 122, 3) := by decide +kernel
theorem d_X_rule_22 : decode prog_1_method_6_code 22 = .ok (.iload_n 1, 1) := by decide +kernel
theorem d_X_rule_23 : decode prog_1_method_6_code 23 = .ok (.iaload, 1) := by decide +kernel
theorem d_X_rule_24 : decode prog_1_method_6_code 24 = .ok (.if_icmp .le 5, 3) := by decide +kernel
theorem d_X_rule_27 : decode prog_1_method_6_code 27 = .ok (.iconst (-1), 1) := by decide +kernel
theorem d_X_rule_28 : decode prog_1_method_6_code 28 = .ok (.ireturn, 1) := by decide +kernel
theorem d_X_rule_29 : decode prog_1_method_6_code 29 = .ok (.aload_n 0, 1) := by decide +kernel
theorem d_X_rule_30 : decode prog_1_method_6_code 30 = .ok (.getfield 12, 3) := by decide +kernel
theorem d_X_rule_33 : decode prog_1_method_6_code 33 = .ok (.getfield 125, 3) := by decide +kernel
theorem d_X_rule_36 : decode prog_1_method_6_code 36 = .ok (.iload_n 1, 1) := by decide +kernel
theorem d_X_rule_37 : decode prog_1_method_6_code 37 = .ok (.iaload, 1) := by decide +kernel
theorem d_X_rule_38 : decode prog_1_method_6_code 38 = .ok (.istore_n 3, 1) := by decide +kernel
theorem d_X_rule_39 : decode prog_1_method_6_code 39 = .ok (.aload_n 0, 1) := by decide +kernel
theorem d_X_rule_40 : decode prog_1_method_6_code 40 = .ok (.getfield 12, 3) := by decide +kernel
theorem d_X_rule_43 : decode prog_1_method_6_code 43 = .ok (.getfield 125, 3) := by decide +kernel
theorem d_X_rule_46 : decode prog_1_method_6_code 46 = .ok (.iload_n 1, 1) := by decide +kernel
theorem d_X_rule_47 : decode prog_1_method_6_code 47 = .ok (.iload_n 2, 1) := by decide +kernel
theorem d_X_rule_48 : decode prog_1_method_6_code 48 = .ok (.iastore, 1) := by decide +kernel
theorem d_X_rule_49 : decode prog_1_method_6_code 49 = .ok (.aload_n 0, 1) := by decide +kernel
theorem d_X_rule_50 : decode prog_1_method_6_code 50 = .ok (.invokevirtual 93, 3) := by decide +kernel
theorem d_X_rule_53 : decode prog_1_method_6_code 53 = .ok (.iload_n 3, 1) := by decide +kernel
theorem d_X_rule_54 : decode prog_1_method_6_code 54 = .ok (.ireturn, 1) := by decide +kernel
theorem d_Tape_byteOf_0 : decode prog_9_method_3_code 0 = .ok (.lload_n 0, 1) := by decide +kernel
theorem d_Tape_byteOf_1 : decode prog_9_method_3_code 1 = .ok (.bipush 8, 2) := by decide +kernel
theorem d_Tape_byteOf_3 : decode prog_9_method_3_code 3 = .ok (.iload_n 2, 1) := by decide +kernel
theorem d_Tape_byteOf_4 : decode prog_9_method_3_code 4 = .ok (.imul, 1) := by decide +kernel
theorem d_Tape_byteOf_5 : decode prog_9_method_3_code 5 = .ok (.lshr, 1) := by decide +kernel
theorem d_Tape_byteOf_6 : decode prog_9_method_3_code 6 = .ok (.ldc2_w 26, 3) := by decide +kernel
theorem d_Tape_byteOf_9 : decode prog_9_method_3_code 9 = .ok (.land, 1) := by decide +kernel
theorem d_Tape_byteOf_10 : decode prog_9_method_3_code 10 = .ok (.l2i, 1) := by decide +kernel
theorem d_Tape_byteOf_11 : decode prog_9_method_3_code 11 = .ok (.ireturn, 1) := by decide +kernel
theorem d_Tape_takes_0 : decode prog_9_method_2_code 0 = .ok (.iconst 0, 1) := by decide +kernel
theorem d_Tape_takes_1 : decode prog_9_method_2_code 1 = .ok (.istore_n 3, 1) := by decide +kernel
theorem d_Tape_takes_2 : decode prog_9_method_2_code 2 = .ok (.iload_n 3, 1) := by decide +kernel
theorem d_Tape_takes_3 : decode prog_9_method_2_code 3 = .ok (.iload_n 2, 1) := by decide +kernel
theorem d_Tape_takes_4 : decode prog_9_method_2_code 4 = .ok (.if_icmp .ge 32, 3) := by decide +kernel
theorem d_Tape_takes_7 : decode prog_9_method_2_code 7 = .ok (.lload_n 0, 1) := by decide +kernel
theorem d_Tape_takes_8 : decode prog_9_method_2_code 8 = .ok (.iload_n 3, 1) := by decide +kernel
theorem d_Tape_takes_9 : decode prog_9_method_2_code 9 = .ok (.invokestatic 22, 3) := by decide +kernel
theorem d_Tape_takes_12 : decode prog_9_method_2_code 12 = .ok (.istore 4, 2) := by decide +kernel
theorem d_Tape_takes_14 : decode prog_9_method_2_code 14 = .ok (.iload 4, 2) := by decide +kernel
theorem d_Tape_takes_16 : decode prog_9_method_2_code 16 = .ok (.bipush 32, 2) := by decide +kernel
theorem d_Tape_takes_18 : decode prog_9_method_2_code 18 = .ok (.if_icmp .lt 10, 3) := by decide +kernel
theorem d_Tape_takes_21 : decode prog_9_method_2_code 21 = .ok (.iload 4, 2) := by decide +kernel
theorem d_Tape_takes_23 : decode prog_9_method_2_code 23 = .ok (.bipush 126, 2) := by decide +kernel
theorem d_Tape_takes_25 : decode prog_9_method_2_code 25 = .ok (.if_icmp .le 5, 3) := by decide +kernel
theorem d_Tape_takes_28 : decode prog_9_method_2_code 28 = .ok (.iconst 0, 1) := by decide +kernel
theorem d_Tape_takes_29 : decode prog_9_method_2_code 29 = .ok (.ireturn, 1) := by decide +kernel
theorem d_Tape_takes_30 : decode prog_9_method_2_code 30 = .ok (.iinc 3 1, 3) := by decide +kernel
theorem d_Tape_takes_33 : decode prog_9_method_2_code 33 = .ok (.goto (-31), 3) := by decide +kernel
theorem d_Tape_takes_36 : decode prog_9_method_2_code 36 = .ok (.iconst 1, 1) := by decide +kernel
theorem d_Tape_takes_37 : decode prog_9_method_2_code 37 = .ok (.ireturn, 1) := by decide +kernel
theorem d_Tape_add_0 : decode prog_9_method_4_code 0 = .ok (.iload_n 3, 1) := by decide +kernel
theorem d_Tape_add_1 : decode prog_9_method_4_code 1 = .ok (.iconst 1, 1) := by decide +kernel
theorem d_Tape_add_2 : decode prog_9_method_4_code 2 = .ok (.isub, 1) := by decide +kernel
theorem d_Tape_add_3 : decode prog_9_method_4_code 3 = .ok (.istore 4, 2) := by decide +kernel
theorem d_Tape_add_5 : decode prog_9_method_4_code 5 = .ok (.iload 4, 2) := by decide +kernel
theorem d_Tape_add_7 : decode prog_9_method_4_code 7 = .ok (.ifCond .lt 43, 3) := by decide +kernel
theorem d_Tape_add_10 : decode prog_9_method_4_code 10 = .ok (.aload_n 0, 1) := by decide +kernel
theorem d_Tape_add_11 : decode prog_9_method_4_code 11 = .ok (.getfield 15, 3) := by decide +kernel
theorem d_Tape_add_14 : decode prog_9_method_4_code 14 = .ok (.bipush 60, 2) := by decide +kernel
theorem d_Tape_add_16 : decode prog_9_method_4_code 16 = .ok (.if_icmp .ge 28, 3) := by decide +kernel
theorem d_Tape_add_19 : decode prog_9_method_4_code 19 = .ok (.aload_n 0, 1) := by decide +kernel
theorem d_Tape_add_20 : decode prog_9_method_4_code 20 = .ok (.getfield 9, 3) := by decide +kernel
theorem d_Tape_add_23 : decode prog_9_method_4_code 23 = .ok (.aload_n 0, 1) := by decide +kernel
theorem d_Tape_add_24 : decode prog_9_method_4_code 24 = .ok (.getfield 15, 3) := by decide +kernel
theorem d_Tape_add_27 : decode prog_9_method_4_code 27 = .ok (.lload_n 1, 1) := by decide +kernel
theorem d_Tape_add_28 : decode prog_9_method_4_code 28 = .ok (.iload 4, 2) := by decide +kernel
theorem d_Tape_add_30 : decode prog_9_method_4_code 30 = .ok (.invokestatic 22, 3) := by decide +kernel
theorem d_Tape_add_33 : decode prog_9_method_4_code 33 = .ok (.iastore, 1) := by decide +kernel
theorem d_Tape_add_34 : decode prog_9_method_4_code 34 = .ok (.aload_n 0, 1) := by decide +kernel
theorem d_Tape_add_35 : decode prog_9_method_4_code 35 = .ok (.dup, 1) := by decide +kernel
theorem d_Tape_add_36 : decode prog_9_method_4_code 36 = .ok (.getfield 15, 3) := by decide +kernel
theorem d_Tape_add_39 : decode prog_9_method_4_code 39 = .ok (.iconst 1, 1) := by decide +kernel
theorem d_Tape_add_40 : decode prog_9_method_4_code 40 = .ok (.iadd, 1) := by decide +kernel
theorem d_Tape_add_41 : decode prog_9_method_4_code 41 = .ok (.putfield 15, 3) := by decide +kernel
theorem d_Tape_add_44 : decode prog_9_method_4_code 44 = .ok (.iinc 4 (-1), 3) := by decide +kernel
theorem d_Tape_add_47 : decode prog_9_method_4_code 47 = .ok (.goto (-42), 3) := by decide +kernel
theorem d_Tape_add_50 : decode prog_9_method_4_code 50 = .ok (.return_, 1) := by decide +kernel
theorem d_X_type_0 : decode prog_1_method_7_code 0 = .ok (.iload_n 3, 1) := by decide +kernel
theorem d_X_type_1 : decode prog_1_method_7_code 1 = .ok (.iconst 1, 1) := by decide +kernel
theorem d_X_type_2 : decode prog_1_method_7_code 2 = .ok (.if_icmp .lt 17, 3) := by decide +kernel
theorem d_X_type_5 : decode prog_1_method_7_code 5 = .ok (.iload_n 3, 1) := by decide +kernel
theorem d_X_type_6 : decode prog_1_method_7_code 6 = .ok (.bipush 8, 2) := by decide +kernel
theorem d_X_type_8 : decode prog_1_method_7_code 8 = .ok (.if_icmp .gt 11, 3) := by decide +kernel
theorem d_X_type_11 : decode prog_1_method_7_code 11 = .ok (.lload_n 1, 1) := by decide +kernel
theorem d_X_type_12 : decode prog_1_method_7_code 12 = .ok (.iload_n 3, 1) := by decide +kernel
theorem d_X_type_13 : decode prog_1_method_7_code 13 = .ok (.invokestatic 128, 3) := by decide +kernel
theorem d_X_type_16 : decode prog_1_method_7_code 16 = .ok (.ifCond .ne 5, 3) := by decide +kernel
theorem d_X_type_19 : decode prog_1_method_7_code 19 = .ok (.iconst (-1), 1) := by decide +kernel
theorem d_X_type_20 : decode prog_1_method_7_code 20 = .ok (.ireturn, 1) := by decide +kernel
theorem d_X_type_21 : decode prog_1_method_7_code 21 = .ok (.aload_n 0, 1) := by decide +kernel
theorem d_X_type_22 : decode prog_1_method_7_code 22 = .ok (.getfield 26, 3) := by decide +kernel
theorem d_X_type_25 : decode prog_1_method_7_code 25 = .ok (.getfield 132, 3) := by decide +kernel
theorem d_X_type_28 : decode prog_1_method_7_code 28 = .ok (.iload_n 3, 1) := by decide +kernel
theorem d_X_type_29 : decode prog_1_method_7_code 29 = .ok (.iadd, 1) := by decide +kernel
theorem d_X_type_30 : decode prog_1_method_7_code 30 = .ok (.bipush 60, 2) := by decide +kernel
theorem d_X_type_32 : decode prog_1_method_7_code 32 = .ok (.if_icmp .le 6, 3) := by decide +kernel
theorem d_X_type_35 : decode prog_1_method_7_code 35 = .ok (.bipush (-3), 2) := by decide +kernel
theorem d_X_type_37 : decode prog_1_method_7_code 37 = .ok (.ireturn, 1) := by decide +kernel
theorem d_X_type_38 : decode prog_1_method_7_code 38 = .ok (.aload_n 0, 1) := by decide +kernel
theorem d_X_type_39 : decode prog_1_method_7_code 39 = .ok (.getfield 26, 3) := by decide +kernel
theorem d_X_type_42 : decode prog_1_method_7_code 42 = .ok (.lload_n 1, 1) := by decide +kernel
theorem d_X_type_43 : decode prog_1_method_7_code 43 = .ok (.iload_n 3, 1) := by decide +kernel
theorem d_X_type_44 : decode prog_1_method_7_code 44 = .ok (.invokevirtual 133, 3) := by decide +kernel
theorem d_X_type_47 : decode prog_1_method_7_code 47 = .ok (.aload_n 0, 1) := by decide +kernel
theorem d_X_type_48 : decode prog_1_method_7_code 48 = .ok (.getfield 26, 3) := by decide +kernel
theorem d_X_type_51 : decode prog_1_method_7_code 51 = .ok (.getfield 132, 3) := by decide +kernel
theorem d_X_type_54 : decode prog_1_method_7_code 54 = .ok (.ireturn, 1) := by decide +kernel
theorem d_Line_empty_0 : decode prog_4_method_3_code 0 = .ok (.aload_n 0, 1) := by decide +kernel
theorem d_Line_empty_1 : decode prog_4_method_3_code 1 = .ok (.iconst 0, 1) := by decide +kernel
theorem d_Line_empty_2 : decode prog_4_method_3_code 2 = .ok (.putfield 15, 3) := by decide +kernel
theorem d_Line_empty_5 : decode prog_4_method_3_code 5 = .ok (.aload_n 0, 1) := by decide +kernel
theorem d_Line_empty_6 : decode prog_4_method_3_code 6 = .ok (.iconst 0, 1) := by decide +kernel
theorem d_Line_empty_7 : decode prog_4_method_3_code 7 = .ok (.putfield 19, 3) := by decide +kernel
theorem d_Line_empty_10 : decode prog_4_method_3_code 10 = .ok (.return_, 1) := by decide +kernel
theorem d_Tape_nextSign_0 : decode prog_9_method_9_code 0 = .ok (.aload_n 0, 1) := by decide +kernel
theorem d_Tape_nextSign_1 : decode prog_9_method_9_code 1 = .ok (.getfield 19, 3) := by decide +kernel
theorem d_Tape_nextSign_4 : decode prog_9_method_9_code 4 = .ok (.aload_n 0, 1) := by decide +kernel
theorem d_Tape_nextSign_5 : decode prog_9_method_9_code 5 = .ok (.getfield 15, 3) := by decide +kernel
theorem d_Tape_nextSign_8 : decode prog_9_method_9_code 8 = .ok (.if_icmp .ge 30, 3) := by decide +kernel
theorem d_Tape_nextSign_11 : decode prog_9_method_9_code 11 = .ok (.aload_n 0, 1) := by decide +kernel
theorem d_Tape_nextSign_12 : decode prog_9_method_9_code 12 = .ok (.getfield 9, 3) := by decide +kernel
theorem d_Tape_nextSign_15 : decode prog_9_method_9_code 15 = .ok (.aload_n 0, 1) := by decide +kernel
theorem d_Tape_nextSign_16 : decode prog_9_method_9_code 16 = .ok (.getfield 19, 3) := by decide +kernel
theorem d_Tape_nextSign_19 : decode prog_9_method_9_code 19 = .ok (.iaload, 1) := by decide +kernel
theorem d_Tape_nextSign_20 : decode prog_9_method_9_code 20 = .ok (.bipush 32, 2) := by decide +kernel
theorem d_Tape_nextSign_22 : decode prog_9_method_9_code 22 = .ok (.if_icmp .ne 16, 3) := by decide +kernel
theorem d_Tape_nextSign_25 : decode prog_9_method_9_code 25 = .ok (.aload_n 0, 1) := by decide +kernel
theorem d_Tape_nextSign_26 : decode prog_9_method_9_code 26 = .ok (.dup, 1) := by decide +kernel
theorem d_Tape_nextSign_27 : decode prog_9_method_9_code 27 = .ok (.getfield 19, 3) := by decide +kernel
theorem d_Tape_nextSign_30 : decode prog_9_method_9_code 30 = .ok (.iconst 1, 1) := by decide +kernel
theorem d_Tape_nextSign_31 : decode prog_9_method_9_code 31 = .ok (.iadd, 1) := by decide +kernel
theorem d_Tape_nextSign_32 : decode prog_9_method_9_code 32 = .ok (.putfield 19, 3) := by decide +kernel
theorem d_Tape_nextSign_35 : decode prog_9_method_9_code 35 = .ok (.goto (-35), 3) := by decide +kernel
theorem d_Tape_nextSign_38 : decode prog_9_method_9_code 38 = .ok (.aload_n 0, 1) := by decide +kernel
theorem d_Tape_nextSign_39 : decode prog_9_method_9_code 39 = .ok (.getfield 19, 3) := by decide +kernel
theorem d_Tape_nextSign_42 : decode prog_9_method_9_code 42 = .ok (.aload_n 0, 1) := by decide +kernel
theorem d_Tape_nextSign_43 : decode prog_9_method_9_code 43 = .ok (.getfield 15, 3) := by decide +kernel
theorem d_Tape_nextSign_46 : decode prog_9_method_9_code 46 = .ok (.if_icmp .ge 15, 3) := by decide +kernel
theorem d_Tape_nextSign_49 : decode prog_9_method_9_code 49 = .ok (.aload_n 0, 1) := by decide +kernel
theorem d_Tape_nextSign_50 : decode prog_9_method_9_code 50 = .ok (.getfield 9, 3) := by decide +kernel
theorem d_Tape_nextSign_53 : decode prog_9_method_9_code 53 = .ok (.aload_n 0, 1) := by decide +kernel
theorem d_Tape_nextSign_54 : decode prog_9_method_9_code 54 = .ok (.getfield 19, 3) := by decide +kernel
theorem d_Tape_nextSign_57 : decode prog_9_method_9_code 57 = .ok (.iaload, 1) := by decide +kernel
theorem d_Tape_nextSign_58 : decode prog_9_method_9_code 58 = .ok (.goto 4, 3) := by decide +kernel
theorem d_Tape_nextSign_61 : decode prog_9_method_9_code 61 = .ok (.iconst (-1), 1) := by decide +kernel
theorem d_Tape_nextSign_62 : decode prog_9_method_9_code 62 = .ok (.ireturn, 1) := by decide +kernel
theorem d_Tape_fault_0 : decode prog_9_method_10_code 0 = .ok (.bipush (-20), 2) := by decide +kernel
theorem d_Tape_fault_2 : decode prog_9_method_10_code 2 = .ok (.aload_n 0, 1) := by decide +kernel
theorem d_Tape_fault_3 : decode prog_9_method_10_code 3 = .ok (.getfield 19, 3) := by decide +kernel
theorem d_Tape_fault_6 : decode prog_9_method_10_code 6 = .ok (.isub, 1) := by decide +kernel
theorem d_Tape_fault_7 : decode prog_9_method_10_code 7 = .ok (.ireturn, 1) := by decide +kernel
theorem d_Line_add_0 : decode prog_4_method_4_code 0 = .ok (.aload_n 0, 1) := by decide +kernel
theorem d_Line_add_1 : decode prog_4_method_4_code 1 = .ok (.getfield 15, 3) := by decide +kernel
theorem d_Line_add_4 : decode prog_4_method_4_code 4 = .ok (.bipush 10, 2) := by decide +kernel
theorem d_Line_add_6 : decode prog_4_method_4_code 6 = .ok (.if_icmp .ge 51, 3) := by decide +kernel
theorem d_Line_add_9 : decode prog_4_method_4_code 9 = .ok (.aload_n 0, 1) := by decide +kernel
theorem d_Line_add_10 : decode prog_4_method_4_code 10 = .ok (.getfield 15, 3) := by decide +kernel
theorem d_Line_add_13 : decode prog_4_method_4_code 13 = .ok (.ifCond .le 24, 3) := by decide +kernel
theorem d_Line_add_16 : decode prog_4_method_4_code 16 = .ok (.iload_n 2, 1) := by decide +kernel
theorem d_Line_add_17 : decode prog_4_method_4_code 17 = .ok (.ifCond .ne 20, 3) := by decide +kernel
theorem d_Line_add_20 : decode prog_4_method_4_code 20 = .ok (.aload_n 0, 1) := by decide +kernel
theorem d_Line_add_21 : decode prog_4_method_4_code 21 = .ok (.dup, 1) := by decide +kernel
theorem d_Line_add_22 : decode prog_4_method_4_code 22 = .ok (.getfield 19, 3) := by decide +kernel
theorem d_Line_add_25 : decode prog_4_method_4_code 25 = .ok (.iconst 1, 1) := by decide +kernel
theorem d_Line_add_26 : decode prog_4_method_4_code 26 = .ok (.aload_n 0, 1) := by decide +kernel
theorem d_Line_add_27 : decode prog_4_method_4_code 27 = .ok (.getfield 15, 3) := by decide +kernel
theorem d_Line_add_30 : decode prog_4_method_4_code 30 = .ok (.iconst 1, 1) := by decide +kernel
theorem d_Line_add_31 : decode prog_4_method_4_code 31 = .ok (.isub, 1) := by decide +kernel
theorem d_Line_add_32 : decode prog_4_method_4_code 32 = .ok (.ishl, 1) := by decide +kernel
theorem d_Line_add_33 : decode prog_4_method_4_code 33 = .ok (.ior, 1) := by decide +kernel
theorem d_Line_add_34 : decode prog_4_method_4_code 34 = .ok (.putfield 19, 3) := by decide +kernel
theorem d_Line_add_37 : decode prog_4_method_4_code 37 = .ok (.aload_n 0, 1) := by decide +kernel
theorem d_Line_add_38 : decode prog_4_method_4_code 38 = .ok (.getfield 9, 3) := by decide +kernel
theorem d_Line_add_41 : decode prog_4_method_4_code 41 = .ok (.aload_n 0, 1) := by decide +kernel
theorem d_Line_add_42 : decode prog_4_method_4_code 42 = .ok (.getfield 15, 3) := by decide +kernel
theorem d_Line_add_45 : decode prog_4_method_4_code 45 = .ok (.iload_n 1, 1) := by decide +kernel
theorem d_Line_add_46 : decode prog_4_method_4_code 46 = .ok (.iastore, 1) := by decide +kernel
theorem d_Line_add_47 : decode prog_4_method_4_code 47 = .ok (.aload_n 0, 1) := by decide +kernel
theorem d_Line_add_48 : decode prog_4_method_4_code 48 = .ok (.dup, 1) := by decide +kernel
theorem d_Line_add_49 : decode prog_4_method_4_code 49 = .ok (.getfield 15, 3) := by decide +kernel
theorem d_Line_add_52 : decode prog_4_method_4_code 52 = .ok (.iconst 1, 1) := by decide +kernel
theorem d_Line_add_53 : decode prog_4_method_4_code 53 = .ok (.iadd, 1) := by decide +kernel
theorem d_Line_add_54 : decode prog_4_method_4_code 54 = .ok (.putfield 15, 3) := by decide +kernel
theorem d_Line_add_57 : decode prog_4_method_4_code 57 = .ok (.return_, 1) := by decide +kernel
def f_X_isLetter (a0 : Int32) : Option (Int32) :=
  fw_nm (
    if a0 < 0 then
      0
    else
      if 12 ≤ a0 then
        0
      else
        1) fun (j1 : Int32) =>
  (fw_bz j1).bind fun b15 =>
  some b15
set_option maxHeartbeats 4000000 in
set_option maxRecDepth 100000 in
theorem c_X_isLetter {a0 : Int32} {μ : fw_M} {r : Int32} (h : f_X_isLetter a0 = some r) : fw_Con Y_X_isLetter fw_X 1 [.int a0] (some r) μ μ := by
  refine fw_con (by decide) (Nat.le_of_ble_eq_true rfl) ?_
  rw [f_X_isLetter] at h
  show fw_R "FewTypes" prog_1_method_34_code 1 (some .boolean) fw_X 1 (some r) μ 0 [(0, .int a0)] [] μ
  refine fw_iload_n (pc := 0) d_X_isLetter_0 0 rfl rfl ?_
  obtain ⟨j1, w1, h⟩ := fw_ne h
  have hJ1 : fw_R "FewTypes" prog_1_method_34_code 1 (some .boolean) fw_X 1 (some r) μ 15 [] [.int j1] μ := by
    obtain ⟨b15, e15, h⟩ := fw_be h
    obtain rfl := Option.some.inj h
    exact fw_zret (pc := 15) d_X_isLetter_15 rfl e15
  clear h
  have h := w1
  clear w1
  refine fw_if_lt (pc := 1) (tgt := 14) d_X_isLetter_1 rfl (fun hc => ?_) (fun hc => ?_)
  · have h := h.trans (if_pos hc)
    refine fw_iconst (pc := 14) d_X_isLetter_14 fw_ic0 ?_
    subst h
    exact fw_sub [] rfl hJ1
  · have h := h.trans (if_neg hc)
    refine fw_iload_n (pc := 4) d_X_isLetter_4 0 rfl rfl ?_
    refine fw_bipush (pc := 5) d_X_isLetter_5 fw_bp12 ?_
    refine fw_icmp_ge (pc := 7) (tgt := 14) d_X_isLetter_7 rfl (fun hc => ?_) (fun hc => ?_)
    · have h := h.trans (if_pos hc)
      refine fw_iconst (pc := 14) d_X_isLetter_14 fw_ic0 ?_
      subst h
      exact fw_sub [] rfl hJ1
    · have h := h.trans (if_neg hc)
      refine fw_iconst (pc := 10) d_X_isLetter_10 fw_ic1 ?_
      refine fw_goto (pc := 11) (tgt := 15) d_X_isLetter_11 rfl ?_
      subst h
      exact fw_sub [] rfl hJ1
def f_Case_fits (a0 : Int32) (a1 : Int32) (a2 : Int32) : Option (Int32) :=
  (f_X_isLetter a1).bind fun (p1 : Int32) =>
  if p1 = 0 then
    some 0
  else
    if a0 = 0 then
      fw_nm (
        if a2 = 0 then
          1
        else
          0) fun (j41 : Int32) =>
      (fw_bz j41).bind fun b49 =>
      some b49
    else
      if a0 = 1 then
        (f_X_isLetter a2).bind fun (p51 : Int32) =>
        fw_nm (
          if p51 = 0 then
            0
          else
            if a2 = a1 then
              0
            else
              1) fun (j54 : Int32) =>
        (fw_bz j54).bind fun b67 =>
        some b67
      else
        if a0 = 2 then
          (f_X_isLetter a2).bind fun (p69 : Int32) =>
          (fw_bz p69).bind fun b72 =>
          some b72
        else
          if a0 = 3 then
            fw_nm (
              if a2 < 1 then
                0
              else
                if 9 < a2 then
                  0
                else
                  1) fun (j75 : Int32) =>
            (fw_bz j75).bind fun b89 =>
            some b89
          else
            some 0
set_option maxHeartbeats 4000000 in
set_option maxRecDepth 100000 in
theorem c_Case_fits {a0 : Int32} {a1 : Int32} {a2 : Int32} {μ : fw_M} {r : Int32} (h : f_Case_fits a0 a1 a2 = some r) : fw_Con Y_Case_fits fw_X 2 [.int a0, .int a1, .int a2] (some r) μ μ := by
  refine fw_con (by decide) (Nat.le_of_ble_eq_true rfl) ?_
  rw [f_Case_fits] at h
  show fw_R "FewTypes$Case" prog_2_method_2_code 3 (some .boolean) fw_X 2 (some r) μ 0 [(0, .int a0), (1, .int a1), (2, .int a2)] [] μ
  refine fw_iload_n (pc := 0) d_Case_fits_0 1 rfl rfl ?_
  obtain ⟨p1, e1, h⟩ := fw_be h
  refine fw_callNi (pc := 1) d_Case_fits_1 ms_Case_25 (c_X_isLetter e1) (by decide) rfl rfl (Nat.le_of_ble_eq_true rfl) ?_
  refine fw_if_ne (pc := 4) (tgt := 9) d_Case_fits_4 rfl (fun hc => ?_) (fun hc => ?_)
  · have h := fw_it hc h
    refine fw_iconst (pc := 7) d_Case_fits_7 fw_ic0 ?_
    obtain rfl := Option.some.inj h
    exact fw_zret (pc := 8) d_Case_fits_8 rfl fw_bz0
  · have h := fw_if hc h
    refine fw_iload_n (pc := 9) d_Case_fits_9 0 rfl rfl ?_
    by_cases hc0 : a0 = 0
    · have h := fw_it hc0 h
      refine fw_top hc0.symm ?_
      refine fw_tin (pc := 10) (off := 30) (tgt := 40) d_Case_fits_10 (by decide) (by decide) (by decide) rfl ?_
      refine fw_iload_n (pc := 40) d_Case_fits_40 2 rfl rfl ?_
      obtain ⟨j41, w41, h⟩ := fw_ne h
      have hJ41 : fw_R "FewTypes$Case" prog_2_method_2_code 3 (some .boolean) fw_X 2 (some r) μ 49 [] [.int j41] μ := by
        obtain ⟨b49, e49, h⟩ := fw_be h
        obtain rfl := Option.some.inj h
        exact fw_zret (pc := 49) d_Case_fits_49 rfl e49
      clear h
      have h := w41
      clear w41
      refine fw_if_ne (pc := 41) (tgt := 48) d_Case_fits_41 rfl (fun hc => ?_) (fun hc => ?_)
      · have h := h.trans (if_pos hc)
        refine fw_iconst (pc := 44) d_Case_fits_44 fw_ic1 ?_
        refine fw_goto (pc := 45) (tgt := 49) d_Case_fits_45 rfl ?_
        subst h
        exact fw_sub [] rfl hJ41
      · have h := h.trans (if_neg hc)
        refine fw_iconst (pc := 48) d_Case_fits_48 fw_ic0 ?_
        subst h
        exact fw_sub [] rfl hJ41
    · have h := fw_if hc0 h
      by_cases hc1 : a0 = 1
      · have h := fw_it hc1 h
        refine fw_top hc1.symm ?_
        refine fw_tin (pc := 10) (off := 40) (tgt := 50) d_Case_fits_10 (by decide) (by decide) (by decide) rfl ?_
        refine fw_iload_n (pc := 50) d_Case_fits_50 2 rfl rfl ?_
        obtain ⟨p51, e51, h⟩ := fw_be h
        refine fw_callNi (pc := 51) d_Case_fits_51 ms_Case_25 (c_X_isLetter e51) (by decide) rfl rfl (Nat.le_of_ble_eq_true rfl) ?_
        obtain ⟨j54, w54, h⟩ := fw_ne h
        have hJ54 : fw_R "FewTypes$Case" prog_2_method_2_code 3 (some .boolean) fw_X 2 (some r) μ 67 [] [.int j54] μ := by
          obtain ⟨b67, e67, h⟩ := fw_be h
          obtain rfl := Option.some.inj h
          exact fw_zret (pc := 67) d_Case_fits_67 rfl e67
        clear h
        have h := w54
        clear w54
        refine fw_if_eq (pc := 54) (tgt := 66) d_Case_fits_54 rfl (fun hc => ?_) (fun hc => ?_)
        · have h := h.trans (if_pos hc)
          refine fw_iconst (pc := 66) d_Case_fits_66 fw_ic0 ?_
          subst h
          exact fw_sub [] rfl hJ54
        · have h := h.trans (if_neg hc)
          refine fw_iload_n (pc := 57) d_Case_fits_57 2 rfl rfl ?_
          refine fw_iload_n (pc := 58) d_Case_fits_58 1 rfl rfl ?_
          refine fw_icmp_eq (pc := 59) (tgt := 66) d_Case_fits_59 rfl (fun hc => ?_) (fun hc => ?_)
          · have h := h.trans (if_pos hc)
            refine fw_iconst (pc := 66) d_Case_fits_66 fw_ic0 ?_
            subst h
            exact fw_sub [] rfl hJ54
          · have h := h.trans (if_neg hc)
            refine fw_iconst (pc := 62) d_Case_fits_62 fw_ic1 ?_
            refine fw_goto (pc := 63) (tgt := 67) d_Case_fits_63 rfl ?_
            subst h
            exact fw_sub [] rfl hJ54
      · have h := fw_if hc1 h
        by_cases hc2 : a0 = 2
        · have h := fw_it hc2 h
          refine fw_top hc2.symm ?_
          refine fw_tin (pc := 10) (off := 58) (tgt := 68) d_Case_fits_10 (by decide) (by decide) (by decide) rfl ?_
          refine fw_iload_n (pc := 68) d_Case_fits_68 2 rfl rfl ?_
          obtain ⟨p69, e69, h⟩ := fw_be h
          refine fw_callNi (pc := 69) d_Case_fits_69 ms_Case_25 (c_X_isLetter e69) (by decide) rfl rfl (Nat.le_of_ble_eq_true rfl) ?_
          obtain ⟨b72, e72, h⟩ := fw_be h
          obtain rfl := Option.some.inj h
          exact fw_zret (pc := 72) d_Case_fits_72 rfl e72
        · have h := fw_if hc2 h
          by_cases hc3 : a0 = 3
          · have h := fw_it hc3 h
            refine fw_top hc3.symm ?_
            refine fw_tin (pc := 10) (off := 63) (tgt := 73) d_Case_fits_10 (by decide) (by decide) (by decide) rfl ?_
            refine fw_iload_n (pc := 73) d_Case_fits_73 2 rfl rfl ?_
            refine fw_iconst (pc := 74) d_Case_fits_74 fw_ic1 ?_
            obtain ⟨j75, w75, h⟩ := fw_ne h
            have hJ75 : fw_R "FewTypes$Case" prog_2_method_2_code 3 (some .boolean) fw_X 2 (some r) μ 89 [] [.int j75] μ := by
              obtain ⟨b89, e89, h⟩ := fw_be h
              obtain rfl := Option.some.inj h
              exact fw_zret (pc := 89) d_Case_fits_89 rfl e89
            clear h
            have h := w75
            clear w75
            refine fw_icmp_lt (pc := 75) (tgt := 88) d_Case_fits_75 rfl (fun hc => ?_) (fun hc => ?_)
            · have h := h.trans (if_pos hc)
              refine fw_iconst (pc := 88) d_Case_fits_88 fw_ic0 ?_
              subst h
              exact fw_sub [] rfl hJ75
            · have h := h.trans (if_neg hc)
              refine fw_iload_n (pc := 78) d_Case_fits_78 2 rfl rfl ?_
              refine fw_bipush (pc := 79) d_Case_fits_79 fw_bp9 ?_
              refine fw_icmp_gt (pc := 81) (tgt := 88) d_Case_fits_81 rfl (fun hc => ?_) (fun hc => ?_)
              · have h := h.trans (if_pos hc)
                refine fw_iconst (pc := 88) d_Case_fits_88 fw_ic0 ?_
                subst h
                exact fw_sub [] rfl hJ75
              · have h := h.trans (if_neg hc)
                refine fw_iconst (pc := 84) d_Case_fits_84 fw_ic1 ?_
                refine fw_goto (pc := 85) (tgt := 89) d_Case_fits_85 rfl ?_
                subst h
                exact fw_sub [] rfl hJ75
          · have h := fw_if hc3 h
            refine fw_tout (pc := 10) (tgt := 90) d_Case_fits_10 ?_ rfl ?_
            · have g0 := fw_ti hc0
              have g1 := fw_ti hc1
              have g2 := fw_ti hc2
              have g3 := fw_ti hc3
              revert g0 g1 g2 g3
              exact fw_sw0_3
            · refine fw_iconst (pc := 90) d_Case_fits_90 fw_ic0 ?_
              obtain rfl := Option.some.inj h
              exact fw_zret (pc := 91) d_Case_fits_91 rfl fw_bz0
def f_Case_add_2 (a1 : Int32) (a2 : Int32) (a3 : Int32) (μ : fw_M) : Option (fw_M) :=
  Option.bind (
    if 10 ≤ (μ.1 2 3) then
      some μ
    else
      (fw_si 10 μ 3 (μ.1 2 3) a1).bind fun μ18 =>
      (fw_si 10 μ18 4 (μ18.1 2 3) a2).bind fun μ28 =>
      (fw_si 10 μ28 5 (μ28.1 2 3) a3).bind fun μ38 =>
      fw_nm (fw_wr μ38 2 3 ((μ38.1 2 3) + 1)) fun (μ46 : fw_M) =>
      some μ46) fun (j6 : fw_M) =>
  some j6
set_option maxHeartbeats 4000000 in
set_option maxRecDepth 100000 in
theorem c_Case_add_2 {a1 : Int32} {a2 : Int32} {a3 : Int32} {μ : fw_M} {r : fw_M} (h : f_Case_add_2 a1 a2 a3 μ = some r) : fw_Con Y_Case_add fw_X 1 [.ref 2, .int a1, .int a2, .int a3] none μ r := by
  refine fw_con (by decide) (Nat.le_of_ble_eq_true rfl) ?_
  rw [f_Case_add_2] at h
  show fw_R "FewTypes$Case" prog_2_method_4_code 4 none fw_X 1 none r 0 [(0, .ref 2), (1, .int a1), (2, .int a2), (3, .int a3)] [] μ
  refine fw_aload_n (pc := 0) d_Case_add_0 0 rfl rfl ?_
  refine fw_getI (pc := 1) d_Case_add_1 fl_Case_21 fw_X2 rfl ?_
  refine fw_bipush (pc := 4) d_Case_add_4 fw_bp10 ?_
  obtain ⟨j6, w6, h⟩ := fw_be h
  have hJ6 : fw_R "FewTypes$Case" prog_2_method_4_code 4 none fw_X 1 none r 49 [] [] j6 := by
    obtain rfl := Option.some.inj h
    exact fw_vret (pc := 49) d_Case_add_49 rfl
  clear h
  have h := w6
  clear w6
  refine fw_icmp_ge (pc := 6) (tgt := 49) d_Case_add_6 rfl (fun hc => ?_) (fun hc => ?_)
  · have h := fw_it hc h
    obtain rfl := Option.some.inj h
    exact fw_sub [] rfl hJ6
  · have h := fw_if hc h
    refine fw_aload_n (pc := 9) d_Case_add_9 0 rfl rfl ?_
    refine fw_getR (pc := 10) d_Case_add_10 fl_Case_9 fw_X2 rfl ?_
    refine fw_aload_n (pc := 13) d_Case_add_13 0 rfl rfl ?_
    refine fw_getI (pc := 14) d_Case_add_14 fl_Case_21 fw_X2 rfl ?_
    refine fw_iload_n (pc := 17) d_Case_add_17 1 rfl rfl ?_
    obtain ⟨μ18, e18, h⟩ := fw_be h
    refine fw_iast (pc := 18) d_Case_add_18 fw_X3 e18 ?_
    refine fw_aload_n (pc := 19) d_Case_add_19 0 rfl rfl ?_
    refine fw_getR (pc := 20) d_Case_add_20 fl_Case_15 fw_X2 rfl ?_
    refine fw_aload_n (pc := 23) d_Case_add_23 0 rfl rfl ?_
    refine fw_getI (pc := 24) d_Case_add_24 fl_Case_21 fw_X2 rfl ?_
    refine fw_iload_n (pc := 27) d_Case_add_27 2 rfl rfl ?_
    obtain ⟨μ28, e28, h⟩ := fw_be h
    refine fw_iast (pc := 28) d_Case_add_28 fw_X4 e28 ?_
    refine fw_aload_n (pc := 29) d_Case_add_29 0 rfl rfl ?_
    refine fw_getR (pc := 30) d_Case_add_30 fl_Case_18 fw_X2 rfl ?_
    refine fw_aload_n (pc := 33) d_Case_add_33 0 rfl rfl ?_
    refine fw_getI (pc := 34) d_Case_add_34 fl_Case_21 fw_X2 rfl ?_
    refine fw_iload_n (pc := 37) d_Case_add_37 3 rfl rfl ?_
    obtain ⟨μ38, e38, h⟩ := fw_be h
    refine fw_iast (pc := 38) d_Case_add_38 fw_X5 e38 ?_
    refine fw_aload_n (pc := 39) d_Case_add_39 0 rfl rfl ?_
    refine fw_dup (pc := 40) d_Case_add_40 rfl ?_
    refine fw_getI (pc := 41) d_Case_add_41 fl_Case_21 fw_X2 rfl ?_
    refine fw_iconst (pc := 44) d_Case_add_44 fw_ic1 ?_
    refine fw_iadd (pc := 45) d_Case_add_45 ?_
    obtain ⟨μ46, e46, h⟩ := fw_ne h
    refine fw_putI (pc := 46) d_Case_add_46 fp_Case_21 fw_X2 rfl (fw_mem e46 ?_)
    obtain rfl := Option.some.inj h
    exact fw_sub [] rfl hJ6
def f_Arrays_fill_L5 (k0 : Nat) (n0 : Nat) (a1 : Int32) (v4 : Int32) : Int32 × fw_M → Option ((Int32 × fw_M) ⊕ (fw_M))
  | (x2_5, μ5) =>
  if v4 ≤ x2_5 then
    some (.inr μ5)
  else
    (fw_si n0 μ5 k0 x2_5 a1).bind fun μ13 =>
    fw_nm (x2_5 + 1) fun (v14 : Int32) =>
    some (.inl (v14, μ13))
def f_Arrays_fill (k0 : Nat) (n0 : Nat) (a1 : Int32) (μ : fw_M) : Option (fw_M) :=
  if fw_X[k0]? = some (.inr (0, n0, [])) then
    fw_nm ((nI n0)) fun (v4 : Int32) =>
    (fw_wh (f_Arrays_fill_L5 k0 n0 a1 v4) fw_N (0, μ)).bind fun (e5x : fw_M) =>
    some e5x
  else none
set_option maxHeartbeats 4000000 in
set_option maxRecDepth 100000 in
theorem c_Arrays_fill {k0 : Nat} {n0 : Nat} {a1 : Int32} {μ : fw_M} {r : fw_M} (h : f_Arrays_fill k0 n0 a1 μ = some r) : fw_Con Y_Arrays_fill fw_X 1 [.ref k0, .int a1] none μ r := by
  refine fw_con (by decide) (Nat.le_of_ble_eq_true rfl) ?_
  rw [f_Arrays_fill] at h
  show fw_R "java/util/Arrays" prog_15_method_103_code 4 none fw_X 1 none r 0 [(0, .ref k0), (1, .int a1)] [] μ
  obtain ⟨g0, h⟩ := fw_gu h
  refine fw_iconst (pc := 0) d_Arrays_fill_0 fw_ic0 ?_
  refine fw_istore_n (pc := 1) (lv1 := [(2, .int 0), (0, .ref k0), (1, .int a1)]) d_Arrays_fill_1 rfl (by decide) rfl ?_
  refine fw_aload_n (pc := 2) d_Arrays_fill_2 1 rfl rfl ?_
  refine fw_alen (pc := 3) d_Arrays_fill_3 g0 (ty := fun _ => .int) (fun _ => rfl) ?_
  obtain ⟨v4, e4, h⟩ := fw_ne h
  refine fw_top e4 ?_
  refine fw_istore_n (pc := 4) (lv1 := [(3, .int v4), (2, .int 0), (0, .ref k0), (1, .int a1)]) d_Arrays_fill_4 rfl (by decide) rfl ?_
  obtain ⟨e5x, w5, h⟩ := fw_be h
  have hE5 : fw_R "java/util/Arrays" prog_15_method_103_code 4 none fw_X 1 none r 20 [] [] e5x := by
    obtain rfl := Option.some.inj h
    exact fw_vret (pc := 20) d_Arrays_fill_20 rfl
  clear h
  exact fw_sub [2, 3, 1, 0] rfl (fw_we (e := e5x) (fun (s : Int32 × fw_M) => fw_R "java/util/Arrays" prog_15_method_103_code 4 none fw_X 1 none r 5 [(0, .ref k0), (1, .int a1), (2, .int s.1), (3, .int v4)] [] s.2) (by
    intro s x h hl hr
    obtain ⟨x2_5, μ5⟩ := s
    rw [f_Arrays_fill_L5] at h
    show fw_R "java/util/Arrays" prog_15_method_103_code 4 none fw_X 1 none r 5 [(0, .ref k0), (1, .int a1), (2, .int x2_5), (3, .int v4)] [] μ5
    refine fw_iload_n (pc := 5) d_Arrays_fill_5 2 rfl rfl ?_
    refine fw_iload_n (pc := 6) d_Arrays_fill_6 3 rfl rfl ?_
    refine fw_icmp_ge (pc := 7) (tgt := 20) d_Arrays_fill_7 rfl (fun hc => ?_) (fun hc => ?_)
    · have h := fw_it hc h
      obtain rfl := Option.some.inj h
      have he := hr _ rfl
      subst he
      exact fw_sub [] rfl hE5
    · have h := fw_if hc h
      refine fw_aload_n (pc := 10) d_Arrays_fill_10 0 rfl rfl ?_
      refine fw_iload_n (pc := 11) d_Arrays_fill_11 2 rfl rfl ?_
      refine fw_iload_n (pc := 12) d_Arrays_fill_12 1 rfl rfl ?_
      obtain ⟨μ13, e13, h⟩ := fw_be h
      refine fw_iast (pc := 13) d_Arrays_fill_13 g0 e13 ?_
      obtain ⟨v14, e14, h⟩ := fw_ne h
      refine fw_iinc2 (pc := 14) (j := 2) (lv1 := [(2, .int v14), (0, .ref k0), (1, .int a1), (3, .int v4)]) d_Arrays_fill_14 rfl fw_ic1 e14 (by decide) rfl ?_
      refine fw_goto (pc := 17) (tgt := 5) d_Arrays_fill_17 rfl ?_
      obtain rfl := Option.some.inj h
      exact fw_sub [1, 2, 0, 3] rfl (hl _ rfl)
    ) _ _ w5)
def f_X_forgetPulls  (μ : fw_M) : Option (fw_M) :=
  (f_Arrays_fill 81 9 0 μ).bind fun (p5 : fw_M) =>
  some p5
set_option maxHeartbeats 4000000 in
set_option maxRecDepth 100000 in
theorem c_X_forgetPulls  {μ : fw_M} {r : fw_M} (h : f_X_forgetPulls  μ = some r) : fw_Con Y_X_forgetPulls fw_X 2 [.ref 0] none μ r := by
  refine fw_con (by decide) (Nat.le_of_ble_eq_true rfl) ?_
  rw [f_X_forgetPulls] at h
  show fw_R "FewTypes" prog_1_method_42_code 1 none fw_X 2 none r 0 [(0, .ref 0)] [] μ
  refine fw_aload_n (pc := 0) d_X_forgetPulls_0 0 rfl rfl ?_
  refine fw_getR (pc := 1) d_X_forgetPulls_1 fl_X_58 fw_X0 rfl ?_
  refine fw_iconst (pc := 4) d_X_forgetPulls_4 fw_ic0 ?_
  obtain ⟨p5, e5, h⟩ := fw_be h
  refine fw_callSv (pc := 5) d_X_forgetPulls_5 ms_X_304 (c_Arrays_fill e5) (by decide) rfl rfl (Nat.le_of_ble_eq_true rfl) ?_
  obtain rfl := Option.some.inj h
  exact fw_vret (pc := 8) d_X_forgetPulls_8 rfl
def f_X_cast (a1 : Int32) (a2 : Int32) (a3 : Int32) (μ : fw_M) : Option (Int32 × fw_M) :=
  (f_Case_fits a1 a2 a3).bind fun (p3 : Int32) =>
  if p3 = 0 then
    some ((-1), μ)
  else
    if (μ.1 2 3) < 10 then
      (f_Case_add_2 a1 a2 a3 μ).bind fun (p39 : fw_M) =>
      (f_X_forgetPulls p39).bind fun (p43 : fw_M) =>
      some (((p43.1 2 3) - 1), p43)
    else
      some ((-3), μ)
set_option maxHeartbeats 4000000 in
set_option maxRecDepth 100000 in
theorem c_X_cast {a1 : Int32} {a2 : Int32} {a3 : Int32} {μ : fw_M} {r : Int32 × fw_M} (h : f_X_cast a1 a2 a3 μ = some r) : fw_Con Y_X_cast fw_X 3 [.ref 0, .int a1, .int a2, .int a3] (some r.1) μ r.2 := by
  refine fw_con (by decide) (Nat.le_of_ble_eq_true rfl) ?_
  rw [f_X_cast] at h
  show fw_R "FewTypes" prog_1_method_2_code 4 (some .int) fw_X 3 (some r.1) r.2 0 [(0, .ref 0), (1, .int a1), (2, .int a2), (3, .int a3)] [] μ
  refine fw_iload_n (pc := 0) d_X_cast_0 1 rfl rfl ?_
  refine fw_iload_n (pc := 1) d_X_cast_1 2 rfl rfl ?_
  refine fw_iload_n (pc := 2) d_X_cast_2 3 rfl rfl ?_
  obtain ⟨p3, e3, h⟩ := fw_be h
  refine fw_callSi (pc := 3) d_X_cast_3 ms_X_78 (c_Case_fits e3) (by decide) rfl rfl (Nat.le_of_ble_eq_true rfl) ?_
  refine fw_if_ne (pc := 6) (tgt := 11) d_X_cast_6 rfl (fun hc => ?_) (fun hc => ?_)
  · have h := fw_it hc h
    refine fw_iconst (pc := 9) d_X_cast_9 fw_icm1 ?_
    obtain rfl := Option.some.inj h
    exact fw_iret (pc := 10) d_X_cast_10 rfl
  · have h := fw_if hc h
    refine fw_aload_n (pc := 11) d_X_cast_11 0 rfl rfl ?_
    refine fw_getR (pc := 12) d_X_cast_12 fl_X_12 fw_X0 rfl ?_
    refine fw_getR (pc := 15) d_X_cast_15 fl_X_82 fw_X1 rfl ?_
    refine fw_getI (pc := 18) d_X_cast_18 fl_X_85 fw_X2 rfl ?_
    refine fw_bipush (pc := 21) d_X_cast_21 fw_bp10 ?_
    refine fw_icmp_lt (pc := 23) (tgt := 29) d_X_cast_23 rfl (fun hc => ?_) (fun hc => ?_)
    · have h := fw_it hc h
      refine fw_aload_n (pc := 29) d_X_cast_29 0 rfl rfl ?_
      refine fw_getR (pc := 30) d_X_cast_30 fl_X_12 fw_X0 rfl ?_
      refine fw_getR (pc := 33) d_X_cast_33 fl_X_82 fw_X1 rfl ?_
      refine fw_iload_n (pc := 36) d_X_cast_36 1 rfl rfl ?_
      refine fw_iload_n (pc := 37) d_X_cast_37 2 rfl rfl ?_
      refine fw_iload_n (pc := 38) d_X_cast_38 3 rfl rfl ?_
      obtain ⟨p39, e39, h⟩ := fw_be h
      refine fw_callVv (pc := 39) d_X_cast_39 mv_X_89 fw_X2 (c_Case_add_2 e39) (by decide) rfl rfl (Nat.le_of_ble_eq_true rfl) ?_
      refine fw_aload_n (pc := 42) d_X_cast_42 0 rfl rfl ?_
      obtain ⟨p43, e43, h⟩ := fw_be h
      refine fw_callVv (pc := 43) d_X_cast_43 mv_X_93 fw_X0 (c_X_forgetPulls e43) (by decide) rfl rfl (Nat.le_of_ble_eq_true rfl) ?_
      refine fw_aload_n (pc := 46) d_X_cast_46 0 rfl rfl ?_
      refine fw_getR (pc := 47) d_X_cast_47 fl_X_12 fw_X0 rfl ?_
      refine fw_getR (pc := 50) d_X_cast_50 fl_X_82 fw_X1 rfl ?_
      refine fw_getI (pc := 53) d_X_cast_53 fl_X_85 fw_X2 rfl ?_
      refine fw_iconst (pc := 56) d_X_cast_56 fw_ic1 ?_
      refine fw_isub (pc := 57) d_X_cast_57 ?_
      obtain rfl := Option.some.inj h
      exact fw_iret (pc := 58) d_X_cast_58 rfl
    · have h := fw_if hc h
      refine fw_bipush (pc := 26) d_X_cast_26 fw_bpm3 ?_
      obtain rfl := Option.some.inj h
      exact fw_iret (pc := 28) d_X_cast_28 rfl
def f_Case_has_2 (a1 : Int32) (μ : fw_M) : Option (Int32) :=
  fw_nm (
    if a1 < 0 then
      0
    else
      if (μ.1 2 3) ≤ a1 then
        0
      else
        1) fun (j1 : Int32) =>
  (fw_bz j1).bind fun b17 =>
  some b17
set_option maxHeartbeats 4000000 in
set_option maxRecDepth 100000 in
theorem c_Case_has_2 {a1 : Int32} {μ : fw_M} {r : Int32} (h : f_Case_has_2 a1 μ = some r) : fw_Con Y_Case_has fw_X 1 [.ref 2, .int a1] (some r) μ μ := by
  refine fw_con (by decide) (Nat.le_of_ble_eq_true rfl) ?_
  rw [f_Case_has_2] at h
  show fw_R "FewTypes$Case" prog_2_method_3_code 2 (some .boolean) fw_X 1 (some r) μ 0 [(0, .ref 2), (1, .int a1)] [] μ
  refine fw_iload_n (pc := 0) d_Case_has_0 1 rfl rfl ?_
  obtain ⟨j1, w1, h⟩ := fw_ne h
  have hJ1 : fw_R "FewTypes$Case" prog_2_method_3_code 2 (some .boolean) fw_X 1 (some r) μ 17 [] [.int j1] μ := by
    obtain ⟨b17, e17, h⟩ := fw_be h
    obtain rfl := Option.some.inj h
    exact fw_zret (pc := 17) d_Case_has_17 rfl e17
  clear h
  have h := w1
  clear w1
  refine fw_if_lt (pc := 1) (tgt := 16) d_Case_has_1 rfl (fun hc => ?_) (fun hc => ?_)
  · have h := h.trans (if_pos hc)
    refine fw_iconst (pc := 16) d_Case_has_16 fw_ic0 ?_
    subst h
    exact fw_sub [] rfl hJ1
  · have h := h.trans (if_neg hc)
    refine fw_iload_n (pc := 4) d_Case_has_4 1 rfl rfl ?_
    refine fw_aload_n (pc := 5) d_Case_has_5 0 rfl rfl ?_
    refine fw_getI (pc := 6) d_Case_has_6 fl_Case_21 fw_X2 rfl ?_
    refine fw_icmp_ge (pc := 9) (tgt := 16) d_Case_has_9 rfl (fun hc => ?_) (fun hc => ?_)
    · have h := h.trans (if_pos hc)
      refine fw_iconst (pc := 16) d_Case_has_16 fw_ic0 ?_
      subst h
      exact fw_sub [] rfl hJ1
    · have h := h.trans (if_neg hc)
      refine fw_iconst (pc := 12) d_Case_has_12 fw_ic1 ?_
      refine fw_goto (pc := 13) (tgt := 17) d_Case_has_13 rfl ?_
      subst h
      exact fw_sub [] rfl hJ1
def f_X_told (a1 : Int32) (a2 : Int32) (μ : fw_M) : Option (Int32) :=
  (f_Case_has_2 a1 μ).bind fun (p8 : Int32) =>
  if p8 = 0 then
    some (-1)
  else
    if a2 = 0 then
      (fw_rd 10 (μ.1 3) a1).bind fun v55 =>
      some v55
    else
      if a2 = 1 then
        (fw_rd 10 (μ.1 4) a1).bind fun v68 =>
        some v68
      else
        if a2 = 2 then
          (fw_rd 10 (μ.1 5) a1).bind fun v81 =>
          some v81
        else
          some (-1)
set_option maxHeartbeats 4000000 in
set_option maxRecDepth 100000 in
theorem c_X_told {a1 : Int32} {a2 : Int32} {μ : fw_M} {r : Int32} (h : f_X_told a1 a2 μ = some r) : fw_Con Y_X_told fw_X 2 [.ref 0, .int a1, .int a2] (some r) μ μ := by
  refine fw_con (by decide) (Nat.le_of_ble_eq_true rfl) ?_
  rw [f_X_told] at h
  show fw_R "FewTypes" prog_1_method_3_code 3 (some .int) fw_X 2 (some r) μ 0 [(0, .ref 0), (1, .int a1), (2, .int a2)] [] μ
  refine fw_aload_n (pc := 0) d_X_told_0 0 rfl rfl ?_
  refine fw_getR (pc := 1) d_X_told_1 fl_X_12 fw_X0 rfl ?_
  refine fw_getR (pc := 4) d_X_told_4 fl_X_82 fw_X1 rfl ?_
  refine fw_iload_n (pc := 7) d_X_told_7 1 rfl rfl ?_
  obtain ⟨p8, e8, h⟩ := fw_be h
  refine fw_callVi (pc := 8) d_X_told_8 mv_X_96 fw_X2 (c_Case_has_2 e8) (by decide) rfl rfl (Nat.le_of_ble_eq_true rfl) ?_
  refine fw_if_ne (pc := 11) (tgt := 16) d_X_told_11 rfl (fun hc => ?_) (fun hc => ?_)
  · have h := fw_it hc h
    refine fw_iconst (pc := 14) d_X_told_14 fw_icm1 ?_
    obtain rfl := Option.some.inj h
    exact fw_iret (pc := 15) d_X_told_15 rfl
  · have h := fw_if hc h
    refine fw_iload_n (pc := 16) d_X_told_16 2 rfl rfl ?_
    by_cases hc0 : a2 = 0
    · have h := fw_it hc0 h
      refine fw_top hc0.symm ?_
      refine fw_tin (pc := 17) (off := 27) (tgt := 44) d_X_told_17 (by decide) (by decide) (by decide) rfl ?_
      refine fw_aload_n (pc := 44) d_X_told_44 0 rfl rfl ?_
      refine fw_getR (pc := 45) d_X_told_45 fl_X_12 fw_X0 rfl ?_
      refine fw_getR (pc := 48) d_X_told_48 fl_X_82 fw_X1 rfl ?_
      refine fw_getR (pc := 51) d_X_told_51 fl_X_100 fw_X2 rfl ?_
      refine fw_iload_n (pc := 54) d_X_told_54 1 rfl rfl ?_
      obtain ⟨v55, e55, h⟩ := fw_be h
      refine fw_iald (pc := 55) d_X_told_55 fw_X3 e55 ?_
      obtain rfl := Option.some.inj h
      exact fw_iret (pc := 56) d_X_told_56 rfl
    · have h := fw_if hc0 h
      by_cases hc1 : a2 = 1
      · have h := fw_it hc1 h
        refine fw_top hc1.symm ?_
        refine fw_tin (pc := 17) (off := 40) (tgt := 57) d_X_told_17 (by decide) (by decide) (by decide) rfl ?_
        refine fw_aload_n (pc := 57) d_X_told_57 0 rfl rfl ?_
        refine fw_getR (pc := 58) d_X_told_58 fl_X_12 fw_X0 rfl ?_
        refine fw_getR (pc := 61) d_X_told_61 fl_X_82 fw_X1 rfl ?_
        refine fw_getR (pc := 64) d_X_told_64 fl_X_103 fw_X2 rfl ?_
        refine fw_iload_n (pc := 67) d_X_told_67 1 rfl rfl ?_
        obtain ⟨v68, e68, h⟩ := fw_be h
        refine fw_iald (pc := 68) d_X_told_68 fw_X4 e68 ?_
        obtain rfl := Option.some.inj h
        exact fw_iret (pc := 69) d_X_told_69 rfl
      · have h := fw_if hc1 h
        by_cases hc2 : a2 = 2
        · have h := fw_it hc2 h
          refine fw_top hc2.symm ?_
          refine fw_tin (pc := 17) (off := 53) (tgt := 70) d_X_told_17 (by decide) (by decide) (by decide) rfl ?_
          refine fw_aload_n (pc := 70) d_X_told_70 0 rfl rfl ?_
          refine fw_getR (pc := 71) d_X_told_71 fl_X_12 fw_X0 rfl ?_
          refine fw_getR (pc := 74) d_X_told_74 fl_X_82 fw_X1 rfl ?_
          refine fw_getR (pc := 77) d_X_told_77 fl_X_106 fw_X2 rfl ?_
          refine fw_iload_n (pc := 80) d_X_told_80 1 rfl rfl ?_
          obtain ⟨v81, e81, h⟩ := fw_be h
          refine fw_iald (pc := 81) d_X_told_81 fw_X5 e81 ?_
          obtain rfl := Option.some.inj h
          exact fw_iret (pc := 82) d_X_told_82 rfl
        · have h := fw_if hc2 h
          refine fw_tout (pc := 17) (tgt := 83) d_X_told_17 ?_ rfl ?_
          · have g0 := fw_ti hc0
            have g1 := fw_ti hc1
            have g2 := fw_ti hc2
            revert g0 g1 g2
            exact fw_sw0_2
          · refine fw_iconst (pc := 83) d_X_told_83 fw_icm1 ?_
            obtain rfl := Option.some.inj h
            exact fw_iret (pc := 84) d_X_told_84 rfl
def f_Case_remove_2_L10  : Int32 × fw_M → Option ((Int32 × fw_M) ⊕ (fw_M))
  | (x2_10, μ10) =>
  if ((μ10.1 2 3) - 1) ≤ x2_10 then
    some (.inr μ10)
  else
    (fw_rd 10 (μ10.1 3) (x2_10 + 1)).bind fun v32 =>
    (fw_si 10 μ10 3 x2_10 v32).bind fun μ33 =>
    (fw_rd 10 (μ33.1 4) (x2_10 + 1)).bind fun v46 =>
    (fw_si 10 μ33 4 x2_10 v46).bind fun μ47 =>
    (fw_rd 10 (μ47.1 5) (x2_10 + 1)).bind fun v60 =>
    (fw_si 10 μ47 5 x2_10 v60).bind fun μ61 =>
    fw_nm (x2_10 + 1) fun (v62 : Int32) =>
    some (.inl (v62, μ61))
def f_Case_remove_2 (a1 : Int32) (μ : fw_M) : Option (fw_M) :=
  (f_Case_has_2 a1 μ).bind fun (p2 : Int32) =>
  Option.bind (
    if p2 = 0 then
      some μ
    else
      (fw_wh (f_Case_remove_2_L10) fw_N (a1, μ)).bind fun (e10x : fw_M) =>
      fw_nm (fw_wr e10x 2 3 ((e10x.1 2 3) - 1)) fun (μ75 : fw_M) =>
      some μ75) fun (j5 : fw_M) =>
  some j5
set_option maxHeartbeats 4000000 in
set_option maxRecDepth 100000 in
theorem c_Case_remove_2 {a1 : Int32} {μ : fw_M} {r : fw_M} (h : f_Case_remove_2 a1 μ = some r) : fw_Con Y_Case_remove fw_X 2 [.ref 2, .int a1] none μ r := by
  refine fw_con (by decide) (Nat.le_of_ble_eq_true rfl) ?_
  rw [f_Case_remove_2] at h
  show fw_R "FewTypes$Case" prog_2_method_5_code 3 none fw_X 2 none r 0 [(0, .ref 2), (1, .int a1)] [] μ
  refine fw_aload_n (pc := 0) d_Case_remove_0 0 rfl rfl ?_
  refine fw_iload_n (pc := 1) d_Case_remove_1 1 rfl rfl ?_
  obtain ⟨p2, e2, h⟩ := fw_be h
  refine fw_callVi (pc := 2) d_Case_remove_2 mv_Case_29 fw_X2 (c_Case_has_2 e2) (by decide) rfl rfl (Nat.le_of_ble_eq_true rfl) ?_
  obtain ⟨j5, w5, h⟩ := fw_be h
  have hJ5 : fw_R "FewTypes$Case" prog_2_method_5_code 3 none fw_X 2 none r 78 [] [] j5 := by
    obtain rfl := Option.some.inj h
    exact fw_vret (pc := 78) d_Case_remove_78 rfl
  clear h
  have h := w5
  clear w5
  refine fw_if_eq (pc := 5) (tgt := 78) d_Case_remove_5 rfl (fun hc => ?_) (fun hc => ?_)
  · have h := fw_it hc h
    obtain rfl := Option.some.inj h
    exact fw_sub [] rfl hJ5
  · have h := fw_if hc h
    refine fw_iload_n (pc := 8) d_Case_remove_8 1 rfl rfl ?_
    refine fw_istore_n (pc := 9) (lv1 := [(2, .int a1), (0, .ref 2), (1, .int a1)]) d_Case_remove_9 rfl (by decide) rfl ?_
    obtain ⟨e10x, w10, h⟩ := fw_be h
    have hE10 : fw_R "FewTypes$Case" prog_2_method_5_code 3 none fw_X 2 none r 68 [(0, .ref 2)] [] e10x := by
      refine fw_aload_n (pc := 68) d_Case_remove_68 0 rfl rfl ?_
      refine fw_dup (pc := 69) d_Case_remove_69 rfl ?_
      refine fw_getI (pc := 70) d_Case_remove_70 fl_Case_21 fw_X2 rfl ?_
      refine fw_iconst (pc := 73) d_Case_remove_73 fw_ic1 ?_
      refine fw_isub (pc := 74) d_Case_remove_74 ?_
      obtain ⟨μ75, e75, h⟩ := fw_ne h
      refine fw_putI (pc := 75) d_Case_remove_75 fp_Case_21 fw_X2 rfl (fw_mem e75 ?_)
      obtain rfl := Option.some.inj h
      exact fw_sub [] rfl hJ5
    clear h
    exact fw_sub [1, 0] rfl (fw_we (e := e10x) (fun (s : Int32 × fw_M) => fw_R "FewTypes$Case" prog_2_method_5_code 3 none fw_X 2 none r 10 [(0, .ref 2), (2, .int s.1)] [] s.2) (by
      intro s x h hl hr
      obtain ⟨x2_10, μ10⟩ := s
      rw [f_Case_remove_2_L10] at h
      show fw_R "FewTypes$Case" prog_2_method_5_code 3 none fw_X 2 none r 10 [(0, .ref 2), (2, .int x2_10)] [] μ10
      refine fw_iload_n (pc := 10) d_Case_remove_10 1 rfl rfl ?_
      refine fw_aload_n (pc := 11) d_Case_remove_11 0 rfl rfl ?_
      refine fw_getI (pc := 12) d_Case_remove_12 fl_Case_21 fw_X2 rfl ?_
      refine fw_iconst (pc := 15) d_Case_remove_15 fw_ic1 ?_
      refine fw_isub (pc := 16) d_Case_remove_16 ?_
      refine fw_icmp_ge (pc := 17) (tgt := 68) d_Case_remove_17 rfl (fun hc => ?_) (fun hc => ?_)
      · have h := fw_it hc h
        obtain rfl := Option.some.inj h
        have he := hr _ rfl
        subst he
        exact fw_sub [0] rfl hE10
      · have h := fw_if hc h
        refine fw_aload_n (pc := 20) d_Case_remove_20 0 rfl rfl ?_
        refine fw_getR (pc := 21) d_Case_remove_21 fl_Case_9 fw_X2 rfl ?_
        refine fw_iload_n (pc := 24) d_Case_remove_24 1 rfl rfl ?_
        refine fw_aload_n (pc := 25) d_Case_remove_25 0 rfl rfl ?_
        refine fw_getR (pc := 26) d_Case_remove_26 fl_Case_9 fw_X2 rfl ?_
        refine fw_iload_n (pc := 29) d_Case_remove_29 1 rfl rfl ?_
        refine fw_iconst (pc := 30) d_Case_remove_30 fw_ic1 ?_
        refine fw_iadd (pc := 31) d_Case_remove_31 ?_
        obtain ⟨v32, e32, h⟩ := fw_be h
        refine fw_iald (pc := 32) d_Case_remove_32 fw_X3 e32 ?_
        obtain ⟨μ33, e33, h⟩ := fw_be h
        refine fw_iast (pc := 33) d_Case_remove_33 fw_X3 e33 ?_
        refine fw_aload_n (pc := 34) d_Case_remove_34 0 rfl rfl ?_
        refine fw_getR (pc := 35) d_Case_remove_35 fl_Case_15 fw_X2 rfl ?_
        refine fw_iload_n (pc := 38) d_Case_remove_38 1 rfl rfl ?_
        refine fw_aload_n (pc := 39) d_Case_remove_39 0 rfl rfl ?_
        refine fw_getR (pc := 40) d_Case_remove_40 fl_Case_15 fw_X2 rfl ?_
        refine fw_iload_n (pc := 43) d_Case_remove_43 1 rfl rfl ?_
        refine fw_iconst (pc := 44) d_Case_remove_44 fw_ic1 ?_
        refine fw_iadd (pc := 45) d_Case_remove_45 ?_
        obtain ⟨v46, e46, h⟩ := fw_be h
        refine fw_iald (pc := 46) d_Case_remove_46 fw_X4 e46 ?_
        obtain ⟨μ47, e47, h⟩ := fw_be h
        refine fw_iast (pc := 47) d_Case_remove_47 fw_X4 e47 ?_
        refine fw_aload_n (pc := 48) d_Case_remove_48 0 rfl rfl ?_
        refine fw_getR (pc := 49) d_Case_remove_49 fl_Case_18 fw_X2 rfl ?_
        refine fw_iload_n (pc := 52) d_Case_remove_52 1 rfl rfl ?_
        refine fw_aload_n (pc := 53) d_Case_remove_53 0 rfl rfl ?_
        refine fw_getR (pc := 54) d_Case_remove_54 fl_Case_18 fw_X2 rfl ?_
        refine fw_iload_n (pc := 57) d_Case_remove_57 1 rfl rfl ?_
        refine fw_iconst (pc := 58) d_Case_remove_58 fw_ic1 ?_
        refine fw_iadd (pc := 59) d_Case_remove_59 ?_
        obtain ⟨v60, e60, h⟩ := fw_be h
        refine fw_iald (pc := 60) d_Case_remove_60 fw_X5 e60 ?_
        obtain ⟨μ61, e61, h⟩ := fw_be h
        refine fw_iast (pc := 61) d_Case_remove_61 fw_X5 e61 ?_
        obtain ⟨v62, e62, h⟩ := fw_ne h
        refine fw_iinc2 (pc := 62) (j := 1) (lv1 := [(2, .int v62), (0, .ref 2)]) d_Case_remove_62 rfl fw_ic1 e62 (by decide) rfl ?_
        refine fw_goto (pc := 65) (tgt := 10) d_Case_remove_65 rfl ?_
        obtain rfl := Option.some.inj h
        exact fw_sub [1, 0] rfl (hl _ rfl)
      ) _ _ w10)
def f_X_lose (a1 : Int32) (μ : fw_M) : Option (Int32 × fw_M) :=
  (f_Case_has_2 a1 μ).bind fun (p8 : Int32) =>
  if p8 = 0 then
    some ((-1), μ)
  else
    (f_Case_remove_2 a1 μ).bind fun (p24 : fw_M) =>
    (f_X_forgetPulls p24).bind fun (p28 : fw_M) =>
    some ((p28.1 2 3), p28)
set_option maxHeartbeats 4000000 in
set_option maxRecDepth 100000 in
theorem c_X_lose {a1 : Int32} {μ : fw_M} {r : Int32 × fw_M} (h : f_X_lose a1 μ = some r) : fw_Con Y_X_lose fw_X 3 [.ref 0, .int a1] (some r.1) μ r.2 := by
  refine fw_con (by decide) (Nat.le_of_ble_eq_true rfl) ?_
  rw [f_X_lose] at h
  show fw_R "FewTypes" prog_1_method_4_code 2 (some .int) fw_X 3 (some r.1) r.2 0 [(0, .ref 0), (1, .int a1)] [] μ
  refine fw_aload_n (pc := 0) d_X_lose_0 0 rfl rfl ?_
  refine fw_getR (pc := 1) d_X_lose_1 fl_X_12 fw_X0 rfl ?_
  refine fw_getR (pc := 4) d_X_lose_4 fl_X_82 fw_X1 rfl ?_
  refine fw_iload_n (pc := 7) d_X_lose_7 1 rfl rfl ?_
  obtain ⟨p8, e8, h⟩ := fw_be h
  refine fw_callVi (pc := 8) d_X_lose_8 mv_X_96 fw_X2 (c_Case_has_2 e8) (by decide) rfl rfl (Nat.le_of_ble_eq_true rfl) ?_
  refine fw_if_ne (pc := 11) (tgt := 16) d_X_lose_11 rfl (fun hc => ?_) (fun hc => ?_)
  · have h := fw_it hc h
    refine fw_iconst (pc := 14) d_X_lose_14 fw_icm1 ?_
    obtain rfl := Option.some.inj h
    exact fw_iret (pc := 15) d_X_lose_15 rfl
  · have h := fw_if hc h
    refine fw_aload_n (pc := 16) d_X_lose_16 0 rfl rfl ?_
    refine fw_getR (pc := 17) d_X_lose_17 fl_X_12 fw_X0 rfl ?_
    refine fw_getR (pc := 20) d_X_lose_20 fl_X_82 fw_X1 rfl ?_
    refine fw_iload_n (pc := 23) d_X_lose_23 1 rfl rfl ?_
    obtain ⟨p24, e24, h⟩ := fw_be h
    refine fw_callVv (pc := 24) d_X_lose_24 mv_X_109 fw_X2 (c_Case_remove_2 e24) (by decide) rfl rfl (Nat.le_of_ble_eq_true rfl) ?_
    refine fw_aload_n (pc := 27) d_X_lose_27 0 rfl rfl ?_
    obtain ⟨p28, e28, h⟩ := fw_be h
    refine fw_callVv (pc := 28) d_X_lose_28 mv_X_93 fw_X0 (c_X_forgetPulls e28) (by decide) rfl rfl (Nat.le_of_ble_eq_true rfl) ?_
    refine fw_aload_n (pc := 31) d_X_lose_31 0 rfl rfl ?_
    refine fw_getR (pc := 32) d_X_lose_32 fl_X_12 fw_X0 rfl ?_
    refine fw_getR (pc := 35) d_X_lose_35 fl_X_82 fw_X1 rfl ?_
    refine fw_getI (pc := 38) d_X_lose_38 fl_X_85 fw_X2 rfl ?_
    obtain rfl := Option.some.inj h
    exact fw_iret (pc := 41) d_X_lose_41 rfl
def f_X_width (a1 : Int32) (a2 : Int32) (μ : fw_M) : Option (Int32 × fw_M) :=
  (f_X_isLetter a1).bind fun (p1 : Int32) =>
  if p1 = 0 then
    some ((-1), μ)
  else
    if a2 < 1 then
      some ((-1), μ)
    else
      if a2 ≤ 4 then
        (fw_rd 12 (μ.1 8) a1).bind fun v27 =>
        (fw_si 12 μ 8 a1 a2).bind fun μ38 =>
        some (v27, μ38)
      else
        some ((-1), μ)
set_option maxHeartbeats 4000000 in
set_option maxRecDepth 100000 in
theorem c_X_width {a1 : Int32} {a2 : Int32} {μ : fw_M} {r : Int32 × fw_M} (h : f_X_width a1 a2 μ = some r) : fw_Con Y_X_width fw_X 2 [.ref 0, .int a1, .int a2] (some r.1) μ r.2 := by
  refine fw_con (by decide) (Nat.le_of_ble_eq_true rfl) ?_
  rw [f_X_width] at h
  show fw_R "FewTypes" prog_1_method_5_code 4 (some .int) fw_X 2 (some r.1) r.2 0 [(0, .ref 0), (1, .int a1), (2, .int a2)] [] μ
  refine fw_iload_n (pc := 0) d_X_width_0 1 rfl rfl ?_
  obtain ⟨p1, e1, h⟩ := fw_be h
  refine fw_callSi (pc := 1) d_X_width_1 ms_X_113 (c_X_isLetter e1) (by decide) rfl rfl (Nat.le_of_ble_eq_true rfl) ?_
  refine fw_if_eq (pc := 4) (tgt := 17) d_X_width_4 rfl (fun hc => ?_) (fun hc => ?_)
  · have h := fw_it hc h
    refine fw_iconst (pc := 17) d_X_width_17 fw_icm1 ?_
    obtain rfl := Option.some.inj h
    exact fw_iret (pc := 18) d_X_width_18 rfl
  · have h := fw_if hc h
    refine fw_iload_n (pc := 7) d_X_width_7 2 rfl rfl ?_
    refine fw_iconst (pc := 8) d_X_width_8 fw_ic1 ?_
    refine fw_icmp_lt (pc := 9) (tgt := 17) d_X_width_9 rfl (fun hc => ?_) (fun hc => ?_)
    · have h := fw_it hc h
      refine fw_iconst (pc := 17) d_X_width_17 fw_icm1 ?_
      obtain rfl := Option.some.inj h
      exact fw_iret (pc := 18) d_X_width_18 rfl
    · have h := fw_if hc h
      refine fw_iload_n (pc := 12) d_X_width_12 2 rfl rfl ?_
      refine fw_iconst (pc := 13) d_X_width_13 fw_ic4 ?_
      refine fw_icmp_le (pc := 14) (tgt := 19) d_X_width_14 rfl (fun hc => ?_) (fun hc => ?_)
      · have h := fw_it hc h
        refine fw_aload_n (pc := 19) d_X_width_19 0 rfl rfl ?_
        refine fw_getR (pc := 20) d_X_width_20 fl_X_12 fw_X0 rfl ?_
        refine fw_getR (pc := 23) d_X_width_23 fl_X_116 fw_X1 rfl ?_
        refine fw_iload_n (pc := 26) d_X_width_26 1 rfl rfl ?_
        obtain ⟨v27, e27, h⟩ := fw_be h
        refine fw_iald (pc := 27) d_X_width_27 fw_X8 e27 ?_
        refine fw_istore_n (pc := 28) (lv1 := [(3, .int v27), (0, .ref 0), (1, .int a1), (2, .int a2)]) d_X_width_28 rfl (by decide) rfl ?_
        refine fw_aload_n (pc := 29) d_X_width_29 1 rfl rfl ?_
        refine fw_getR (pc := 30) d_X_width_30 fl_X_12 fw_X0 rfl ?_
        refine fw_getR (pc := 33) d_X_width_33 fl_X_116 fw_X1 rfl ?_
        refine fw_iload_n (pc := 36) d_X_width_36 2 rfl rfl ?_
        refine fw_iload_n (pc := 37) d_X_width_37 3 rfl rfl ?_
        obtain ⟨μ38, e38, h⟩ := fw_be h
        refine fw_iast (pc := 38) d_X_width_38 fw_X8 e38 ?_
        refine fw_iload_n (pc := 39) d_X_width_39 0 rfl rfl ?_
        obtain rfl := Option.some.inj h
        exact fw_iret (pc := 40) d_X_width_40 rfl
      · have h := fw_if hc h
        refine fw_iconst (pc := 17) d_X_width_17 fw_icm1 ?_
        obtain rfl := Option.some.inj h
        exact fw_iret (pc := 18) d_X_width_18 rfl
def f_X_rule (a1 : Int32) (a2 : Int32) (μ : fw_M) : Option (Int32 × fw_M) :=
  if a1 < 0 then
    some ((-1), μ)
  else
    if 3 ≤ a1 then
      some ((-1), μ)
    else
      (fw_rd 3 fw_s0 a1).bind fun v14 =>
      if a2 < v14 then
        some ((-1), μ)
      else
        (fw_rd 3 fw_s1 a1).bind fun v23 =>
        if a2 ≤ v23 then
          (fw_rd 3 (μ.1 9) a1).bind fun v37 =>
          (fw_si 3 μ 9 a1 a2).bind fun μ48 =>
          (f_X_forgetPulls μ48).bind fun (p50 : fw_M) =>
          some (v37, p50)
        else
          some ((-1), μ)
set_option maxHeartbeats 4000000 in
set_option maxRecDepth 100000 in
theorem c_X_rule {a1 : Int32} {a2 : Int32} {μ : fw_M} {r : Int32 × fw_M} (h : f_X_rule a1 a2 μ = some r) : fw_Con Y_X_rule fw_X 3 [.ref 0, .int a1, .int a2] (some r.1) μ r.2 := by
  refine fw_con (by decide) (Nat.le_of_ble_eq_true rfl) ?_
  rw [f_X_rule] at h
  show fw_R "FewTypes" prog_1_method_6_code 4 (some .int) fw_X 3 (some r.1) r.2 0 [(0, .ref 0), (1, .int a1), (2, .int a2)] [] μ
  refine fw_iload_n (pc := 0) d_X_rule_0 1 rfl rfl ?_
  refine fw_if_lt (pc := 1) (tgt := 27) d_X_rule_1 rfl (fun hc => ?_) (fun hc => ?_)
  · have h := fw_it hc h
    refine fw_iconst (pc := 27) d_X_rule_27 fw_icm1 ?_
    obtain rfl := Option.some.inj h
    exact fw_iret (pc := 28) d_X_rule_28 rfl
  · have h := fw_if hc h
    refine fw_iload_n (pc := 4) d_X_rule_4 1 rfl rfl ?_
    refine fw_iconst (pc := 5) d_X_rule_5 fw_ic3 ?_
    refine fw_icmp_ge (pc := 6) (tgt := 27) d_X_rule_6 rfl (fun hc => ?_) (fun hc => ?_)
    · have h := fw_it hc h
      refine fw_iconst (pc := 27) d_X_rule_27 fw_icm1 ?_
      obtain rfl := Option.some.inj h
      exact fw_iret (pc := 28) d_X_rule_28 rfl
    · have h := fw_if hc h
      refine fw_iload_n (pc := 9) d_X_rule_9 2 rfl rfl ?_
      refine fw_gs0 (pc := 10) d_X_rule_10 gs_X_119 ?_
      refine fw_iload_n (pc := 13) d_X_rule_13 1 rfl rfl ?_
      obtain ⟨v14, e14, h⟩ := fw_be h
      refine fw_t0ld (pc := 14) d_X_rule_14 e14 ?_
      refine fw_icmp_lt (pc := 15) (tgt := 27) d_X_rule_15 rfl (fun hc => ?_) (fun hc => ?_)
      · have h := fw_it hc h
        refine fw_iconst (pc := 27) d_X_rule_27 fw_icm1 ?_
        obtain rfl := Option.some.inj h
        exact fw_iret (pc := 28) d_X_rule_28 rfl
      · have h := fw_if hc h
        refine fw_iload_n (pc := 18) d_X_rule_18 2 rfl rfl ?_
        refine fw_gs1 (pc := 19) d_X_rule_19 gs_X_122 ?_
        refine fw_iload_n (pc := 22) d_X_rule_22 1 rfl rfl ?_
        obtain ⟨v23, e23, h⟩ := fw_be h
        refine fw_t1ld (pc := 23) d_X_rule_23 e23 ?_
        refine fw_icmp_le (pc := 24) (tgt := 29) d_X_rule_24 rfl (fun hc => ?_) (fun hc => ?_)
        · have h := fw_it hc h
          refine fw_aload_n (pc := 29) d_X_rule_29 0 rfl rfl ?_
          refine fw_getR (pc := 30) d_X_rule_30 fl_X_12 fw_X0 rfl ?_
          refine fw_getR (pc := 33) d_X_rule_33 fl_X_125 fw_X1 rfl ?_
          refine fw_iload_n (pc := 36) d_X_rule_36 1 rfl rfl ?_
          obtain ⟨v37, e37, h⟩ := fw_be h
          refine fw_iald (pc := 37) d_X_rule_37 fw_X9 e37 ?_
          refine fw_istore_n (pc := 38) (lv1 := [(3, .int v37), (0, .ref 0), (1, .int a1), (2, .int a2)]) d_X_rule_38 rfl (by decide) rfl ?_
          refine fw_aload_n (pc := 39) d_X_rule_39 1 rfl rfl ?_
          refine fw_getR (pc := 40) d_X_rule_40 fl_X_12 fw_X0 rfl ?_
          refine fw_getR (pc := 43) d_X_rule_43 fl_X_125 fw_X1 rfl ?_
          refine fw_iload_n (pc := 46) d_X_rule_46 2 rfl rfl ?_
          refine fw_iload_n (pc := 47) d_X_rule_47 3 rfl rfl ?_
          obtain ⟨μ48, e48, h⟩ := fw_be h
          refine fw_iast (pc := 48) d_X_rule_48 fw_X9 e48 ?_
          refine fw_aload_n (pc := 49) d_X_rule_49 1 rfl rfl ?_
          obtain ⟨p50, e50, h⟩ := fw_be h
          refine fw_callVv (pc := 50) d_X_rule_50 mv_X_93 fw_X0 (c_X_forgetPulls e50) (by decide) rfl rfl (Nat.le_of_ble_eq_true rfl) ?_
          refine fw_iload_n (pc := 53) d_X_rule_53 0 rfl rfl ?_
          obtain rfl := Option.some.inj h
          exact fw_iret (pc := 54) d_X_rule_54 rfl
        · have h := fw_if hc h
          refine fw_iconst (pc := 27) d_X_rule_27 fw_icm1 ?_
          obtain rfl := Option.some.inj h
          exact fw_iret (pc := 28) d_X_rule_28 rfl
def f_Tape_byteOf (a0 : Int64) (a2 : Int32) : Option (Int32) :=
  some (Int64.toInt32 ((a0 >>> (Int32.toInt64 (8 * a2) &&& 63)) &&& 255))
set_option maxHeartbeats 4000000 in
set_option maxRecDepth 100000 in
theorem c_Tape_byteOf {a0 : Int64} {a2 : Int32} {μ : fw_M} {r : Int32} (h : f_Tape_byteOf a0 a2 = some r) : fw_Con Y_Tape_byteOf fw_X 1 [.long a0, .int a2] (some r) μ μ := by
  refine fw_con (by decide) (Nat.le_of_ble_eq_true rfl) ?_
  rw [f_Tape_byteOf] at h
  show fw_R "FewTypes$Tape" prog_9_method_3_code 3 (some .int) fw_X 1 (some r) μ 0 [(0, .long a0), (2, .int a2)] [] μ
  refine fw_lload_n (pc := 0) d_Tape_byteOf_0 0 rfl rfl ?_
  refine fw_bipush (pc := 1) d_Tape_byteOf_1 fw_bp8 ?_
  refine fw_iload_n (pc := 3) d_Tape_byteOf_3 1 rfl rfl ?_
  refine fw_imul (pc := 4) d_Tape_byteOf_4 ?_
  refine fw_lshr (pc := 5) d_Tape_byteOf_5 ?_
  refine fw_ldc2 (pc := 6) d_Tape_byteOf_6 cl_Tape_26 ?_
  refine fw_land (pc := 9) d_Tape_byteOf_9 ?_
  refine fw_l2i (pc := 10) d_Tape_byteOf_10 ?_
  obtain rfl := Option.some.inj h
  exact fw_iret (pc := 11) d_Tape_byteOf_11 rfl
def f_Tape_takes_L2 (a0 : Int64) (a2 : Int32) (x3_2 : Int32) : Option ((Int32) ⊕ ((Unit) ⊕ (Int32))) :=
  if a2 ≤ x3_2 then
    some (.inr (.inl ()))
  else
    (f_Tape_byteOf a0 x3_2).bind fun (p9 : Int32) =>
    if p9 < 32 then
      some (.inr (.inr 0))
    else
      if p9 ≤ 126 then
        fw_nm (x3_2 + 1) fun (v30 : Int32) =>
        some (.inl v30)
      else
        some (.inr (.inr 0))
def f_Tape_takes (a0 : Int64) (a2 : Int32) : Option (Int32) :=
  Option.bind (fw_wh (f_Tape_takes_L2 a0 a2) fw_N 0) fun (q2 : (Unit) ⊕ (Int32)) => match q2 with
  | .inl e2x =>
    some 1
  | .inr r2 => some r2
set_option maxHeartbeats 4000000 in
set_option maxRecDepth 100000 in
theorem c_Tape_takes {a0 : Int64} {a2 : Int32} {μ : fw_M} {r : Int32} (h : f_Tape_takes a0 a2 = some r) : fw_Con Y_Tape_takes fw_X 2 [.long a0, .int a2] (some r) μ μ := by
  refine fw_con (by decide) (Nat.le_of_ble_eq_true rfl) ?_
  rw [f_Tape_takes] at h
  show fw_R "FewTypes$Tape" prog_9_method_2_code 5 (some .boolean) fw_X 2 (some r) μ 0 [(0, .long a0), (2, .int a2)] [] μ
  refine fw_iconst (pc := 0) d_Tape_takes_0 fw_ic0 ?_
  refine fw_istore_n (pc := 1) (lv1 := [(3, .int 0), (0, .long a0), (2, .int a2)]) d_Tape_takes_1 rfl (by decide) rfl ?_
  obtain ⟨q2, w2, h⟩ := fw_be h
  have hE2 : ∀ e2x : Unit, q2 = .inl e2x → fw_R "FewTypes$Tape" prog_9_method_2_code 5 (some .boolean) fw_X 2 (some r) μ 36 [] [] μ := by
    intro e2x hq
    subst hq
    dsimp only at h
    refine fw_iconst (pc := 36) d_Tape_takes_36 fw_ic1 ?_
    obtain rfl := Option.some.inj h
    exact fw_zret (pc := 37) d_Tape_takes_37 rfl fw_bz1
  have hR2 : ∀ r2, q2 = .inr r2 → r2 = r := by
    intro r2 hq
    subst hq
    exact Option.some.inj h
  clear h
  exact fw_sub [1, 2, 0] rfl (fw_we (e := q2) (fun (s : Int32) => fw_R "FewTypes$Tape" prog_9_method_2_code 5 (some .boolean) fw_X 2 (some r) μ 2 [(0, .long a0), (2, .int a2), (3, .int s)] [] μ) (by
    intro s x h hl hr
    obtain ⟨x3_2, rfl⟩ : ∃ z, z = s := ⟨_, rfl⟩
    rw [f_Tape_takes_L2] at h
    show fw_R "FewTypes$Tape" prog_9_method_2_code 5 (some .boolean) fw_X 2 (some r) μ 2 [(0, .long a0), (2, .int a2), (3, .int x3_2)] [] μ
    refine fw_iload_n (pc := 2) d_Tape_takes_2 2 rfl rfl ?_
    refine fw_iload_n (pc := 3) d_Tape_takes_3 1 rfl rfl ?_
    refine fw_icmp_ge (pc := 4) (tgt := 36) d_Tape_takes_4 rfl (fun hc => ?_) (fun hc => ?_)
    · have h := fw_it hc h
      obtain rfl := Option.some.inj h
      exact fw_sub [] rfl (hE2 _ (hr _ rfl).symm)
    · have h := fw_if hc h
      refine fw_lload_n (pc := 7) d_Tape_takes_7 0 rfl rfl ?_
      refine fw_iload_n (pc := 8) d_Tape_takes_8 2 rfl rfl ?_
      obtain ⟨p9, e9, h⟩ := fw_be h
      refine fw_callSi (pc := 9) d_Tape_takes_9 ms_Tape_22 (c_Tape_byteOf e9) (by decide) rfl rfl (Nat.le_of_ble_eq_true rfl) ?_
      refine fw_istore (pc := 12) (lv1 := [(4, .int p9), (0, .long a0), (2, .int a2), (3, .int x3_2)]) d_Tape_takes_12 (by decide) rfl ?_
      refine fw_iload (pc := 14) d_Tape_takes_14 0 rfl ?_
      refine fw_bipush (pc := 16) d_Tape_takes_16 fw_bp32 ?_
      refine fw_icmp_lt (pc := 18) (tgt := 28) d_Tape_takes_18 rfl (fun hc => ?_) (fun hc => ?_)
      · have h := fw_it hc h
        refine fw_iconst (pc := 28) d_Tape_takes_28 fw_ic0 ?_
        obtain rfl := Option.some.inj h
        have he := hR2 _ (hr _ rfl).symm
        subst he
        exact fw_zret (pc := 29) d_Tape_takes_29 rfl fw_bz0
      · have h := fw_if hc h
        refine fw_iload (pc := 21) d_Tape_takes_21 0 rfl ?_
        refine fw_bipush (pc := 23) d_Tape_takes_23 fw_bp126 ?_
        refine fw_icmp_le (pc := 25) (tgt := 30) d_Tape_takes_25 rfl (fun hc => ?_) (fun hc => ?_)
        · have h := fw_it hc h
          obtain ⟨v30, e30, h⟩ := fw_ne h
          refine fw_iinc2 (pc := 30) (j := 3) (lv1 := [(3, .int v30), (4, .int p9), (0, .long a0), (2, .int a2)]) d_Tape_takes_30 rfl fw_ic1 e30 (by decide) rfl ?_
          refine fw_goto (pc := 33) (tgt := 2) d_Tape_takes_33 rfl ?_
          obtain rfl := Option.some.inj h
          exact fw_sub [2, 3, 0] rfl (hl _ rfl)
        · have h := fw_if hc h
          refine fw_iconst (pc := 28) d_Tape_takes_28 fw_ic0 ?_
          obtain rfl := Option.some.inj h
          have he := hR2 _ (hr _ rfl).symm
          subst he
          exact fw_zret (pc := 29) d_Tape_takes_29 rfl fw_bz0
    ) _ _ w2)
def f_Tape_add_L5 (a1 : Int64) : Int32 × fw_M → Option ((Int32 × fw_M) ⊕ (fw_M))
  | (x4_5, μ5) =>
  if x4_5 < 0 then
    some (.inr μ5)
  else
    Option.bind (
      if 60 ≤ (μ5.1 63 1) then
        some μ5
      else
        (f_Tape_byteOf a1 x4_5).bind fun (p30 : Int32) =>
        (fw_si 60 μ5 64 (μ5.1 63 1) p30).bind fun μ33 =>
        fw_nm (fw_wr μ33 63 1 ((μ33.1 63 1) + 1)) fun (μ41 : fw_M) =>
        some μ41) fun (j16 : fw_M) =>
    fw_nm (x4_5 + (-1)) fun (v44 : Int32) =>
    some (.inl (v44, j16))
def f_Tape_add (a1 : Int64) (a3 : Int32) (μ : fw_M) : Option (fw_M) :=
  fw_nm ((a3 - 1)) fun (v3 : Int32) =>
  (fw_wh (f_Tape_add_L5 a1) fw_N (v3, μ)).bind fun (e5x : fw_M) =>
  some e5x
set_option maxHeartbeats 4000000 in
set_option maxRecDepth 100000 in
theorem c_Tape_add {a1 : Int64} {a3 : Int32} {μ : fw_M} {r : fw_M} (h : f_Tape_add a1 a3 μ = some r) : fw_Con Y_Tape_add fw_X 2 [.ref 63, .long a1, .int a3] none μ r := by
  refine fw_con (by decide) (Nat.le_of_ble_eq_true rfl) ?_
  rw [f_Tape_add] at h
  show fw_R "FewTypes$Tape" prog_9_method_4_code 5 none fw_X 2 none r 0 [(0, .ref 63), (1, .long a1), (3, .int a3)] [] μ
  refine fw_iload_n (pc := 0) d_Tape_add_0 2 rfl rfl ?_
  refine fw_iconst (pc := 1) d_Tape_add_1 fw_ic1 ?_
  refine fw_isub (pc := 2) d_Tape_add_2 ?_
  obtain ⟨v3, e3, h⟩ := fw_ne h
  refine fw_top e3 ?_
  refine fw_istore (pc := 3) (lv1 := [(4, .int v3), (0, .ref 63), (1, .long a1), (3, .int a3)]) d_Tape_add_3 (by decide) rfl ?_
  obtain ⟨e5x, w5, h⟩ := fw_be h
  have hE5 : fw_R "FewTypes$Tape" prog_9_method_4_code 5 none fw_X 2 none r 50 [] [] e5x := by
    obtain rfl := Option.some.inj h
    exact fw_vret (pc := 50) d_Tape_add_50 rfl
  clear h
  exact fw_sub [1, 2, 0] rfl (fw_we (e := e5x) (fun (s : Int32 × fw_M) => fw_R "FewTypes$Tape" prog_9_method_4_code 5 none fw_X 2 none r 5 [(0, .ref 63), (1, .long a1), (4, .int s.1)] [] s.2) (by
    intro s x h hl hr
    obtain ⟨x4_5, μ5⟩ := s
    rw [f_Tape_add_L5] at h
    show fw_R "FewTypes$Tape" prog_9_method_4_code 5 none fw_X 2 none r 5 [(0, .ref 63), (1, .long a1), (4, .int x4_5)] [] μ5
    refine fw_iload (pc := 5) d_Tape_add_5 2 rfl ?_
    refine fw_if_lt (pc := 7) (tgt := 50) d_Tape_add_7 rfl (fun hc => ?_) (fun hc => ?_)
    · have h := fw_it hc h
      obtain rfl := Option.some.inj h
      have he := hr _ rfl
      subst he
      exact fw_sub [] rfl hE5
    · have h := fw_if hc h
      refine fw_aload_n (pc := 10) d_Tape_add_10 0 rfl rfl ?_
      refine fw_getI (pc := 11) d_Tape_add_11 fl_Tape_15 fw_X63 rfl ?_
      refine fw_bipush (pc := 14) d_Tape_add_14 fw_bp60 ?_
      obtain ⟨j16, w16, h⟩ := fw_be h
      have hJ16 : fw_R "FewTypes$Tape" prog_9_method_4_code 5 none fw_X 2 none r 44 [(0, .ref 63), (1, .long a1), (4, .int x4_5)] [] j16 := by
        obtain ⟨v44, e44, h⟩ := fw_ne h
        refine fw_iinc2 (pc := 44) (j := 2) (lv1 := [(4, .int v44), (0, .ref 63), (1, .long a1)]) d_Tape_add_44 rfl fw_icm1 e44 (by decide) rfl ?_
        refine fw_goto (pc := 47) (tgt := 5) d_Tape_add_47 rfl ?_
        obtain rfl := Option.some.inj h
        exact fw_sub [1, 2, 0] rfl (hl _ rfl)
      clear h
      have h := w16
      clear w16
      refine fw_icmp_ge (pc := 16) (tgt := 44) d_Tape_add_16 rfl (fun hc => ?_) (fun hc => ?_)
      · have h := fw_it hc h
        obtain rfl := Option.some.inj h
        exact fw_sub [0, 1, 2] rfl hJ16
      · have h := fw_if hc h
        refine fw_aload_n (pc := 19) d_Tape_add_19 0 rfl rfl ?_
        refine fw_getR (pc := 20) d_Tape_add_20 fl_Tape_9 fw_X63 rfl ?_
        refine fw_aload_n (pc := 23) d_Tape_add_23 0 rfl rfl ?_
        refine fw_getI (pc := 24) d_Tape_add_24 fl_Tape_15 fw_X63 rfl ?_
        refine fw_lload_n (pc := 27) d_Tape_add_27 1 rfl rfl ?_
        refine fw_iload (pc := 28) d_Tape_add_28 2 rfl ?_
        obtain ⟨p30, e30, h⟩ := fw_be h
        refine fw_callSi (pc := 30) d_Tape_add_30 ms_Tape_22 (c_Tape_byteOf e30) (by decide) rfl rfl (Nat.le_of_ble_eq_true rfl) ?_
        obtain ⟨μ33, e33, h⟩ := fw_be h
        refine fw_iast (pc := 33) d_Tape_add_33 fw_X64 e33 ?_
        refine fw_aload_n (pc := 34) d_Tape_add_34 0 rfl rfl ?_
        refine fw_dup (pc := 35) d_Tape_add_35 rfl ?_
        refine fw_getI (pc := 36) d_Tape_add_36 fl_Tape_15 fw_X63 rfl ?_
        refine fw_iconst (pc := 39) d_Tape_add_39 fw_ic1 ?_
        refine fw_iadd (pc := 40) d_Tape_add_40 ?_
        obtain ⟨μ41, e41, h⟩ := fw_ne h
        refine fw_putI (pc := 41) d_Tape_add_41 fp_Tape_15 fw_X63 rfl (fw_mem e41 ?_)
        obtain rfl := Option.some.inj h
        exact fw_sub [0, 1, 2] rfl hJ16
    ) _ _ w5)
def f_X_type (a1 : Int64) (a3 : Int32) (μ : fw_M) : Option (Int32 × fw_M) :=
  if a3 < 1 then
    some ((-1), μ)
  else
    if 8 < a3 then
      some ((-1), μ)
    else
      (f_Tape_takes a1 a3).bind fun (p13 : Int32) =>
      if p13 = 0 then
        some ((-1), μ)
      else
        if ((μ.1 63 1) + a3) ≤ 60 then
          (f_Tape_add a1 a3 μ).bind fun (p44 : fw_M) =>
          some ((p44.1 63 1), p44)
        else
          some ((-3), μ)
set_option maxHeartbeats 4000000 in
set_option maxRecDepth 100000 in
theorem c_X_type {a1 : Int64} {a3 : Int32} {μ : fw_M} {r : Int32 × fw_M} (h : f_X_type a1 a3 μ = some r) : fw_Con Y_X_type fw_X 3 [.ref 0, .long a1, .int a3] (some r.1) μ r.2 := by
  refine fw_con (by decide) (Nat.le_of_ble_eq_true rfl) ?_
  rw [f_X_type] at h
  show fw_R "FewTypes" prog_1_method_7_code 4 (some .int) fw_X 3 (some r.1) r.2 0 [(0, .ref 0), (1, .long a1), (3, .int a3)] [] μ
  refine fw_iload_n (pc := 0) d_X_type_0 2 rfl rfl ?_
  refine fw_iconst (pc := 1) d_X_type_1 fw_ic1 ?_
  refine fw_icmp_lt (pc := 2) (tgt := 19) d_X_type_2 rfl (fun hc => ?_) (fun hc => ?_)
  · have h := fw_it hc h
    refine fw_iconst (pc := 19) d_X_type_19 fw_icm1 ?_
    obtain rfl := Option.some.inj h
    exact fw_iret (pc := 20) d_X_type_20 rfl
  · have h := fw_if hc h
    refine fw_iload_n (pc := 5) d_X_type_5 2 rfl rfl ?_
    refine fw_bipush (pc := 6) d_X_type_6 fw_bp8 ?_
    refine fw_icmp_gt (pc := 8) (tgt := 19) d_X_type_8 rfl (fun hc => ?_) (fun hc => ?_)
    · have h := fw_it hc h
      refine fw_iconst (pc := 19) d_X_type_19 fw_icm1 ?_
      obtain rfl := Option.some.inj h
      exact fw_iret (pc := 20) d_X_type_20 rfl
    · have h := fw_if hc h
      refine fw_lload_n (pc := 11) d_X_type_11 1 rfl rfl ?_
      refine fw_iload_n (pc := 12) d_X_type_12 2 rfl rfl ?_
      obtain ⟨p13, e13, h⟩ := fw_be h
      refine fw_callSi (pc := 13) d_X_type_13 ms_X_128 (c_Tape_takes e13) (by decide) rfl rfl (Nat.le_of_ble_eq_true rfl) ?_
      refine fw_if_ne (pc := 16) (tgt := 21) d_X_type_16 rfl (fun hc => ?_) (fun hc => ?_)
      · have h := fw_it hc h
        refine fw_iconst (pc := 19) d_X_type_19 fw_icm1 ?_
        obtain rfl := Option.some.inj h
        exact fw_iret (pc := 20) d_X_type_20 rfl
      · have h := fw_if hc h
        refine fw_aload_n (pc := 21) d_X_type_21 0 rfl rfl ?_
        refine fw_getR (pc := 22) d_X_type_22 fl_X_26 fw_X0 rfl ?_
        refine fw_getI (pc := 25) d_X_type_25 fl_X_132 fw_X63 rfl ?_
        refine fw_iload_n (pc := 28) d_X_type_28 2 rfl rfl ?_
        refine fw_iadd (pc := 29) d_X_type_29 ?_
        refine fw_bipush (pc := 30) d_X_type_30 fw_bp60 ?_
        refine fw_icmp_le (pc := 32) (tgt := 38) d_X_type_32 rfl (fun hc => ?_) (fun hc => ?_)
        · have h := fw_it hc h
          refine fw_aload_n (pc := 38) d_X_type_38 0 rfl rfl ?_
          refine fw_getR (pc := 39) d_X_type_39 fl_X_26 fw_X0 rfl ?_
          refine fw_lload_n (pc := 42) d_X_type_42 1 rfl rfl ?_
          refine fw_iload_n (pc := 43) d_X_type_43 2 rfl rfl ?_
          obtain ⟨p44, e44, h⟩ := fw_be h
          refine fw_callVv (pc := 44) d_X_type_44 mv_X_133 fw_X63 (c_Tape_add e44) (by decide) rfl rfl (Nat.le_of_ble_eq_true rfl) ?_
          refine fw_aload_n (pc := 47) d_X_type_47 0 rfl rfl ?_
          refine fw_getR (pc := 48) d_X_type_48 fl_X_26 fw_X0 rfl ?_
          refine fw_getI (pc := 51) d_X_type_51 fl_X_132 fw_X63 rfl ?_
          obtain rfl := Option.some.inj h
          exact fw_iret (pc := 54) d_X_type_54 rfl
        · have h := fw_if hc h
          refine fw_bipush (pc := 35) d_X_type_35 fw_bpm3 ?_
          obtain rfl := Option.some.inj h
          exact fw_iret (pc := 37) d_X_type_37 rfl
def f_Line_empty (t0 : Nat) (μ : fw_M) : Option (fw_M) :=
  if fw_okL t0 then
    fw_nm (fw_wr μ t0 1 0) fun (μ2 : fw_M) =>
    fw_nm (fw_wr μ2 t0 2 0) fun (μ7 : fw_M) =>
    some μ7
  else none
set_option maxHeartbeats 4000000 in
set_option maxRecDepth 100000 in
theorem c_Line_empty {t0 : Nat} {μ : fw_M} {r : fw_M} (h : f_Line_empty t0 μ = some r) : fw_Con Y_Line_empty fw_X 1 [.ref t0] none μ r := by
  refine fw_con (by decide) (Nat.le_of_ble_eq_true rfl) ?_
  rw [f_Line_empty] at h
  show fw_R "FewTypes$Line" prog_4_method_3_code 1 none fw_X 1 none r 0 [(0, .ref t0)] [] μ
  obtain ⟨g0, h⟩ := fw_gu h
  refine fw_aload_n (pc := 0) d_Line_empty_0 0 rfl rfl ?_
  refine fw_iconst (pc := 1) d_Line_empty_1 fw_ic0 ?_
  obtain ⟨μ2, e2, h⟩ := fw_ne h
  refine fw_putI (pc := 2) d_Line_empty_2 fp_Line_15 g0.1 rfl (fw_mem e2 ?_)
  refine fw_aload_n (pc := 5) d_Line_empty_5 0 rfl rfl ?_
  refine fw_iconst (pc := 6) d_Line_empty_6 fw_ic0 ?_
  obtain ⟨μ7, e7, h⟩ := fw_ne h
  refine fw_putI (pc := 7) d_Line_empty_7 fp_Line_19 g0.1 rfl (fw_mem e7 ?_)
  obtain rfl := Option.some.inj h
  exact fw_vret (pc := 10) d_Line_empty_10 rfl
def f_Tape_nextSign_L0  (μ0 : fw_M) : Option ((fw_M) ⊕ (fw_M)) :=
  if (μ0.1 63 1) ≤ (μ0.1 63 2) then
    some (.inr μ0)
  else
    (fw_rd 60 (μ0.1 64) (μ0.1 63 2)).bind fun v19 =>
    if v19 = 32 then
      fw_nm (fw_wr μ0 63 2 ((μ0.1 63 2) + 1)) fun (μ32 : fw_M) =>
      some (.inl μ32)
    else
      some (.inr μ0)
def f_Tape_nextSign  (μ : fw_M) : Option (Int32 × fw_M) :=
  (fw_wh (f_Tape_nextSign_L0) fw_N μ).bind fun (e0x : fw_M) =>
  Option.bind (
    if (e0x.1 63 1) ≤ (e0x.1 63 2) then
      some (-1)
    else
      (fw_rd 60 (e0x.1 64) (e0x.1 63 2)).bind fun v57 =>
      some v57) fun (j46 : Int32) =>
  some (j46, e0x)
set_option maxHeartbeats 4000000 in
set_option maxRecDepth 100000 in
theorem c_Tape_nextSign  {μ : fw_M} {r : Int32 × fw_M} (h : f_Tape_nextSign  μ = some r) : fw_Con Y_Tape_nextSign fw_X 1 [.ref 63] (some r.1) μ r.2 := by
  refine fw_con (by decide) (Nat.le_of_ble_eq_true rfl) ?_
  rw [f_Tape_nextSign] at h
  show fw_R "FewTypes$Tape" prog_9_method_9_code 1 (some .int) fw_X 1 (some r.1) r.2 0 [(0, .ref 63)] [] μ
  obtain ⟨e0x, w0, h⟩ := fw_be h
  have hE0 : fw_R "FewTypes$Tape" prog_9_method_9_code 1 (some .int) fw_X 1 (some r.1) r.2 38 [(0, .ref 63)] [] e0x := by
    refine fw_aload_n (pc := 38) d_Tape_nextSign_38 0 rfl rfl ?_
    refine fw_getI (pc := 39) d_Tape_nextSign_39 fl_Tape_19 fw_X63 rfl ?_
    refine fw_aload_n (pc := 42) d_Tape_nextSign_42 0 rfl rfl ?_
    refine fw_getI (pc := 43) d_Tape_nextSign_43 fl_Tape_15 fw_X63 rfl ?_
    obtain ⟨j46, w46, h⟩ := fw_be h
    have hJ46 : fw_R "FewTypes$Tape" prog_9_method_9_code 1 (some .int) fw_X 1 (some r.1) r.2 62 [] [.int j46] e0x := by
      obtain rfl := Option.some.inj h
      exact fw_iret (pc := 62) d_Tape_nextSign_62 rfl
    clear h
    have h := w46
    clear w46
    refine fw_icmp_ge (pc := 46) (tgt := 61) d_Tape_nextSign_46 rfl (fun hc => ?_) (fun hc => ?_)
    · have h := fw_it hc h
      refine fw_iconst (pc := 61) d_Tape_nextSign_61 fw_icm1 ?_
      obtain rfl := Option.some.inj h
      exact fw_sub [] rfl hJ46
    · have h := fw_if hc h
      refine fw_aload_n (pc := 49) d_Tape_nextSign_49 0 rfl rfl ?_
      refine fw_getR (pc := 50) d_Tape_nextSign_50 fl_Tape_9 fw_X63 rfl ?_
      refine fw_aload_n (pc := 53) d_Tape_nextSign_53 0 rfl rfl ?_
      refine fw_getI (pc := 54) d_Tape_nextSign_54 fl_Tape_19 fw_X63 rfl ?_
      obtain ⟨v57, e57, h⟩ := fw_be h
      refine fw_iald (pc := 57) d_Tape_nextSign_57 fw_X64 e57 ?_
      refine fw_goto (pc := 58) (tgt := 62) d_Tape_nextSign_58 rfl ?_
      obtain rfl := Option.some.inj h
      exact fw_sub [] rfl hJ46
  clear h
  exact fw_sub [0] rfl (fw_we (e := e0x) (fun (s : fw_M) => fw_R "FewTypes$Tape" prog_9_method_9_code 1 (some .int) fw_X 1 (some r.1) r.2 0 [(0, .ref 63)] [] s) (by
    intro s x h hl hr
    obtain ⟨μ0, rfl⟩ : ∃ z, z = s := ⟨_, rfl⟩
    rw [f_Tape_nextSign_L0] at h
    show fw_R "FewTypes$Tape" prog_9_method_9_code 1 (some .int) fw_X 1 (some r.1) r.2 0 [(0, .ref 63)] [] μ0
    refine fw_aload_n (pc := 0) d_Tape_nextSign_0 0 rfl rfl ?_
    refine fw_getI (pc := 1) d_Tape_nextSign_1 fl_Tape_19 fw_X63 rfl ?_
    refine fw_aload_n (pc := 4) d_Tape_nextSign_4 0 rfl rfl ?_
    refine fw_getI (pc := 5) d_Tape_nextSign_5 fl_Tape_15 fw_X63 rfl ?_
    refine fw_icmp_ge (pc := 8) (tgt := 38) d_Tape_nextSign_8 rfl (fun hc => ?_) (fun hc => ?_)
    · have h := fw_it hc h
      obtain rfl := Option.some.inj h
      have he := hr _ rfl
      subst he
      exact fw_sub [0] rfl hE0
    · have h := fw_if hc h
      refine fw_aload_n (pc := 11) d_Tape_nextSign_11 0 rfl rfl ?_
      refine fw_getR (pc := 12) d_Tape_nextSign_12 fl_Tape_9 fw_X63 rfl ?_
      refine fw_aload_n (pc := 15) d_Tape_nextSign_15 0 rfl rfl ?_
      refine fw_getI (pc := 16) d_Tape_nextSign_16 fl_Tape_19 fw_X63 rfl ?_
      obtain ⟨v19, e19, h⟩ := fw_be h
      refine fw_iald (pc := 19) d_Tape_nextSign_19 fw_X64 e19 ?_
      refine fw_bipush (pc := 20) d_Tape_nextSign_20 fw_bp32 ?_
      refine fw_icmp_ne (pc := 22) (tgt := 38) d_Tape_nextSign_22 rfl (fun hc => ?_) (fun hc => ?_)
      · have h := fw_it hc h
        refine fw_aload_n (pc := 25) d_Tape_nextSign_25 0 rfl rfl ?_
        refine fw_dup (pc := 26) d_Tape_nextSign_26 rfl ?_
        refine fw_getI (pc := 27) d_Tape_nextSign_27 fl_Tape_19 fw_X63 rfl ?_
        refine fw_iconst (pc := 30) d_Tape_nextSign_30 fw_ic1 ?_
        refine fw_iadd (pc := 31) d_Tape_nextSign_31 ?_
        obtain ⟨μ32, e32, h⟩ := fw_ne h
        refine fw_putI (pc := 32) d_Tape_nextSign_32 fp_Tape_19 fw_X63 rfl (fw_mem e32 ?_)
        refine fw_goto (pc := 35) (tgt := 0) d_Tape_nextSign_35 rfl ?_
        obtain rfl := Option.some.inj h
        exact fw_sub [0] rfl (hl _ rfl)
      · have h := fw_if hc h
        obtain rfl := Option.some.inj h
        have he := hr _ rfl
        subst he
        exact fw_sub [0] rfl hE0
    ) _ _ w0)
def f_Tape_fault  (μ : fw_M) : Option (Int32) :=
  some ((-20) - (μ.1 63 2))
set_option maxHeartbeats 4000000 in
set_option maxRecDepth 100000 in
theorem c_Tape_fault  {μ : fw_M} {r : Int32} (h : f_Tape_fault  μ = some r) : fw_Con Y_Tape_fault fw_X 1 [.ref 63] (some r) μ μ := by
  refine fw_con (by decide) (Nat.le_of_ble_eq_true rfl) ?_
  rw [f_Tape_fault] at h
  show fw_R "FewTypes$Tape" prog_9_method_10_code 1 (some .int) fw_X 1 (some r) μ 0 [(0, .ref 63)] [] μ
  refine fw_bipush (pc := 0) d_Tape_fault_0 fw_bpm20 ?_
  refine fw_aload_n (pc := 2) d_Tape_fault_2 0 rfl rfl ?_
  refine fw_getI (pc := 3) d_Tape_fault_3 fl_Tape_19 fw_X63 rfl ?_
  refine fw_isub (pc := 6) d_Tape_fault_6 ?_
  obtain rfl := Option.some.inj h
  exact fw_iret (pc := 7) d_Tape_fault_7 rfl
def f_Line_add (t0 : Nat) (a1 : Int32) (a2 : Int32) (μ : fw_M) : Option (fw_M) :=
  if fw_okL t0 then
    Option.bind (
      if 10 ≤ (μ.1 t0 1) then
        some μ
      else
        Option.bind (
          if (μ.1 t0 1) ≤ 0 then
            some μ
          else
            if a2 = 0 then
              fw_nm (fw_wr μ t0 2 ((μ.1 t0 2) ||| (1 <<< (((μ.1 t0 1) - 1) &&& 31)))) fun (μ34 : fw_M) =>
              some μ34
            else
              some μ) fun (j13 : fw_M) =>
        (fw_si 10 j13 (t0 + 1) (j13.1 t0 1) a1).bind fun μ46 =>
        fw_nm (fw_wr μ46 t0 1 ((μ46.1 t0 1) + 1)) fun (μ54 : fw_M) =>
        some μ54) fun (j6 : fw_M) =>
    some j6
  else none
set_option maxHeartbeats 4000000 in
set_option maxRecDepth 100000 in
theorem c_Line_add {t0 : Nat} {a1 : Int32} {a2 : Int32} {μ : fw_M} {r : fw_M} (h : f_Line_add t0 a1 a2 μ = some r) : fw_Con Y_Line_add fw_X 1 [.ref t0, .int a1, .int a2] none μ r := by
  refine fw_con (by decide) (Nat.le_of_ble_eq_true rfl) ?_
  rw [f_Line_add] at h
  show fw_R "FewTypes$Line" prog_4_method_4_code 3 none fw_X 1 none r 0 [(0, .ref t0), (1, .int a1), (2, .int a2)] [] μ
  obtain ⟨g0, h⟩ := fw_gu h
  refine fw_aload_n (pc := 0) d_Line_add_0 0 rfl rfl ?_
  refine fw_getI (pc := 1) d_Line_add_1 fl_Line_15 g0.1 rfl ?_
  refine fw_bipush (pc := 4) d_Line_add_4 fw_bp10 ?_
  obtain ⟨j6, w6, h⟩ := fw_be h
  have hJ6 : fw_R "FewTypes$Line" prog_4_method_4_code 3 none fw_X 1 none r 57 [] [] j6 := by
    obtain rfl := Option.some.inj h
    exact fw_vret (pc := 57) d_Line_add_57 rfl
  clear h
  have h := w6
  clear w6
  refine fw_icmp_ge (pc := 6) (tgt := 57) d_Line_add_6 rfl (fun hc => ?_) (fun hc => ?_)
  · have h := fw_it hc h
    obtain rfl := Option.some.inj h
    exact fw_sub [] rfl hJ6
  · have h := fw_if hc h
    refine fw_aload_n (pc := 9) d_Line_add_9 0 rfl rfl ?_
    refine fw_getI (pc := 10) d_Line_add_10 fl_Line_15 g0.1 rfl ?_
    obtain ⟨j13, w13, h⟩ := fw_be h
    have hJ13 : fw_R "FewTypes$Line" prog_4_method_4_code 3 none fw_X 1 none r 37 [(0, .ref t0), (1, .int a1)] [] j13 := by
      refine fw_aload_n (pc := 37) d_Line_add_37 0 rfl rfl ?_
      refine fw_getR (pc := 38) d_Line_add_38 fl_Line_9 g0.1 rfl ?_
      refine fw_aload_n (pc := 41) d_Line_add_41 0 rfl rfl ?_
      refine fw_getI (pc := 42) d_Line_add_42 fl_Line_15 g0.1 rfl ?_
      refine fw_iload_n (pc := 45) d_Line_add_45 1 rfl rfl ?_
      obtain ⟨μ46, e46, h⟩ := fw_be h
      refine fw_iast (pc := 46) d_Line_add_46 g0.2 e46 ?_
      refine fw_aload_n (pc := 47) d_Line_add_47 0 rfl rfl ?_
      refine fw_dup (pc := 48) d_Line_add_48 rfl ?_
      refine fw_getI (pc := 49) d_Line_add_49 fl_Line_15 g0.1 rfl ?_
      refine fw_iconst (pc := 52) d_Line_add_52 fw_ic1 ?_
      refine fw_iadd (pc := 53) d_Line_add_53 ?_
      obtain ⟨μ54, e54, h⟩ := fw_ne h
      refine fw_putI (pc := 54) d_Line_add_54 fp_Line_15 g0.1 rfl (fw_mem e54 ?_)
      obtain rfl := Option.some.inj h
      exact fw_sub [] rfl hJ6
    clear h
    have h := w13
    clear w13
    refine fw_if_le (pc := 13) (tgt := 37) d_Line_add_13 rfl (fun hc => ?_) (fun hc => ?_)
    · have h := fw_it hc h
      obtain rfl := Option.some.inj h
      exact fw_sub [0, 1] rfl hJ13
    · have h := fw_if hc h
      refine fw_iload_n (pc := 16) d_Line_add_16 2 rfl rfl ?_
      refine fw_if_ne (pc := 17) (tgt := 37) d_Line_add_17 rfl (fun hc => ?_) (fun hc => ?_)
      · have h := fw_it hc h
        refine fw_aload_n (pc := 20) d_Line_add_20 0 rfl rfl ?_
        refine fw_dup (pc := 21) d_Line_add_21 rfl ?_
        refine fw_getI (pc := 22) d_Line_add_22 fl_Line_19 g0.1 rfl ?_
        refine fw_iconst (pc := 25) d_Line_add_25 fw_ic1 ?_
        refine fw_aload_n (pc := 26) d_Line_add_26 0 rfl rfl ?_
        refine fw_getI (pc := 27) d_Line_add_27 fl_Line_15 g0.1 rfl ?_
        refine fw_iconst (pc := 30) d_Line_add_30 fw_ic1 ?_
        refine fw_isub (pc := 31) d_Line_add_31 ?_
        refine fw_ishl (pc := 32) d_Line_add_32 ?_
        refine fw_ior (pc := 33) d_Line_add_33 ?_
        obtain ⟨μ34, e34, h⟩ := fw_ne h
        refine fw_putI (pc := 34) d_Line_add_34 fp_Line_19 g0.1 rfl (fw_mem e34 ?_)
        obtain rfl := Option.some.inj h
        exact fw_sub [0, 1] rfl hJ13
      · have h := fw_if hc h
        obtain rfl := Option.some.inj h
        exact fw_sub [0, 1] rfl hJ13
end
section
theorem i_vc : Claimed_1_1 ∧ Claimed_1_2 := sorry
end
