-- ===== PART A: goes FIRST, ahead of the names: the tables' words, and 'selects' of the private methods out of them =====
/-- a private method of a class that the tables say can be made, by its rows of tables_1 -/
def lw_okq (q : MethodName × Nat) : Prop := (q.1.cls ≠ "java/lang/invoke/MethodHandle" ∧ q.1.cls ≠ "java/lang/invoke/VarHandle") ∧ Cond.instantiable q.1.cls q.2 ∈ tables_1 ∧ Cond.privateMethod q.1 ∈ tables_1 ∧ Cond.instanceMethod q.1 ∈ tables_1
theorem lw_p0 : lw_okq (⟨"FewTypes", "forgetPulls", "()V"⟩, 13) := ⟨⟨by decide +kernel, by decide +kernel⟩, List.mem_of_getElem? (i := 16) (by decide +kernel), List.mem_of_getElem? (i := 310) (by decide +kernel), List.mem_of_getElem? (i := 311) (by decide +kernel)⟩
theorem lw_p1 : lw_okq (⟨"FewTypes$Tape", "nextSign", "()I"⟩, 3) := ⟨⟨by decide +kernel, by decide +kernel⟩, List.mem_of_getElem? (i := 146) (by decide +kernel), List.mem_of_getElem? (i := 372) (by decide +kernel), List.mem_of_getElem? (i := 373) (by decide +kernel)⟩
theorem lw_p2 : lw_okq (⟨"FewTypes$Tape", "fault", "()I"⟩, 3) := ⟨⟨by decide +kernel, by decide +kernel⟩, List.mem_of_getElem? (i := 146) (by decide +kernel), List.mem_of_getElem? (i := 376) (by decide +kernel), List.mem_of_getElem? (i := 377) (by decide +kernel)⟩
theorem lw_p3 : lw_okq (⟨"FewTypes$Tape", "readType", "(LFewTypes$Case;)Z"⟩, 3) := ⟨⟨by decide +kernel, by decide +kernel⟩, List.mem_of_getElem? (i := 146) (by decide +kernel), List.mem_of_getElem? (i := 398) (by decide +kernel), List.mem_of_getElem? (i := 399) (by decide +kernel)⟩
theorem lw_p4 : lw_okq (⟨"FewTypes", "isSetOfPlaces", "(I)Z"⟩, 13) := ⟨⟨by decide +kernel, by decide +kernel⟩, List.mem_of_getElem? (i := 16) (by decide +kernel), List.mem_of_getElem? (i := 445) (by decide +kernel), List.mem_of_getElem? (i := 446) (by decide +kernel)⟩
theorem lw_p5 : lw_okq (⟨"FewTypes", "lockLine", "()V"⟩, 13) := ⟨⟨by decide +kernel, by decide +kernel⟩, List.mem_of_getElem? (i := 16) (by decide +kernel), List.mem_of_getElem? (i := 449) (by decide +kernel), List.mem_of_getElem? (i := 450) (by decide +kernel)⟩
theorem lw_p6 : lw_okq (⟨"FewTypes$Press", "lockType", "(LFewTypes$Line;LFewTypes$Case;I)Z"⟩, 11) := ⟨⟨by decide +kernel, by decide +kernel⟩, List.mem_of_getElem? (i := 163) (by decide +kernel), List.mem_of_getElem? (i := 458) (by decide +kernel), List.mem_of_getElem? (i := 459) (by decide +kernel)⟩
theorem lw_p7 : lw_okq (⟨"FewTypes$Press", "setRow", "(IJ)V"⟩, 11) := ⟨⟨by decide +kernel, by decide +kernel⟩, List.mem_of_getElem? (i := 163) (by decide +kernel), List.mem_of_getElem? (i := 472) (by decide +kernel), List.mem_of_getElem? (i := 473) (by decide +kernel)⟩
theorem lw_p8 : lw_okq (⟨"FewTypes$Press", "fillRows", "(II)V"⟩, 11) := ⟨⟨by decide +kernel, by decide +kernel⟩, List.mem_of_getElem? (i := 163) (by decide +kernel), List.mem_of_getElem? (i := 480) (by decide +kernel), List.mem_of_getElem? (i := 481) (by decide +kernel)⟩
theorem lw_p9 : lw_okq (⟨"FewTypes$Press", "mayPrintAlone", "(II)I"⟩, 11) := ⟨⟨by decide +kernel, by decide +kernel⟩, List.mem_of_getElem? (i := 163) (by decide +kernel), List.mem_of_getElem? (i := 485) (by decide +kernel), List.mem_of_getElem? (i := 486) (by decide +kernel)⟩
theorem lw_p10 : lw_okq (⟨"FewTypes$Press", "pairsOf", "(I)I"⟩, 11) := ⟨⟨by decide +kernel, by decide +kernel⟩, List.mem_of_getElem? (i := 163) (by decide +kernel), List.mem_of_getElem? (i := 489) (by decide +kernel), List.mem_of_getElem? (i := 490) (by decide +kernel)⟩
theorem lw_p11 : lw_okq (⟨"FewTypes$Press", "addWays", "(III)V"⟩, 11) := ⟨⟨by decide +kernel, by decide +kernel⟩, List.mem_of_getElem? (i := 163) (by decide +kernel), List.mem_of_getElem? (i := 493) (by decide +kernel), List.mem_of_getElem? (i := 494) (by decide +kernel)⟩
theorem lw_p12 : lw_okq (⟨"FewTypes$Press", "mayPrintJoined", "(II)I"⟩, 11) := ⟨⟨by decide +kernel, by decide +kernel⟩, List.mem_of_getElem? (i := 163) (by decide +kernel), List.mem_of_getElem? (i := 499) (by decide +kernel), List.mem_of_getElem? (i := 500) (by decide +kernel)⟩
theorem lw_p13 : lw_okq (⟨"FewTypes$Press", "allUseful", "()I"⟩, 11) := ⟨⟨by decide +kernel, by decide +kernel⟩, List.mem_of_getElem? (i := 163) (by decide +kernel), List.mem_of_getElem? (i := 504) (by decide +kernel), List.mem_of_getElem? (i := 505) (by decide +kernel)⟩
theorem lw_p14 : lw_okq (⟨"FewTypes$Press", "isEnough", "(II)Z"⟩, 11) := ⟨⟨by decide +kernel, by decide +kernel⟩, List.mem_of_getElem? (i := 163) (by decide +kernel), List.mem_of_getElem? (i := 508) (by decide +kernel), List.mem_of_getElem? (i := 509) (by decide +kernel)⟩
theorem lw_p15 : lw_okq (⟨"FewTypes$Press", "leastType", "(III)I"⟩, 11) := ⟨⟨by decide +kernel, by decide +kernel⟩, List.mem_of_getElem? (i := 163) (by decide +kernel), List.mem_of_getElem? (i := 522) (by decide +kernel), List.mem_of_getElem? (i := 523) (by decide +kernel)⟩
def lw_privs_1 : List (MethodName × Nat) := [(⟨"FewTypes", "forgetPulls", "()V"⟩, 13), (⟨"FewTypes$Tape", "nextSign", "()I"⟩, 3), (⟨"FewTypes$Tape", "fault", "()I"⟩, 3), (⟨"FewTypes$Tape", "readType", "(LFewTypes$Case;)Z"⟩, 3), (⟨"FewTypes", "isSetOfPlaces", "(I)Z"⟩, 13), (⟨"FewTypes", "lockLine", "()V"⟩, 13), (⟨"FewTypes$Press", "lockType", "(LFewTypes$Line;LFewTypes$Case;I)Z"⟩, 11), (⟨"FewTypes$Press", "setRow", "(IJ)V"⟩, 11), (⟨"FewTypes$Press", "fillRows", "(II)V"⟩, 11), (⟨"FewTypes$Press", "mayPrintAlone", "(II)I"⟩, 11), (⟨"FewTypes$Press", "pairsOf", "(I)I"⟩, 11), (⟨"FewTypes$Press", "addWays", "(III)V"⟩, 11), (⟨"FewTypes$Press", "mayPrintJoined", "(II)I"⟩, 11), (⟨"FewTypes$Press", "allUseful", "()I"⟩, 11), (⟨"FewTypes$Press", "isEnough", "(II)Z"⟩, 11), (⟨"FewTypes$Press", "leastType", "(III)I"⟩, 11)]
theorem lw_r1 : ∀ q ∈ lw_privs_1, lw_okq q := List.forall_mem_cons.mpr ⟨lw_p0, List.forall_mem_cons.mpr ⟨lw_p1, List.forall_mem_cons.mpr ⟨lw_p2, List.forall_mem_cons.mpr ⟨lw_p3, List.forall_mem_cons.mpr ⟨lw_p4, List.forall_mem_cons.mpr ⟨lw_p5, List.forall_mem_cons.mpr ⟨lw_p6, List.forall_mem_cons.mpr ⟨lw_p7, List.forall_mem_cons.mpr ⟨lw_p8, List.forall_mem_cons.mpr ⟨lw_p9, List.forall_mem_cons.mpr ⟨lw_p10, List.forall_mem_cons.mpr ⟨lw_p11, List.forall_mem_cons.mpr ⟨lw_p12, List.forall_mem_cons.mpr ⟨lw_p13, List.forall_mem_cons.mpr ⟨lw_p14, List.forall_mem_cons.mpr ⟨lw_p15, fun _ h => absurd h List.not_mem_nil⟩⟩⟩⟩⟩⟩⟩⟩⟩⟩⟩⟩⟩⟩⟩⟩
theorem lw_p16 : lw_okq (⟨"FewTypes", "pullsFor", "(I)I"⟩, 13) := ⟨⟨by decide +kernel, by decide +kernel⟩, List.mem_of_getElem? (i := 16) (by decide +kernel), List.mem_of_getElem? (i := 530) (by decide +kernel), List.mem_of_getElem? (i := 531) (by decide +kernel)⟩
theorem lw_p17 : lw_okq (⟨"FewTypes$Press", "fillLeast", "(I)V"⟩, 11) := ⟨⟨by decide +kernel, by decide +kernel⟩, List.mem_of_getElem? (i := 163) (by decide +kernel), List.mem_of_getElem? (i := 552) (by decide +kernel), List.mem_of_getElem? (i := 553) (by decide +kernel)⟩
theorem lw_p18 : lw_okq (⟨"FewTypes$Press", "lowestOf", "(I)I"⟩, 11) := ⟨⟨by decide +kernel, by decide +kernel⟩, List.mem_of_getElem? (i := 163) (by decide +kernel), List.mem_of_getElem? (i := 562) (by decide +kernel), List.mem_of_getElem? (i := 563) (by decide +kernel)⟩
theorem lw_p19 : lw_okq (⟨"FewTypes$Press", "leastApart", "(I)I"⟩, 11) := ⟨⟨by decide +kernel, by decide +kernel⟩, List.mem_of_getElem? (i := 163) (by decide +kernel), List.mem_of_getElem? (i := 566) (by decide +kernel), List.mem_of_getElem? (i := 567) (by decide +kernel)⟩
theorem lw_p20 : lw_okq (⟨"FewTypes$Press", "firstPull", "(I)I"⟩, 11) := ⟨⟨by decide +kernel, by decide +kernel⟩, List.mem_of_getElem? (i := 163) (by decide +kernel), List.mem_of_getElem? (i := 580) (by decide +kernel), List.mem_of_getElem? (i := 581) (by decide +kernel)⟩
theorem lw_p21 : lw_okq (⟨"FewTypes$Orders", "pullOf", "([II)I"⟩, 5) := ⟨⟨by decide +kernel, by decide +kernel⟩, List.mem_of_getElem? (i := 204) (by decide +kernel), List.mem_of_getElem? (i := 614) (by decide +kernel), List.mem_of_getElem? (i := 615) (by decide +kernel)⟩
theorem lw_p22 : lw_okq (⟨"FewTypes$Orders", "weighPair", "(LFewTypes$Shop;IIII)V"⟩, 5) := ⟨⟨by decide +kernel, by decide +kernel⟩, List.mem_of_getElem? (i := 204) (by decide +kernel), List.mem_of_getElem? (i := 619) (by decide +kernel), List.mem_of_getElem? (i := 620) (by decide +kernel)⟩
theorem lw_p23 : lw_okq (⟨"FewTypes$Orders", "clashesWithEarlier", "(I)I"⟩, 5) := ⟨⟨by decide +kernel, by decide +kernel⟩, List.mem_of_getElem? (i := 204) (by decide +kernel), List.mem_of_getElem? (i := 631) (by decide +kernel), List.mem_of_getElem? (i := 632) (by decide +kernel)⟩
theorem lw_p24 : lw_okq (⟨"FewTypes$Orders", "tryFrom", "(III)V"⟩, 5) := ⟨⟨by decide +kernel, by decide +kernel⟩, List.mem_of_getElem? (i := 204) (by decide +kernel), List.mem_of_getElem? (i := 639) (by decide +kernel), List.mem_of_getElem? (i := 640) (by decide +kernel)⟩
theorem lw_p25 : lw_okq (⟨"FewTypes", "wearSoap", "(II)V"⟩, 13) := ⟨⟨by decide +kernel, by decide +kernel⟩, List.mem_of_getElem? (i := 16) (by decide +kernel), List.mem_of_getElem? (i := 648) (by decide +kernel), List.mem_of_getElem? (i := 649) (by decide +kernel)⟩
theorem lw_p26 : lw_okq (⟨"FewTypes", "wearByPull", "(II)V"⟩, 13) := ⟨⟨by decide +kernel, by decide +kernel⟩, List.mem_of_getElem? (i := 16) (by decide +kernel), List.mem_of_getElem? (i := 652) (by decide +kernel), List.mem_of_getElem? (i := 653) (by decide +kernel)⟩
theorem lw_p27 : lw_okq (⟨"FewTypes$Jobs", "sortByDue", "()V"⟩, 4) := ⟨⟨by decide +kernel, by decide +kernel⟩, List.mem_of_getElem? (i := 82) (by decide +kernel), List.mem_of_getElem? (i := 695) (by decide +kernel), List.mem_of_getElem? (i := 696) (by decide +kernel)⟩
theorem lw_p28 : lw_okq (⟨"FewTypes$Jobs", "isInTime", "(I)Z"⟩, 4) := ⟨⟨by decide +kernel, by decide +kernel⟩, List.mem_of_getElem? (i := 82) (by decide +kernel), List.mem_of_getElem? (i := 700) (by decide +kernel), List.mem_of_getElem? (i := 701) (by decide +kernel)⟩
theorem lw_p29 : lw_okq (⟨"FewTypes", "refusal", "(IIII)I"⟩, 13) := ⟨⟨by decide +kernel, by decide +kernel⟩, List.mem_of_getElem? (i := 16) (by decide +kernel), List.mem_of_getElem? (i := 732) (by decide +kernel), List.mem_of_getElem? (i := 733) (by decide +kernel)⟩
theorem lw_p30 : lw_okq (⟨"FewTypes", "sortByPull", "(LFewTypes$Sheet;I)Z"⟩, 13) := ⟨⟨by decide +kernel, by decide +kernel⟩, List.mem_of_getElem? (i := 16) (by decide +kernel), List.mem_of_getElem? (i := 746) (by decide +kernel), List.mem_of_getElem? (i := 747) (by decide +kernel)⟩
theorem lw_p31 : lw_okq (⟨"FewTypes", "pullsOfLeaf", "()I"⟩, 13) := ⟨⟨by decide +kernel, by decide +kernel⟩, List.mem_of_getElem? (i := 16) (by decide +kernel), List.mem_of_getElem? (i := 750) (by decide +kernel), List.mem_of_getElem? (i := 751) (by decide +kernel)⟩
def lw_privs_2 : List (MethodName × Nat) := [(⟨"FewTypes", "pullsFor", "(I)I"⟩, 13), (⟨"FewTypes$Press", "fillLeast", "(I)V"⟩, 11), (⟨"FewTypes$Press", "lowestOf", "(I)I"⟩, 11), (⟨"FewTypes$Press", "leastApart", "(I)I"⟩, 11), (⟨"FewTypes$Press", "firstPull", "(I)I"⟩, 11), (⟨"FewTypes$Orders", "pullOf", "([II)I"⟩, 5), (⟨"FewTypes$Orders", "weighPair", "(LFewTypes$Shop;IIII)V"⟩, 5), (⟨"FewTypes$Orders", "clashesWithEarlier", "(I)I"⟩, 5), (⟨"FewTypes$Orders", "tryFrom", "(III)V"⟩, 5), (⟨"FewTypes", "wearSoap", "(II)V"⟩, 13), (⟨"FewTypes", "wearByPull", "(II)V"⟩, 13), (⟨"FewTypes$Jobs", "sortByDue", "()V"⟩, 4), (⟨"FewTypes$Jobs", "isInTime", "(I)Z"⟩, 4), (⟨"FewTypes", "refusal", "(IIII)I"⟩, 13), (⟨"FewTypes", "sortByPull", "(LFewTypes$Sheet;I)Z"⟩, 13), (⟨"FewTypes", "pullsOfLeaf", "()I"⟩, 13)]
theorem lw_r2 : ∀ q ∈ lw_privs_2, lw_okq q := List.forall_mem_cons.mpr ⟨lw_p16, List.forall_mem_cons.mpr ⟨lw_p17, List.forall_mem_cons.mpr ⟨lw_p18, List.forall_mem_cons.mpr ⟨lw_p19, List.forall_mem_cons.mpr ⟨lw_p20, List.forall_mem_cons.mpr ⟨lw_p21, List.forall_mem_cons.mpr ⟨lw_p22, List.forall_mem_cons.mpr ⟨lw_p23, List.forall_mem_cons.mpr ⟨lw_p24, List.forall_mem_cons.mpr ⟨lw_p25, List.forall_mem_cons.mpr ⟨lw_p26, List.forall_mem_cons.mpr ⟨lw_p27, List.forall_mem_cons.mpr ⟨lw_p28, List.forall_mem_cons.mpr ⟨lw_p29, List.forall_mem_cons.mpr ⟨lw_p30, List.forall_mem_cons.mpr ⟨lw_p31, fun _ h => absurd h List.not_mem_nil⟩⟩⟩⟩⟩⟩⟩⟩⟩⟩⟩⟩⟩⟩⟩⟩
theorem lw_p32 : lw_okq (⟨"FewTypesModel", "comes", "(IIII)V"⟩, 37) := ⟨⟨by decide +kernel, by decide +kernel⟩, List.mem_of_getElem? (i := 790) (by decide +kernel), List.mem_of_getElem? (i := 924) (by decide +kernel), List.mem_of_getElem? (i := 925) (by decide +kernel)⟩
theorem lw_p33 : lw_okq (⟨"FewTypesModel", "isOne", "(I)Z"⟩, 37) := ⟨⟨by decide +kernel, by decide +kernel⟩, List.mem_of_getElem? (i := 790) (by decide +kernel), List.mem_of_getElem? (i := 932) (by decide +kernel), List.mem_of_getElem? (i := 933) (by decide +kernel)⟩
theorem lw_p34 : lw_okq (⟨"FewTypesModel", "goes", "(I)V"⟩, 37) := ⟨⟨by decide +kernel, by decide +kernel⟩, List.mem_of_getElem? (i := 790) (by decide +kernel), List.mem_of_getElem? (i := 941) (by decide +kernel), List.mem_of_getElem? (i := 942) (by decide +kernel)⟩
theorem lw_p35 : lw_okq (⟨"FewTypesModel", "byteOf", "(III)I"⟩, 37) := ⟨⟨by decide +kernel, by decide +kernel⟩, List.mem_of_getElem? (i := 790) (by decide +kernel), List.mem_of_getElem? (i := 967) (by decide +kernel), List.mem_of_getElem? (i := 968) (by decide +kernel)⟩
theorem lw_p36 : lw_okq (⟨"FewTypesModel", "here", "()I"⟩, 37) := ⟨⟨by decide +kernel, by decide +kernel⟩, List.mem_of_getElem? (i := 790) (by decide +kernel), List.mem_of_getElem? (i := 971) (by decide +kernel), List.mem_of_getElem? (i := 972) (by decide +kernel)⟩
theorem lw_p37 : lw_okq (⟨"FewTypesModel", "has", "(I)Z"⟩, 37) := ⟨⟨by decide +kernel, by decide +kernel⟩, List.mem_of_getElem? (i := 790) (by decide +kernel), List.mem_of_getElem? (i := 975) (by decide +kernel), List.mem_of_getElem? (i := 976) (by decide +kernel)⟩
theorem lw_p38 : lw_okq (⟨"FewTypesModel", "clause", "(I)V"⟩, 37) := ⟨⟨by decide +kernel, by decide +kernel⟩, List.mem_of_getElem? (i := 790) (by decide +kernel), List.mem_of_getElem? (i := 983) (by decide +kernel), List.mem_of_getElem? (i := 984) (by decide +kernel)⟩
theorem lw_p39 : lw_okq (⟨"FewTypesModel", "leftOf", "(I)I"⟩, 37) := ⟨⟨by decide +kernel, by decide +kernel⟩, List.mem_of_getElem? (i := 790) (by decide +kernel), List.mem_of_getElem? (i := 991) (by decide +kernel), List.mem_of_getElem? (i := 992) (by decide +kernel)⟩
theorem lw_p40 : lw_okq (⟨"FewTypesModel", "isBeside", "(I)Z"⟩, 37) := ⟨⟨by decide +kernel, by decide +kernel⟩, List.mem_of_getElem? (i := 790) (by decide +kernel), List.mem_of_getElem? (i := 995) (by decide +kernel), List.mem_of_getElem? (i := 996) (by decide +kernel)⟩
theorem lw_p41 : lw_okq (⟨"FewTypesModel", "isSet", "(I)Z"⟩, 37) := ⟨⟨by decide +kernel, by decide +kernel⟩, List.mem_of_getElem? (i := 790) (by decide +kernel), List.mem_of_getElem? (i := 1007) (by decide +kernel), List.mem_of_getElem? (i := 1008) (by decide +kernel)⟩
theorem lw_p42 : lw_okq (⟨"FewTypesModel", "canBe", "(I)Z"⟩, 37) := ⟨⟨by decide +kernel, by decide +kernel⟩, List.mem_of_getElem? (i := 790) (by decide +kernel), List.mem_of_getElem? (i := 1011) (by decide +kernel), List.mem_of_getElem? (i := 1012) (by decide +kernel)⟩
theorem lw_p43 : lw_okq (⟨"FewTypesModel", "prints", "(II)Z"⟩, 37) := ⟨⟨by decide +kernel, by decide +kernel⟩, List.mem_of_getElem? (i := 790) (by decide +kernel), List.mem_of_getElem? (i := 1015) (by decide +kernel), List.mem_of_getElem? (i := 1016) (by decide +kernel)⟩
theorem lw_p44 : lw_okq (⟨"FewTypesModel", "isClose", "(II)Z"⟩, 37) := ⟨⟨by decide +kernel, by decide +kernel⟩, List.mem_of_getElem? (i := 790) (by decide +kernel), List.mem_of_getElem? (i := 1019) (by decide +kernel), List.mem_of_getElem? (i := 1020) (by decide +kernel)⟩
theorem lw_p45 : lw_okq (⟨"FewTypesModel", "joins", "(III)Z"⟩, 37) := ⟨⟨by decide +kernel, by decide +kernel⟩, List.mem_of_getElem? (i := 790) (by decide +kernel), List.mem_of_getElem? (i := 1023) (by decide +kernel), List.mem_of_getElem? (i := 1024) (by decide +kernel)⟩
theorem lw_p46 : lw_okq (⟨"FewTypesModel", "least", "(I)Z"⟩, 37) := ⟨⟨by decide +kernel, by decide +kernel⟩, List.mem_of_getElem? (i := 790) (by decide +kernel), List.mem_of_getElem? (i := 1031) (by decide +kernel), List.mem_of_getElem? (i := 1032) (by decide +kernel)⟩
theorem lw_p47 : lw_okq (⟨"FewTypesModel", "looks", "(I)V"⟩, 37) := ⟨⟨by decide +kernel, by decide +kernel⟩, List.mem_of_getElem? (i := 790) (by decide +kernel), List.mem_of_getElem? (i := 1035) (by decide +kernel), List.mem_of_getElem? (i := 1036) (by decide +kernel)⟩
def lw_privs_3 : List (MethodName × Nat) := [(⟨"FewTypesModel", "comes", "(IIII)V"⟩, 37), (⟨"FewTypesModel", "isOne", "(I)Z"⟩, 37), (⟨"FewTypesModel", "goes", "(I)V"⟩, 37), (⟨"FewTypesModel", "byteOf", "(III)I"⟩, 37), (⟨"FewTypesModel", "here", "()I"⟩, 37), (⟨"FewTypesModel", "has", "(I)Z"⟩, 37), (⟨"FewTypesModel", "clause", "(I)V"⟩, 37), (⟨"FewTypesModel", "leftOf", "(I)I"⟩, 37), (⟨"FewTypesModel", "isBeside", "(I)Z"⟩, 37), (⟨"FewTypesModel", "isSet", "(I)Z"⟩, 37), (⟨"FewTypesModel", "canBe", "(I)Z"⟩, 37), (⟨"FewTypesModel", "prints", "(II)Z"⟩, 37), (⟨"FewTypesModel", "isClose", "(II)Z"⟩, 37), (⟨"FewTypesModel", "joins", "(III)Z"⟩, 37), (⟨"FewTypesModel", "least", "(I)Z"⟩, 37), (⟨"FewTypesModel", "looks", "(I)V"⟩, 37)]
theorem lw_r3 : ∀ q ∈ lw_privs_3, lw_okq q := List.forall_mem_cons.mpr ⟨lw_p32, List.forall_mem_cons.mpr ⟨lw_p33, List.forall_mem_cons.mpr ⟨lw_p34, List.forall_mem_cons.mpr ⟨lw_p35, List.forall_mem_cons.mpr ⟨lw_p36, List.forall_mem_cons.mpr ⟨lw_p37, List.forall_mem_cons.mpr ⟨lw_p38, List.forall_mem_cons.mpr ⟨lw_p39, List.forall_mem_cons.mpr ⟨lw_p40, List.forall_mem_cons.mpr ⟨lw_p41, List.forall_mem_cons.mpr ⟨lw_p42, List.forall_mem_cons.mpr ⟨lw_p43, List.forall_mem_cons.mpr ⟨lw_p44, List.forall_mem_cons.mpr ⟨lw_p45, List.forall_mem_cons.mpr ⟨lw_p46, List.forall_mem_cons.mpr ⟨lw_p47, fun _ h => absurd h List.not_mem_nil⟩⟩⟩⟩⟩⟩⟩⟩⟩⟩⟩⟩⟩⟩⟩⟩
theorem lw_p48 : lw_okq (⟨"FewTypesModel", "mayBy", "(IIII)Z"⟩, 37) := ⟨⟨by decide +kernel, by decide +kernel⟩, List.mem_of_getElem? (i := 790) (by decide +kernel), List.mem_of_getElem? (i := 1039) (by decide +kernel), List.mem_of_getElem? (i := 1040) (by decide +kernel)⟩
theorem lw_p49 : lw_okq (⟨"FewTypesModel", "fewestOf", "()I"⟩, 37) := ⟨⟨by decide +kernel, by decide +kernel⟩, List.mem_of_getElem? (i := 790) (by decide +kernel), List.mem_of_getElem? (i := 1047) (by decide +kernel), List.mem_of_getElem? (i := 1048) (by decide +kernel)⟩
theorem lw_p50 : lw_okq (⟨"FewTypesModel", "plans", "()I"⟩, 37) := ⟨⟨by decide +kernel, by decide +kernel⟩, List.mem_of_getElem? (i := 790) (by decide +kernel), List.mem_of_getElem? (i := 1055) (by decide +kernel), List.mem_of_getElem? (i := 1056) (by decide +kernel)⟩
theorem lw_p51 : lw_okq (⟨"FewTypesModel", "clashes", "(I)I"⟩, 37) := ⟨⟨by decide +kernel, by decide +kernel⟩, List.mem_of_getElem? (i := 790) (by decide +kernel), List.mem_of_getElem? (i := 1068) (by decide +kernel), List.mem_of_getElem? (i := 1069) (by decide +kernel)⟩
theorem lw_p52 : lw_okq (⟨"FewTypesModel", "turns", "(I)Z"⟩, 37) := ⟨⟨by decide +kernel, by decide +kernel⟩, List.mem_of_getElem? (i := 790) (by decide +kernel), List.mem_of_getElem? (i := 1072) (by decide +kernel), List.mem_of_getElem? (i := 1073) (by decide +kernel)⟩
theorem lw_p53 : lw_okq (⟨"FewTypesModel", "needsOf", "(I)I"⟩, 37) := ⟨⟨by decide +kernel, by decide +kernel⟩, List.mem_of_getElem? (i := 790) (by decide +kernel), List.mem_of_getElem? (i := 1089) (by decide +kernel), List.mem_of_getElem? (i := 1090) (by decide +kernel)⟩
theorem lw_p54 : lw_okq (⟨"FewTypesModel", "isDone", "(I)Z"⟩, 37) := ⟨⟨by decide +kernel, by decide +kernel⟩, List.mem_of_getElem? (i := 790) (by decide +kernel), List.mem_of_getElem? (i := 1114) (by decide +kernel), List.mem_of_getElem? (i := 1115) (by decide +kernel)⟩
theorem lw_p55 : lw_okq (⟨"FewTypesModel", "lay", "([II)I"⟩, 37) := ⟨⟨by decide +kernel, by decide +kernel⟩, List.mem_of_getElem? (i := 790) (by decide +kernel), List.mem_of_getElem? (i := 1126) (by decide +kernel), List.mem_of_getElem? (i := 1127) (by decide +kernel)⟩
theorem lw_p56 : lw_okq (⟨"FewTypesModel", "gives", "(I[I)I"⟩, 37) := ⟨⟨by decide +kernel, by decide +kernel⟩, List.mem_of_getElem? (i := 790) (by decide +kernel), List.mem_of_getElem? (i := 1134) (by decide +kernel), List.mem_of_getElem? (i := 1135) (by decide +kernel)⟩
theorem lw_p57 : lw_okq (⟨"FewTypesModel", "finds", "(IIII)I"⟩, 37) := ⟨⟨by decide +kernel, by decide +kernel⟩, List.mem_of_getElem? (i := 790) (by decide +kernel), List.mem_of_getElem? (i := 1148) (by decide +kernel), List.mem_of_getElem? (i := 1149) (by decide +kernel)⟩
def lw_privs_4 : List (MethodName × Nat) := [(⟨"FewTypesModel", "mayBy", "(IIII)Z"⟩, 37), (⟨"FewTypesModel", "fewestOf", "()I"⟩, 37), (⟨"FewTypesModel", "plans", "()I"⟩, 37), (⟨"FewTypesModel", "clashes", "(I)I"⟩, 37), (⟨"FewTypesModel", "turns", "(I)Z"⟩, 37), (⟨"FewTypesModel", "needsOf", "(I)I"⟩, 37), (⟨"FewTypesModel", "isDone", "(I)Z"⟩, 37), (⟨"FewTypesModel", "lay", "([II)I"⟩, 37), (⟨"FewTypesModel", "gives", "(I[I)I"⟩, 37), (⟨"FewTypesModel", "finds", "(IIII)I"⟩, 37)]
theorem lw_r4 : ∀ q ∈ lw_privs_4, lw_okq q := List.forall_mem_cons.mpr ⟨lw_p48, List.forall_mem_cons.mpr ⟨lw_p49, List.forall_mem_cons.mpr ⟨lw_p50, List.forall_mem_cons.mpr ⟨lw_p51, List.forall_mem_cons.mpr ⟨lw_p52, List.forall_mem_cons.mpr ⟨lw_p53, List.forall_mem_cons.mpr ⟨lw_p54, List.forall_mem_cons.mpr ⟨lw_p55, List.forall_mem_cons.mpr ⟨lw_p56, List.forall_mem_cons.mpr ⟨lw_p57, fun _ h => absurd h List.not_mem_nil⟩⟩⟩⟩⟩⟩⟩⟩⟩⟩
def lw_privs : List (MethodName × Nat) := lw_privs_1 ++ (lw_privs_2 ++ (lw_privs_3 ++ (lw_privs_4)))
def lw_tbl : List Cond := k2_sels lw_privs ++ tables_1
theorem lw_privs_ok : ∀ q ∈ lw_privs, lw_okq q := by
  show ∀ q ∈ lw_privs_1 ++ (lw_privs_2 ++ (lw_privs_3 ++ (lw_privs_4))), lw_okq q
  exact List.forall_mem_append.mpr ⟨lw_r1, List.forall_mem_append.mpr ⟨lw_r2, List.forall_mem_append.mpr ⟨lw_r3, lw_r4⟩⟩⟩
def fw_tb : List Cond := lw_tbl.filter goodWord
theorem fw_m {w : Cond} (i : Nat) (h : lw_tbl[i]? = some w) (hg : goodWord w = true) : w ∈ fw_tb := List.mem_filter.mpr ⟨List.mem_of_getElem? h, hg⟩
-- the classes whose objects the worlds hold, their fields in the order of the slots
def fw_T0 : u_T := fun k => match k with
  | 0 => ("FewTypes$Case", "kinds", "[I", true)
  | 1 => ("FewTypes$Case", "letters", "[I", true)
  | 2 => ("FewTypes$Case", "mores", "[I", true)
  | _ => ("FewTypes$Case", "size", "I", false)
def fw_t0 : Nat → FieldType := fun k => match k with
  | 0 => .array .int
  | 1 => .array .int
  | 2 => .array .int
  | _ => .int
theorem fw_n0 : ∀ a, a < 4 → ∀ b, b < 4 → a ≠ b → (fw_T0 a).2.1 ≠ (fw_T0 b).2.1 := by decide +kernel
theorem fw_k0 : ∀ k, k < 4 → parseFieldDescriptor (fw_T0 k).2.2.1 = some (fw_t0 k) := by decide +kernel
set_option maxRecDepth 20000 in
theorem fw_j0 : ∀ w ∈ u_ws "FewTypes$Case" fw_T0 4, w ∈ lw_tbl ∧ goodWord w = true := by decide +kernel
theorem fw_i0 : ∀ w ∈ u_ws "FewTypes$Case" fw_T0 4, w ∈ fw_tb := fun w h => List.mem_filter.mpr (fw_j0 w h)
def fw_T1 : u_T := fun k => match k with
  | 0 => ("FewTypes$Jobs", "hours", "[I", true)
  | 1 => ("FewTypes$Jobs", "dues", "[I", true)
  | 2 => ("FewTypes$Jobs", "byDue", "[I", true)
  | _ => ("FewTypes$Jobs", "size", "I", false)
def fw_t1 : Nat → FieldType := fun k => match k with
  | 0 => .array .int
  | 1 => .array .int
  | 2 => .array .int
  | _ => .int
theorem fw_n1 : ∀ a, a < 4 → ∀ b, b < 4 → a ≠ b → (fw_T1 a).2.1 ≠ (fw_T1 b).2.1 := by decide +kernel
theorem fw_k1 : ∀ k, k < 4 → parseFieldDescriptor (fw_T1 k).2.2.1 = some (fw_t1 k) := by decide +kernel
set_option maxRecDepth 20000 in
theorem fw_j1 : ∀ w ∈ u_ws "FewTypes$Jobs" fw_T1 4, w ∈ lw_tbl ∧ goodWord w = true := by decide +kernel
theorem fw_i1 : ∀ w ∈ u_ws "FewTypes$Jobs" fw_T1 4, w ∈ fw_tb := fun w h => List.mem_filter.mpr (fw_j1 w h)
def fw_T2 : u_T := fun k => match k with
  | 0 => ("FewTypes$Line", "letters", "[I", true)
  | 1 => ("FewTypes$Line", "size", "I", false)
  | _ => ("FewTypes$Line", "besides", "I", false)
def fw_t2 : Nat → FieldType := fun k => match k with
  | 0 => .array .int
  | 1 => .int
  | _ => .int
theorem fw_n2 : ∀ a, a < 3 → ∀ b, b < 3 → a ≠ b → (fw_T2 a).2.1 ≠ (fw_T2 b).2.1 := by decide +kernel
theorem fw_k2 : ∀ k, k < 3 → parseFieldDescriptor (fw_T2 k).2.2.1 = some (fw_t2 k) := by decide +kernel
set_option maxRecDepth 20000 in
theorem fw_j2 : ∀ w ∈ u_ws "FewTypes$Line" fw_T2 3, w ∈ lw_tbl ∧ goodWord w = true := by decide +kernel
theorem fw_i2 : ∀ w ∈ u_ws "FewTypes$Line" fw_T2 3, w ∈ fw_tb := fun w h => List.mem_filter.mpr (fw_j2 w h)
def fw_T3 : u_T := fun k => match k with
  | 0 => ("FewTypes$Orders", "clashes", "[I", true)
  | 1 => ("FewTypes$Orders", "tried", "[I", true)
  | 2 => ("FewTypes$Orders", "best", "[I", true)
  | 3 => ("FewTypes$Orders", "pulls", "I", false)
  | _ => ("FewTypes$Orders", "fewestClashes", "I", false)
def fw_t3 : Nat → FieldType := fun k => match k with
  | 0 => .array .int
  | 1 => .array .int
  | 2 => .array .int
  | 3 => .int
  | _ => .int
theorem fw_n3 : ∀ a, a < 5 → ∀ b, b < 5 → a ≠ b → (fw_T3 a).2.1 ≠ (fw_T3 b).2.1 := by decide +kernel
theorem fw_k3 : ∀ k, k < 5 → parseFieldDescriptor (fw_T3 k).2.2.1 = some (fw_t3 k) := by decide +kernel
set_option maxRecDepth 20000 in
theorem fw_j3 : ∀ w ∈ u_ws "FewTypes$Orders" fw_T3 5, w ∈ lw_tbl ∧ goodWord w = true := by decide +kernel
theorem fw_i3 : ∀ w ∈ u_ws "FewTypes$Orders" fw_T3 5, w ∈ fw_tb := fun w h => List.mem_filter.mpr (fw_j3 w h)
def fw_T4 : u_T := fun k => match k with
  | 0 => ("FewTypes$Press", "numbers", "[I", true)
  | 1 => ("FewTypes$Press", "alone", "[I", true)
  | 2 => ("FewTypes$Press", "joined", "[I", true)
  | 3 => ("FewTypes$Press", "rows", "[J", true)
  | 4 => ("FewTypes$Press", "least", "[I", true)
  | 5 => ("FewTypes$Press", "places", "I", false)
  | 6 => ("FewTypes$Press", "besides", "I", false)
  | 7 => ("FewTypes$Press", "wedges", "Z", false)
  | 8 => ("FewTypes$Press", "useful", "I", false)
  | 9 => ("FewTypes$Press", "words", "I", false)
  | _ => ("FewTypes$Press", "capacity", "I", false)
def fw_t4 : Nat → FieldType := fun k => match k with
  | 0 => .array .int
  | 1 => .array .int
  | 2 => .array .int
  | 3 => .array .long
  | 4 => .array .int
  | 5 => .int
  | 6 => .int
  | 7 => .boolean
  | 8 => .int
  | 9 => .int
  | _ => .int
theorem fw_n4 : ∀ a, a < 11 → ∀ b, b < 11 → a ≠ b → (fw_T4 a).2.1 ≠ (fw_T4 b).2.1 := by decide +kernel
theorem fw_k4 : ∀ k, k < 11 → parseFieldDescriptor (fw_T4 k).2.2.1 = some (fw_t4 k) := by decide +kernel
set_option maxRecDepth 20000 in
theorem fw_j4 : ∀ w ∈ u_ws "FewTypes$Press" fw_T4 11, w ∈ lw_tbl ∧ goodWord w = true := by decide +kernel
theorem fw_i4 : ∀ w ∈ u_ws "FewTypes$Press" fw_T4 11, w ∈ fw_tb := fun w h => List.mem_filter.mpr (fw_j4 w h)
def fw_T5 : u_T := fun k => match k with
  | 0 => ("FewTypes$Sheet", "items", "[I", true)
  | 1 => ("FewTypes$Sheet", "lane", "I", false)
  | 2 => ("FewTypes$Sheet", "size", "I", false)
  | _ => ("FewTypes$Sheet", "isThere", "Z", false)
def fw_t5 : Nat → FieldType := fun k => match k with
  | 0 => .array .int
  | 1 => .int
  | 2 => .int
  | _ => .boolean
theorem fw_n5 : ∀ a, a < 4 → ∀ b, b < 4 → a ≠ b → (fw_T5 a).2.1 ≠ (fw_T5 b).2.1 := by decide +kernel
theorem fw_k5 : ∀ k, k < 4 → parseFieldDescriptor (fw_T5 k).2.2.1 = some (fw_t5 k) := by decide +kernel
set_option maxRecDepth 20000 in
theorem fw_j5 : ∀ w ∈ u_ws "FewTypes$Sheet" fw_T5 4, w ∈ lw_tbl ∧ goodWord w = true := by decide +kernel
theorem fw_i5 : ∀ w ∈ u_ws "FewTypes$Sheet" fw_T5 4, w ∈ fw_tb := fun w h => List.mem_filter.mpr (fw_j5 w h)
def fw_T6 : u_T := fun k => match k with
  | 0 => ("FewTypes$Shop", "types", "LFewTypes$Case;", true)
  | 1 => ("FewTypes$Shop", "told", "LFewTypes$Line;", true)
  | 2 => ("FewTypes$Shop", "widths", "[I", true)
  | 3 => ("FewTypes$Shop", "rules", "[I", true)
  | 4 => ("FewTypes$Shop", "texts", "[LFewTypes$Line;", true)
  | 5 => ("FewTypes$Shop", "senses", "[I", true)
  | 6 => ("FewTypes$Shop", "textCount", "I", false)
  | _ => ("FewTypes$Shop", "jobs", "LFewTypes$Jobs;", true)
def fw_t6 : Nat → FieldType := fun k => match k with
  | 0 => .object "FewTypes$Case"
  | 1 => .object "FewTypes$Line"
  | 2 => .array .int
  | 3 => .array .int
  | 4 => .array (.object "FewTypes$Line")
  | 5 => .array .int
  | 6 => .int
  | _ => .object "FewTypes$Jobs"
theorem fw_n6 : ∀ a, a < 8 → ∀ b, b < 8 → a ≠ b → (fw_T6 a).2.1 ≠ (fw_T6 b).2.1 := by decide +kernel
theorem fw_k6 : ∀ k, k < 8 → parseFieldDescriptor (fw_T6 k).2.2.1 = some (fw_t6 k) := by decide +kernel
set_option maxRecDepth 20000 in
theorem fw_j6 : ∀ w ∈ u_ws "FewTypes$Shop" fw_T6 8, w ∈ lw_tbl ∧ goodWord w = true := by decide +kernel
theorem fw_i6 : ∀ w ∈ u_ws "FewTypes$Shop" fw_T6 8, w ∈ fw_tb := fun w h => List.mem_filter.mpr (fw_j6 w h)
def fw_T7 : u_T := fun k => match k with
  | 0 => ("FewTypes$Tape", "bytes", "[I", true)
  | 1 => ("FewTypes$Tape", "size", "I", false)
  | _ => ("FewTypes$Tape", "at", "I", false)
def fw_t7 : Nat → FieldType := fun k => match k with
  | 0 => .array .int
  | 1 => .int
  | _ => .int
theorem fw_n7 : ∀ a, a < 3 → ∀ b, b < 3 → a ≠ b → (fw_T7 a).2.1 ≠ (fw_T7 b).2.1 := by decide +kernel
theorem fw_k7 : ∀ k, k < 3 → parseFieldDescriptor (fw_T7 k).2.2.1 = some (fw_t7 k) := by decide +kernel
set_option maxRecDepth 20000 in
theorem fw_j7 : ∀ w ∈ u_ws "FewTypes$Tape" fw_T7 3, w ∈ lw_tbl ∧ goodWord w = true := by decide +kernel
theorem fw_i7 : ∀ w ∈ u_ws "FewTypes$Tape" fw_T7 3, w ∈ fw_tb := fun w h => List.mem_filter.mpr (fw_j7 w h)
def fw_T8 : u_T := fun k => match k with
  | 0 => ("FewTypes", "now", "LFewTypes$Shop;", true)
  | 1 => ("FewTypes", "kept", "LFewTypes$Shop;", true)
  | 2 => ("FewTypes", "hasImage", "Z", false)
  | 3 => ("FewTypes", "tape", "LFewTypes$Tape;", true)
  | 4 => ("FewTypes", "press", "LFewTypes$Press;", true)
  | 5 => ("FewTypes", "orders", "LFewTypes$Orders;", true)
  | 6 => ("FewTypes", "readLine", "LFewTypes$Line;", true)
  | 7 => ("FewTypes", "readCase", "LFewTypes$Case;", true)
  | 8 => ("FewTypes", "pullsKept", "[I", true)
  | 9 => ("FewTypes", "planSets", "[I", true)
  | 10 => ("FewTypes", "chosen", "[I", true)
  | 11 => ("FewTypes", "leafSets", "[I", true)
  | _ => ("FewTypes", "sheets", "[LFewTypes$Sheet;", true)
def fw_t8 : Nat → FieldType := fun k => match k with
  | 0 => .object "FewTypes$Shop"
  | 1 => .object "FewTypes$Shop"
  | 2 => .boolean
  | 3 => .object "FewTypes$Tape"
  | 4 => .object "FewTypes$Press"
  | 5 => .object "FewTypes$Orders"
  | 6 => .object "FewTypes$Line"
  | 7 => .object "FewTypes$Case"
  | 8 => .array .int
  | 9 => .array .int
  | 10 => .array .int
  | 11 => .array .int
  | _ => .array (.object "FewTypes$Sheet")
theorem fw_n8 : ∀ a, a < 13 → ∀ b, b < 13 → a ≠ b → (fw_T8 a).2.1 ≠ (fw_T8 b).2.1 := by decide +kernel
theorem fw_k8 : ∀ k, k < 13 → parseFieldDescriptor (fw_T8 k).2.2.1 = some (fw_t8 k) := by decide +kernel
set_option maxRecDepth 20000 in
theorem fw_j8 : ∀ w ∈ u_ws "FewTypes" fw_T8 13, w ∈ lw_tbl ∧ goodWord w = true := by decide +kernel
theorem fw_i8 : ∀ w ∈ u_ws "FewTypes" fw_T8 13, w ∈ fw_tb := fun w h => List.mem_filter.mpr (fw_j8 w h)
def fw_T9 : u_T := fun k => match k with
  | 0 => ("FewTypesModel", "types", "I", false)
  | 1 => ("FewTypesModel", "kinds", "[I", true)
  | 2 => ("FewTypesModel", "letters", "[I", true)
  | 3 => ("FewTypesModel", "mores", "[I", true)
  | 4 => ("FewTypesModel", "widths", "[I", true)
  | 5 => ("FewTypesModel", "rules", "[I", true)
  | 6 => ("FewTypesModel", "places", "I", false)
  | 7 => ("FewTypesModel", "row", "[I", true)
  | 8 => ("FewTypesModel", "blanks", "I", false)
  | 9 => ("FewTypesModel", "texts", "I", false)
  | 10 => ("FewTypesModel", "kept", "[I", true)
  | 11 => ("FewTypesModel", "jobs", "I", false)
  | 12 => ("FewTypesModel", "hours", "[I", true)
  | 13 => ("FewTypesModel", "dues", "[I", true)
  | 14 => ("FewTypesModel", "tape", "[I", true)
  | 15 => ("FewTypesModel", "taped", "I", false)
  | 16 => ("FewTypesModel", "at", "I", false)
  | 17 => ("FewTypesModel", "wrong", "Z", false)
  | 18 => ("FewTypesModel", "read", "[I", true)
  | 19 => ("FewTypesModel", "rest", "[Z", true)
  | 20 => ("FewTypesModel", "mark", "[I", true)
  | 21 => ("FewTypesModel", "marks", "I", false)
  | 22 => ("FewTypesModel", "bys", "[I", true)
  | 23 => ("FewTypesModel", "cans", "[Z", true)
  | 24 => ("FewTypesModel", "few", "[I", true)
  | 25 => ("FewTypesModel", "pulls", "[I", true)
  | 26 => ("FewTypesModel", "order", "[I", true)
  | 27 => ("FewTypesModel", "bestOrder", "[I", true)
  | 28 => ("FewTypesModel", "from", "[I", true)
  | 29 => ("FewTypesModel", "wears", "[I", true)
  | 30 => ("FewTypesModel", "aside", "[I", true)
  | 31 => ("FewTypesModel", "image", "[I", true)
  | 32 => ("FewTypesModel", "isImage", "Z", false)
  | 33 => ("FewTypesModel", "lanes", "[I", true)
  | 34 => ("FewTypesModel", "sizes", "[I", true)
  | 35 => ("FewTypesModel", "items", "[I", true)
  | _ => ("FewTypesModel", "moved", "[I", true)
def fw_t9 : Nat → FieldType := fun k => match k with
  | 0 => .int
  | 1 => .array .int
  | 2 => .array .int
  | 3 => .array .int
  | 4 => .array .int
  | 5 => .array .int
  | 6 => .int
  | 7 => .array .int
  | 8 => .int
  | 9 => .int
  | 10 => .array .int
  | 11 => .int
  | 12 => .array .int
  | 13 => .array .int
  | 14 => .array .int
  | 15 => .int
  | 16 => .int
  | 17 => .boolean
  | 18 => .array .int
  | 19 => .array .boolean
  | 20 => .array .int
  | 21 => .int
  | 22 => .array .int
  | 23 => .array .boolean
  | 24 => .array .int
  | 25 => .array .int
  | 26 => .array .int
  | 27 => .array .int
  | 28 => .array .int
  | 29 => .array .int
  | 30 => .array .int
  | 31 => .array .int
  | 32 => .boolean
  | 33 => .array .int
  | 34 => .array .int
  | 35 => .array .int
  | _ => .array .int
theorem fw_n9 : ∀ a, a < 37 → ∀ b, b < 37 → a ≠ b → (fw_T9 a).2.1 ≠ (fw_T9 b).2.1 := by decide +kernel
theorem fw_k9 : ∀ k, k < 37 → parseFieldDescriptor (fw_T9 k).2.2.1 = some (fw_t9 k) := by decide +kernel
set_option maxRecDepth 20000 in
theorem fw_j9 : ∀ w ∈ u_ws "FewTypesModel" fw_T9 37, w ∈ lw_tbl ∧ goodWord w = true := by decide +kernel
theorem fw_i9 : ∀ w ∈ u_ws "FewTypesModel" fw_T9 37, w ∈ fw_tb := fun w h => List.mem_filter.mpr (fw_j9 w h)
abbrev fw_cl : List vw_C := [("FewTypes$Case", fw_T0, 4), ("FewTypes$Jobs", fw_T1, 4), ("FewTypes$Line", fw_T2, 3), ("FewTypes$Orders", fw_T3, 5), ("FewTypes$Press", fw_T4, 11), ("FewTypes$Sheet", fw_T5, 4), ("FewTypes$Shop", fw_T6, 8), ("FewTypes$Tape", fw_T7, 3), ("FewTypes", fw_T8, 13), ("FewTypesModel", fw_T9, 37)]
theorem fw_gin : GoodIn fw_tb fw_tb := fun w hw => ⟨hw, good_of_word (List.mem_filter.mp hw).2⟩
