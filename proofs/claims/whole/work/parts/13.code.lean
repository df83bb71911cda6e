abbrev Y_Press_fillRows : fw_Y := (⟨"FewTypes$Press", "fillRows", "(II)V"⟩, prog_6_method_18_code, 4, none)
abbrev Y_Press_allUseful : fw_Y := (⟨"FewTypes$Press", "allUseful", "()I"⟩, prog_6_method_13_code, 1, (some .int))
abbrev Y_Press_isEnough : fw_Y := (⟨"FewTypes$Press", "isEnough", "(II)Z"⟩, prog_6_method_14_code, 3, (some .boolean))
abbrev Y_Press_inks : fw_Y := (⟨"FewTypes$Press", "inks", "(I)Z"⟩, prog_6_method_4_code, 2, (some .boolean))
abbrev Y_X_can : fw_Y := (⟨"FewTypes", "can", "(I)I"⟩, prog_1_method_12_code, 2, (some .int))
abbrev Y_Press_leastType : fw_Y := (⟨"FewTypes$Press", "leastType", "(III)I"⟩, prog_6_method_12_code, 8, (some .int))
abbrev Y_Press_findLeastWay : fw_Y := (⟨"FewTypes$Press", "findLeastWay", "(I[I)Z"⟩, prog_6_method_11_code, 6, (some .boolean))
abbrev Y_X_by : fw_Y := (⟨"FewTypes", "by", "(II)I"⟩, prog_1_method_13_code, 3, (some .int))
abbrev Y_Case_somePrints : fw_Y := (⟨"FewTypes$Case", "somePrints", "(II)Z"⟩, prog_2_method_9_code, 4, (some .boolean))
abbrev Y_Case_someJoins : fw_Y := (⟨"FewTypes$Case", "someJoins", "(III)Z"⟩, prog_2_method_10_code, 5, (some .boolean))
abbrev Y_Line_isSayable : fw_Y := (⟨"FewTypes$Line", "isSayable", "(LFewTypes$Case;I)Z"⟩, prog_4_method_10_code, 8, (some .boolean))
theorem mv_X_176 : fw_MV "FewTypes" 176 Y_X_isSetOfPlaces 8 1 := ⟨fw_m 502 (by decide +kernel) (by decide +kernel), fw_m 504 (by decide +kernel) (by decide +kernel), fw_m 4 (by decide +kernel) (by decide +kernel), fw_m 59 (by decide +kernel) (by decide +kernel), fw_m 505 (by decide +kernel) (by decide +kernel), ⟨by decide +kernel, by decide +kernel, by decide +kernel⟩, by decide, _, _, rfl⟩
theorem mv_X_179 : fw_MV "FewTypes" 179 Y_X_lockLine 8 0 := ⟨fw_m 506 (by decide +kernel) (by decide +kernel), fw_m 508 (by decide +kernel) (by decide +kernel), fw_m 5 (by decide +kernel) (by decide +kernel), fw_m 59 (by decide +kernel) (by decide +kernel), fw_m 509 (by decide +kernel) (by decide +kernel), ⟨by decide +kernel, by decide +kernel, by decide +kernel⟩, by decide, _, _, rfl⟩
theorem mv_X_182 : fw_MV "FewTypes" 182 Y_Press_inks 4 1 := ⟨fw_m 533 (by decide +kernel) (by decide +kernel), fw_m 534 (by decide +kernel) (by decide +kernel), fw_m 535 (by decide +kernel) (by decide +kernel), fw_m 67 (by decide +kernel) (by decide +kernel), fw_m 536 (by decide +kernel) (by decide +kernel), ⟨by decide +kernel, by decide +kernel, by decide +kernel⟩, by decide, _, _, rfl⟩
theorem mv_Press_91 : fw_MV "FewTypes$Press" 91 Y_Press_fillRows 4 2 := ⟨fw_m 537 (by decide +kernel) (by decide +kernel), fw_m 539 (by decide +kernel) (by decide +kernel), fw_m 8 (by decide +kernel) (by decide +kernel), fw_m 67 (by decide +kernel) (by decide +kernel), fw_m 540 (by decide +kernel) (by decide +kernel), ⟨by decide +kernel, by decide +kernel, by decide +kernel⟩, by decide, _, _, rfl⟩
theorem ma_Press_153 : Cond.methodLink "FewTypes$Press" 153 arraycopyName ∈ fw_tb := fw_m 560 (by decide +kernel) (by decide +kernel)
theorem mv_Press_140 : fw_MV "FewTypes$Press" 140 Y_Press_mayPrintAlone 4 2 := ⟨fw_m 542 (by decide +kernel) (by decide +kernel), fw_m 544 (by decide +kernel) (by decide +kernel), fw_m 9 (by decide +kernel) (by decide +kernel), fw_m 67 (by decide +kernel) (by decide +kernel), fw_m 545 (by decide +kernel) (by decide +kernel), ⟨by decide +kernel, by decide +kernel, by decide +kernel⟩, by decide, _, _, rfl⟩
theorem mv_Press_149 : fw_MV "FewTypes$Press" 149 Y_Press_addWays 4 3 := ⟨fw_m 550 (by decide +kernel) (by decide +kernel), fw_m 552 (by decide +kernel) (by decide +kernel), fw_m 11 (by decide +kernel) (by decide +kernel), fw_m 67 (by decide +kernel) (by decide +kernel), fw_m 553 (by decide +kernel) (by decide +kernel), ⟨by decide +kernel, by decide +kernel, by decide +kernel⟩, by decide, _, _, rfl⟩
theorem mv_Press_143 : fw_MV "FewTypes$Press" 143 Y_Press_mayPrintJoined 4 2 := ⟨fw_m 556 (by decide +kernel) (by decide +kernel), fw_m 558 (by decide +kernel) (by decide +kernel), fw_m 12 (by decide +kernel) (by decide +kernel), fw_m 67 (by decide +kernel) (by decide +kernel), fw_m 559 (by decide +kernel) (by decide +kernel), ⟨by decide +kernel, by decide +kernel, by decide +kernel⟩, by decide, _, _, rfl⟩
theorem mv_Press_95 : fw_MV "FewTypes$Press" 95 Y_Press_allUseful 4 0 := ⟨fw_m 561 (by decide +kernel) (by decide +kernel), fw_m 563 (by decide +kernel) (by decide +kernel), fw_m 13 (by decide +kernel) (by decide +kernel), fw_m 67 (by decide +kernel) (by decide +kernel), fw_m 564 (by decide +kernel) (by decide +kernel), ⟨by decide +kernel, by decide +kernel, by decide +kernel⟩, by decide, _, _, rfl⟩
theorem mv_Press_99 : fw_MV "FewTypes$Press" 99 Y_Press_isEnough 4 2 := ⟨fw_m 565 (by decide +kernel) (by decide +kernel), fw_m 567 (by decide +kernel) (by decide +kernel), fw_m 14 (by decide +kernel) (by decide +kernel), fw_m 67 (by decide +kernel) (by decide +kernel), fw_m 568 (by decide +kernel) (by decide +kernel), ⟨by decide +kernel, by decide +kernel, by decide +kernel⟩, by decide, _, _, rfl⟩
theorem ms_X_185 : fw_MS "FewTypes" 185 Y_X_inSet 2 := ⟨fw_m 573 (by decide +kernel) (by decide +kernel), fw_m 486 (by decide +kernel) (by decide +kernel), fw_m 59 (by decide +kernel) (by decide +kernel), fw_m 487 (by decide +kernel) (by decide +kernel), ⟨by decide +kernel, by decide +kernel, by decide +kernel⟩, by decide⟩
theorem fl_X_65 : fw_FL "FewTypes" 65 8 10 := ⟨_, _, _, rfl, fw_i8, by decide, fw_m 323 (by decide +kernel) (by decide +kernel)⟩
theorem mv_X_189 : fw_MV "FewTypes" 189 Y_Press_findLeastWay 4 2 := ⟨fw_m 574 (by decide +kernel) (by decide +kernel), fw_m 575 (by decide +kernel) (by decide +kernel), fw_m 576 (by decide +kernel) (by decide +kernel), fw_m 67 (by decide +kernel) (by decide +kernel), fw_m 577 (by decide +kernel) (by decide +kernel), ⟨by decide +kernel, by decide +kernel, by decide +kernel⟩, by decide, _, _, rfl⟩
theorem mv_Press_102 : fw_MV "FewTypes$Press" 102 Y_Press_inks 4 1 := ⟨fw_m 578 (by decide +kernel) (by decide +kernel), fw_m 534 (by decide +kernel) (by decide +kernel), fw_m 535 (by decide +kernel) (by decide +kernel), fw_m 67 (by decide +kernel) (by decide +kernel), fw_m 536 (by decide +kernel) (by decide +kernel), ⟨by decide +kernel, by decide +kernel, by decide +kernel⟩, by decide, _, _, rfl⟩
theorem mv_Press_136 : fw_MV "FewTypes$Press" 136 Y_Press_leastType 4 3 := ⟨fw_m 579 (by decide +kernel) (by decide +kernel), fw_m 581 (by decide +kernel) (by decide +kernel), fw_m 15 (by decide +kernel) (by decide +kernel), fw_m 67 (by decide +kernel) (by decide +kernel), fw_m 582 (by decide +kernel) (by decide +kernel), ⟨by decide +kernel, by decide +kernel, by decide +kernel⟩, by decide, _, _, rfl⟩
theorem mv_Line_40 : fw_MV "FewTypes$Line" 40 Y_Case_somePrints 0 2 := ⟨fw_m 595 (by decide +kernel) (by decide +kernel), fw_m 596 (by decide +kernel) (by decide +kernel), fw_m 597 (by decide +kernel) (by decide +kernel), fw_m 61 (by decide +kernel) (by decide +kernel), fw_m 598 (by decide +kernel) (by decide +kernel), ⟨by decide +kernel, by decide +kernel, by decide +kernel⟩, by decide, _, _, rfl⟩
theorem mv_Case_38 : fw_MV "FewTypes$Case" 38 Y_Case_prints 0 2 := ⟨fw_m 599 (by decide +kernel) (by decide +kernel), fw_m 520 (by decide +kernel) (by decide +kernel), fw_m 521 (by decide +kernel) (by decide +kernel), fw_m 61 (by decide +kernel) (by decide +kernel), fw_m 522 (by decide +kernel) (by decide +kernel), ⟨by decide +kernel, by decide +kernel, by decide +kernel⟩, by decide, _, _, rfl⟩
theorem mv_Line_45 : fw_MV "FewTypes$Line" 45 Y_Case_someJoins 0 3 := ⟨fw_m 600 (by decide +kernel) (by decide +kernel), fw_m 601 (by decide +kernel) (by decide +kernel), fw_m 602 (by decide +kernel) (by decide +kernel), fw_m 61 (by decide +kernel) (by decide +kernel), fw_m 603 (by decide +kernel) (by decide +kernel), ⟨by decide +kernel, by decide +kernel, by decide +kernel⟩, by decide, _, _, rfl⟩
theorem mv_Case_42 : fw_MV "FewTypes$Case" 42 Y_Case_joins 0 3 := ⟨fw_m 604 (by decide +kernel) (by decide +kernel), fw_m 525 (by decide +kernel) (by decide +kernel), fw_m 526 (by decide +kernel) (by decide +kernel), fw_m 61 (by decide +kernel) (by decide +kernel), fw_m 527 (by decide +kernel) (by decide +kernel), ⟨by decide +kernel, by decide +kernel, by decide +kernel⟩, by decide, _, _, rfl⟩
theorem d_Press_fillRows_0 : decode prog_6_method_18_code 0 = .ok (.iload_n 2, 1) := by decide +kernel
theorem d_Press_fillRows_1 : decode prog_6_method_18_code 1 = .ok (.istore_n 3, 1) := by decide +kernel
theorem d_Press_fillRows_2 : decode prog_6_method_18_code 2 = .ok (.iload_n 3, 1) := by decide +kernel
theorem d_Press_fillRows_3 : decode prog_6_method_18_code 3 = .ok (.ifCond .lt 79, 3) := by decide +kernel
theorem d_Press_fillRows_6 : decode prog_6_method_18_code 6 = .ok (.iload_n 1, 1) := by decide +kernel
theorem d_Press_fillRows_7 : decode prog_6_method_18_code 7 = .ok (.iload_n 3, 1) := by decide +kernel
theorem d_Press_fillRows_8 : decode prog_6_method_18_code 8 = .ok (.invokestatic 133, 3) := by decide +kernel
theorem d_Press_fillRows_11 : decode prog_6_method_18_code 11 = .ok (.ifCond .eq 40, 3) := by decide +kernel
theorem d_Press_fillRows_14 : decode prog_6_method_18_code 14 = .ok (.aload_n 0, 1) := by decide +kernel
theorem d_Press_fillRows_15 : decode prog_6_method_18_code 15 = .ok (.iload_n 3, 1) := by decide +kernel
theorem d_Press_fillRows_16 : decode prog_6_method_18_code 16 = .ok (.lconst 0, 1) := by decide +kernel
theorem d_Press_fillRows_17 : decode prog_6_method_18_code 17 = .ok (.invokevirtual 72, 3) := by decide +kernel
theorem d_Press_fillRows_20 : decode prog_6_method_18_code 20 = .ok (.aload_n 0, 1) := by decide +kernel
theorem d_Press_fillRows_21 : decode prog_6_method_18_code 21 = .ok (.iload_n 3, 1) := by decide +kernel
theorem d_Press_fillRows_22 : decode prog_6_method_18_code 22 = .ok (.iload_n 3, 1) := by decide +kernel
theorem d_Press_fillRows_23 : decode prog_6_method_18_code 23 = .ok (.iconst 1, 1) := by decide +kernel
theorem d_Press_fillRows_24 : decode prog_6_method_18_code 24 = .ok (.iadd, 1) := by decide +kernel
theorem d_Press_fillRows_25 : decode prog_6_method_18_code 25 = .ok (.aload_n 0, 1) := by decide +kernel
theorem d_Press_fillRows_26 : decode prog_6_method_18_code 26 = .ok (.iload_n 1, 1) := by decide +kernel
theorem d_Press_fillRows_27 : decode prog_6_method_18_code 27 = .ok (.iload_n 3, 1) := by decide +kernel
theorem d_Press_fillRows_28 : decode prog_6_method_18_code 28 = .ok (.invokevirtual 140, 3) := by decide +kernel
theorem d_Press_fillRows_31 : decode prog_6_method_18_code 31 = .ok (.invokevirtual 149, 3) := by decide +kernel
theorem d_Press_fillRows_34 : decode prog_6_method_18_code 34 = .ok (.aload_n 0, 1) := by decide +kernel
theorem d_Press_fillRows_35 : decode prog_6_method_18_code 35 = .ok (.iload_n 3, 1) := by decide +kernel
theorem d_Press_fillRows_36 : decode prog_6_method_18_code 36 = .ok (.iload_n 3, 1) := by decide +kernel
theorem d_Press_fillRows_37 : decode prog_6_method_18_code 37 = .ok (.iconst 2, 1) := by decide +kernel
theorem d_Press_fillRows_38 : decode prog_6_method_18_code 38 = .ok (.iadd, 1) := by decide +kernel
theorem d_Press_fillRows_39 : decode prog_6_method_18_code 39 = .ok (.aload_n 0, 1) := by decide +kernel
theorem d_Press_fillRows_40 : decode prog_6_method_18_code 40 = .ok (.iload_n 1, 1) := by decide +kernel
theorem d_Press_fillRows_41 : decode prog_6_method_18_code 41 = .ok (.iload_n 3, 1) := by decide +kernel
theorem d_Press_fillRows_42 : decode prog_6_method_18_code 42 = .ok (.invokevirtual 143, 3) := by decide +kernel
theorem d_Press_fillRows_45 : decode prog_6_method_18_code 45 = .ok (.invokevirtual 149, 3) := by decide +kernel
theorem d_Press_fillRows_48 : decode prog_6_method_18_code 48 = .ok (.goto 28, 3) := by decide +kernel
theorem d_Press_fillRows_51 : decode prog_6_method_18_code 51 = .ok (.aload_n 0, 1) := by decide +kernel
theorem d_Press_fillRows_52 : decode prog_6_method_18_code 52 = .ok (.getfield 21, 3) := by decide +kernel
theorem d_Press_fillRows_55 : decode prog_6_method_18_code 55 = .ok (.iload_n 3, 1) := by decide +kernel
theorem d_Press_fillRows_56 : decode prog_6_method_18_code 56 = .ok (.iconst 1, 1) := by decide +kernel
theorem d_Press_fillRows_57 : decode prog_6_method_18_code 57 = .ok (.iadd, 1) := by decide +kernel
theorem d_Press_fillRows_58 : decode prog_6_method_18_code 58 = .ok (.bipush 16, 2) := by decide +kernel
theorem d_Press_fillRows_60 : decode prog_6_method_18_code 60 = .ok (.imul, 1) := by decide +kernel
theorem d_Press_fillRows_61 : decode prog_6_method_18_code 61 = .ok (.aload_n 0, 1) := by decide +kernel
theorem d_Press_fillRows_62 : decode prog_6_method_18_code 62 = .ok (.getfield 21, 3) := by decide +kernel
theorem d_Press_fillRows_65 : decode prog_6_method_18_code 65 = .ok (.iload_n 3, 1) := by decide +kernel
theorem d_Press_fillRows_66 : decode prog_6_method_18_code 66 = .ok (.bipush 16, 2) := by decide +kernel
theorem d_Press_fillRows_68 : decode prog_6_method_18_code 68 = .ok (.imul, 1) := by decide +kernel
theorem d_Press_fillRows_69 : decode prog_6_method_18_code 69 = .ok (.aload_n 0, 1) := by decide +kernel
theorem d_Press_fillRows_70 : decode prog_6_method_18_code 70 = .ok (.getfield 42, 3) := by decide +kernel
theorem d_Press_fillRows_73 : decode prog_6_method_18_code 73 = .ok (.invokestatic 153, 3) := by decide +kernel
theorem d_Press_fillRows_76 : decode prog_6_method_18_code 76 = .ok (.iinc 3 (-1), 3) := by decide +kernel
theorem d_Press_fillRows_79 : decode prog_6_method_18_code 79 = .ok (.goto (-77), 3) := by decide +kernel
theorem d_Press_fillRows_82 : decode prog_6_method_18_code 82 = .ok (.return_, 1) := by decide +kernel
theorem d_Press_allUseful_0 : decode prog_6_method_13_code 0 = .ok (.iconst 1, 1) := by decide +kernel
theorem d_Press_allUseful_1 : decode prog_6_method_13_code 1 = .ok (.aload_n 0, 1) := by decide +kernel
theorem d_Press_allUseful_2 : decode prog_6_method_13_code 2 = .ok (.getfield 39, 3) := by decide +kernel
theorem d_Press_allUseful_5 : decode prog_6_method_13_code 5 = .ok (.ishl, 1) := by decide +kernel
theorem d_Press_allUseful_6 : decode prog_6_method_13_code 6 = .ok (.iconst 1, 1) := by decide +kernel
theorem d_Press_allUseful_7 : decode prog_6_method_13_code 7 = .ok (.isub, 1) := by decide +kernel
theorem d_Press_allUseful_8 : decode prog_6_method_13_code 8 = .ok (.ireturn, 1) := by decide +kernel
theorem d_Press_isEnough_0 : decode prog_6_method_14_code 0 = .ok (.aload_n 0, 1) := by decide +kernel
theorem d_Press_isEnough_1 : decode prog_6_method_14_code 1 = .ok (.getfield 21, 3) := by decide +kernel
theorem d_Press_isEnough_4 : decode prog_6_method_14_code 4 = .ok (.iload_n 1, 1) := by decide +kernel
theorem d_Press_isEnough_5 : decode prog_6_method_14_code 5 = .ok (.bipush 16, 2) := by decide +kernel
theorem d_Press_isEnough_7 : decode prog_6_method_14_code 7 = .ok (.imul, 1) := by decide +kernel
theorem d_Press_isEnough_8 : decode prog_6_method_14_code 8 = .ok (.iload_n 2, 1) := by decide +kernel
theorem d_Press_isEnough_9 : decode prog_6_method_14_code 9 = .ok (.bipush 6, 2) := by decide +kernel
theorem d_Press_isEnough_11 : decode prog_6_method_14_code 11 = .ok (.ishr, 1) := by decide +kernel
theorem d_Press_isEnough_12 : decode prog_6_method_14_code 12 = .ok (.iadd, 1) := by decide +kernel
theorem d_Press_isEnough_13 : decode prog_6_method_14_code 13 = .ok (.laload, 1) := by decide +kernel
theorem d_Press_isEnough_14 : decode prog_6_method_14_code 14 = .ok (.iload_n 2, 1) := by decide +kernel
theorem d_Press_isEnough_15 : decode prog_6_method_14_code 15 = .ok (.bipush 63, 2) := by decide +kernel
theorem d_Press_isEnough_17 : decode prog_6_method_14_code 17 = .ok (.iand, 1) := by decide +kernel
theorem d_Press_isEnough_18 : decode prog_6_method_14_code 18 = .ok (.lushr, 1) := by decide +kernel
theorem d_Press_isEnough_19 : decode prog_6_method_14_code 19 = .ok (.lconst 1, 1) := by decide +kernel
theorem d_Press_isEnough_20 : decode prog_6_method_14_code 20 = .ok (.land, 1) := by decide +kernel
theorem d_Press_isEnough_21 : decode prog_6_method_14_code 21 = .ok (.lconst 0, 1) := by decide +kernel
theorem d_Press_isEnough_22 : decode prog_6_method_14_code 22 = .ok (.lcmp, 1) := by decide +kernel
theorem d_Press_isEnough_23 : decode prog_6_method_14_code 23 = .ok (.ifCond .eq 7, 3) := by decide +kernel
theorem d_Press_isEnough_26 : decode prog_6_method_14_code 26 = .ok (.iconst 1, 1) := by decide +kernel
theorem d_Press_isEnough_27 : decode prog_6_method_14_code 27 = .ok (.goto 4, 3) := by decide +kernel
theorem d_Press_isEnough_30 : decode prog_6_method_14_code 30 = .ok (.iconst 0, 1) := by decide +kernel
theorem d_Press_isEnough_31 : decode prog_6_method_14_code 31 = .ok (.ireturn, 1) := by decide +kernel
theorem d_Press_inks_0 : decode prog_6_method_4_code 0 = .ok (.aload_n 0, 1) := by decide +kernel
theorem d_Press_inks_1 : decode prog_6_method_4_code 1 = .ok (.iload_n 1, 1) := by decide +kernel
theorem d_Press_inks_2 : decode prog_6_method_4_code 2 = .ok (.aload_n 0, 1) := by decide +kernel
theorem d_Press_inks_3 : decode prog_6_method_4_code 3 = .ok (.getfield 28, 3) := by decide +kernel
theorem d_Press_inks_6 : decode prog_6_method_4_code 6 = .ok (.iconst 1, 1) := by decide +kernel
theorem d_Press_inks_7 : decode prog_6_method_4_code 7 = .ok (.isub, 1) := by decide +kernel
theorem d_Press_inks_8 : decode prog_6_method_4_code 8 = .ok (.invokevirtual 91, 3) := by decide +kernel
theorem d_Press_inks_11 : decode prog_6_method_4_code 11 = .ok (.aload_n 0, 1) := by decide +kernel
theorem d_Press_inks_12 : decode prog_6_method_4_code 12 = .ok (.iconst 0, 1) := by decide +kernel
theorem d_Press_inks_13 : decode prog_6_method_4_code 13 = .ok (.aload_n 0, 1) := by decide +kernel
theorem d_Press_inks_14 : decode prog_6_method_4_code 14 = .ok (.invokevirtual 95, 3) := by decide +kernel
theorem d_Press_inks_17 : decode prog_6_method_4_code 17 = .ok (.invokevirtual 99, 3) := by decide +kernel
theorem d_Press_inks_20 : decode prog_6_method_4_code 20 = .ok (.ireturn, 1) := by decide +kernel
theorem d_X_can_0 : decode prog_1_method_12_code 0 = .ok (.aload_n 0, 1) := by decide +kernel
theorem d_X_can_1 : decode prog_1_method_12_code 1 = .ok (.iload_n 1, 1) := by decide +kernel
theorem d_X_can_2 : decode prog_1_method_12_code 2 = .ok (.invokevirtual 176, 3) := by decide +kernel
theorem d_X_can_5 : decode prog_1_method_12_code 5 = .ok (.ifCond .ne 5, 3) := by decide +kernel
theorem d_X_can_8 : decode prog_1_method_12_code 8 = .ok (.iconst (-1), 1) := by decide +kernel
theorem d_X_can_9 : decode prog_1_method_12_code 9 = .ok (.ireturn, 1) := by decide +kernel
theorem d_X_can_10 : decode prog_1_method_12_code 10 = .ok (.aload_n 0, 1) := by decide +kernel
theorem d_X_can_11 : decode prog_1_method_12_code 11 = .ok (.invokevirtual 179, 3) := by decide +kernel
theorem d_X_can_14 : decode prog_1_method_12_code 14 = .ok (.aload_n 0, 1) := by decide +kernel
theorem d_X_can_15 : decode prog_1_method_12_code 15 = .ok (.getfield 33, 3) := by decide +kernel
theorem d_X_can_18 : decode prog_1_method_12_code 18 = .ok (.iload_n 1, 1) := by decide +kernel
theorem d_X_can_19 : decode prog_1_method_12_code 19 = .ok (.invokevirtual 182, 3) := by decide +kernel
theorem d_X_can_22 : decode prog_1_method_12_code 22 = .ok (.ifCond .eq 7, 3) := by decide +kernel
theorem d_X_can_25 : decode prog_1_method_12_code 25 = .ok (.iconst 1, 1) := by decide +kernel
theorem d_X_can_26 : decode prog_1_method_12_code 26 = .ok (.goto 4, 3) := by decide +kernel
theorem d_X_can_29 : decode prog_1_method_12_code 29 = .ok (.iconst 0, 1) := by decide +kernel
theorem d_X_can_30 : decode prog_1_method_12_code 30 = .ok (.ireturn, 1) := by decide +kernel
theorem d_Press_leastType_0 : decode prog_6_method_12_code 0 = .ok (.aload_n 0, 1) := by decide +kernel
theorem d_Press_leastType_1 : decode prog_6_method_12_code 1 = .ok (.iload_n 1, 1) := by decide +kernel
theorem d_Press_leastType_2 : decode prog_6_method_12_code 2 = .ok (.iload_n 2, 1) := by decide +kernel
theorem d_Press_leastType_3 : decode prog_6_method_12_code 3 = .ok (.invokevirtual 140, 3) := by decide +kernel
theorem d_Press_leastType_6 : decode prog_6_method_12_code 6 = .ok (.istore 4, 2) := by decide +kernel
theorem d_Press_leastType_8 : decode prog_6_method_12_code 8 = .ok (.aload_n 0, 1) := by decide +kernel
theorem d_Press_leastType_9 : decode prog_6_method_12_code 9 = .ok (.iload_n 1, 1) := by decide +kernel
theorem d_Press_leastType_10 : decode prog_6_method_12_code 10 = .ok (.iload_n 2, 1) := by decide +kernel
theorem d_Press_leastType_11 : decode prog_6_method_12_code 11 = .ok (.invokevirtual 143, 3) := by decide +kernel
theorem d_Press_leastType_14 : decode prog_6_method_12_code 14 = .ok (.istore 5, 2) := by decide +kernel
theorem d_Press_leastType_16 : decode prog_6_method_12_code 16 = .ok (.iconst 0, 1) := by decide +kernel
theorem d_Press_leastType_17 : decode prog_6_method_12_code 17 = .ok (.istore 6, 2) := by decide +kernel
theorem d_Press_leastType_19 : decode prog_6_method_12_code 19 = .ok (.iload 6, 2) := by decide +kernel
theorem d_Press_leastType_21 : decode prog_6_method_12_code 21 = .ok (.aload_n 0, 1) := by decide +kernel
theorem d_Press_leastType_22 : decode prog_6_method_12_code 22 = .ok (.getfield 39, 3) := by decide +kernel
theorem d_Press_leastType_25 : decode prog_6_method_12_code 25 = .ok (.if_icmp .ge 75, 3) := by decide +kernel
theorem d_Press_leastType_28 : decode prog_6_method_12_code 28 = .ok (.iload_n 3, 1) := by decide +kernel
theorem d_Press_leastType_29 : decode prog_6_method_12_code 29 = .ok (.iload 6, 2) := by decide +kernel
theorem d_Press_leastType_31 : decode prog_6_method_12_code 31 = .ok (.invokestatic 133, 3) := by decide +kernel
theorem d_Press_leastType_34 : decode prog_6_method_12_code 34 = .ok (.ifCond .eq 60, 3) := by decide +kernel
theorem d_Press_leastType_37 : decode prog_6_method_12_code 37 = .ok (.iload_n 3, 1) := by decide +kernel
theorem d_Press_leastType_38 : decode prog_6_method_12_code 38 = .ok (.iconst 1, 1) := by decide +kernel
theorem d_Press_leastType_39 : decode prog_6_method_12_code 39 = .ok (.iload 6, 2) := by decide +kernel
theorem d_Press_leastType_41 : decode prog_6_method_12_code 41 = .ok (.ishl, 1) := by decide +kernel
theorem d_Press_leastType_42 : decode prog_6_method_12_code 42 = .ok (.iconst (-1), 1) := by decide +kernel
theorem d_Press_leastType_43 : decode prog_6_method_12_code 43 = .ok (.ixor, 1) := by decide +kernel
theorem d_Press_leastType_44 : decode prog_6_method_12_code 44 = .ok (.iand, 1) := by decide +kernel
theorem d_Press_leastType_45 : decode prog_6_method_12_code 45 = .ok (.istore 7, 2) := by decide +kernel
theorem d_Press_leastType_47 : decode prog_6_method_12_code 47 = .ok (.iload 4, 2) := by decide +kernel
theorem d_Press_leastType_49 : decode prog_6_method_12_code 49 = .ok (.iload 6, 2) := by decide +kernel
theorem d_Press_leastType_51 : decode prog_6_method_12_code 51 = .ok (.invokestatic 133, 3) := by decide +kernel
theorem d_Press_leastType_54 : decode prog_6_method_12_code 54 = .ok (.ifCond .eq 15, 3) := by decide +kernel
theorem d_Press_leastType_57 : decode prog_6_method_12_code 57 = .ok (.aload_n 0, 1) := by decide +kernel
theorem d_Press_leastType_58 : decode prog_6_method_12_code 58 = .ok (.iload_n 2, 1) := by decide +kernel
theorem d_Press_leastType_59 : decode prog_6_method_12_code 59 = .ok (.iconst 1, 1) := by decide +kernel
theorem d_Press_leastType_60 : decode prog_6_method_12_code 60 = .ok (.iadd, 1) := by decide +kernel
theorem d_Press_leastType_61 : decode prog_6_method_12_code 61 = .ok (.iload 7, 2) := by decide +kernel
theorem d_Press_leastType_63 : decode prog_6_method_12_code 63 = .ok (.invokevirtual 99, 3) := by decide +kernel
theorem d_Press_leastType_66 : decode prog_6_method_12_code 66 = .ok (.ifCond .ne 25, 3) := by decide +kernel
theorem d_Press_leastType_69 : decode prog_6_method_12_code 69 = .ok (.iload 5, 2) := by decide +kernel
theorem d_Press_leastType_71 : decode prog_6_method_12_code 71 = .ok (.iload 6, 2) := by decide +kernel
theorem d_Press_leastType_73 : decode prog_6_method_12_code 73 = .ok (.invokestatic 133, 3) := by decide +kernel
theorem d_Press_leastType_76 : decode prog_6_method_12_code 76 = .ok (.ifCond .eq 18, 3) := by decide +kernel
theorem d_Press_leastType_79 : decode prog_6_method_12_code 79 = .ok (.aload_n 0, 1) := by decide +kernel
theorem d_Press_leastType_80 : decode prog_6_method_12_code 80 = .ok (.iload_n 2, 1) := by decide +kernel
theorem d_Press_leastType_81 : decode prog_6_method_12_code 81 = .ok (.iconst 2, 1) := by decide +kernel
theorem d_Press_leastType_82 : decode prog_6_method_12_code 82 = .ok (.iadd, 1) := by decide +kernel
theorem d_Press_leastType_83 : decode prog_6_method_12_code 83 = .ok (.iload 7, 2) := by decide +kernel
theorem d_Press_leastType_85 : decode prog_6_method_12_code 85 = .ok (.invokevirtual 99, 3) := by decide +kernel
theorem d_Press_leastType_88 : decode prog_6_method_12_code 88 = .ok (.ifCond .eq 6, 3) := by decide +kernel
theorem d_Press_leastType_91 : decode prog_6_method_12_code 91 = .ok (.iload 6, 2) := by decide +kernel
theorem d_Press_leastType_93 : decode prog_6_method_12_code 93 = .ok (.ireturn, 1) := by decide +kernel
theorem d_Press_leastType_94 : decode prog_6_method_12_code 94 = .ok (.iinc 6 1, 3) := by decide +kernel
theorem d_Press_leastType_97 : decode prog_6_method_12_code 97 = .ok (.goto (-78), 3) := by decide +kernel
theorem d_Press_leastType_100 : decode prog_6_method_12_code 100 = .ok (.iconst (-1), 1) := by decide +kernel
theorem d_Press_leastType_101 : decode prog_6_method_12_code 101 = .ok (.ireturn, 1) := by decide +kernel
theorem d_Press_findLeastWay_0 : decode prog_6_method_11_code 0 = .ok (.aload_n 0, 1) := by decide +kernel
theorem d_Press_findLeastWay_1 : decode prog_6_method_11_code 1 = .ok (.iload_n 1, 1) := by decide +kernel
theorem d_Press_findLeastWay_2 : decode prog_6_method_11_code 2 = .ok (.invokevirtual 102, 3) := by decide +kernel
theorem d_Press_findLeastWay_5 : decode prog_6_method_11_code 5 = .ok (.ifCond .ne 5, 3) := by decide +kernel
theorem d_Press_findLeastWay_8 : decode prog_6_method_11_code 8 = .ok (.iconst 0, 1) := by decide +kernel
theorem d_Press_findLeastWay_9 : decode prog_6_method_11_code 9 = .ok (.ireturn, 1) := by decide +kernel
theorem d_Press_findLeastWay_10 : decode prog_6_method_11_code 10 = .ok (.aload_n 0, 1) := by decide +kernel
theorem d_Press_findLeastWay_11 : decode prog_6_method_11_code 11 = .ok (.invokevirtual 95, 3) := by decide +kernel
theorem d_Press_findLeastWay_14 : decode prog_6_method_11_code 14 = .ok (.istore_n 3, 1) := by decide +kernel
theorem d_Press_findLeastWay_15 : decode prog_6_method_11_code 15 = .ok (.iconst 0, 1) := by decide +kernel
theorem d_Press_findLeastWay_16 : decode prog_6_method_11_code 16 = .ok (.istore 4, 2) := by decide +kernel
theorem d_Press_findLeastWay_18 : decode prog_6_method_11_code 18 = .ok (.iload 4, 2) := by decide +kernel
theorem d_Press_findLeastWay_20 : decode prog_6_method_11_code 20 = .ok (.aload_n 0, 1) := by decide +kernel
theorem d_Press_findLeastWay_21 : decode prog_6_method_11_code 21 = .ok (.getfield 28, 3) := by decide +kernel
theorem d_Press_findLeastWay_24 : decode prog_6_method_11_code 24 = .ok (.if_icmp .ge 96, 3) := by decide +kernel
theorem d_Press_findLeastWay_27 : decode prog_6_method_11_code 27 = .ok (.iload_n 1, 1) := by decide +kernel
theorem d_Press_findLeastWay_28 : decode prog_6_method_11_code 28 = .ok (.iload 4, 2) := by decide +kernel
theorem d_Press_findLeastWay_30 : decode prog_6_method_11_code 30 = .ok (.invokestatic 133, 3) := by decide +kernel
theorem d_Press_findLeastWay_33 : decode prog_6_method_11_code 33 = .ok (.ifCond .eq 81, 3) := by decide +kernel
theorem d_Press_findLeastWay_36 : decode prog_6_method_11_code 36 = .ok (.aload_n 0, 1) := by decide +kernel
theorem d_Press_findLeastWay_37 : decode prog_6_method_11_code 37 = .ok (.iload_n 1, 1) := by decide +kernel
theorem d_Press_findLeastWay_38 : decode prog_6_method_11_code 38 = .ok (.iload 4, 2) := by decide +kernel
theorem d_Press_findLeastWay_40 : decode prog_6_method_11_code 40 = .ok (.iload_n 3, 1) := by decide +kernel
theorem d_Press_findLeastWay_41 : decode prog_6_method_11_code 41 = .ok (.invokevirtual 136, 3) := by decide +kernel
theorem d_Press_findLeastWay_44 : decode prog_6_method_11_code 44 = .ok (.istore 5, 2) := by decide +kernel
theorem d_Press_findLeastWay_46 : decode prog_6_method_11_code 46 = .ok (.iload 5, 2) := by decide +kernel
theorem d_Press_findLeastWay_48 : decode prog_6_method_11_code 48 = .ok (.iconst (-1), 1) := by decide +kernel
theorem d_Press_findLeastWay_49 : decode prog_6_method_11_code 49 = .ok (.if_icmp .ne 5, 3) := by decide +kernel
theorem d_Press_findLeastWay_52 : decode prog_6_method_11_code 52 = .ok (.iconst 0, 1) := by decide +kernel
theorem d_Press_findLeastWay_53 : decode prog_6_method_11_code 53 = .ok (.ireturn, 1) := by decide +kernel
theorem d_Press_findLeastWay_54 : decode prog_6_method_11_code 54 = .ok (.iload_n 3, 1) := by decide +kernel
theorem d_Press_findLeastWay_55 : decode prog_6_method_11_code 55 = .ok (.iconst 1, 1) := by decide +kernel
theorem d_Press_findLeastWay_56 : decode prog_6_method_11_code 56 = .ok (.iload 5, 2) := by decide +kernel
theorem d_Press_findLeastWay_58 : decode prog_6_method_11_code 58 = .ok (.ishl, 1) := by decide +kernel
theorem d_Press_findLeastWay_59 : decode prog_6_method_11_code 59 = .ok (.iconst (-1), 1) := by decide +kernel
theorem d_Press_findLeastWay_60 : decode prog_6_method_11_code 60 = .ok (.ixor, 1) := by decide +kernel
theorem d_Press_findLeastWay_61 : decode prog_6_method_11_code 61 = .ok (.iand, 1) := by decide +kernel
theorem d_Press_findLeastWay_62 : decode prog_6_method_11_code 62 = .ok (.istore_n 3, 1) := by decide +kernel
theorem d_Press_findLeastWay_63 : decode prog_6_method_11_code 63 = .ok (.aload_n 2, 1) := by decide +kernel
theorem d_Press_findLeastWay_64 : decode prog_6_method_11_code 64 = .ok (.iload 4, 2) := by decide +kernel
theorem d_Press_findLeastWay_66 : decode prog_6_method_11_code 66 = .ok (.aload_n 0, 1) := by decide +kernel
theorem d_Press_findLeastWay_67 : decode prog_6_method_11_code 67 = .ok (.getfield 9, 3) := by decide +kernel
theorem d_Press_findLeastWay_70 : decode prog_6_method_11_code 70 = .ok (.iload 5, 2) := by decide +kernel
theorem d_Press_findLeastWay_72 : decode prog_6_method_11_code 72 = .ok (.iaload, 1) := by decide +kernel
theorem d_Press_findLeastWay_73 : decode prog_6_method_11_code 73 = .ok (.iastore, 1) := by decide +kernel
theorem d_Press_findLeastWay_74 : decode prog_6_method_11_code 74 = .ok (.aload_n 0, 1) := by decide +kernel
theorem d_Press_findLeastWay_75 : decode prog_6_method_11_code 75 = .ok (.getfield 18, 3) := by decide +kernel
theorem d_Press_findLeastWay_78 : decode prog_6_method_11_code 78 = .ok (.iload 4, 2) := by decide +kernel
theorem d_Press_findLeastWay_80 : decode prog_6_method_11_code 80 = .ok (.iaload, 1) := by decide +kernel
theorem d_Press_findLeastWay_81 : decode prog_6_method_11_code 81 = .ok (.iload 5, 2) := by decide +kernel
theorem d_Press_findLeastWay_83 : decode prog_6_method_11_code 83 = .ok (.invokestatic 133, 3) := by decide +kernel
theorem d_Press_findLeastWay_86 : decode prog_6_method_11_code 86 = .ok (.ifCond .eq 28, 3) := by decide +kernel
theorem d_Press_findLeastWay_89 : decode prog_6_method_11_code 89 = .ok (.iload 4, 2) := by decide +kernel
theorem d_Press_findLeastWay_91 : decode prog_6_method_11_code 91 = .ok (.iconst 1, 1) := by decide +kernel
theorem d_Press_findLeastWay_92 : decode prog_6_method_11_code 92 = .ok (.iadd, 1) := by decide +kernel
theorem d_Press_findLeastWay_93 : decode prog_6_method_11_code 93 = .ok (.aload_n 0, 1) := by decide +kernel
theorem d_Press_findLeastWay_94 : decode prog_6_method_11_code 94 = .ok (.getfield 28, 3) := by decide +kernel
theorem d_Press_findLeastWay_97 : decode prog_6_method_11_code 97 = .ok (.if_icmp .ge 17, 3) := by decide +kernel
theorem d_Press_findLeastWay_100 : decode prog_6_method_11_code 100 = .ok (.iinc 4 1, 3) := by decide +kernel
theorem d_Press_findLeastWay_103 : decode prog_6_method_11_code 103 = .ok (.aload_n 2, 1) := by decide +kernel
theorem d_Press_findLeastWay_104 : decode prog_6_method_11_code 104 = .ok (.iload 4, 2) := by decide +kernel
theorem d_Press_findLeastWay_106 : decode prog_6_method_11_code 106 = .ok (.aload_n 0, 1) := by decide +kernel
theorem d_Press_findLeastWay_107 : decode prog_6_method_11_code 107 = .ok (.getfield 9, 3) := by decide +kernel
theorem d_Press_findLeastWay_110 : decode prog_6_method_11_code 110 = .ok (.iload 5, 2) := by decide +kernel
theorem d_Press_findLeastWay_112 : decode prog_6_method_11_code 112 = .ok (.iaload, 1) := by decide +kernel
theorem d_Press_findLeastWay_113 : decode prog_6_method_11_code 113 = .ok (.iastore, 1) := by decide +kernel
theorem d_Press_findLeastWay_114 : decode prog_6_method_11_code 114 = .ok (.iinc 4 1, 3) := by decide +kernel
theorem d_Press_findLeastWay_117 : decode prog_6_method_11_code 117 = .ok (.goto (-99), 3) := by decide +kernel
theorem d_Press_findLeastWay_120 : decode prog_6_method_11_code 120 = .ok (.iconst 1, 1) := by decide +kernel
theorem d_Press_findLeastWay_121 : decode prog_6_method_11_code 121 = .ok (.ireturn, 1) := by decide +kernel
theorem d_X_by_0 : decode prog_1_method_13_code 0 = .ok (.aload_n 0, 1) := by decide +kernel
theorem d_X_by_1 : decode prog_1_method_13_code 1 = .ok (.iload_n 1, 1) := by decide +kernel
theorem d_X_by_2 : decode prog_1_method_13_code 2 = .ok (.invokevirtual 176, 3) := by decide +kernel
theorem d_X_by_5 : decode prog_1_method_13_code 5 = .ok (.ifCond .eq 25, 3) := by decide +kernel
theorem d_X_by_8 : decode prog_1_method_13_code 8 = .ok (.aload_n 0, 1) := by decide +kernel
theorem d_X_by_9 : decode prog_1_method_13_code 9 = .ok (.getfield 12, 3) := by decide +kernel
theorem d_X_by_12 : decode prog_1_method_13_code 12 = .ok (.getfield 139, 3) := by decide +kernel
theorem d_X_by_15 : decode prog_1_method_13_code 15 = .ok (.iload_n 2, 1) := by decide +kernel
theorem d_X_by_16 : decode prog_1_method_13_code 16 = .ok (.invokevirtual 152, 3) := by decide +kernel
theorem d_X_by_19 : decode prog_1_method_13_code 19 = .ok (.ifCond .eq 11, 3) := by decide +kernel
theorem d_X_by_22 : decode prog_1_method_13_code 22 = .ok (.iload_n 1, 1) := by decide +kernel
theorem d_X_by_23 : decode prog_1_method_13_code 23 = .ok (.iload_n 2, 1) := by decide +kernel
theorem d_X_by_24 : decode prog_1_method_13_code 24 = .ok (.invokestatic 185, 3) := by decide +kernel
theorem d_X_by_27 : decode prog_1_method_13_code 27 = .ok (.ifCond .ne 5, 3) := by decide +kernel
theorem d_X_by_30 : decode prog_1_method_13_code 30 = .ok (.iconst (-1), 1) := by decide +kernel
theorem d_X_by_31 : decode prog_1_method_13_code 31 = .ok (.ireturn, 1) := by decide +kernel
theorem d_X_by_32 : decode prog_1_method_13_code 32 = .ok (.aload_n 0, 1) := by decide +kernel
theorem d_X_by_33 : decode prog_1_method_13_code 33 = .ok (.invokevirtual 179, 3) := by decide +kernel
theorem d_X_by_36 : decode prog_1_method_13_code 36 = .ok (.aload_n 0, 1) := by decide +kernel
theorem d_X_by_37 : decode prog_1_method_13_code 37 = .ok (.getfield 33, 3) := by decide +kernel
theorem d_X_by_40 : decode prog_1_method_13_code 40 = .ok (.iload_n 1, 1) := by decide +kernel
theorem d_X_by_41 : decode prog_1_method_13_code 41 = .ok (.aload_n 0, 1) := by decide +kernel
theorem d_X_by_42 : decode prog_1_method_13_code 42 = .ok (.getfield 65, 3) := by decide +kernel
theorem d_X_by_45 : decode prog_1_method_13_code 45 = .ok (.invokevirtual 189, 3) := by decide +kernel
theorem d_X_by_48 : decode prog_1_method_13_code 48 = .ok (.ifCond .eq 12, 3) := by decide +kernel
theorem d_X_by_51 : decode prog_1_method_13_code 51 = .ok (.aload_n 0, 1) := by decide +kernel
theorem d_X_by_52 : decode prog_1_method_13_code 52 = .ok (.getfield 65, 3) := by decide +kernel
theorem d_X_by_55 : decode prog_1_method_13_code 55 = .ok (.iload_n 2, 1) := by decide +kernel
theorem d_X_by_56 : decode prog_1_method_13_code 56 = .ok (.iaload, 1) := by decide +kernel
theorem d_X_by_57 : decode prog_1_method_13_code 57 = .ok (.goto 5, 3) := by decide +kernel
theorem d_X_by_60 : decode prog_1_method_13_code 60 = .ok (.bipush (-4), 2) := by decide +kernel
theorem d_X_by_62 : decode prog_1_method_13_code 62 = .ok (.ireturn, 1) := by decide +kernel
theorem d_Case_somePrints_0 : decode prog_2_method_9_code 0 = .ok (.iconst 0, 1) := by decide +kernel
theorem d_Case_somePrints_1 : decode prog_2_method_9_code 1 = .ok (.istore_n 3, 1) := by decide +kernel
theorem d_Case_somePrints_2 : decode prog_2_method_9_code 2 = .ok (.iload_n 3, 1) := by decide +kernel
theorem d_Case_somePrints_3 : decode prog_2_method_9_code 3 = .ok (.aload_n 0, 1) := by decide +kernel
theorem d_Case_somePrints_4 : decode prog_2_method_9_code 4 = .ok (.getfield 21, 3) := by decide +kernel
theorem d_Case_somePrints_7 : decode prog_2_method_9_code 7 = .ok (.if_icmp .ge 25, 3) := by decide +kernel
theorem d_Case_somePrints_10 : decode prog_2_method_9_code 10 = .ok (.iload_n 3, 1) := by decide +kernel
theorem d_Case_somePrints_11 : decode prog_2_method_9_code 11 = .ok (.iload_n 2, 1) := by decide +kernel
theorem d_Case_somePrints_12 : decode prog_2_method_9_code 12 = .ok (.if_icmp .eq 14, 3) := by decide +kernel
theorem d_Case_somePrints_15 : decode prog_2_method_9_code 15 = .ok (.aload_n 0, 1) := by decide +kernel
theorem d_Case_somePrints_16 : decode prog_2_method_9_code 16 = .ok (.iload_n 3, 1) := by decide +kernel
theorem d_Case_somePrints_17 : decode prog_2_method_9_code 17 = .ok (.iload_n 1, 1) := by decide +kernel
theorem d_Case_somePrints_18 : decode prog_2_method_9_code 18 = .ok (.invokevirtual 38, 3) := by decide +kernel
theorem d_Case_somePrints_21 : decode prog_2_method_9_code 21 = .ok (.ifCond .eq 5, 3) := by decide +kernel
theorem d_Case_somePrints_24 : decode prog_2_method_9_code 24 = .ok (.iconst 1, 1) := by decide +kernel
theorem d_Case_somePrints_25 : decode prog_2_method_9_code 25 = .ok (.ireturn, 1) := by decide +kernel
theorem d_Case_somePrints_26 : decode prog_2_method_9_code 26 = .ok (.iinc 3 1, 3) := by decide +kernel
theorem d_Case_somePrints_29 : decode prog_2_method_9_code 29 = .ok (.goto (-27), 3) := by decide +kernel
theorem d_Case_somePrints_32 : decode prog_2_method_9_code 32 = .ok (.iconst 0, 1) := by decide +kernel
theorem d_Case_somePrints_33 : decode prog_2_method_9_code 33 = .ok (.ireturn, 1) := by decide +kernel
theorem d_Case_someJoins_0 : decode prog_2_method_10_code 0 = .ok (.iconst 0, 1) := by decide +kernel
theorem d_Case_someJoins_1 : decode prog_2_method_10_code 1 = .ok (.istore 4, 2) := by decide +kernel
theorem d_Case_someJoins_3 : decode prog_2_method_10_code 3 = .ok (.iload 4, 2) := by decide +kernel
theorem d_Case_someJoins_5 : decode prog_2_method_10_code 5 = .ok (.aload_n 0, 1) := by decide +kernel
theorem d_Case_someJoins_6 : decode prog_2_method_10_code 6 = .ok (.getfield 21, 3) := by decide +kernel
theorem d_Case_someJoins_9 : decode prog_2_method_10_code 9 = .ok (.if_icmp .ge 28, 3) := by decide +kernel
theorem d_Case_someJoins_12 : decode prog_2_method_10_code 12 = .ok (.iload 4, 2) := by decide +kernel
theorem d_Case_someJoins_14 : decode prog_2_method_10_code 14 = .ok (.iload_n 3, 1) := by decide +kernel
theorem d_Case_someJoins_15 : decode prog_2_method_10_code 15 = .ok (.if_icmp .eq 16, 3) := by decide +kernel
theorem d_Case_someJoins_18 : decode prog_2_method_10_code 18 = .ok (.aload_n 0, 1) := by decide +kernel
theorem d_Case_someJoins_19 : decode prog_2_method_10_code 19 = .ok (.iload 4, 2) := by decide +kernel
theorem d_Case_someJoins_21 : decode prog_2_method_10_code 21 = .ok (.iload_n 1, 1) := by decide +kernel
theorem d_Case_someJoins_22 : decode prog_2_method_10_code 22 = .ok (.iload_n 2, 1) := by decide +kernel
theorem d_Case_someJoins_23 : decode prog_2_method_10_code 23 = .ok (.invokevirtual 42, 3) := by decide +kernel
theorem d_Case_someJoins_26 : decode prog_2_method_10_code 26 = .ok (.ifCond .eq 5, 3) := by decide +kernel
theorem d_Case_someJoins_29 : decode prog_2_method_10_code 29 = .ok (.iconst 1, 1) := by decide +kernel
theorem d_Case_someJoins_30 : decode prog_2_method_10_code 30 = .ok (.ireturn, 1) := by decide +kernel
theorem d_Case_someJoins_31 : decode prog_2_method_10_code 31 = .ok (.iinc 4 1, 3) := by decide +kernel
theorem d_Case_someJoins_34 : decode prog_2_method_10_code 34 = .ok (.goto (-31), 3) := by decide +kernel
theorem d_Case_someJoins_37 : decode prog_2_method_10_code 37 = .ok (.iconst 0, 1) := by decide +kernel
theorem d_Case_someJoins_38 : decode prog_2_method_10_code 38 = .ok (.ireturn, 1) := by decide +kernel
theorem d_Line_isSayable_0 : decode prog_4_method_10_code 0 = .ok (.iconst 0, 1) := by decide +kernel
theorem d_Line_isSayable_1 : decode prog_4_method_10_code 1 = .ok (.istore_n 3, 1) := by decide +kernel
theorem d_Line_isSayable_2 : decode prog_4_method_10_code 2 = .ok (.iconst 1, 1) := by decide +kernel
theorem d_Line_isSayable_3 : decode prog_4_method_10_code 3 = .ok (.istore 4, 2) := by decide +kernel
theorem d_Line_isSayable_5 : decode prog_4_method_10_code 5 = .ok (.iconst 0, 1) := by decide +kernel
theorem d_Line_isSayable_6 : decode prog_4_method_10_code 6 = .ok (.istore 5, 2) := by decide +kernel
theorem d_Line_isSayable_8 : decode prog_4_method_10_code 8 = .ok (.iload 5, 2) := by decide +kernel
theorem d_Line_isSayable_10 : decode prog_4_method_10_code 10 = .ok (.aload_n 0, 1) := by decide +kernel
theorem d_Line_isSayable_11 : decode prog_4_method_10_code 11 = .ok (.getfield 15, 3) := by decide +kernel
theorem d_Line_isSayable_14 : decode prog_4_method_10_code 14 = .ok (.if_icmp .ge 102, 3) := by decide +kernel
theorem d_Line_isSayable_17 : decode prog_4_method_10_code 17 = .ok (.iload 4, 2) := by decide +kernel
theorem d_Line_isSayable_19 : decode prog_4_method_10_code 19 = .ok (.ifCond .eq 22, 3) := by decide +kernel
theorem d_Line_isSayable_22 : decode prog_4_method_10_code 22 = .ok (.aload_n 1, 1) := by decide +kernel
theorem d_Line_isSayable_23 : decode prog_4_method_10_code 23 = .ok (.aload_n 0, 1) := by decide +kernel
theorem d_Line_isSayable_24 : decode prog_4_method_10_code 24 = .ok (.getfield 9, 3) := by decide +kernel
theorem d_Line_isSayable_27 : decode prog_4_method_10_code 27 = .ok (.iload 5, 2) := by decide +kernel
theorem d_Line_isSayable_29 : decode prog_4_method_10_code 29 = .ok (.iaload, 1) := by decide +kernel
theorem d_Line_isSayable_30 : decode prog_4_method_10_code 30 = .ok (.iload_n 2, 1) := by decide +kernel
theorem d_Line_isSayable_31 : decode prog_4_method_10_code 31 = .ok (.invokevirtual 40, 3) := by decide +kernel
theorem d_Line_isSayable_34 : decode prog_4_method_10_code 34 = .ok (.ifCond .eq 7, 3) := by decide +kernel
theorem d_Line_isSayable_37 : decode prog_4_method_10_code 37 = .ok (.iconst 1, 1) := by decide +kernel
theorem d_Line_isSayable_38 : decode prog_4_method_10_code 38 = .ok (.goto 4, 3) := by decide +kernel
theorem d_Line_isSayable_41 : decode prog_4_method_10_code 41 = .ok (.iconst 0, 1) := by decide +kernel
theorem d_Line_isSayable_42 : decode prog_4_method_10_code 42 = .ok (.istore 6, 2) := by decide +kernel
theorem d_Line_isSayable_44 : decode prog_4_method_10_code 44 = .ok (.iload_n 3, 1) := by decide +kernel
theorem d_Line_isSayable_45 : decode prog_4_method_10_code 45 = .ok (.ifCond .eq 42, 3) := by decide +kernel
theorem d_Line_isSayable_48 : decode prog_4_method_10_code 48 = .ok (.aload_n 0, 1) := by decide +kernel
theorem d_Line_isSayable_49 : decode prog_4_method_10_code 49 = .ok (.iload 5, 2) := by decide +kernel
theorem d_Line_isSayable_51 : decode prog_4_method_10_code 51 = .ok (.iconst 1, 1) := by decide +kernel
theorem d_Line_isSayable_52 : decode prog_4_method_10_code 52 = .ok (.isub, 1) := by decide +kernel
theorem d_Line_isSayable_53 : decode prog_4_method_10_code 53 = .ok (.invokevirtual 32, 3) := by decide +kernel
theorem d_Line_isSayable_56 : decode prog_4_method_10_code 56 = .ok (.ifCond .eq 31, 3) := by decide +kernel
theorem d_Line_isSayable_59 : decode prog_4_method_10_code 59 = .ok (.aload_n 1, 1) := by decide +kernel
theorem d_Line_isSayable_60 : decode prog_4_method_10_code 60 = .ok (.aload_n 0, 1) := by decide +kernel
theorem d_Line_isSayable_61 : decode prog_4_method_10_code 61 = .ok (.getfield 9, 3) := by decide +kernel
theorem d_Line_isSayable_64 : decode prog_4_method_10_code 64 = .ok (.iload 5, 2) := by decide +kernel
theorem d_Line_isSayable_66 : decode prog_4_method_10_code 66 = .ok (.iconst 1, 1) := by decide +kernel
theorem d_Line_isSayable_67 : decode prog_4_method_10_code 67 = .ok (.isub, 1) := by decide +kernel
theorem d_Line_isSayable_68 : decode prog_4_method_10_code 68 = .ok (.iaload, 1) := by decide +kernel
theorem d_Line_isSayable_69 : decode prog_4_method_10_code 69 = .ok (.aload_n 0, 1) := by decide +kernel
theorem d_Line_isSayable_70 : decode prog_4_method_10_code 70 = .ok (.getfield 9, 3) := by decide +kernel
theorem d_Line_isSayable_73 : decode prog_4_method_10_code 73 = .ok (.iload 5, 2) := by decide +kernel
theorem d_Line_isSayable_75 : decode prog_4_method_10_code 75 = .ok (.iaload, 1) := by decide +kernel
theorem d_Line_isSayable_76 : decode prog_4_method_10_code 76 = .ok (.iload_n 2, 1) := by decide +kernel
theorem d_Line_isSayable_77 : decode prog_4_method_10_code 77 = .ok (.invokevirtual 45, 3) := by decide +kernel
theorem d_Line_isSayable_80 : decode prog_4_method_10_code 80 = .ok (.ifCond .eq 7, 3) := by decide +kernel
theorem d_Line_isSayable_83 : decode prog_4_method_10_code 83 = .ok (.iconst 1, 1) := by decide +kernel
theorem d_Line_isSayable_84 : decode prog_4_method_10_code 84 = .ok (.goto 4, 3) := by decide +kernel
theorem d_Line_isSayable_87 : decode prog_4_method_10_code 87 = .ok (.iconst 0, 1) := by decide +kernel
theorem d_Line_isSayable_88 : decode prog_4_method_10_code 88 = .ok (.istore 7, 2) := by decide +kernel
theorem d_Line_isSayable_90 : decode prog_4_method_10_code 90 = .ok (.iload 4, 2) := by decide +kernel
theorem d_Line_isSayable_92 : decode prog_4_method_10_code 92 = .ok (.istore_n 3, 1) := by decide +kernel
theorem d_Line_isSayable_93 : decode prog_4_method_10_code 93 = .ok (.iload 6, 2) := by decide +kernel
theorem d_Line_isSayable_95 : decode prog_4_method_10_code 95 = .ok (.ifCond .ne 8, 3) := by decide +kernel
theorem d_Line_isSayable_98 : decode prog_4_method_10_code 98 = .ok (.iload 7, 2) := by decide +kernel
theorem d_Line_isSayable_100 : decode prog_4_method_10_code 100 = .ok (.ifCond .eq 7, 3) := by decide +kernel
theorem d_Line_isSayable_103 : decode prog_4_method_10_code 103 = .ok (.iconst 1, 1) := by decide +kernel
theorem d_Line_isSayable_104 : decode prog_4_method_10_code 104 = .ok (.goto 4, 3) := by decide +kernel
theorem d_Line_isSayable_107 : decode prog_4_method_10_code 107 = .ok (.iconst 0, 1) := by decide +kernel
theorem d_Line_isSayable_108 : decode prog_4_method_10_code 108 = .ok (.istore 4, 2) := by decide +kernel
theorem d_Line_isSayable_110 : decode prog_4_method_10_code 110 = .ok (.iinc 5 1, 3) := by decide +kernel
theorem d_Line_isSayable_113 : decode prog_4_method_10_code 113 = .ok (.goto (-105), 3) := by decide +kernel
theorem d_Line_isSayable_116 : decode prog_4_method_10_code 116 = .ok (.iload 4, 2) := by decide +kernel
theorem d_Line_isSayable_118 : decode prog_4_method_10_code 118 = .ok (.ireturn, 1) := by decide +kernel
def f_Press_fillRows_L2 (a1 : Int32) : Int32 × fw_M → Option ((Int32 × fw_M) ⊕ (fw_M))
  | (x3_2, μ2) =>
  if x3_2 < 0 then
    some (.inr μ2)
  else
    (f_X_inSet a1 x3_2).bind fun (p8 : Int32) =>
    Option.bind (
      if p8 = 0 then
        (fw_cl2 176 176 μ2 69 ((x3_2 + 1) * 16) 69 (x3_2 * 16) (μ2.1 65 9)).bind fun μ73 =>
        some μ73
      else
        (f_Press_setRow x3_2 0 μ2).bind fun (p17 : fw_M) =>
        (f_Press_mayPrintAlone a1 x3_2 p17).bind fun (p28 : Int32) =>
        (f_Press_addWays x3_2 (x3_2 + 1) p28 p17).bind fun (p31 : fw_M) =>
        (f_Press_mayPrintJoined a1 x3_2 p31).bind fun (p42 : Int32) =>
        (f_Press_addWays x3_2 (x3_2 + 2) p42 p31).bind fun (p45 : fw_M) =>
        some p45) fun (j11 : fw_M) =>
    fw_nm (x3_2 + (-1)) fun (v76 : Int32) =>
    some (.inl (v76, j11))
def f_Press_fillRows (a1 : Int32) (a2 : Int32) (μ : fw_M) : Option (fw_M) :=
  (fw_wh (f_Press_fillRows_L2 a1) fw_N (a2, μ)).bind fun (e2x : fw_M) =>
  some e2x
set_option maxHeartbeats 4000000 in
set_option maxRecDepth 100000 in
theorem c_Press_fillRows {a1 : Int32} {a2 : Int32} {μ : fw_M} {r : fw_M} (h : f_Press_fillRows a1 a2 μ = some r) : fw_Con Y_Press_fillRows fw_X 3 [.ref 65, .int a1, .int a2] none μ r := by
  refine fw_con (by decide) (Nat.le_of_ble_eq_true rfl) ?_
  rw [f_Press_fillRows] at h
  show fw_R "FewTypes$Press" prog_6_method_18_code 4 none fw_X 3 none r 0 [(0, .ref 65), (1, .int a1), (2, .int a2)] [] μ
  refine fw_iload_n (pc := 0) d_Press_fillRows_0 2 rfl rfl ?_
  refine fw_istore_n (pc := 1) (lv1 := [(3, .int a2), (0, .ref 65), (1, .int a1), (2, .int a2)]) d_Press_fillRows_1 rfl (by decide) rfl ?_
  obtain ⟨e2x, w2, h⟩ := fw_be h
  have hE2 : fw_R "FewTypes$Press" prog_6_method_18_code 4 none fw_X 3 none r 82 [] [] e2x := by
    obtain rfl := Option.some.inj h
    exact fw_vret (pc := 82) d_Press_fillRows_82 rfl
  clear h
  exact fw_sub [1, 2, 0] rfl (fw_we (e := e2x) (fun (s : Int32 × fw_M) => fw_R "FewTypes$Press" prog_6_method_18_code 4 none fw_X 3 none r 2 [(0, .ref 65), (1, .int a1), (3, .int s.1)] [] s.2) (by
    intro s x h hl hr
    obtain ⟨x3_2, μ2⟩ := s
    rw [f_Press_fillRows_L2] at h
    show fw_R "FewTypes$Press" prog_6_method_18_code 4 none fw_X 3 none r 2 [(0, .ref 65), (1, .int a1), (3, .int x3_2)] [] μ2
    refine fw_iload_n (pc := 2) d_Press_fillRows_2 2 rfl rfl ?_
    refine fw_if_lt (pc := 3) (tgt := 82) d_Press_fillRows_3 rfl (fun hc => ?_) (fun hc => ?_)
    · have h := fw_it hc h
      obtain rfl := Option.some.inj h
      have he := hr _ rfl
      subst he
      exact fw_sub [] rfl hE2
    · have h := fw_if hc h
      refine fw_iload_n (pc := 6) d_Press_fillRows_6 1 rfl rfl ?_
      refine fw_iload_n (pc := 7) d_Press_fillRows_7 2 rfl rfl ?_
      obtain ⟨p8, e8, h⟩ := fw_be h
      refine fw_callNi (pc := 8) d_Press_fillRows_8 ms_Press_133 (c_X_inSet e8) (by decide) rfl rfl (Nat.le_of_ble_eq_true rfl) ?_
      obtain ⟨j11, w11, h⟩ := fw_be h
      have hJ11 : fw_R "FewTypes$Press" prog_6_method_18_code 4 none fw_X 3 none r 76 [(0, .ref 65), (1, .int a1), (3, .int x3_2)] [] j11 := by
        obtain ⟨v76, e76, h⟩ := fw_ne h
        refine fw_iinc2 (pc := 76) (j := 2) (lv1 := [(3, .int v76), (0, .ref 65), (1, .int a1)]) d_Press_fillRows_76 rfl fw_icm1 e76 (by decide) rfl ?_
        refine fw_goto (pc := 79) (tgt := 2) d_Press_fillRows_79 rfl ?_
        obtain rfl := Option.some.inj h
        exact fw_sub [1, 2, 0] rfl (hl _ rfl)
      clear h
      have h := w11
      clear w11
      refine fw_if_eq (pc := 11) (tgt := 51) d_Press_fillRows_11 rfl (fun hc => ?_) (fun hc => ?_)
      · have h := fw_it hc h
        refine fw_aload_n (pc := 51) d_Press_fillRows_51 0 rfl rfl ?_
        refine fw_getR (pc := 52) d_Press_fillRows_52 fl_Press_21 fw_X65 rfl ?_
        refine fw_iload_n (pc := 55) d_Press_fillRows_55 2 rfl rfl ?_
        refine fw_iconst (pc := 56) d_Press_fillRows_56 fw_ic1 ?_
        refine fw_iadd (pc := 57) d_Press_fillRows_57 ?_
        refine fw_bipush (pc := 58) d_Press_fillRows_58 fw_bp16 ?_
        refine fw_imul (pc := 60) d_Press_fillRows_60 ?_
        refine fw_aload_n (pc := 61) d_Press_fillRows_61 0 rfl rfl ?_
        refine fw_getR (pc := 62) d_Press_fillRows_62 fl_Press_21 fw_X65 rfl ?_
        refine fw_iload_n (pc := 65) d_Press_fillRows_65 2 rfl rfl ?_
        refine fw_bipush (pc := 66) d_Press_fillRows_66 fw_bp16 ?_
        refine fw_imul (pc := 68) d_Press_fillRows_68 ?_
        refine fw_aload_n (pc := 69) d_Press_fillRows_69 0 rfl rfl ?_
        refine fw_getI (pc := 70) d_Press_fillRows_70 fl_Press_42 fw_X65 rfl ?_
        obtain ⟨μ73, e73, h⟩ := fw_be h
        refine fw_acpL (pc := 73) d_Press_fillRows_73 ma_Press_153 fw_X69 fw_X69 e73 (by decide) (Nat.le_of_ble_eq_true rfl) ?_
        obtain rfl := Option.some.inj h
        exact fw_sub [0, 1, 2] rfl hJ11
      · have h := fw_if hc h
        refine fw_aload_n (pc := 14) d_Press_fillRows_14 0 rfl rfl ?_
        refine fw_iload_n (pc := 15) d_Press_fillRows_15 2 rfl rfl ?_
        refine fw_lconst (pc := 16) d_Press_fillRows_16 (v := 0) (by decide) ?_
        obtain ⟨p17, e17, h⟩ := fw_be h
        refine fw_callVv (pc := 17) d_Press_fillRows_17 mv_Press_72 fw_X65 (c_Press_setRow e17) (by decide) rfl rfl (Nat.le_of_ble_eq_true rfl) ?_
        refine fw_aload_n (pc := 20) d_Press_fillRows_20 0 rfl rfl ?_
        refine fw_iload_n (pc := 21) d_Press_fillRows_21 2 rfl rfl ?_
        refine fw_iload_n (pc := 22) d_Press_fillRows_22 2 rfl rfl ?_
        refine fw_iconst (pc := 23) d_Press_fillRows_23 fw_ic1 ?_
        refine fw_iadd (pc := 24) d_Press_fillRows_24 ?_
        refine fw_aload_n (pc := 25) d_Press_fillRows_25 0 rfl rfl ?_
        refine fw_iload_n (pc := 26) d_Press_fillRows_26 1 rfl rfl ?_
        refine fw_iload_n (pc := 27) d_Press_fillRows_27 2 rfl rfl ?_
        obtain ⟨p28, e28, h⟩ := fw_be h
        refine fw_callVi (pc := 28) d_Press_fillRows_28 mv_Press_140 fw_X65 (c_Press_mayPrintAlone e28) (by decide) rfl rfl (Nat.le_of_ble_eq_true rfl) ?_
        obtain ⟨p31, e31, h⟩ := fw_be h
        refine fw_callVv (pc := 31) d_Press_fillRows_31 mv_Press_149 fw_X65 (c_Press_addWays e31) (by decide) rfl rfl (Nat.le_of_ble_eq_true rfl) ?_
        refine fw_aload_n (pc := 34) d_Press_fillRows_34 0 rfl rfl ?_
        refine fw_iload_n (pc := 35) d_Press_fillRows_35 2 rfl rfl ?_
        refine fw_iload_n (pc := 36) d_Press_fillRows_36 2 rfl rfl ?_
        refine fw_iconst (pc := 37) d_Press_fillRows_37 fw_ic2 ?_
        refine fw_iadd (pc := 38) d_Press_fillRows_38 ?_
        refine fw_aload_n (pc := 39) d_Press_fillRows_39 0 rfl rfl ?_
        refine fw_iload_n (pc := 40) d_Press_fillRows_40 1 rfl rfl ?_
        refine fw_iload_n (pc := 41) d_Press_fillRows_41 2 rfl rfl ?_
        obtain ⟨p42, e42, h⟩ := fw_be h
        refine fw_callVi (pc := 42) d_Press_fillRows_42 mv_Press_143 fw_X65 (c_Press_mayPrintJoined e42) (by decide) rfl rfl (Nat.le_of_ble_eq_true rfl) ?_
        obtain ⟨p45, e45, h⟩ := fw_be h
        refine fw_callVv (pc := 45) d_Press_fillRows_45 mv_Press_149 fw_X65 (c_Press_addWays e45) (by decide) rfl rfl (Nat.le_of_ble_eq_true rfl) ?_
        refine fw_goto (pc := 48) (tgt := 76) d_Press_fillRows_48 rfl ?_
        obtain rfl := Option.some.inj h
        exact fw_sub [0, 1, 2] rfl hJ11
    ) _ _ w2)
def f_Press_allUseful  (μ : fw_M) : Option (Int32) :=
  some (((1 : Int32) <<< ((μ.1 65 8) &&& 31)) - 1)
set_option maxHeartbeats 4000000 in
set_option maxRecDepth 100000 in
theorem c_Press_allUseful  {μ : fw_M} {r : Int32} (h : f_Press_allUseful  μ = some r) : fw_Con Y_Press_allUseful fw_X 1 [.ref 65] (some r) μ μ := by
  refine fw_con (by decide) (Nat.le_of_ble_eq_true rfl) ?_
  rw [f_Press_allUseful] at h
  show fw_R "FewTypes$Press" prog_6_method_13_code 1 (some .int) fw_X 1 (some r) μ 0 [(0, .ref 65)] [] μ
  refine fw_iconst (pc := 0) d_Press_allUseful_0 fw_ic1 ?_
  refine fw_aload_n (pc := 1) d_Press_allUseful_1 0 rfl rfl ?_
  refine fw_getI (pc := 2) d_Press_allUseful_2 fl_Press_39 fw_X65 rfl ?_
  refine fw_ishl (pc := 5) d_Press_allUseful_5 ?_
  refine fw_iconst (pc := 6) d_Press_allUseful_6 fw_ic1 ?_
  refine fw_isub (pc := 7) d_Press_allUseful_7 ?_
  obtain rfl := Option.some.inj h
  exact fw_iret (pc := 8) d_Press_allUseful_8 rfl
def f_Press_isEnough (a1 : Int32) (a2 : Int32) (μ : fw_M) : Option (Int32) :=
  (fw_rl 176 (μ.2 69) ((a1 * 16) + (a2 >>> ((6 : Int32) &&& 31)))).bind fun v13 =>
  fw_nm (
    if (lg_cmp ((UInt64.toInt64 (Int64.toUInt64 v13 >>> (Int64.toUInt64 (Int32.toInt64 (a2 &&& 63)) &&& Int64.toUInt64 63))) &&& 1) 0) = 0 then
      0
    else
      1) fun (j23 : Int32) =>
  (fw_bz j23).bind fun b31 =>
  some b31
set_option maxHeartbeats 4000000 in
set_option maxRecDepth 100000 in
theorem c_Press_isEnough {a1 : Int32} {a2 : Int32} {μ : fw_M} {r : Int32} (h : f_Press_isEnough a1 a2 μ = some r) : fw_Con Y_Press_isEnough fw_X 1 [.ref 65, .int a1, .int a2] (some r) μ μ := by
  refine fw_con (by decide) (Nat.le_of_ble_eq_true rfl) ?_
  rw [f_Press_isEnough] at h
  show fw_R "FewTypes$Press" prog_6_method_14_code 3 (some .boolean) fw_X 1 (some r) μ 0 [(0, .ref 65), (1, .int a1), (2, .int a2)] [] μ
  refine fw_aload_n (pc := 0) d_Press_isEnough_0 0 rfl rfl ?_
  refine fw_getR (pc := 1) d_Press_isEnough_1 fl_Press_21 fw_X65 rfl ?_
  refine fw_iload_n (pc := 4) d_Press_isEnough_4 1 rfl rfl ?_
  refine fw_bipush (pc := 5) d_Press_isEnough_5 fw_bp16 ?_
  refine fw_imul (pc := 7) d_Press_isEnough_7 ?_
  refine fw_iload_n (pc := 8) d_Press_isEnough_8 2 rfl rfl ?_
  refine fw_bipush (pc := 9) d_Press_isEnough_9 fw_bp6 ?_
  refine fw_ishr (pc := 11) d_Press_isEnough_11 ?_
  refine fw_iadd (pc := 12) d_Press_isEnough_12 ?_
  obtain ⟨v13, e13, h⟩ := fw_be h
  refine fw_lald (pc := 13) d_Press_isEnough_13 fw_X69 e13 ?_
  refine fw_iload_n (pc := 14) d_Press_isEnough_14 2 rfl rfl ?_
  refine fw_bipush (pc := 15) d_Press_isEnough_15 fw_bp63 ?_
  refine fw_iand (pc := 17) d_Press_isEnough_17 ?_
  refine fw_lushr (pc := 18) d_Press_isEnough_18 ?_
  refine fw_lconst (pc := 19) d_Press_isEnough_19 (v := 1) (by decide) ?_
  refine fw_land (pc := 20) d_Press_isEnough_20 ?_
  refine fw_lconst (pc := 21) d_Press_isEnough_21 (v := 0) (by decide) ?_
  refine fw_lcmp (pc := 22) d_Press_isEnough_22 ?_
  obtain ⟨j23, w23, h⟩ := fw_ne h
  have hJ23 : fw_R "FewTypes$Press" prog_6_method_14_code 3 (some .boolean) fw_X 1 (some r) μ 31 [] [.int j23] μ := by
    obtain ⟨b31, e31, h⟩ := fw_be h
    obtain rfl := Option.some.inj h
    exact fw_zret (pc := 31) d_Press_isEnough_31 rfl e31
  clear h
  have h := w23
  clear w23
  refine fw_if_eq (pc := 23) (tgt := 30) d_Press_isEnough_23 rfl (fun hc => ?_) (fun hc => ?_)
  · have h := h.trans (if_pos hc)
    refine fw_iconst (pc := 30) d_Press_isEnough_30 fw_ic0 ?_
    subst h
    exact fw_sub [] rfl hJ23
  · have h := h.trans (if_neg hc)
    refine fw_iconst (pc := 26) d_Press_isEnough_26 fw_ic1 ?_
    refine fw_goto (pc := 27) (tgt := 31) d_Press_isEnough_27 rfl ?_
    subst h
    exact fw_sub [] rfl hJ23
def f_Press_inks (a1 : Int32) (μ : fw_M) : Option (Int32 × fw_M) :=
  (f_Press_fillRows a1 ((μ.1 65 5) - 1) μ).bind fun (p8 : fw_M) =>
  (f_Press_allUseful p8).bind fun (p14 : Int32) =>
  (f_Press_isEnough 0 p14 p8).bind fun (p17 : Int32) =>
  (fw_bz p17).bind fun b20 =>
  some (b20, p8)
set_option maxHeartbeats 4000000 in
set_option maxRecDepth 100000 in
theorem c_Press_inks {a1 : Int32} {μ : fw_M} {r : Int32 × fw_M} (h : f_Press_inks a1 μ = some r) : fw_Con Y_Press_inks fw_X 4 [.ref 65, .int a1] (some r.1) μ r.2 := by
  refine fw_con (by decide) (Nat.le_of_ble_eq_true rfl) ?_
  rw [f_Press_inks] at h
  show fw_R "FewTypes$Press" prog_6_method_4_code 2 (some .boolean) fw_X 4 (some r.1) r.2 0 [(0, .ref 65), (1, .int a1)] [] μ
  refine fw_aload_n (pc := 0) d_Press_inks_0 0 rfl rfl ?_
  refine fw_iload_n (pc := 1) d_Press_inks_1 1 rfl rfl ?_
  refine fw_aload_n (pc := 2) d_Press_inks_2 0 rfl rfl ?_
  refine fw_getI (pc := 3) d_Press_inks_3 fl_Press_28 fw_X65 rfl ?_
  refine fw_iconst (pc := 6) d_Press_inks_6 fw_ic1 ?_
  refine fw_isub (pc := 7) d_Press_inks_7 ?_
  obtain ⟨p8, e8, h⟩ := fw_be h
  refine fw_callVv (pc := 8) d_Press_inks_8 mv_Press_91 fw_X65 (c_Press_fillRows e8) (by decide) rfl rfl (Nat.le_of_ble_eq_true rfl) ?_
  refine fw_aload_n (pc := 11) d_Press_inks_11 0 rfl rfl ?_
  refine fw_iconst (pc := 12) d_Press_inks_12 fw_ic0 ?_
  refine fw_aload_n (pc := 13) d_Press_inks_13 0 rfl rfl ?_
  obtain ⟨p14, e14, h⟩ := fw_be h
  refine fw_callVi (pc := 14) d_Press_inks_14 mv_Press_95 fw_X65 (c_Press_allUseful e14) (by decide) rfl rfl (Nat.le_of_ble_eq_true rfl) ?_
  obtain ⟨p17, e17, h⟩ := fw_be h
  refine fw_callVi (pc := 17) d_Press_inks_17 mv_Press_99 fw_X65 (c_Press_isEnough e17) (by decide) rfl rfl (Nat.le_of_ble_eq_true rfl) ?_
  obtain ⟨b20, e20, h⟩ := fw_be h
  obtain rfl := Option.some.inj h
  exact fw_zret (pc := 20) d_Press_inks_20 rfl e20
def f_X_can (a1 : Int32) (μ : fw_M) : Option (Int32 × fw_M) :=
  (f_X_isSetOfPlaces a1 μ).bind fun (p2 : Int32) =>
  if p2 = 0 then
    some ((-1), μ)
  else
    (f_X_lockLine μ).bind fun (p11 : fw_M) =>
    (f_Press_inks a1 p11).bind fun (p19 : Int32 × fw_M) =>
    fw_nm (
      if p19.1 = 0 then
        0
      else
        1) fun (j22 : Int32) =>
    some (j22, p19.2)
set_option maxHeartbeats 4000000 in
set_option maxRecDepth 100000 in
theorem c_X_can {a1 : Int32} {μ : fw_M} {r : Int32 × fw_M} (h : f_X_can a1 μ = some r) : fw_Con Y_X_can fw_X 6 [.ref 0, .int a1] (some r.1) μ r.2 := by
  refine fw_con (by decide) (Nat.le_of_ble_eq_true rfl) ?_
  rw [f_X_can] at h
  show fw_R "FewTypes" prog_1_method_12_code 2 (some .int) fw_X 6 (some r.1) r.2 0 [(0, .ref 0), (1, .int a1)] [] μ
  refine fw_aload_n (pc := 0) d_X_can_0 0 rfl rfl ?_
  refine fw_iload_n (pc := 1) d_X_can_1 1 rfl rfl ?_
  obtain ⟨p2, e2, h⟩ := fw_be h
  refine fw_callVi (pc := 2) d_X_can_2 mv_X_176 fw_X0 (c_X_isSetOfPlaces e2) (by decide) rfl rfl (Nat.le_of_ble_eq_true rfl) ?_
  refine fw_if_ne (pc := 5) (tgt := 10) d_X_can_5 rfl (fun hc => ?_) (fun hc => ?_)
  · have h := fw_it hc h
    refine fw_iconst (pc := 8) d_X_can_8 fw_icm1 ?_
    obtain rfl := Option.some.inj h
    exact fw_iret (pc := 9) d_X_can_9 rfl
  · have h := fw_if hc h
    refine fw_aload_n (pc := 10) d_X_can_10 0 rfl rfl ?_
    obtain ⟨p11, e11, h⟩ := fw_be h
    refine fw_callVv (pc := 11) d_X_can_11 mv_X_179 fw_X0 (c_X_lockLine e11) (by decide) rfl rfl (Nat.le_of_ble_eq_true rfl) ?_
    refine fw_aload_n (pc := 14) d_X_can_14 0 rfl rfl ?_
    refine fw_getR (pc := 15) d_X_can_15 fl_X_33 fw_X0 rfl ?_
    refine fw_iload_n (pc := 18) d_X_can_18 1 rfl rfl ?_
    obtain ⟨p19, e19, h⟩ := fw_be h
    refine fw_callVi (pc := 19) d_X_can_19 mv_X_182 fw_X65 (c_Press_inks e19) (by decide) rfl rfl (Nat.le_of_ble_eq_true rfl) ?_
    obtain ⟨j22, w22, h⟩ := fw_ne h
    have hJ22 : fw_R "FewTypes" prog_1_method_12_code 2 (some .int) fw_X 6 (some r.1) r.2 30 [] [.int j22] p19.2 := by
      obtain rfl := Option.some.inj h
      exact fw_iret (pc := 30) d_X_can_30 rfl
    clear h
    have h := w22
    clear w22
    refine fw_if_eq (pc := 22) (tgt := 29) d_X_can_22 rfl (fun hc => ?_) (fun hc => ?_)
    · have h := h.trans (if_pos hc)
      refine fw_iconst (pc := 29) d_X_can_29 fw_ic0 ?_
      subst h
      exact fw_sub [] rfl hJ22
    · have h := h.trans (if_neg hc)
      refine fw_iconst (pc := 25) d_X_can_25 fw_ic1 ?_
      refine fw_goto (pc := 26) (tgt := 30) d_X_can_26 rfl ?_
      subst h
      exact fw_sub [] rfl hJ22
def f_Press_leastType_L19 (a2 : Int32) (a3 : Int32) (μ : fw_M) (p3 : Int32) (p11 : Int32) (x6_19 : Int32) : Option ((Int32) ⊕ ((Unit) ⊕ (Int32))) :=
  if (μ.1 65 8) ≤ x6_19 then
    some (.inr (.inl ()))
  else
    (f_X_inSet a3 x6_19).bind fun (p31 : Int32) =>
    if p31 = 0 then
      fw_nm (x6_19 + 1) fun (v94 : Int32) =>
      some (.inl v94)
    else
      fw_nm ((a3 &&& (((1 : Int32) <<< (x6_19 &&& 31)) ^^^ (-1)))) fun (v45 : Int32) =>
      (f_X_inSet p3 x6_19).bind fun (p51 : Int32) =>
      if p51 = 0 then
        (f_X_inSet p11 x6_19).bind fun (p73 : Int32) =>
        if p73 = 0 then
          fw_nm (x6_19 + 1) fun (v94 : Int32) =>
          some (.inl v94)
        else
          (f_Press_isEnough (a2 + 2) v45 μ).bind fun (p85 : Int32) =>
          if p85 = 0 then
            fw_nm (x6_19 + 1) fun (v94 : Int32) =>
            some (.inl v94)
          else
            some (.inr (.inr x6_19))
      else
        (f_Press_isEnough (a2 + 1) v45 μ).bind fun (p63 : Int32) =>
        if p63 = 0 then
          (f_X_inSet p11 x6_19).bind fun (p73 : Int32) =>
          if p73 = 0 then
            fw_nm (x6_19 + 1) fun (v94 : Int32) =>
            some (.inl v94)
          else
            (f_Press_isEnough (a2 + 2) v45 μ).bind fun (p85 : Int32) =>
            if p85 = 0 then
              fw_nm (x6_19 + 1) fun (v94 : Int32) =>
              some (.inl v94)
            else
              some (.inr (.inr x6_19))
        else
          some (.inr (.inr x6_19))
def f_Press_leastType (a1 : Int32) (a2 : Int32) (a3 : Int32) (μ : fw_M) : Option (Int32) :=
  (f_Press_mayPrintAlone a1 a2 μ).bind fun (p3 : Int32) =>
  (f_Press_mayPrintJoined a1 a2 μ).bind fun (p11 : Int32) =>
  Option.bind (fw_wh (f_Press_leastType_L19 a2 a3 μ p3 p11) fw_N 0) fun (q19 : (Unit) ⊕ (Int32)) => match q19 with
  | .inl e19x =>
    some (-1)
  | .inr r19 => some r19
set_option maxHeartbeats 4000000 in
set_option maxRecDepth 100000 in
theorem c_Press_leastType {a1 : Int32} {a2 : Int32} {a3 : Int32} {μ : fw_M} {r : Int32} (h : f_Press_leastType a1 a2 a3 μ = some r) : fw_Con Y_Press_leastType fw_X 3 [.ref 65, .int a1, .int a2, .int a3] (some r) μ μ := by
  refine fw_con (by decide) (Nat.le_of_ble_eq_true rfl) ?_
  rw [f_Press_leastType] at h
  show fw_R "FewTypes$Press" prog_6_method_12_code 8 (some .int) fw_X 3 (some r) μ 0 [(0, .ref 65), (1, .int a1), (2, .int a2), (3, .int a3)] [] μ
  refine fw_aload_n (pc := 0) d_Press_leastType_0 0 rfl rfl ?_
  refine fw_iload_n (pc := 1) d_Press_leastType_1 1 rfl rfl ?_
  refine fw_iload_n (pc := 2) d_Press_leastType_2 2 rfl rfl ?_
  obtain ⟨p3, e3, h⟩ := fw_be h
  refine fw_callVi (pc := 3) d_Press_leastType_3 mv_Press_140 fw_X65 (c_Press_mayPrintAlone e3) (by decide) rfl rfl (Nat.le_of_ble_eq_true rfl) ?_
  refine fw_istore (pc := 6) (lv1 := [(4, .int p3), (0, .ref 65), (1, .int a1), (2, .int a2), (3, .int a3)]) d_Press_leastType_6 (by decide) rfl ?_
  refine fw_aload_n (pc := 8) d_Press_leastType_8 1 rfl rfl ?_
  refine fw_iload_n (pc := 9) d_Press_leastType_9 2 rfl rfl ?_
  refine fw_iload_n (pc := 10) d_Press_leastType_10 3 rfl rfl ?_
  obtain ⟨p11, e11, h⟩ := fw_be h
  refine fw_callVi (pc := 11) d_Press_leastType_11 mv_Press_143 fw_X65 (c_Press_mayPrintJoined e11) (by decide) rfl rfl (Nat.le_of_ble_eq_true rfl) ?_
  refine fw_istore (pc := 14) (lv1 := [(5, .int p11), (4, .int p3), (0, .ref 65), (1, .int a1), (2, .int a2), (3, .int a3)]) d_Press_leastType_14 (by decide) rfl ?_
  refine fw_iconst (pc := 16) d_Press_leastType_16 fw_ic0 ?_
  refine fw_istore (pc := 17) (lv1 := [(6, .int 0), (5, .int p11), (4, .int p3), (0, .ref 65), (1, .int a1), (2, .int a2), (3, .int a3)]) d_Press_leastType_17 (by decide) rfl ?_
  obtain ⟨q19, w19, h⟩ := fw_be h
  have hE19 : ∀ e19x : Unit, q19 = .inl e19x → fw_R "FewTypes$Press" prog_6_method_12_code 8 (some .int) fw_X 3 (some r) μ 100 [] [] μ := by
    intro e19x hq
    subst hq
    dsimp only at h
    refine fw_iconst (pc := 100) d_Press_leastType_100 fw_icm1 ?_
    obtain rfl := Option.some.inj h
    exact fw_iret (pc := 101) d_Press_leastType_101 rfl
  have hR19 : ∀ r19, q19 = .inr r19 → r19 = r := by
    intro r19 hq
    subst hq
    exact Option.some.inj h
  clear h
  exact fw_sub [3, 5, 6, 2, 1, 0] rfl (fw_we (e := q19) (fun (s : Int32) => fw_R "FewTypes$Press" prog_6_method_12_code 8 (some .int) fw_X 3 (some r) μ 19 [(0, .ref 65), (2, .int a2), (3, .int a3), (4, .int p3), (5, .int p11), (6, .int s)] [] μ) (by
    intro s x h hl hr
    obtain ⟨x6_19, rfl⟩ : ∃ z, z = s := ⟨_, rfl⟩
    rw [f_Press_leastType_L19] at h
    show fw_R "FewTypes$Press" prog_6_method_12_code 8 (some .int) fw_X 3 (some r) μ 19 [(0, .ref 65), (2, .int a2), (3, .int a3), (4, .int p3), (5, .int p11), (6, .int x6_19)] [] μ
    refine fw_iload (pc := 19) d_Press_leastType_19 5 rfl ?_
    refine fw_aload_n (pc := 21) d_Press_leastType_21 0 rfl rfl ?_
    refine fw_getI (pc := 22) d_Press_leastType_22 fl_Press_39 fw_X65 rfl ?_
    refine fw_icmp_ge (pc := 25) (tgt := 100) d_Press_leastType_25 rfl (fun hc => ?_) (fun hc => ?_)
    · have h := fw_it hc h
      obtain rfl := Option.some.inj h
      exact fw_sub [] rfl (hE19 _ (hr _ rfl).symm)
    · have h := fw_if hc h
      refine fw_iload_n (pc := 28) d_Press_leastType_28 2 rfl rfl ?_
      refine fw_iload (pc := 29) d_Press_leastType_29 5 rfl ?_
      obtain ⟨p31, e31, h⟩ := fw_be h
      refine fw_callNi (pc := 31) d_Press_leastType_31 ms_Press_133 (c_X_inSet e31) (by decide) rfl rfl (Nat.le_of_ble_eq_true rfl) ?_
      refine fw_if_eq (pc := 34) (tgt := 94) d_Press_leastType_34 rfl (fun hc => ?_) (fun hc => ?_)
      · have h := fw_it hc h
        obtain ⟨v94, e94, h⟩ := fw_ne h
        refine fw_iinc2 (pc := 94) (j := 5) (lv1 := [(6, .int v94), (0, .ref 65), (2, .int a2), (3, .int a3), (4, .int p3), (5, .int p11)]) d_Press_leastType_94 rfl fw_ic1 e94 (by decide) rfl ?_
        refine fw_goto (pc := 97) (tgt := 19) d_Press_leastType_97 rfl ?_
        obtain rfl := Option.some.inj h
        exact fw_sub [1, 2, 3, 4, 5, 0] rfl (hl _ rfl)
      · have h := fw_if hc h
        refine fw_iload_n (pc := 37) d_Press_leastType_37 2 rfl rfl ?_
        refine fw_iconst (pc := 38) d_Press_leastType_38 fw_ic1 ?_
        refine fw_iload (pc := 39) d_Press_leastType_39 5 rfl ?_
        refine fw_ishl (pc := 41) d_Press_leastType_41 ?_
        refine fw_iconst (pc := 42) d_Press_leastType_42 fw_icm1 ?_
        refine fw_ixor (pc := 43) d_Press_leastType_43 ?_
        refine fw_iand (pc := 44) d_Press_leastType_44 ?_
        obtain ⟨v45, e45, h⟩ := fw_ne h
        refine fw_top e45 ?_
        refine fw_istore (pc := 45) (lv1 := [(7, .int v45), (0, .ref 65), (2, .int a2), (3, .int a3), (4, .int p3), (5, .int p11), (6, .int x6_19)]) d_Press_leastType_45 (by decide) rfl ?_
        refine fw_iload (pc := 47) d_Press_leastType_47 4 rfl ?_
        refine fw_iload (pc := 49) d_Press_leastType_49 6 rfl ?_
        obtain ⟨p51, e51, h⟩ := fw_be h
        refine fw_callNi (pc := 51) d_Press_leastType_51 ms_Press_133 (c_X_inSet e51) (by decide) rfl rfl (Nat.le_of_ble_eq_true rfl) ?_
        refine fw_if_eq (pc := 54) (tgt := 69) d_Press_leastType_54 rfl (fun hc => ?_) (fun hc => ?_)
        · have h := fw_it hc h
          refine fw_iload (pc := 69) d_Press_leastType_69 5 rfl ?_
          refine fw_iload (pc := 71) d_Press_leastType_71 6 rfl ?_
          obtain ⟨p73, e73, h⟩ := fw_be h
          refine fw_callNi (pc := 73) d_Press_leastType_73 ms_Press_133 (c_X_inSet e73) (by decide) rfl rfl (Nat.le_of_ble_eq_true rfl) ?_
          refine fw_if_eq (pc := 76) (tgt := 94) d_Press_leastType_76 rfl (fun hc => ?_) (fun hc => ?_)
          · have h := fw_it hc h
            obtain ⟨v94, e94, h⟩ := fw_ne h
            refine fw_iinc2 (pc := 94) (j := 6) (lv1 := [(6, .int v94), (7, .int v45), (0, .ref 65), (2, .int a2), (3, .int a3), (4, .int p3), (5, .int p11)]) d_Press_leastType_94 rfl fw_ic1 e94 (by decide) rfl ?_
            refine fw_goto (pc := 97) (tgt := 19) d_Press_leastType_97 rfl ?_
            obtain rfl := Option.some.inj h
            exact fw_sub [2, 3, 4, 5, 6, 0] rfl (hl _ rfl)
          · have h := fw_if hc h
            refine fw_aload_n (pc := 79) d_Press_leastType_79 1 rfl rfl ?_
            refine fw_iload_n (pc := 80) d_Press_leastType_80 2 rfl rfl ?_
            refine fw_iconst (pc := 81) d_Press_leastType_81 fw_ic2 ?_
            refine fw_iadd (pc := 82) d_Press_leastType_82 ?_
            refine fw_iload (pc := 83) d_Press_leastType_83 0 rfl ?_
            obtain ⟨p85, e85, h⟩ := fw_be h
            refine fw_callVi (pc := 85) d_Press_leastType_85 mv_Press_99 fw_X65 (c_Press_isEnough e85) (by decide) rfl rfl (Nat.le_of_ble_eq_true rfl) ?_
            refine fw_if_eq (pc := 88) (tgt := 94) d_Press_leastType_88 rfl (fun hc => ?_) (fun hc => ?_)
            · have h := fw_it hc h
              obtain ⟨v94, e94, h⟩ := fw_ne h
              refine fw_iinc2 (pc := 94) (j := 6) (lv1 := [(6, .int v94), (7, .int v45), (0, .ref 65), (2, .int a2), (3, .int a3), (4, .int p3), (5, .int p11)]) d_Press_leastType_94 rfl fw_ic1 e94 (by decide) rfl ?_
              refine fw_goto (pc := 97) (tgt := 19) d_Press_leastType_97 rfl ?_
              obtain rfl := Option.some.inj h
              exact fw_sub [2, 3, 4, 5, 6, 0] rfl (hl _ rfl)
            · have h := fw_if hc h
              refine fw_iload (pc := 91) d_Press_leastType_91 6 rfl ?_
              obtain rfl := Option.some.inj h
              have he := hR19 _ (hr _ rfl).symm
              subst he
              exact fw_iret (pc := 93) d_Press_leastType_93 rfl
        · have h := fw_if hc h
          refine fw_aload_n (pc := 57) d_Press_leastType_57 1 rfl rfl ?_
          refine fw_iload_n (pc := 58) d_Press_leastType_58 2 rfl rfl ?_
          refine fw_iconst (pc := 59) d_Press_leastType_59 fw_ic1 ?_
          refine fw_iadd (pc := 60) d_Press_leastType_60 ?_
          refine fw_iload (pc := 61) d_Press_leastType_61 0 rfl ?_
          obtain ⟨p63, e63, h⟩ := fw_be h
          refine fw_callVi (pc := 63) d_Press_leastType_63 mv_Press_99 fw_X65 (c_Press_isEnough e63) (by decide) rfl rfl (Nat.le_of_ble_eq_true rfl) ?_
          refine fw_if_ne (pc := 66) (tgt := 91) d_Press_leastType_66 rfl (fun hc => ?_) (fun hc => ?_)
          · have h := fw_it hc h
            refine fw_iload (pc := 69) d_Press_leastType_69 5 rfl ?_
            refine fw_iload (pc := 71) d_Press_leastType_71 6 rfl ?_
            obtain ⟨p73, e73, h⟩ := fw_be h
            refine fw_callNi (pc := 73) d_Press_leastType_73 ms_Press_133 (c_X_inSet e73) (by decide) rfl rfl (Nat.le_of_ble_eq_true rfl) ?_
            refine fw_if_eq (pc := 76) (tgt := 94) d_Press_leastType_76 rfl (fun hc => ?_) (fun hc => ?_)
            · have h := fw_it hc h
              obtain ⟨v94, e94, h⟩ := fw_ne h
              refine fw_iinc2 (pc := 94) (j := 6) (lv1 := [(6, .int v94), (7, .int v45), (0, .ref 65), (2, .int a2), (3, .int a3), (4, .int p3), (5, .int p11)]) d_Press_leastType_94 rfl fw_ic1 e94 (by decide) rfl ?_
              refine fw_goto (pc := 97) (tgt := 19) d_Press_leastType_97 rfl ?_
              obtain rfl := Option.some.inj h
              exact fw_sub [2, 3, 4, 5, 6, 0] rfl (hl _ rfl)
            · have h := fw_if hc h
              refine fw_aload_n (pc := 79) d_Press_leastType_79 1 rfl rfl ?_
              refine fw_iload_n (pc := 80) d_Press_leastType_80 2 rfl rfl ?_
              refine fw_iconst (pc := 81) d_Press_leastType_81 fw_ic2 ?_
              refine fw_iadd (pc := 82) d_Press_leastType_82 ?_
              refine fw_iload (pc := 83) d_Press_leastType_83 0 rfl ?_
              obtain ⟨p85, e85, h⟩ := fw_be h
              refine fw_callVi (pc := 85) d_Press_leastType_85 mv_Press_99 fw_X65 (c_Press_isEnough e85) (by decide) rfl rfl (Nat.le_of_ble_eq_true rfl) ?_
              refine fw_if_eq (pc := 88) (tgt := 94) d_Press_leastType_88 rfl (fun hc => ?_) (fun hc => ?_)
              · have h := fw_it hc h
                obtain ⟨v94, e94, h⟩ := fw_ne h
                refine fw_iinc2 (pc := 94) (j := 6) (lv1 := [(6, .int v94), (7, .int v45), (0, .ref 65), (2, .int a2), (3, .int a3), (4, .int p3), (5, .int p11)]) d_Press_leastType_94 rfl fw_ic1 e94 (by decide) rfl ?_
                refine fw_goto (pc := 97) (tgt := 19) d_Press_leastType_97 rfl ?_
                obtain rfl := Option.some.inj h
                exact fw_sub [2, 3, 4, 5, 6, 0] rfl (hl _ rfl)
              · have h := fw_if hc h
                refine fw_iload (pc := 91) d_Press_leastType_91 6 rfl ?_
                obtain rfl := Option.some.inj h
                have he := hR19 _ (hr _ rfl).symm
                subst he
                exact fw_iret (pc := 93) d_Press_leastType_93 rfl
          · have h := fw_if hc h
            refine fw_iload (pc := 91) d_Press_leastType_91 6 rfl ?_
            obtain rfl := Option.some.inj h
            have he := hR19 _ (hr _ rfl).symm
            subst he
            exact fw_iret (pc := 93) d_Press_leastType_93 rfl
    ) _ _ w19)
def f_Press_findLeastWay_L18 (a1 : Int32) : Int32 × Int32 × fw_M → Option ((Int32 × Int32 × fw_M) ⊕ ((fw_M) ⊕ (Int32 × fw_M)))
  | (x3_18, x4_18, μ18) =>
  if (μ18.1 65 5) ≤ x4_18 then
    some (.inr (.inl μ18))
  else
    (f_X_inSet a1 x4_18).bind fun (p30 : Int32) =>
    if p30 = 0 then
      fw_nm (x4_18 + 1) fun (v114 : Int32) =>
      some (.inl (x3_18, v114, μ18))
    else
      (f_Press_leastType a1 x4_18 x3_18 μ18).bind fun (p41 : Int32) =>
      if p41 = (-1) then
        some (.inr (.inr (0, μ18)))
      else
        fw_nm ((x3_18 &&& (((1 : Int32) <<< (p41 &&& 31)) ^^^ (-1)))) fun (v62 : Int32) =>
        (fw_rd 10 (μ18.1 66) p41).bind fun v72 =>
        (fw_si 10 μ18 83 x4_18 v72).bind fun μ73 =>
        (fw_rd 10 (μ73.1 68) x4_18).bind fun v80 =>
        (f_X_inSet v80 p41).bind fun (p83 : Int32) =>
        Option.bind (
          if p83 = 0 then
            some (x4_18, μ73)
          else
            if (μ73.1 65 5) ≤ (x4_18 + 1) then
              some (x4_18, μ73)
            else
              fw_nm (x4_18 + 1) fun (v100 : Int32) =>
              (fw_rd 10 (μ73.1 66) p41).bind fun v112 =>
              (fw_si 10 μ73 83 v100 v112).bind fun μ113 =>
              some (v100, μ113)) fun (j86 : Int32 × fw_M) =>
        fw_nm (j86.1 + 1) fun (v114 : Int32) =>
        some (.inl (v62, v114, j86.2))
def f_Press_findLeastWay (a1 : Int32) (μ : fw_M) : Option (Int32 × fw_M) :=
  (f_Press_inks a1 μ).bind fun (p2 : Int32 × fw_M) =>
  if p2.1 = 0 then
    some (0, p2.2)
  else
    (f_Press_allUseful p2.2).bind fun (p11 : Int32) =>
    Option.bind (fw_wh (f_Press_findLeastWay_L18 a1) fw_N (p11, 0, p2.2)) fun (q18 : (fw_M) ⊕ (Int32 × fw_M)) => match q18 with
    | .inl e18x =>
      some (1, e18x)
    | .inr r18 => some r18
set_option maxHeartbeats 4000000 in
set_option maxRecDepth 100000 in
theorem c_Press_findLeastWay {a1 : Int32} {μ : fw_M} {r : Int32 × fw_M} (h : f_Press_findLeastWay a1 μ = some r) : fw_Con Y_Press_findLeastWay fw_X 5 [.ref 65, .int a1, .ref 83] (some r.1) μ r.2 := by
  refine fw_con (by decide) (Nat.le_of_ble_eq_true rfl) ?_
  rw [f_Press_findLeastWay] at h
  show fw_R "FewTypes$Press" prog_6_method_11_code 6 (some .boolean) fw_X 5 (some r.1) r.2 0 [(0, .ref 65), (1, .int a1), (2, .ref 83)] [] μ
  refine fw_aload_n (pc := 0) d_Press_findLeastWay_0 0 rfl rfl ?_
  refine fw_iload_n (pc := 1) d_Press_findLeastWay_1 1 rfl rfl ?_
  obtain ⟨p2, e2, h⟩ := fw_be h
  refine fw_callVi (pc := 2) d_Press_findLeastWay_2 mv_Press_102 fw_X65 (c_Press_inks e2) (by decide) rfl rfl (Nat.le_of_ble_eq_true rfl) ?_
  refine fw_if_ne (pc := 5) (tgt := 10) d_Press_findLeastWay_5 rfl (fun hc => ?_) (fun hc => ?_)
  · have h := fw_it hc h
    refine fw_iconst (pc := 8) d_Press_findLeastWay_8 fw_ic0 ?_
    obtain rfl := Option.some.inj h
    exact fw_zret (pc := 9) d_Press_findLeastWay_9 rfl fw_bz0
  · have h := fw_if hc h
    refine fw_aload_n (pc := 10) d_Press_findLeastWay_10 0 rfl rfl ?_
    obtain ⟨p11, e11, h⟩ := fw_be h
    refine fw_callVi (pc := 11) d_Press_findLeastWay_11 mv_Press_95 fw_X65 (c_Press_allUseful e11) (by decide) rfl rfl (Nat.le_of_ble_eq_true rfl) ?_
    refine fw_istore_n (pc := 14) (lv1 := [(3, .int p11), (0, .ref 65), (1, .int a1), (2, .ref 83)]) d_Press_findLeastWay_14 rfl (by decide) rfl ?_
    refine fw_iconst (pc := 15) d_Press_findLeastWay_15 fw_ic0 ?_
    refine fw_istore (pc := 16) (lv1 := [(4, .int 0), (3, .int p11), (0, .ref 65), (1, .int a1), (2, .ref 83)]) d_Press_findLeastWay_16 (by decide) rfl ?_
    obtain ⟨q18, w18, h⟩ := fw_be h
    have hE18 : ∀ e18x : fw_M, q18 = .inl e18x → fw_R "FewTypes$Press" prog_6_method_11_code 6 (some .boolean) fw_X 5 (some r.1) r.2 120 [] [] e18x := by
      intro e18x hq
      subst hq
      dsimp only at h
      refine fw_iconst (pc := 120) d_Press_findLeastWay_120 fw_ic1 ?_
      obtain rfl := Option.some.inj h
      exact fw_zret (pc := 121) d_Press_findLeastWay_121 rfl fw_bz1
    have hR18 : ∀ r18, q18 = .inr r18 → r18 = r := by
      intro r18 hq
      subst hq
      exact Option.some.inj h
    clear h
    exact fw_sub [2, 3, 4, 1, 0] rfl (fw_we (e := q18) (fun (s : Int32 × Int32 × fw_M) => fw_R "FewTypes$Press" prog_6_method_11_code 6 (some .boolean) fw_X 5 (some r.1) r.2 18 [(0, .ref 65), (1, .int a1), (2, .ref 83), (3, .int s.1), (4, .int s.2.1)] [] s.2.2) (by
      intro s x h hl hr
      obtain ⟨x3_18, x4_18, μ18⟩ := s
      rw [f_Press_findLeastWay_L18] at h
      show fw_R "FewTypes$Press" prog_6_method_11_code 6 (some .boolean) fw_X 5 (some r.1) r.2 18 [(0, .ref 65), (1, .int a1), (2, .ref 83), (3, .int x3_18), (4, .int x4_18)] [] μ18
      refine fw_iload (pc := 18) d_Press_findLeastWay_18 4 rfl ?_
      refine fw_aload_n (pc := 20) d_Press_findLeastWay_20 0 rfl rfl ?_
      refine fw_getI (pc := 21) d_Press_findLeastWay_21 fl_Press_28 fw_X65 rfl ?_
      refine fw_icmp_ge (pc := 24) (tgt := 120) d_Press_findLeastWay_24 rfl (fun hc => ?_) (fun hc => ?_)
      · have h := fw_it hc h
        obtain rfl := Option.some.inj h
        exact fw_sub [] rfl (hE18 _ (hr _ rfl).symm)
      · have h := fw_if hc h
        refine fw_iload_n (pc := 27) d_Press_findLeastWay_27 1 rfl rfl ?_
        refine fw_iload (pc := 28) d_Press_findLeastWay_28 4 rfl ?_
        obtain ⟨p30, e30, h⟩ := fw_be h
        refine fw_callNi (pc := 30) d_Press_findLeastWay_30 ms_Press_133 (c_X_inSet e30) (by decide) rfl rfl (Nat.le_of_ble_eq_true rfl) ?_
        refine fw_if_eq (pc := 33) (tgt := 114) d_Press_findLeastWay_33 rfl (fun hc => ?_) (fun hc => ?_)
        · have h := fw_it hc h
          obtain ⟨v114, e114, h⟩ := fw_ne h
          refine fw_iinc2 (pc := 114) (j := 4) (lv1 := [(4, .int v114), (0, .ref 65), (1, .int a1), (2, .ref 83), (3, .int x3_18)]) d_Press_findLeastWay_114 rfl fw_ic1 e114 (by decide) rfl ?_
          refine fw_goto (pc := 117) (tgt := 18) d_Press_findLeastWay_117 rfl ?_
          obtain rfl := Option.some.inj h
          exact fw_sub [1, 2, 3, 4, 0] rfl (hl _ rfl)
        · have h := fw_if hc h
          refine fw_aload_n (pc := 36) d_Press_findLeastWay_36 0 rfl rfl ?_
          refine fw_iload_n (pc := 37) d_Press_findLeastWay_37 1 rfl rfl ?_
          refine fw_iload (pc := 38) d_Press_findLeastWay_38 4 rfl ?_
          refine fw_iload_n (pc := 40) d_Press_findLeastWay_40 3 rfl rfl ?_
          obtain ⟨p41, e41, h⟩ := fw_be h
          refine fw_callVi (pc := 41) d_Press_findLeastWay_41 mv_Press_136 fw_X65 (c_Press_leastType e41) (by decide) rfl rfl (Nat.le_of_ble_eq_true rfl) ?_
          refine fw_istore (pc := 44) (lv1 := [(5, .int p41), (0, .ref 65), (1, .int a1), (2, .ref 83), (3, .int x3_18), (4, .int x4_18)]) d_Press_findLeastWay_44 (by decide) rfl ?_
          refine fw_iload (pc := 46) d_Press_findLeastWay_46 0 rfl ?_
          refine fw_iconst (pc := 48) d_Press_findLeastWay_48 fw_icm1 ?_
          refine fw_icmp_ne (pc := 49) (tgt := 54) d_Press_findLeastWay_49 rfl (fun hc => ?_) (fun hc => ?_)
          · have h := fw_it hc h
            refine fw_iconst (pc := 52) d_Press_findLeastWay_52 fw_ic0 ?_
            obtain rfl := Option.some.inj h
            have he := hR18 _ (hr _ rfl).symm
            subst he
            exact fw_zret (pc := 53) d_Press_findLeastWay_53 rfl fw_bz0
          · have h := fw_if hc h
            refine fw_iload_n (pc := 54) d_Press_findLeastWay_54 4 rfl rfl ?_
            refine fw_iconst (pc := 55) d_Press_findLeastWay_55 fw_ic1 ?_
            refine fw_iload (pc := 56) d_Press_findLeastWay_56 0 rfl ?_
            refine fw_ishl (pc := 58) d_Press_findLeastWay_58 ?_
            refine fw_iconst (pc := 59) d_Press_findLeastWay_59 fw_icm1 ?_
            refine fw_ixor (pc := 60) d_Press_findLeastWay_60 ?_
            refine fw_iand (pc := 61) d_Press_findLeastWay_61 ?_
            obtain ⟨v62, e62, h⟩ := fw_ne h
            refine fw_top e62 ?_
            refine fw_istore_n (pc := 62) (lv1 := [(3, .int v62), (5, .int p41), (0, .ref 65), (1, .int a1), (2, .ref 83), (4, .int x4_18)]) d_Press_findLeastWay_62 rfl (by decide) rfl ?_
            refine fw_aload_n (pc := 63) d_Press_findLeastWay_63 4 rfl rfl ?_
            refine fw_iload (pc := 64) d_Press_findLeastWay_64 5 rfl ?_
            refine fw_aload_n (pc := 66) d_Press_findLeastWay_66 2 rfl rfl ?_
            refine fw_getR (pc := 67) d_Press_findLeastWay_67 fl_Press_9 fw_X65 rfl ?_
            refine fw_iload (pc := 70) d_Press_findLeastWay_70 1 rfl ?_
            obtain ⟨v72, e72, h⟩ := fw_be h
            refine fw_iald (pc := 72) d_Press_findLeastWay_72 fw_X66 e72 ?_
            obtain ⟨μ73, e73, h⟩ := fw_be h
            refine fw_iast (pc := 73) d_Press_findLeastWay_73 fw_X83 e73 ?_
            refine fw_aload_n (pc := 74) d_Press_findLeastWay_74 2 rfl rfl ?_
            refine fw_getR (pc := 75) d_Press_findLeastWay_75 fl_Press_18 fw_X65 rfl ?_
            refine fw_iload (pc := 78) d_Press_findLeastWay_78 5 rfl ?_
            obtain ⟨v80, e80, h⟩ := fw_be h
            refine fw_iald (pc := 80) d_Press_findLeastWay_80 fw_X68 e80 ?_
            refine fw_iload (pc := 81) d_Press_findLeastWay_81 1 rfl ?_
            obtain ⟨p83, e83, h⟩ := fw_be h
            refine fw_callNi (pc := 83) d_Press_findLeastWay_83 ms_Press_133 (c_X_inSet e83) (by decide) rfl rfl (Nat.le_of_ble_eq_true rfl) ?_
            obtain ⟨j86, w86, h⟩ := fw_be h
            have hJ86 : fw_R "FewTypes$Press" prog_6_method_11_code 6 (some .boolean) fw_X 5 (some r.1) r.2 114 [(0, .ref 65), (1, .int a1), (2, .ref 83), (3, .int v62), (4, .int j86.1)] [] j86.2 := by
              obtain ⟨v114, e114, h⟩ := fw_ne h
              refine fw_iinc2 (pc := 114) (j := 4) (lv1 := [(4, .int v114), (0, .ref 65), (1, .int a1), (2, .ref 83), (3, .int v62)]) d_Press_findLeastWay_114 rfl fw_ic1 e114 (by decide) rfl ?_
              refine fw_goto (pc := 117) (tgt := 18) d_Press_findLeastWay_117 rfl ?_
              obtain rfl := Option.some.inj h
              exact fw_sub [1, 2, 3, 4, 0] rfl (hl _ rfl)
            clear h
            have h := w86
            clear w86
            refine fw_if_eq (pc := 86) (tgt := 114) d_Press_findLeastWay_86 rfl (fun hc => ?_) (fun hc => ?_)
            · have h := fw_it hc h
              obtain rfl := Option.some.inj h
              exact fw_sub [2, 3, 4, 0, 5] rfl hJ86
            · have h := fw_if hc h
              refine fw_iload (pc := 89) d_Press_findLeastWay_89 5 rfl ?_
              refine fw_iconst (pc := 91) d_Press_findLeastWay_91 fw_ic1 ?_
              refine fw_iadd (pc := 92) d_Press_findLeastWay_92 ?_
              refine fw_aload_n (pc := 93) d_Press_findLeastWay_93 2 rfl rfl ?_
              refine fw_getI (pc := 94) d_Press_findLeastWay_94 fl_Press_28 fw_X65 rfl ?_
              refine fw_icmp_ge (pc := 97) (tgt := 114) d_Press_findLeastWay_97 rfl (fun hc => ?_) (fun hc => ?_)
              · have h := fw_it hc h
                obtain rfl := Option.some.inj h
                exact fw_sub [2, 3, 4, 0, 5] rfl hJ86
              · have h := fw_if hc h
                obtain ⟨v100, e100, h⟩ := fw_ne h
                refine fw_iinc2 (pc := 100) (j := 5) (lv1 := [(4, .int v100), (3, .int v62), (5, .int p41), (0, .ref 65), (1, .int a1), (2, .ref 83)]) d_Press_findLeastWay_100 rfl fw_ic1 e100 (by decide) rfl ?_
                refine fw_aload_n (pc := 103) d_Press_findLeastWay_103 5 rfl rfl ?_
                refine fw_iload (pc := 104) d_Press_findLeastWay_104 0 rfl ?_
                refine fw_aload_n (pc := 106) d_Press_findLeastWay_106 3 rfl rfl ?_
                refine fw_getR (pc := 107) d_Press_findLeastWay_107 fl_Press_9 fw_X65 rfl ?_
                refine fw_iload (pc := 110) d_Press_findLeastWay_110 2 rfl ?_
                obtain ⟨v112, e112, h⟩ := fw_be h
                refine fw_iald (pc := 112) d_Press_findLeastWay_112 fw_X66 e112 ?_
                obtain ⟨μ113, e113, h⟩ := fw_be h
                refine fw_iast (pc := 113) d_Press_findLeastWay_113 fw_X83 e113 ?_
                obtain rfl := Option.some.inj h
                exact fw_sub [3, 4, 5, 1, 0] rfl hJ86
      ) _ _ w18)
def f_X_by (a1 : Int32) (a2 : Int32) (μ : fw_M) : Option (Int32 × fw_M) :=
  (f_X_isSetOfPlaces a1 μ).bind fun (p2 : Int32) =>
  if p2 = 0 then
    some ((-1), μ)
  else
    (f_Line_has 6 a2 μ).bind fun (p16 : Int32) =>
    if p16 = 0 then
      some ((-1), μ)
    else
      (f_X_inSet a1 a2).bind fun (p24 : Int32) =>
      if p24 = 0 then
        some ((-1), μ)
      else
        (f_X_lockLine μ).bind fun (p33 : fw_M) =>
        (f_Press_findLeastWay a1 p33).bind fun (p45 : Int32 × fw_M) =>
        Option.bind (
          if p45.1 = 0 then
            some (-4)
          else
            (fw_rd 10 (p45.2.1 83) a2).bind fun v56 =>
            some v56) fun (j48 : Int32) =>
        some (j48, p45.2)
set_option maxHeartbeats 4000000 in
set_option maxRecDepth 100000 in
theorem c_X_by {a1 : Int32} {a2 : Int32} {μ : fw_M} {r : Int32 × fw_M} (h : f_X_by a1 a2 μ = some r) : fw_Con Y_X_by fw_X 6 [.ref 0, .int a1, .int a2] (some r.1) μ r.2 := by
  refine fw_con (by decide) (Nat.le_of_ble_eq_true rfl) ?_
  rw [f_X_by] at h
  show fw_R "FewTypes" prog_1_method_13_code 3 (some .int) fw_X 6 (some r.1) r.2 0 [(0, .ref 0), (1, .int a1), (2, .int a2)] [] μ
  refine fw_aload_n (pc := 0) d_X_by_0 0 rfl rfl ?_
  refine fw_iload_n (pc := 1) d_X_by_1 1 rfl rfl ?_
  obtain ⟨p2, e2, h⟩ := fw_be h
  refine fw_callVi (pc := 2) d_X_by_2 mv_X_176 fw_X0 (c_X_isSetOfPlaces e2) (by decide) rfl rfl (Nat.le_of_ble_eq_true rfl) ?_
  refine fw_if_eq (pc := 5) (tgt := 30) d_X_by_5 rfl (fun hc => ?_) (fun hc => ?_)
  · have h := fw_it hc h
    refine fw_iconst (pc := 30) d_X_by_30 fw_icm1 ?_
    obtain rfl := Option.some.inj h
    exact fw_iret (pc := 31) d_X_by_31 rfl
  · have h := fw_if hc h
    refine fw_aload_n (pc := 8) d_X_by_8 0 rfl rfl ?_
    refine fw_getR (pc := 9) d_X_by_9 fl_X_12 fw_X0 rfl ?_
    refine fw_getR (pc := 12) d_X_by_12 fl_X_139 fw_X1 rfl ?_
    refine fw_iload_n (pc := 15) d_X_by_15 2 rfl rfl ?_
    obtain ⟨p16, e16, h⟩ := fw_be h
    refine fw_callVi (pc := 16) d_X_by_16 mv_X_152 fw_X6 (c_Line_has e16) (by decide) rfl rfl (Nat.le_of_ble_eq_true rfl) ?_
    refine fw_if_eq (pc := 19) (tgt := 30) d_X_by_19 rfl (fun hc => ?_) (fun hc => ?_)
    · have h := fw_it hc h
      refine fw_iconst (pc := 30) d_X_by_30 fw_icm1 ?_
      obtain rfl := Option.some.inj h
      exact fw_iret (pc := 31) d_X_by_31 rfl
    · have h := fw_if hc h
      refine fw_iload_n (pc := 22) d_X_by_22 1 rfl rfl ?_
      refine fw_iload_n (pc := 23) d_X_by_23 2 rfl rfl ?_
      obtain ⟨p24, e24, h⟩ := fw_be h
      refine fw_callSi (pc := 24) d_X_by_24 ms_X_185 (c_X_inSet e24) (by decide) rfl rfl (Nat.le_of_ble_eq_true rfl) ?_
      refine fw_if_ne (pc := 27) (tgt := 32) d_X_by_27 rfl (fun hc => ?_) (fun hc => ?_)
      · have h := fw_it hc h
        refine fw_iconst (pc := 30) d_X_by_30 fw_icm1 ?_
        obtain rfl := Option.some.inj h
        exact fw_iret (pc := 31) d_X_by_31 rfl
      · have h := fw_if hc h
        refine fw_aload_n (pc := 32) d_X_by_32 0 rfl rfl ?_
        obtain ⟨p33, e33, h⟩ := fw_be h
        refine fw_callVv (pc := 33) d_X_by_33 mv_X_179 fw_X0 (c_X_lockLine e33) (by decide) rfl rfl (Nat.le_of_ble_eq_true rfl) ?_
        refine fw_aload_n (pc := 36) d_X_by_36 0 rfl rfl ?_
        refine fw_getR (pc := 37) d_X_by_37 fl_X_33 fw_X0 rfl ?_
        refine fw_iload_n (pc := 40) d_X_by_40 1 rfl rfl ?_
        refine fw_aload_n (pc := 41) d_X_by_41 0 rfl rfl ?_
        refine fw_getR (pc := 42) d_X_by_42 fl_X_65 fw_X0 rfl ?_
        obtain ⟨p45, e45, h⟩ := fw_be h
        refine fw_callVi (pc := 45) d_X_by_45 mv_X_189 fw_X65 (c_Press_findLeastWay e45) (by decide) rfl rfl (Nat.le_of_ble_eq_true rfl) ?_
        obtain ⟨j48, w48, h⟩ := fw_be h
        have hJ48 : fw_R "FewTypes" prog_1_method_13_code 3 (some .int) fw_X 6 (some r.1) r.2 62 [] [.int j48] p45.2 := by
          obtain rfl := Option.some.inj h
          exact fw_iret (pc := 62) d_X_by_62 rfl
        clear h
        have h := w48
        clear w48
        refine fw_if_eq (pc := 48) (tgt := 60) d_X_by_48 rfl (fun hc => ?_) (fun hc => ?_)
        · have h := fw_it hc h
          refine fw_bipush (pc := 60) d_X_by_60 fw_bpm4 ?_
          obtain rfl := Option.some.inj h
          exact fw_sub [] rfl hJ48
        · have h := fw_if hc h
          refine fw_aload_n (pc := 51) d_X_by_51 0 rfl rfl ?_
          refine fw_getR (pc := 52) d_X_by_52 fl_X_65 fw_X0 rfl ?_
          refine fw_iload_n (pc := 55) d_X_by_55 2 rfl rfl ?_
          obtain ⟨v56, e56, h⟩ := fw_be h
          refine fw_iald (pc := 56) d_X_by_56 fw_X83 e56 ?_
          refine fw_goto (pc := 57) (tgt := 62) d_X_by_57 rfl ?_
          obtain rfl := Option.some.inj h
          exact fw_sub [] rfl hJ48
def f_Case_somePrints_2_L2 (a1 : Int32) (a2 : Int32) (μ : fw_M) (x3_2 : Int32) : Option ((Int32) ⊕ ((Unit) ⊕ (Int32))) :=
  if (μ.1 2 3) ≤ x3_2 then
    some (.inr (.inl ()))
  else
    if x3_2 = a2 then
      fw_nm (x3_2 + 1) fun (v26 : Int32) =>
      some (.inl v26)
    else
      (f_Case_prints_2 x3_2 a1 μ).bind fun (p18 : Int32) =>
      if p18 = 0 then
        fw_nm (x3_2 + 1) fun (v26 : Int32) =>
        some (.inl v26)
      else
        some (.inr (.inr 1))
def f_Case_somePrints_2 (a1 : Int32) (a2 : Int32) (μ : fw_M) : Option (Int32) :=
  Option.bind (fw_wh (f_Case_somePrints_2_L2 a1 a2 μ) fw_N 0) fun (q2 : (Unit) ⊕ (Int32)) => match q2 with
  | .inl e2x =>
    some 0
  | .inr r2 => some r2
set_option maxHeartbeats 4000000 in
set_option maxRecDepth 100000 in
theorem c_Case_somePrints_2 {a1 : Int32} {a2 : Int32} {μ : fw_M} {r : Int32} (h : f_Case_somePrints_2 a1 a2 μ = some r) : fw_Con Y_Case_somePrints fw_X 2 [.ref 2, .int a1, .int a2] (some r) μ μ := by
  refine fw_con (by decide) (Nat.le_of_ble_eq_true rfl) ?_
  rw [f_Case_somePrints_2] at h
  show fw_R "FewTypes$Case" prog_2_method_9_code 4 (some .boolean) fw_X 2 (some r) μ 0 [(0, .ref 2), (1, .int a1), (2, .int a2)] [] μ
  refine fw_iconst (pc := 0) d_Case_somePrints_0 fw_ic0 ?_
  refine fw_istore_n (pc := 1) (lv1 := [(3, .int 0), (0, .ref 2), (1, .int a1), (2, .int a2)]) d_Case_somePrints_1 rfl (by decide) rfl ?_
  obtain ⟨q2, w2, h⟩ := fw_be h
  have hE2 : ∀ e2x : Unit, q2 = .inl e2x → fw_R "FewTypes$Case" prog_2_method_9_code 4 (some .boolean) fw_X 2 (some r) μ 32 [] [] μ := by
    intro e2x hq
    subst hq
    dsimp only at h
    refine fw_iconst (pc := 32) d_Case_somePrints_32 fw_ic0 ?_
    obtain rfl := Option.some.inj h
    exact fw_zret (pc := 33) d_Case_somePrints_33 rfl fw_bz0
  have hR2 : ∀ r2, q2 = .inr r2 → r2 = r := by
    intro r2 hq
    subst hq
    exact Option.some.inj h
  clear h
  exact fw_sub [1, 2, 3, 0] rfl (fw_we (e := q2) (fun (s : Int32) => fw_R "FewTypes$Case" prog_2_method_9_code 4 (some .boolean) fw_X 2 (some r) μ 2 [(0, .ref 2), (1, .int a1), (2, .int a2), (3, .int s)] [] μ) (by
    intro s x h hl hr
    obtain ⟨x3_2, rfl⟩ : ∃ z, z = s := ⟨_, rfl⟩
    rw [f_Case_somePrints_2_L2] at h
    show fw_R "FewTypes$Case" prog_2_method_9_code 4 (some .boolean) fw_X 2 (some r) μ 2 [(0, .ref 2), (1, .int a1), (2, .int a2), (3, .int x3_2)] [] μ
    refine fw_iload_n (pc := 2) d_Case_somePrints_2 3 rfl rfl ?_
    refine fw_aload_n (pc := 3) d_Case_somePrints_3 0 rfl rfl ?_
    refine fw_getI (pc := 4) d_Case_somePrints_4 fl_Case_21 fw_X2 rfl ?_
    refine fw_icmp_ge (pc := 7) (tgt := 32) d_Case_somePrints_7 rfl (fun hc => ?_) (fun hc => ?_)
    · have h := fw_it hc h
      obtain rfl := Option.some.inj h
      exact fw_sub [] rfl (hE2 _ (hr _ rfl).symm)
    · have h := fw_if hc h
      refine fw_iload_n (pc := 10) d_Case_somePrints_10 3 rfl rfl ?_
      refine fw_iload_n (pc := 11) d_Case_somePrints_11 2 rfl rfl ?_
      refine fw_icmp_eq (pc := 12) (tgt := 26) d_Case_somePrints_12 rfl (fun hc => ?_) (fun hc => ?_)
      · have h := fw_it hc h
        obtain ⟨v26, e26, h⟩ := fw_ne h
        refine fw_iinc2 (pc := 26) (j := 3) (lv1 := [(3, .int v26), (0, .ref 2), (1, .int a1), (2, .int a2)]) d_Case_somePrints_26 rfl fw_ic1 e26 (by decide) rfl ?_
        refine fw_goto (pc := 29) (tgt := 2) d_Case_somePrints_29 rfl ?_
        obtain rfl := Option.some.inj h
        exact fw_sub [1, 2, 3, 0] rfl (hl _ rfl)
      · have h := fw_if hc h
        refine fw_aload_n (pc := 15) d_Case_somePrints_15 0 rfl rfl ?_
        refine fw_iload_n (pc := 16) d_Case_somePrints_16 3 rfl rfl ?_
        refine fw_iload_n (pc := 17) d_Case_somePrints_17 1 rfl rfl ?_
        obtain ⟨p18, e18, h⟩ := fw_be h
        refine fw_callVi (pc := 18) d_Case_somePrints_18 mv_Case_38 fw_X2 (c_Case_prints_2 e18) (by decide) rfl rfl (Nat.le_of_ble_eq_true rfl) ?_
        refine fw_if_eq (pc := 21) (tgt := 26) d_Case_somePrints_21 rfl (fun hc => ?_) (fun hc => ?_)
        · have h := fw_it hc h
          obtain ⟨v26, e26, h⟩ := fw_ne h
          refine fw_iinc2 (pc := 26) (j := 3) (lv1 := [(3, .int v26), (0, .ref 2), (1, .int a1), (2, .int a2)]) d_Case_somePrints_26 rfl fw_ic1 e26 (by decide) rfl ?_
          refine fw_goto (pc := 29) (tgt := 2) d_Case_somePrints_29 rfl ?_
          obtain rfl := Option.some.inj h
          exact fw_sub [1, 2, 3, 0] rfl (hl _ rfl)
        · have h := fw_if hc h
          refine fw_iconst (pc := 24) d_Case_somePrints_24 fw_ic1 ?_
          obtain rfl := Option.some.inj h
          have he := hR2 _ (hr _ rfl).symm
          subst he
          exact fw_zret (pc := 25) d_Case_somePrints_25 rfl fw_bz1
    ) _ _ w2)
def f_Case_someJoins_2_L3 (a1 : Int32) (a2 : Int32) (a3 : Int32) (μ : fw_M) (x4_3 : Int32) : Option ((Int32) ⊕ ((Unit) ⊕ (Int32))) :=
  if (μ.1 2 3) ≤ x4_3 then
    some (.inr (.inl ()))
  else
    if x4_3 = a3 then
      fw_nm (x4_3 + 1) fun (v31 : Int32) =>
      some (.inl v31)
    else
      (f_Case_joins_2 x4_3 a1 a2 μ).bind fun (p23 : Int32) =>
      if p23 = 0 then
        fw_nm (x4_3 + 1) fun (v31 : Int32) =>
        some (.inl v31)
      else
        some (.inr (.inr 1))
def f_Case_someJoins_2 (a1 : Int32) (a2 : Int32) (a3 : Int32) (μ : fw_M) : Option (Int32) :=
  Option.bind (fw_wh (f_Case_someJoins_2_L3 a1 a2 a3 μ) fw_N 0) fun (q3 : (Unit) ⊕ (Int32)) => match q3 with
  | .inl e3x =>
    some 0
  | .inr r3 => some r3
set_option maxHeartbeats 4000000 in
set_option maxRecDepth 100000 in
theorem c_Case_someJoins_2 {a1 : Int32} {a2 : Int32} {a3 : Int32} {μ : fw_M} {r : Int32} (h : f_Case_someJoins_2 a1 a2 a3 μ = some r) : fw_Con Y_Case_someJoins fw_X 2 [.ref 2, .int a1, .int a2, .int a3] (some r) μ μ := by
  refine fw_con (by decide) (Nat.le_of_ble_eq_true rfl) ?_
  rw [f_Case_someJoins_2] at h
  show fw_R "FewTypes$Case" prog_2_method_10_code 5 (some .boolean) fw_X 2 (some r) μ 0 [(0, .ref 2), (1, .int a1), (2, .int a2), (3, .int a3)] [] μ
  refine fw_iconst (pc := 0) d_Case_someJoins_0 fw_ic0 ?_
  refine fw_istore (pc := 1) (lv1 := [(4, .int 0), (0, .ref 2), (1, .int a1), (2, .int a2), (3, .int a3)]) d_Case_someJoins_1 (by decide) rfl ?_
  obtain ⟨q3, w3, h⟩ := fw_be h
  have hE3 : ∀ e3x : Unit, q3 = .inl e3x → fw_R "FewTypes$Case" prog_2_method_10_code 5 (some .boolean) fw_X 2 (some r) μ 37 [] [] μ := by
    intro e3x hq
    subst hq
    dsimp only at h
    refine fw_iconst (pc := 37) d_Case_someJoins_37 fw_ic0 ?_
    obtain rfl := Option.some.inj h
    exact fw_zret (pc := 38) d_Case_someJoins_38 rfl fw_bz0
  have hR3 : ∀ r3, q3 = .inr r3 → r3 = r := by
    intro r3 hq
    subst hq
    exact Option.some.inj h
  clear h
  exact fw_sub [1, 2, 3, 4, 0] rfl (fw_we (e := q3) (fun (s : Int32) => fw_R "FewTypes$Case" prog_2_method_10_code 5 (some .boolean) fw_X 2 (some r) μ 3 [(0, .ref 2), (1, .int a1), (2, .int a2), (3, .int a3), (4, .int s)] [] μ) (by
    intro s x h hl hr
    obtain ⟨x4_3, rfl⟩ : ∃ z, z = s := ⟨_, rfl⟩
    rw [f_Case_someJoins_2_L3] at h
    show fw_R "FewTypes$Case" prog_2_method_10_code 5 (some .boolean) fw_X 2 (some r) μ 3 [(0, .ref 2), (1, .int a1), (2, .int a2), (3, .int a3), (4, .int x4_3)] [] μ
    refine fw_iload (pc := 3) d_Case_someJoins_3 4 rfl ?_
    refine fw_aload_n (pc := 5) d_Case_someJoins_5 0 rfl rfl ?_
    refine fw_getI (pc := 6) d_Case_someJoins_6 fl_Case_21 fw_X2 rfl ?_
    refine fw_icmp_ge (pc := 9) (tgt := 37) d_Case_someJoins_9 rfl (fun hc => ?_) (fun hc => ?_)
    · have h := fw_it hc h
      obtain rfl := Option.some.inj h
      exact fw_sub [] rfl (hE3 _ (hr _ rfl).symm)
    · have h := fw_if hc h
      refine fw_iload (pc := 12) d_Case_someJoins_12 4 rfl ?_
      refine fw_iload_n (pc := 14) d_Case_someJoins_14 3 rfl rfl ?_
      refine fw_icmp_eq (pc := 15) (tgt := 31) d_Case_someJoins_15 rfl (fun hc => ?_) (fun hc => ?_)
      · have h := fw_it hc h
        obtain ⟨v31, e31, h⟩ := fw_ne h
        refine fw_iinc2 (pc := 31) (j := 4) (lv1 := [(4, .int v31), (0, .ref 2), (1, .int a1), (2, .int a2), (3, .int a3)]) d_Case_someJoins_31 rfl fw_ic1 e31 (by decide) rfl ?_
        refine fw_goto (pc := 34) (tgt := 3) d_Case_someJoins_34 rfl ?_
        obtain rfl := Option.some.inj h
        exact fw_sub [1, 2, 3, 4, 0] rfl (hl _ rfl)
      · have h := fw_if hc h
        refine fw_aload_n (pc := 18) d_Case_someJoins_18 0 rfl rfl ?_
        refine fw_iload (pc := 19) d_Case_someJoins_19 4 rfl ?_
        refine fw_iload_n (pc := 21) d_Case_someJoins_21 1 rfl rfl ?_
        refine fw_iload_n (pc := 22) d_Case_someJoins_22 2 rfl rfl ?_
        obtain ⟨p23, e23, h⟩ := fw_be h
        refine fw_callVi (pc := 23) d_Case_someJoins_23 mv_Case_42 fw_X2 (c_Case_joins_2 e23) (by decide) rfl rfl (Nat.le_of_ble_eq_true rfl) ?_
        refine fw_if_eq (pc := 26) (tgt := 31) d_Case_someJoins_26 rfl (fun hc => ?_) (fun hc => ?_)
        · have h := fw_it hc h
          obtain ⟨v31, e31, h⟩ := fw_ne h
          refine fw_iinc2 (pc := 31) (j := 4) (lv1 := [(4, .int v31), (0, .ref 2), (1, .int a1), (2, .int a2), (3, .int a3)]) d_Case_someJoins_31 rfl fw_ic1 e31 (by decide) rfl ?_
          refine fw_goto (pc := 34) (tgt := 3) d_Case_someJoins_34 rfl ?_
          obtain rfl := Option.some.inj h
          exact fw_sub [1, 2, 3, 4, 0] rfl (hl _ rfl)
        · have h := fw_if hc h
          refine fw_iconst (pc := 29) d_Case_someJoins_29 fw_ic1 ?_
          obtain rfl := Option.some.inj h
          have he := hR3 _ (hr _ rfl).symm
          subst he
          exact fw_zret (pc := 30) d_Case_someJoins_30 rfl fw_bz1
    ) _ _ w3)
def f_Line_isSayable_L8 (t0 : Nat) (a2 : Int32) (μ : fw_M) : Int32 × Int32 × Int32 → Option ((Int32 × Int32 × Int32) ⊕ (Int32))
  | (x3_8, x4_8, x5_8) =>
  if (μ.1 t0 1) ≤ x5_8 then
    some (.inr x4_8)
  else
    Option.bind (
      if x4_8 = 0 then
        some 0
      else
        (fw_rd 10 (μ.1 (t0 + 1)) x5_8).bind fun v29 =>
        (f_Case_somePrints_2 v29 a2 μ).bind fun (p31 : Int32) =>
        if p31 = 0 then
          some 0
        else
          some 1) fun (j19 : Int32) =>
    Option.bind (
      if x3_8 = 0 then
        some 0
      else
        (f_Line_besideNext t0 (x5_8 - 1) μ).bind fun (p53 : Int32) =>
        if p53 = 0 then
          some 0
        else
          (fw_rd 10 (μ.1 (t0 + 1)) (x5_8 - 1)).bind fun v68 =>
          (fw_rd 10 (μ.1 (t0 + 1)) x5_8).bind fun v75 =>
          (f_Case_someJoins_2 v68 v75 a2 μ).bind fun (p77 : Int32) =>
          if p77 = 0 then
            some 0
          else
            some 1) fun (j45 : Int32) =>
    fw_nm (
      if j19 = 0 then
        if j45 = 0 then
          0
        else
          1
      else
        1) fun (j95 : Int32) =>
    fw_nm (x5_8 + 1) fun (v110 : Int32) =>
    some (.inl (x4_8, j95, v110))
def f_Line_isSayable (t0 : Nat) (a2 : Int32) (μ : fw_M) : Option (Int32) :=
  if fw_okL t0 then
    (fw_wh (f_Line_isSayable_L8 t0 a2 μ) fw_N (0, 1, 0)).bind fun (e8x : Int32) =>
    (fw_bz e8x).bind fun b118 =>
    some b118
  else none
set_option maxHeartbeats 4000000 in
set_option maxRecDepth 100000 in
theorem c_Line_isSayable {t0 : Nat} {a2 : Int32} {μ : fw_M} {r : Int32} (h : f_Line_isSayable t0 a2 μ = some r) : fw_Con Y_Line_isSayable fw_X 3 [.ref t0, .ref 2, .int a2] (some r) μ μ := by
  refine fw_con (by decide) (Nat.le_of_ble_eq_true rfl) ?_
  rw [f_Line_isSayable] at h
  show fw_R "FewTypes$Line" prog_4_method_10_code 8 (some .boolean) fw_X 3 (some r) μ 0 [(0, .ref t0), (1, .ref 2), (2, .int a2)] [] μ
  obtain ⟨g0, h⟩ := fw_gu h
  refine fw_iconst (pc := 0) d_Line_isSayable_0 fw_ic0 ?_
  refine fw_istore_n (pc := 1) (lv1 := [(3, .int 0), (0, .ref t0), (1, .ref 2), (2, .int a2)]) d_Line_isSayable_1 rfl (by decide) rfl ?_
  refine fw_iconst (pc := 2) d_Line_isSayable_2 fw_ic1 ?_
  refine fw_istore (pc := 3) (lv1 := [(4, .int 1), (3, .int 0), (0, .ref t0), (1, .ref 2), (2, .int a2)]) d_Line_isSayable_3 (by decide) rfl ?_
  refine fw_iconst (pc := 5) d_Line_isSayable_5 fw_ic0 ?_
  refine fw_istore (pc := 6) (lv1 := [(5, .int 0), (4, .int 1), (3, .int 0), (0, .ref t0), (1, .ref 2), (2, .int a2)]) d_Line_isSayable_6 (by decide) rfl ?_
  obtain ⟨e8x, w8, h⟩ := fw_be h
  have hE8 : fw_R "FewTypes$Line" prog_4_method_10_code 8 (some .boolean) fw_X 3 (some r) μ 116 [(4, .int e8x)] [] μ := by
    refine fw_iload (pc := 116) d_Line_isSayable_116 0 rfl ?_
    obtain ⟨b118, e118, h⟩ := fw_be h
    obtain rfl := Option.some.inj h
    exact fw_zret (pc := 118) d_Line_isSayable_118 rfl e118
  clear h
  exact fw_sub [3, 4, 5, 2, 1, 0] rfl (fw_we (e := e8x) (fun (s : Int32 × Int32 × Int32) => fw_R "FewTypes$Line" prog_4_method_10_code 8 (some .boolean) fw_X 3 (some r) μ 8 [(0, .ref t0), (1, .ref 2), (2, .int a2), (3, .int s.1), (4, .int s.2.1), (5, .int s.2.2)] [] μ) (by
    intro s x h hl hr
    obtain ⟨x3_8, x4_8, x5_8⟩ := s
    rw [f_Line_isSayable_L8] at h
    show fw_R "FewTypes$Line" prog_4_method_10_code 8 (some .boolean) fw_X 3 (some r) μ 8 [(0, .ref t0), (1, .ref 2), (2, .int a2), (3, .int x3_8), (4, .int x4_8), (5, .int x5_8)] [] μ
    refine fw_iload (pc := 8) d_Line_isSayable_8 5 rfl ?_
    refine fw_aload_n (pc := 10) d_Line_isSayable_10 0 rfl rfl ?_
    refine fw_getI (pc := 11) d_Line_isSayable_11 fl_Line_15 g0.1 rfl ?_
    refine fw_icmp_ge (pc := 14) (tgt := 116) d_Line_isSayable_14 rfl (fun hc => ?_) (fun hc => ?_)
    · have h := fw_it hc h
      obtain rfl := Option.some.inj h
      have he := hr _ rfl
      subst he
      exact fw_sub [4] rfl hE8
    · have h := fw_if hc h
      refine fw_iload (pc := 17) d_Line_isSayable_17 4 rfl ?_
      obtain ⟨j19, w19, h⟩ := fw_be h
      have hJ19 : fw_R "FewTypes$Line" prog_4_method_10_code 8 (some .boolean) fw_X 3 (some r) μ 42 [(0, .ref t0), (1, .ref 2), (2, .int a2), (3, .int x3_8), (4, .int x4_8), (5, .int x5_8)] [.int j19] μ := by
        refine fw_istore (pc := 42) (lv1 := [(6, .int j19), (0, .ref t0), (1, .ref 2), (2, .int a2), (3, .int x3_8), (4, .int x4_8), (5, .int x5_8)]) d_Line_isSayable_42 (by decide) rfl ?_
        refine fw_iload_n (pc := 44) d_Line_isSayable_44 4 rfl rfl ?_
        obtain ⟨j45, w45, h⟩ := fw_be h
        have hJ45 : fw_R "FewTypes$Line" prog_4_method_10_code 8 (some .boolean) fw_X 3 (some r) μ 88 [(0, .ref t0), (1, .ref 2), (2, .int a2), (4, .int x4_8), (5, .int x5_8), (6, .int j19)] [.int j45] μ := by
          refine fw_istore (pc := 88) (lv1 := [(7, .int j45), (0, .ref t0), (1, .ref 2), (2, .int a2), (4, .int x4_8), (5, .int x5_8), (6, .int j19)]) d_Line_isSayable_88 (by decide) rfl ?_
          refine fw_iload (pc := 90) d_Line_isSayable_90 4 rfl ?_
          refine fw_istore_n (pc := 92) (lv1 := [(3, .int x4_8), (7, .int j45), (0, .ref t0), (1, .ref 2), (2, .int a2), (4, .int x4_8), (5, .int x5_8), (6, .int j19)]) d_Line_isSayable_92 rfl (by decide) rfl ?_
          refine fw_iload (pc := 93) d_Line_isSayable_93 7 rfl ?_
          obtain ⟨j95, w95, h⟩ := fw_ne h
          have hJ95 : fw_R "FewTypes$Line" prog_4_method_10_code 8 (some .boolean) fw_X 3 (some r) μ 108 [(0, .ref t0), (1, .ref 2), (2, .int a2), (3, .int x4_8), (5, .int x5_8)] [.int j95] μ := by
            refine fw_istore (pc := 108) (lv1 := [(4, .int j95), (0, .ref t0), (1, .ref 2), (2, .int a2), (3, .int x4_8), (5, .int x5_8)]) d_Line_isSayable_108 (by decide) rfl ?_
            obtain ⟨v110, e110, h⟩ := fw_ne h
            refine fw_iinc2 (pc := 110) (j := 5) (lv1 := [(5, .int v110), (4, .int j95), (0, .ref t0), (1, .ref 2), (2, .int a2), (3, .int x4_8)]) d_Line_isSayable_110 rfl fw_ic1 e110 (by decide) rfl ?_
            refine fw_goto (pc := 113) (tgt := 8) d_Line_isSayable_113 rfl ?_
            obtain rfl := Option.some.inj h
            exact fw_sub [2, 3, 4, 5, 1, 0] rfl (hl _ rfl)
          clear h
          have h := w95
          clear w95
          refine fw_if_ne (pc := 95) (tgt := 103) d_Line_isSayable_95 rfl (fun hc => ?_) (fun hc => ?_)
          · have h := h.trans (if_pos hc)
            refine fw_iload (pc := 98) d_Line_isSayable_98 1 rfl ?_
            refine fw_if_eq (pc := 100) (tgt := 107) d_Line_isSayable_100 rfl (fun hc => ?_) (fun hc => ?_)
            · have h := h.trans (if_pos hc)
              refine fw_iconst (pc := 107) d_Line_isSayable_107 fw_ic0 ?_
              subst h
              exact fw_sub [2, 3, 4, 0, 6] rfl hJ95
            · have h := h.trans (if_neg hc)
              refine fw_iconst (pc := 103) d_Line_isSayable_103 fw_ic1 ?_
              refine fw_goto (pc := 104) (tgt := 108) d_Line_isSayable_104 rfl ?_
              subst h
              exact fw_sub [2, 3, 4, 0, 6] rfl hJ95
          · have h := h.trans (if_neg hc)
            refine fw_iconst (pc := 103) d_Line_isSayable_103 fw_ic1 ?_
            refine fw_goto (pc := 104) (tgt := 108) d_Line_isSayable_104 rfl ?_
            subst h
            exact fw_sub [2, 3, 4, 0, 6] rfl hJ95
        clear h
        have h := w45
        clear w45
        refine fw_if_eq (pc := 45) (tgt := 87) d_Line_isSayable_45 rfl (fun hc => ?_) (fun hc => ?_)
        · have h := fw_it hc h
          refine fw_iconst (pc := 87) d_Line_isSayable_87 fw_ic0 ?_
          obtain rfl := Option.some.inj h
          exact fw_sub [1, 2, 3, 5, 6, 0] rfl hJ45
        · have h := fw_if hc h
          refine fw_aload_n (pc := 48) d_Line_isSayable_48 1 rfl rfl ?_
          refine fw_iload (pc := 49) d_Line_isSayable_49 6 rfl ?_
          refine fw_iconst (pc := 51) d_Line_isSayable_51 fw_ic1 ?_
          refine fw_isub (pc := 52) d_Line_isSayable_52 ?_
          obtain ⟨p53, e53, h⟩ := fw_be h
          refine fw_callVi (pc := 53) d_Line_isSayable_53 mv_Line_32 g0.1 (c_Line_besideNext e53) (by decide) rfl rfl (Nat.le_of_ble_eq_true rfl) ?_
          refine fw_if_eq (pc := 56) (tgt := 87) d_Line_isSayable_56 rfl (fun hc => ?_) (fun hc => ?_)
          · have h := fw_it hc h
            refine fw_iconst (pc := 87) d_Line_isSayable_87 fw_ic0 ?_
            obtain rfl := Option.some.inj h
            exact fw_sub [1, 2, 3, 5, 6, 0] rfl hJ45
          · have h := fw_if hc h
            refine fw_aload_n (pc := 59) d_Line_isSayable_59 2 rfl rfl ?_
            refine fw_aload_n (pc := 60) d_Line_isSayable_60 1 rfl rfl ?_
            refine fw_getR (pc := 61) d_Line_isSayable_61 fl_Line_9 g0.1 rfl ?_
            refine fw_iload (pc := 64) d_Line_isSayable_64 6 rfl ?_
            refine fw_iconst (pc := 66) d_Line_isSayable_66 fw_ic1 ?_
            refine fw_isub (pc := 67) d_Line_isSayable_67 ?_
            obtain ⟨v68, e68, h⟩ := fw_be h
            refine fw_iald (pc := 68) d_Line_isSayable_68 g0.2 e68 ?_
            refine fw_aload_n (pc := 69) d_Line_isSayable_69 1 rfl rfl ?_
            refine fw_getR (pc := 70) d_Line_isSayable_70 fl_Line_9 g0.1 rfl ?_
            refine fw_iload (pc := 73) d_Line_isSayable_73 6 rfl ?_
            obtain ⟨v75, e75, h⟩ := fw_be h
            refine fw_iald (pc := 75) d_Line_isSayable_75 g0.2 e75 ?_
            refine fw_iload_n (pc := 76) d_Line_isSayable_76 3 rfl rfl ?_
            obtain ⟨p77, e77, h⟩ := fw_be h
            refine fw_callVi (pc := 77) d_Line_isSayable_77 mv_Line_45 fw_X2 (c_Case_someJoins_2 e77) (by decide) rfl rfl (Nat.le_of_ble_eq_true rfl) ?_
            refine fw_if_eq (pc := 80) (tgt := 87) d_Line_isSayable_80 rfl (fun hc => ?_) (fun hc => ?_)
            · have h := fw_it hc h
              refine fw_iconst (pc := 87) d_Line_isSayable_87 fw_ic0 ?_
              obtain rfl := Option.some.inj h
              exact fw_sub [1, 2, 3, 5, 6, 0] rfl hJ45
            · have h := fw_if hc h
              refine fw_iconst (pc := 83) d_Line_isSayable_83 fw_ic1 ?_
              refine fw_goto (pc := 84) (tgt := 88) d_Line_isSayable_84 rfl ?_
              obtain rfl := Option.some.inj h
              exact fw_sub [1, 2, 3, 5, 6, 0] rfl hJ45
      clear h
      have h := w19
      clear w19
      refine fw_if_eq (pc := 19) (tgt := 41) d_Line_isSayable_19 rfl (fun hc => ?_) (fun hc => ?_)
      · have h := fw_it hc h
        refine fw_iconst (pc := 41) d_Line_isSayable_41 fw_ic0 ?_
        obtain rfl := Option.some.inj h
        exact fw_sub [0, 1, 2, 3, 4, 5] rfl hJ19
      · have h := fw_if hc h
        refine fw_aload_n (pc := 22) d_Line_isSayable_22 1 rfl rfl ?_
        refine fw_aload_n (pc := 23) d_Line_isSayable_23 0 rfl rfl ?_
        refine fw_getR (pc := 24) d_Line_isSayable_24 fl_Line_9 g0.1 rfl ?_
        refine fw_iload (pc := 27) d_Line_isSayable_27 5 rfl ?_
        obtain ⟨v29, e29, h⟩ := fw_be h
        refine fw_iald (pc := 29) d_Line_isSayable_29 g0.2 e29 ?_
        refine fw_iload_n (pc := 30) d_Line_isSayable_30 2 rfl rfl ?_
        obtain ⟨p31, e31, h⟩ := fw_be h
        refine fw_callVi (pc := 31) d_Line_isSayable_31 mv_Line_40 fw_X2 (c_Case_somePrints_2 e31) (by decide) rfl rfl (Nat.le_of_ble_eq_true rfl) ?_
        refine fw_if_eq (pc := 34) (tgt := 41) d_Line_isSayable_34 rfl (fun hc => ?_) (fun hc => ?_)
        · have h := fw_it hc h
          refine fw_iconst (pc := 41) d_Line_isSayable_41 fw_ic0 ?_
          obtain rfl := Option.some.inj h
          exact fw_sub [0, 1, 2, 3, 4, 5] rfl hJ19
        · have h := fw_if hc h
          refine fw_iconst (pc := 37) d_Line_isSayable_37 fw_ic1 ?_
          refine fw_goto (pc := 38) (tgt := 42) d_Line_isSayable_38 rfl ?_
          obtain rfl := Option.some.inj h
          exact fw_sub [0, 1, 2, 3, 4, 5] rfl hJ19
    ) _ _ w8)
