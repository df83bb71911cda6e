abbrev Y_Integer_bitCount : fw_Y := (⟨"java/lang/Integer", "bitCount", "(I)I"⟩, prog_12_method_49_code, 1, (some .int))
abbrev Y_Press_lowestOf : fw_Y := (⟨"FewTypes$Press", "lowestOf", "(I)I"⟩, prog_6_method_10_code, 3, (some .int))
abbrev Y_X_cutUp : fw_Y := (⟨"FewTypes", "cutUp", "(II)I"⟩, prog_1_method_39_code, 2, (some .int))
abbrev Y_Press_leastApart : fw_Y := (⟨"FewTypes$Press", "leastApart", "(I)I"⟩, prog_6_method_9_code, 6, (some .int))
abbrev Y_Press_fillLeast : fw_Y := (⟨"FewTypes$Press", "fillLeast", "(I)V"⟩, prog_6_method_6_code, 4, none)
abbrev Y_Press_solve : fw_Y := (⟨"FewTypes$Press", "solve", "()I"⟩, prog_6_method_5_code, 2, (some .int))
abbrev Y_Press_firstPull : fw_Y := (⟨"FewTypes$Press", "firstPull", "(I)I"⟩, prog_6_method_8_code, 3, (some .int))
abbrev Y_Press_findPlan : fw_Y := (⟨"FewTypes$Press", "findPlan", "([I)V"⟩, prog_6_method_7_code, 4, none)
abbrev Y_X_pullsFor : fw_Y := (⟨"FewTypes", "pullsFor", "(I)I"⟩, prog_1_method_44_code, 3, (some .int))
abbrev Y_X_fewest : fw_Y := (⟨"FewTypes", "fewest", "()I"⟩, prog_1_method_14_code, 1, (some .int))
abbrev Y_X_plan : fw_Y := (⟨"FewTypes", "plan", "(I)I"⟩, prog_1_method_15_code, 3, (some .int))
abbrev Y_Line_howOften : fw_Y := (⟨"FewTypes$Line", "howOften", "(I)I"⟩, prog_4_method_9_code, 4, (some .int))
abbrev Y_Case_printers : fw_Y := (⟨"FewTypes$Case", "printers", "(I)I"⟩, prog_2_method_11_code, 4, (some .int))
theorem mv_X_193 : fw_MV "FewTypes" 193 Y_X_pullsFor 8 1 := ⟨fw_m 587 (by decide +kernel) (by decide +kernel), fw_m 589 (by decide +kernel) (by decide +kernel), fw_m 16 (by decide +kernel) (by decide +kernel), fw_m 59 (by decide +kernel) (by decide +kernel), fw_m 590 (by decide +kernel) (by decide +kernel), ⟨by decide +kernel, by decide +kernel, by decide +kernel⟩, by decide, _, _, rfl⟩
theorem fl_X_236 : fw_FL "FewTypes" 236 6 4 := ⟨_, _, _, rfl, fw_i6, by decide, fw_m 179 (by decide +kernel) (by decide +kernel)⟩
theorem mv_X_246 : fw_MV "FewTypes" 246 Y_Line_isSayable 2 2 := ⟨fw_m 591 (by decide +kernel) (by decide +kernel), fw_m 592 (by decide +kernel) (by decide +kernel), fw_m 593 (by decide +kernel) (by decide +kernel), fw_m 62 (by decide +kernel) (by decide +kernel), fw_m 594 (by decide +kernel) (by decide +kernel), ⟨by decide +kernel, by decide +kernel, by decide +kernel⟩, by decide, _, _, rfl⟩
theorem mv_X_314 : fw_MV "FewTypes" 314 Y_Press_solve 4 0 := ⟨fw_m 605 (by decide +kernel) (by decide +kernel), fw_m 606 (by decide +kernel) (by decide +kernel), fw_m 607 (by decide +kernel) (by decide +kernel), fw_m 67 (by decide +kernel) (by decide +kernel), fw_m 608 (by decide +kernel) (by decide +kernel), ⟨by decide +kernel, by decide +kernel, by decide +kernel⟩, by decide, _, _, rfl⟩
theorem mv_Press_105 : fw_MV "FewTypes$Press" 105 Y_Press_fillLeast 4 1 := ⟨fw_m 609 (by decide +kernel) (by decide +kernel), fw_m 611 (by decide +kernel) (by decide +kernel), fw_m 17 (by decide +kernel) (by decide +kernel), fw_m 67 (by decide +kernel) (by decide +kernel), fw_m 612 (by decide +kernel) (by decide +kernel), ⟨by decide +kernel, by decide +kernel, by decide +kernel⟩, by decide, _, _, rfl⟩
theorem fl_Press_25 : fw_FL "FewTypes$Press" 25 4 4 := ⟨_, _, _, rfl, fw_i4, by decide, fw_m 230 (by decide +kernel) (by decide +kernel)⟩
theorem ms_Press_109 : fw_MS "FewTypes$Press" 109 Y_Integer_bitCount 1 := ⟨fw_m 613 (by decide +kernel) (by decide +kernel), fw_m 614 (by decide +kernel) (by decide +kernel), fw_m 71 (by decide +kernel) (by decide +kernel), fw_m 615 (by decide +kernel) (by decide +kernel), ⟨by decide +kernel, by decide +kernel, by decide +kernel⟩, by decide⟩
theorem cw_Integer_265 : Cond.constant "java/lang/Integer" 265 1431655765 ∈ fw_tb := fw_m 616 (by decide +kernel) (by decide +kernel)
theorem cw_Integer_266 : Cond.constant "java/lang/Integer" 266 858993459 ∈ fw_tb := fw_m 617 (by decide +kernel) (by decide +kernel)
theorem cw_Integer_267 : Cond.constant "java/lang/Integer" 267 252645135 ∈ fw_tb := fw_m 618 (by decide +kernel) (by decide +kernel)
theorem mv_Press_115 : fw_MV "FewTypes$Press" 115 Y_Press_lowestOf 4 1 := ⟨fw_m 619 (by decide +kernel) (by decide +kernel), fw_m 621 (by decide +kernel) (by decide +kernel), fw_m 18 (by decide +kernel) (by decide +kernel), fw_m 67 (by decide +kernel) (by decide +kernel), fw_m 622 (by decide +kernel) (by decide +kernel), ⟨by decide +kernel, by decide +kernel, by decide +kernel⟩, by decide, _, _, rfl⟩
theorem mv_Press_118 : fw_MV "FewTypes$Press" 118 Y_Press_leastApart 4 1 := ⟨fw_m 623 (by decide +kernel) (by decide +kernel), fw_m 625 (by decide +kernel) (by decide +kernel), fw_m 19 (by decide +kernel) (by decide +kernel), fw_m 67 (by decide +kernel) (by decide +kernel), fw_m 626 (by decide +kernel) (by decide +kernel), ⟨by decide +kernel, by decide +kernel, by decide +kernel⟩, by decide, _, _, rfl⟩
theorem ms_Press_124 : fw_MN "FewTypes$Press" 124 Y_X_cutUp 2 := ⟨by decide +kernel, fw_m 628 (by decide +kernel) (by decide +kernel), fw_m 59 (by decide +kernel) (by decide +kernel), fw_m 629 (by decide +kernel) (by decide +kernel), ⟨by decide +kernel, by decide +kernel, by decide +kernel⟩, by decide⟩
theorem mx_Press_128 : Cond.methodLink "FewTypes$Press" 128 Lib.Math.max.name ∈ fw_tb := fw_m 630 (by decide +kernel) (by decide +kernel)
theorem fl_X_62 : fw_FL "FewTypes" 62 8 9 := ⟨_, _, _, rfl, fw_i8, by decide, fw_m 322 (by decide +kernel) (by decide +kernel)⟩
theorem mv_X_317 : fw_MV "FewTypes" 317 Y_Press_findPlan 4 1 := ⟨fw_m 633 (by decide +kernel) (by decide +kernel), fw_m 634 (by decide +kernel) (by decide +kernel), fw_m 635 (by decide +kernel) (by decide +kernel), fw_m 67 (by decide +kernel) (by decide +kernel), fw_m 636 (by decide +kernel) (by decide +kernel), ⟨by decide +kernel, by decide +kernel, by decide +kernel⟩, by decide, _, _, rfl⟩
theorem mv_Press_121 : fw_MV "FewTypes$Press" 121 Y_Press_firstPull 4 1 := ⟨fw_m 637 (by decide +kernel) (by decide +kernel), fw_m 639 (by decide +kernel) (by decide +kernel), fw_m 20 (by decide +kernel) (by decide +kernel), fw_m 67 (by decide +kernel) (by decide +kernel), fw_m 640 (by decide +kernel) (by decide +kernel), ⟨by decide +kernel, by decide +kernel, by decide +kernel⟩, by decide, _, _, rfl⟩
theorem d_Integer_bitCount_0 : decode prog_12_method_49_code 0 = .ok (.iload_n 0, 1) := by decide +kernel
theorem d_Integer_bitCount_1 : decode prog_12_method_49_code 1 = .ok (.iload_n 0, 1) := by decide +kernel
theorem d_Integer_bitCount_2 : decode prog_12_method_49_code 2 = .ok (.iconst 1, 1) := by decide +kernel
theorem d_Integer_bitCount_3 : decode prog_12_method_49_code 3 = .ok (.iushr, 1) := by decide +kernel
theorem d_Integer_bitCount_4 : decode prog_12_method_49_code 4 = .ok (.ldc_w 265, 3) := by decide +kernel
theorem d_Integer_bitCount_7 : decode prog_12_method_49_code 7 = .ok (.iand, 1) := by decide +kernel
theorem d_Integer_bitCount_8 : decode prog_12_method_49_code 8 = .ok (.isub, 1) := by decide +kernel
theorem d_Integer_bitCount_9 : decode prog_12_method_49_code 9 = .ok (.istore_n 0, 1) := by decide +kernel
theorem d_Integer_bitCount_10 : decode prog_12_method_49_code 10 = .ok (.iload_n 0, 1) := by decide +kernel
theorem d_Integer_bitCount_11 : decode prog_12_method_49_code 11 = .ok (.ldc_w 266, 3) := by decide +kernel
theorem d_Integer_bitCount_14 : decode prog_12_method_49_code 14 = .ok (.iand, 1) := by decide +kernel
theorem d_Integer_bitCount_15 : decode prog_12_method_49_code 15 = .ok (.iload_n 0, 1) := by decide +kernel
theorem d_Integer_bitCount_16 : decode prog_12_method_49_code 16 = .ok (.iconst 2, 1) := by decide +kernel
theorem d_Integer_bitCount_17 : decode prog_12_method_49_code 17 = .ok (.iushr, 1) := by decide +kernel
theorem d_Integer_bitCount_18 : decode prog_12_method_49_code 18 = .ok (.ldc_w 266, 3) := by decide +kernel
theorem d_Integer_bitCount_21 : decode prog_12_method_49_code 21 = .ok (.iand, 1) := by decide +kernel
theorem d_Integer_bitCount_22 : decode prog_12_method_49_code 22 = .ok (.iadd, 1) := by decide +kernel
theorem d_Integer_bitCount_23 : decode prog_12_method_49_code 23 = .ok (.istore_n 0, 1) := by decide +kernel
theorem d_Integer_bitCount_24 : decode prog_12_method_49_code 24 = .ok (.iload_n 0, 1) := by decide +kernel
theorem d_Integer_bitCount_25 : decode prog_12_method_49_code 25 = .ok (.iload_n 0, 1) := by decide +kernel
theorem d_Integer_bitCount_26 : decode prog_12_method_49_code 26 = .ok (.iconst 4, 1) := by decide +kernel
theorem d_Integer_bitCount_27 : decode prog_12_method_49_code 27 = .ok (.iushr, 1) := by decide +kernel
theorem d_Integer_bitCount_28 : decode prog_12_method_49_code 28 = .ok (.iadd, 1) := by decide +kernel
theorem d_Integer_bitCount_29 : decode prog_12_method_49_code 29 = .ok (.ldc_w 267, 3) := by decide +kernel
theorem d_Integer_bitCount_32 : decode prog_12_method_49_code 32 = .ok (.iand, 1) := by decide +kernel
theorem d_Integer_bitCount_33 : decode prog_12_method_49_code 33 = .ok (.istore_n 0, 1) := by decide +kernel
theorem d_Integer_bitCount_34 : decode prog_12_method_49_code 34 = .ok (.iload_n 0, 1) := by decide +kernel
theorem d_Integer_bitCount_35 : decode prog_12_method_49_code 35 = .ok (.iload_n 0, 1) := by decide +kernel
theorem d_Integer_bitCount_36 : decode prog_12_method_49_code 36 = .ok (.bipush 8, 2) := by decide +kernel
theorem d_Integer_bitCount_38 : decode prog_12_method_49_code 38 = .ok (.iushr, 1) := by decide +kernel
theorem d_Integer_bitCount_39 : decode prog_12_method_49_code 39 = .ok (.iadd, 1) := by decide +kernel
theorem d_Integer_bitCount_40 : decode prog_12_method_49_code 40 = .ok (.istore_n 0, 1) := by decide +kernel
theorem d_Integer_bitCount_41 : decode prog_12_method_49_code 41 = .ok (.iload_n 0, 1) := by decide +kernel
theorem d_Integer_bitCount_42 : decode prog_12_method_49_code 42 = .ok (.iload_n 0, 1) := by decide +kernel
theorem d_Integer_bitCount_43 : decode prog_12_method_49_code 43 = .ok (.bipush 16, 2) := by decide +kernel
theorem d_Integer_bitCount_45 : decode prog_12_method_49_code 45 = .ok (.iushr, 1) := by decide +kernel
theorem d_Integer_bitCount_46 : decode prog_12_method_49_code 46 = .ok (.iadd, 1) := by decide +kernel
theorem d_Integer_bitCount_47 : decode prog_12_method_49_code 47 = .ok (.istore_n 0, 1) := by decide +kernel
theorem d_Integer_bitCount_48 : decode prog_12_method_49_code 48 = .ok (.iload_n 0, 1) := by decide +kernel
theorem d_Integer_bitCount_49 : decode prog_12_method_49_code 49 = .ok (.bipush 63, 2) := by decide +kernel
theorem d_Integer_bitCount_51 : decode prog_12_method_49_code 51 = .ok (.iand, 1) := by decide +kernel
theorem d_Integer_bitCount_52 : decode prog_12_method_49_code 52 = .ok (.ireturn, 1) := by decide +kernel
theorem d_Press_lowestOf_0 : decode prog_6_method_10_code 0 = .ok (.iconst 0, 1) := by decide +kernel
theorem d_Press_lowestOf_1 : decode prog_6_method_10_code 1 = .ok (.istore_n 2, 1) := by decide +kernel
theorem d_Press_lowestOf_2 : decode prog_6_method_10_code 2 = .ok (.iload_n 2, 1) := by decide +kernel
theorem d_Press_lowestOf_3 : decode prog_6_method_10_code 3 = .ok (.aload_n 0, 1) := by decide +kernel
theorem d_Press_lowestOf_4 : decode prog_6_method_10_code 4 = .ok (.getfield 28, 3) := by decide +kernel
theorem d_Press_lowestOf_7 : decode prog_6_method_10_code 7 = .ok (.iconst 1, 1) := by decide +kernel
theorem d_Press_lowestOf_8 : decode prog_6_method_10_code 8 = .ok (.isub, 1) := by decide +kernel
theorem d_Press_lowestOf_9 : decode prog_6_method_10_code 9 = .ok (.if_icmp .ge 17, 3) := by decide +kernel
theorem d_Press_lowestOf_12 : decode prog_6_method_10_code 12 = .ok (.iload_n 1, 1) := by decide +kernel
theorem d_Press_lowestOf_13 : decode prog_6_method_10_code 13 = .ok (.iload_n 2, 1) := by decide +kernel
theorem d_Press_lowestOf_14 : decode prog_6_method_10_code 14 = .ok (.invokestatic 133, 3) := by decide +kernel
theorem d_Press_lowestOf_17 : decode prog_6_method_10_code 17 = .ok (.ifCond .ne 9, 3) := by decide +kernel
theorem d_Press_lowestOf_20 : decode prog_6_method_10_code 20 = .ok (.iinc 2 1, 3) := by decide +kernel
theorem d_Press_lowestOf_23 : decode prog_6_method_10_code 23 = .ok (.goto (-21), 3) := by decide +kernel
theorem d_Press_lowestOf_26 : decode prog_6_method_10_code 26 = .ok (.iload_n 2, 1) := by decide +kernel
theorem d_Press_lowestOf_27 : decode prog_6_method_10_code 27 = .ok (.ireturn, 1) := by decide +kernel
theorem d_X_cutUp_0 : decode prog_1_method_39_code 0 = .ok (.iload_n 1, 1) := by decide +kernel
theorem d_X_cutUp_1 : decode prog_1_method_39_code 1 = .ok (.iconst 1, 1) := by decide +kernel
theorem d_X_cutUp_2 : decode prog_1_method_39_code 2 = .ok (.if_icmp .ge 7, 3) := by decide +kernel
theorem d_X_cutUp_5 : decode prog_1_method_39_code 5 = .ok (.iconst 0, 1) := by decide +kernel
theorem d_X_cutUp_6 : decode prog_1_method_39_code 6 = .ok (.goto 10, 3) := by decide +kernel
theorem d_X_cutUp_9 : decode prog_1_method_39_code 9 = .ok (.iload_n 0, 1) := by decide +kernel
theorem d_X_cutUp_10 : decode prog_1_method_39_code 10 = .ok (.iload_n 1, 1) := by decide +kernel
theorem d_X_cutUp_11 : decode prog_1_method_39_code 11 = .ok (.iadd, 1) := by decide +kernel
theorem d_X_cutUp_12 : decode prog_1_method_39_code 12 = .ok (.iconst 1, 1) := by decide +kernel
theorem d_X_cutUp_13 : decode prog_1_method_39_code 13 = .ok (.isub, 1) := by decide +kernel
theorem d_X_cutUp_14 : decode prog_1_method_39_code 14 = .ok (.iload_n 1, 1) := by decide +kernel
theorem d_X_cutUp_15 : decode prog_1_method_39_code 15 = .ok (.idiv, 1) := by decide +kernel
theorem d_X_cutUp_16 : decode prog_1_method_39_code 16 = .ok (.ireturn, 1) := by decide +kernel
theorem d_Press_leastApart_0 : decode prog_6_method_9_code 0 = .ok (.bipush 99, 2) := by decide +kernel
theorem d_Press_leastApart_2 : decode prog_6_method_9_code 2 = .ok (.istore_n 2, 1) := by decide +kernel
theorem d_Press_leastApart_3 : decode prog_6_method_9_code 3 = .ok (.iconst 2, 1) := by decide +kernel
theorem d_Press_leastApart_4 : decode prog_6_method_9_code 4 = .ok (.iload_n 1, 1) := by decide +kernel
theorem d_Press_leastApart_5 : decode prog_6_method_9_code 5 = .ok (.invokestatic 109, 3) := by decide +kernel
theorem d_Press_leastApart_8 : decode prog_6_method_9_code 8 = .ok (.aload_n 0, 1) := by decide +kernel
theorem d_Press_leastApart_9 : decode prog_6_method_9_code 9 = .ok (.getfield 45, 3) := by decide +kernel
theorem d_Press_leastApart_12 : decode prog_6_method_9_code 12 = .ok (.invokestatic 124, 3) := by decide +kernel
theorem d_Press_leastApart_15 : decode prog_6_method_9_code 15 = .ok (.invokestatic 128, 3) := by decide +kernel
theorem d_Press_leastApart_18 : decode prog_6_method_9_code 18 = .ok (.istore_n 3, 1) := by decide +kernel
theorem d_Press_leastApart_19 : decode prog_6_method_9_code 19 = .ok (.iload_n 1, 1) := by decide +kernel
theorem d_Press_leastApart_20 : decode prog_6_method_9_code 20 = .ok (.iload_n 1, 1) := by decide +kernel
theorem d_Press_leastApart_21 : decode prog_6_method_9_code 21 = .ok (.iconst 1, 1) := by decide +kernel
theorem d_Press_leastApart_22 : decode prog_6_method_9_code 22 = .ok (.isub, 1) := by decide +kernel
theorem d_Press_leastApart_23 : decode prog_6_method_9_code 23 = .ok (.iand, 1) := by decide +kernel
theorem d_Press_leastApart_24 : decode prog_6_method_9_code 24 = .ok (.istore 4, 2) := by decide +kernel
theorem d_Press_leastApart_26 : decode prog_6_method_9_code 26 = .ok (.iload 4, 2) := by decide +kernel
theorem d_Press_leastApart_28 : decode prog_6_method_9_code 28 = .ok (.istore 5, 2) := by decide +kernel
theorem d_Press_leastApart_30 : decode prog_6_method_9_code 30 = .ok (.iload 5, 2) := by decide +kernel
theorem d_Press_leastApart_32 : decode prog_6_method_9_code 32 = .ok (.ifCond .le 56, 3) := by decide +kernel
theorem d_Press_leastApart_35 : decode prog_6_method_9_code 35 = .ok (.iload_n 2, 1) := by decide +kernel
theorem d_Press_leastApart_36 : decode prog_6_method_9_code 36 = .ok (.iload_n 3, 1) := by decide +kernel
theorem d_Press_leastApart_37 : decode prog_6_method_9_code 37 = .ok (.if_icmp .le 51, 3) := by decide +kernel
theorem d_Press_leastApart_40 : decode prog_6_method_9_code 40 = .ok (.aload_n 0, 1) := by decide +kernel
theorem d_Press_leastApart_41 : decode prog_6_method_9_code 41 = .ok (.getfield 25, 3) := by decide +kernel
theorem d_Press_leastApart_44 : decode prog_6_method_9_code 44 = .ok (.iload_n 1, 1) := by decide +kernel
theorem d_Press_leastApart_45 : decode prog_6_method_9_code 45 = .ok (.iload 5, 2) := by decide +kernel
theorem d_Press_leastApart_47 : decode prog_6_method_9_code 47 = .ok (.ixor, 1) := by decide +kernel
theorem d_Press_leastApart_48 : decode prog_6_method_9_code 48 = .ok (.iaload, 1) := by decide +kernel
theorem d_Press_leastApart_49 : decode prog_6_method_9_code 49 = .ok (.iconst 1, 1) := by decide +kernel
theorem d_Press_leastApart_50 : decode prog_6_method_9_code 50 = .ok (.if_icmp .ne 26, 3) := by decide +kernel
theorem d_Press_leastApart_53 : decode prog_6_method_9_code 53 = .ok (.aload_n 0, 1) := by decide +kernel
theorem d_Press_leastApart_54 : decode prog_6_method_9_code 54 = .ok (.getfield 25, 3) := by decide +kernel
theorem d_Press_leastApart_57 : decode prog_6_method_9_code 57 = .ok (.iload 5, 2) := by decide +kernel
theorem d_Press_leastApart_59 : decode prog_6_method_9_code 59 = .ok (.iaload, 1) := by decide +kernel
theorem d_Press_leastApart_60 : decode prog_6_method_9_code 60 = .ok (.iconst 1, 1) := by decide +kernel
theorem d_Press_leastApart_61 : decode prog_6_method_9_code 61 = .ok (.iadd, 1) := by decide +kernel
theorem d_Press_leastApart_62 : decode prog_6_method_9_code 62 = .ok (.iload_n 2, 1) := by decide +kernel
theorem d_Press_leastApart_63 : decode prog_6_method_9_code 63 = .ok (.if_icmp .ge 13, 3) := by decide +kernel
theorem d_Press_leastApart_66 : decode prog_6_method_9_code 66 = .ok (.aload_n 0, 1) := by decide +kernel
theorem d_Press_leastApart_67 : decode prog_6_method_9_code 67 = .ok (.getfield 25, 3) := by decide +kernel
theorem d_Press_leastApart_70 : decode prog_6_method_9_code 70 = .ok (.iload 5, 2) := by decide +kernel
theorem d_Press_leastApart_72 : decode prog_6_method_9_code 72 = .ok (.iaload, 1) := by decide +kernel
theorem d_Press_leastApart_73 : decode prog_6_method_9_code 73 = .ok (.iconst 1, 1) := by decide +kernel
theorem d_Press_leastApart_74 : decode prog_6_method_9_code 74 = .ok (.iadd, 1) := by decide +kernel
theorem d_Press_leastApart_75 : decode prog_6_method_9_code 75 = .ok (.istore_n 2, 1) := by decide +kernel
theorem d_Press_leastApart_76 : decode prog_6_method_9_code 76 = .ok (.iload 5, 2) := by decide +kernel
theorem d_Press_leastApart_78 : decode prog_6_method_9_code 78 = .ok (.iconst 1, 1) := by decide +kernel
theorem d_Press_leastApart_79 : decode prog_6_method_9_code 79 = .ok (.isub, 1) := by decide +kernel
theorem d_Press_leastApart_80 : decode prog_6_method_9_code 80 = .ok (.iload 4, 2) := by decide +kernel
theorem d_Press_leastApart_82 : decode prog_6_method_9_code 82 = .ok (.iand, 1) := by decide +kernel
theorem d_Press_leastApart_83 : decode prog_6_method_9_code 83 = .ok (.istore 5, 2) := by decide +kernel
theorem d_Press_leastApart_85 : decode prog_6_method_9_code 85 = .ok (.goto (-55), 3) := by decide +kernel
theorem d_Press_leastApart_88 : decode prog_6_method_9_code 88 = .ok (.iload_n 2, 1) := by decide +kernel
theorem d_Press_leastApart_89 : decode prog_6_method_9_code 89 = .ok (.ireturn, 1) := by decide +kernel
theorem d_Press_fillLeast_0 : decode prog_6_method_6_code 0 = .ok (.aload_n 0, 1) := by decide +kernel
theorem d_Press_fillLeast_1 : decode prog_6_method_6_code 1 = .ok (.iconst 0, 1) := by decide +kernel
theorem d_Press_fillLeast_2 : decode prog_6_method_6_code 2 = .ok (.aload_n 0, 1) := by decide +kernel
theorem d_Press_fillLeast_3 : decode prog_6_method_6_code 3 = .ok (.getfield 28, 3) := by decide +kernel
theorem d_Press_fillLeast_6 : decode prog_6_method_6_code 6 = .ok (.iconst 1, 1) := by decide +kernel
theorem d_Press_fillLeast_7 : decode prog_6_method_6_code 7 = .ok (.isub, 1) := by decide +kernel
theorem d_Press_fillLeast_8 : decode prog_6_method_6_code 8 = .ok (.invokevirtual 91, 3) := by decide +kernel
theorem d_Press_fillLeast_11 : decode prog_6_method_6_code 11 = .ok (.aload_n 0, 1) := by decide +kernel
theorem d_Press_fillLeast_12 : decode prog_6_method_6_code 12 = .ok (.getfield 25, 3) := by decide +kernel
theorem d_Press_fillLeast_15 : decode prog_6_method_6_code 15 = .ok (.iconst 0, 1) := by decide +kernel
theorem d_Press_fillLeast_16 : decode prog_6_method_6_code 16 = .ok (.iconst 0, 1) := by decide +kernel
theorem d_Press_fillLeast_17 : decode prog_6_method_6_code 17 = .ok (.iastore, 1) := by decide +kernel
theorem d_Press_fillLeast_18 : decode prog_6_method_6_code 18 = .ok (.iconst 1, 1) := by decide +kernel
theorem d_Press_fillLeast_19 : decode prog_6_method_6_code 19 = .ok (.istore_n 2, 1) := by decide +kernel
theorem d_Press_fillLeast_20 : decode prog_6_method_6_code 20 = .ok (.iload_n 2, 1) := by decide +kernel
theorem d_Press_fillLeast_21 : decode prog_6_method_6_code 21 = .ok (.iload_n 1, 1) := by decide +kernel
theorem d_Press_fillLeast_22 : decode prog_6_method_6_code 22 = .ok (.if_icmp .gt 61, 3) := by decide +kernel
theorem d_Press_fillLeast_25 : decode prog_6_method_6_code 25 = .ok (.iconst 0, 1) := by decide +kernel
theorem d_Press_fillLeast_26 : decode prog_6_method_6_code 26 = .ok (.istore_n 3, 1) := by decide +kernel
theorem d_Press_fillLeast_27 : decode prog_6_method_6_code 27 = .ok (.iload_n 2, 1) := by decide +kernel
theorem d_Press_fillLeast_28 : decode prog_6_method_6_code 28 = .ok (.invokestatic 109, 3) := by decide +kernel
theorem d_Press_fillLeast_31 : decode prog_6_method_6_code 31 = .ok (.aload_n 0, 1) := by decide +kernel
theorem d_Press_fillLeast_32 : decode prog_6_method_6_code 32 = .ok (.getfield 45, 3) := by decide +kernel
theorem d_Press_fillLeast_35 : decode prog_6_method_6_code 35 = .ok (.if_icmp .gt 23, 3) := by decide +kernel
theorem d_Press_fillLeast_38 : decode prog_6_method_6_code 38 = .ok (.aload_n 0, 1) := by decide +kernel
theorem d_Press_fillLeast_39 : decode prog_6_method_6_code 39 = .ok (.iload_n 2, 1) := by decide +kernel
theorem d_Press_fillLeast_40 : decode prog_6_method_6_code 40 = .ok (.aload_n 0, 1) := by decide +kernel
theorem d_Press_fillLeast_41 : decode prog_6_method_6_code 41 = .ok (.iload_n 2, 1) := by decide +kernel
theorem d_Press_fillLeast_42 : decode prog_6_method_6_code 42 = .ok (.invokevirtual 115, 3) := by decide +kernel
theorem d_Press_fillLeast_45 : decode prog_6_method_6_code 45 = .ok (.invokevirtual 91, 3) := by decide +kernel
theorem d_Press_fillLeast_48 : decode prog_6_method_6_code 48 = .ok (.aload_n 0, 1) := by decide +kernel
theorem d_Press_fillLeast_49 : decode prog_6_method_6_code 49 = .ok (.iconst 0, 1) := by decide +kernel
theorem d_Press_fillLeast_50 : decode prog_6_method_6_code 50 = .ok (.aload_n 0, 1) := by decide +kernel
theorem d_Press_fillLeast_51 : decode prog_6_method_6_code 51 = .ok (.invokevirtual 95, 3) := by decide +kernel
theorem d_Press_fillLeast_54 : decode prog_6_method_6_code 54 = .ok (.invokevirtual 99, 3) := by decide +kernel
theorem d_Press_fillLeast_57 : decode prog_6_method_6_code 57 = .ok (.istore_n 3, 1) := by decide +kernel
theorem d_Press_fillLeast_58 : decode prog_6_method_6_code 58 = .ok (.aload_n 0, 1) := by decide +kernel
theorem d_Press_fillLeast_59 : decode prog_6_method_6_code 59 = .ok (.getfield 25, 3) := by decide +kernel
theorem d_Press_fillLeast_62 : decode prog_6_method_6_code 62 = .ok (.iload_n 2, 1) := by decide +kernel
theorem d_Press_fillLeast_63 : decode prog_6_method_6_code 63 = .ok (.iload_n 3, 1) := by decide +kernel
theorem d_Press_fillLeast_64 : decode prog_6_method_6_code 64 = .ok (.ifCond .eq 7, 3) := by decide +kernel
theorem d_Press_fillLeast_67 : decode prog_6_method_6_code 67 = .ok (.iconst 1, 1) := by decide +kernel
theorem d_Press_fillLeast_68 : decode prog_6_method_6_code 68 = .ok (.goto 8, 3) := by decide +kernel
theorem d_Press_fillLeast_71 : decode prog_6_method_6_code 71 = .ok (.aload_n 0, 1) := by decide +kernel
theorem d_Press_fillLeast_72 : decode prog_6_method_6_code 72 = .ok (.iload_n 2, 1) := by decide +kernel
theorem d_Press_fillLeast_73 : decode prog_6_method_6_code 73 = .ok (.invokevirtual 118, 3) := by decide +kernel
theorem d_Press_fillLeast_76 : decode prog_6_method_6_code 76 = .ok (.iastore, 1) := by decide +kernel
theorem d_Press_fillLeast_77 : decode prog_6_method_6_code 77 = .ok (.iinc 2 1, 3) := by decide +kernel
theorem d_Press_fillLeast_80 : decode prog_6_method_6_code 80 = .ok (.goto (-60), 3) := by decide +kernel
theorem d_Press_fillLeast_83 : decode prog_6_method_6_code 83 = .ok (.return_, 1) := by decide +kernel
theorem d_Press_solve_0 : decode prog_6_method_5_code 0 = .ok (.iconst 1, 1) := by decide +kernel
theorem d_Press_solve_1 : decode prog_6_method_5_code 1 = .ok (.aload_n 0, 1) := by decide +kernel
theorem d_Press_solve_2 : decode prog_6_method_5_code 2 = .ok (.getfield 28, 3) := by decide +kernel
theorem d_Press_solve_5 : decode prog_6_method_5_code 5 = .ok (.ishl, 1) := by decide +kernel
theorem d_Press_solve_6 : decode prog_6_method_5_code 6 = .ok (.iconst 1, 1) := by decide +kernel
theorem d_Press_solve_7 : decode prog_6_method_5_code 7 = .ok (.isub, 1) := by decide +kernel
theorem d_Press_solve_8 : decode prog_6_method_5_code 8 = .ok (.istore_n 1, 1) := by decide +kernel
theorem d_Press_solve_9 : decode prog_6_method_5_code 9 = .ok (.aload_n 0, 1) := by decide +kernel
theorem d_Press_solve_10 : decode prog_6_method_5_code 10 = .ok (.iload_n 1, 1) := by decide +kernel
theorem d_Press_solve_11 : decode prog_6_method_5_code 11 = .ok (.invokevirtual 102, 3) := by decide +kernel
theorem d_Press_solve_14 : decode prog_6_method_5_code 14 = .ok (.ifCond .eq 13, 3) := by decide +kernel
theorem d_Press_solve_17 : decode prog_6_method_5_code 17 = .ok (.aload_n 0, 1) := by decide +kernel
theorem d_Press_solve_18 : decode prog_6_method_5_code 18 = .ok (.getfield 25, 3) := by decide +kernel
theorem d_Press_solve_21 : decode prog_6_method_5_code 21 = .ok (.iload_n 1, 1) := by decide +kernel
theorem d_Press_solve_22 : decode prog_6_method_5_code 22 = .ok (.iconst 1, 1) := by decide +kernel
theorem d_Press_solve_23 : decode prog_6_method_5_code 23 = .ok (.iastore, 1) := by decide +kernel
theorem d_Press_solve_24 : decode prog_6_method_5_code 24 = .ok (.goto 8, 3) := by decide +kernel
theorem d_Press_solve_27 : decode prog_6_method_5_code 27 = .ok (.aload_n 0, 1) := by decide +kernel
theorem d_Press_solve_28 : decode prog_6_method_5_code 28 = .ok (.iload_n 1, 1) := by decide +kernel
theorem d_Press_solve_29 : decode prog_6_method_5_code 29 = .ok (.invokevirtual 105, 3) := by decide +kernel
theorem d_Press_solve_32 : decode prog_6_method_5_code 32 = .ok (.aload_n 0, 1) := by decide +kernel
theorem d_Press_solve_33 : decode prog_6_method_5_code 33 = .ok (.getfield 25, 3) := by decide +kernel
theorem d_Press_solve_36 : decode prog_6_method_5_code 36 = .ok (.iload_n 1, 1) := by decide +kernel
theorem d_Press_solve_37 : decode prog_6_method_5_code 37 = .ok (.iaload, 1) := by decide +kernel
theorem d_Press_solve_38 : decode prog_6_method_5_code 38 = .ok (.bipush 99, 2) := by decide +kernel
theorem d_Press_solve_40 : decode prog_6_method_5_code 40 = .ok (.if_icmp .ge 12, 3) := by decide +kernel
theorem d_Press_solve_43 : decode prog_6_method_5_code 43 = .ok (.aload_n 0, 1) := by decide +kernel
theorem d_Press_solve_44 : decode prog_6_method_5_code 44 = .ok (.getfield 25, 3) := by decide +kernel
theorem d_Press_solve_47 : decode prog_6_method_5_code 47 = .ok (.iload_n 1, 1) := by decide +kernel
theorem d_Press_solve_48 : decode prog_6_method_5_code 48 = .ok (.iaload, 1) := by decide +kernel
theorem d_Press_solve_49 : decode prog_6_method_5_code 49 = .ok (.goto 5, 3) := by decide +kernel
theorem d_Press_solve_52 : decode prog_6_method_5_code 52 = .ok (.bipush (-4), 2) := by decide +kernel
theorem d_Press_solve_54 : decode prog_6_method_5_code 54 = .ok (.ireturn, 1) := by decide +kernel
theorem d_Press_firstPull_0 : decode prog_6_method_8_code 0 = .ok (.aload_n 0, 1) := by decide +kernel
theorem d_Press_firstPull_1 : decode prog_6_method_8_code 1 = .ok (.getfield 25, 3) := by decide +kernel
theorem d_Press_firstPull_4 : decode prog_6_method_8_code 4 = .ok (.iload_n 1, 1) := by decide +kernel
theorem d_Press_firstPull_5 : decode prog_6_method_8_code 5 = .ok (.iaload, 1) := by decide +kernel
theorem d_Press_firstPull_6 : decode prog_6_method_8_code 6 = .ok (.iconst 1, 1) := by decide +kernel
theorem d_Press_firstPull_7 : decode prog_6_method_8_code 7 = .ok (.if_icmp .le 55, 3) := by decide +kernel
theorem d_Press_firstPull_10 : decode prog_6_method_8_code 10 = .ok (.iconst 1, 1) := by decide +kernel
theorem d_Press_firstPull_11 : decode prog_6_method_8_code 11 = .ok (.istore_n 2, 1) := by decide +kernel
theorem d_Press_firstPull_12 : decode prog_6_method_8_code 12 = .ok (.iload_n 2, 1) := by decide +kernel
theorem d_Press_firstPull_13 : decode prog_6_method_8_code 13 = .ok (.iload_n 1, 1) := by decide +kernel
theorem d_Press_firstPull_14 : decode prog_6_method_8_code 14 = .ok (.if_icmp .ge 48, 3) := by decide +kernel
theorem d_Press_firstPull_17 : decode prog_6_method_8_code 17 = .ok (.iload_n 2, 1) := by decide +kernel
theorem d_Press_firstPull_18 : decode prog_6_method_8_code 18 = .ok (.iload_n 1, 1) := by decide +kernel
theorem d_Press_firstPull_19 : decode prog_6_method_8_code 19 = .ok (.iconst (-1), 1) := by decide +kernel
theorem d_Press_firstPull_20 : decode prog_6_method_8_code 20 = .ok (.ixor, 1) := by decide +kernel
theorem d_Press_firstPull_21 : decode prog_6_method_8_code 21 = .ok (.iand, 1) := by decide +kernel
theorem d_Press_firstPull_22 : decode prog_6_method_8_code 22 = .ok (.ifCond .ne 34, 3) := by decide +kernel
theorem d_Press_firstPull_25 : decode prog_6_method_8_code 25 = .ok (.aload_n 0, 1) := by decide +kernel
theorem d_Press_firstPull_26 : decode prog_6_method_8_code 26 = .ok (.getfield 25, 3) := by decide +kernel
theorem d_Press_firstPull_29 : decode prog_6_method_8_code 29 = .ok (.iload_n 2, 1) := by decide +kernel
theorem d_Press_firstPull_30 : decode prog_6_method_8_code 30 = .ok (.iaload, 1) := by decide +kernel
theorem d_Press_firstPull_31 : decode prog_6_method_8_code 31 = .ok (.iconst 1, 1) := by decide +kernel
theorem d_Press_firstPull_32 : decode prog_6_method_8_code 32 = .ok (.if_icmp .ne 24, 3) := by decide +kernel
theorem d_Press_firstPull_35 : decode prog_6_method_8_code 35 = .ok (.aload_n 0, 1) := by decide +kernel
theorem d_Press_firstPull_36 : decode prog_6_method_8_code 36 = .ok (.getfield 25, 3) := by decide +kernel
theorem d_Press_firstPull_39 : decode prog_6_method_8_code 39 = .ok (.iload_n 1, 1) := by decide +kernel
theorem d_Press_firstPull_40 : decode prog_6_method_8_code 40 = .ok (.iload_n 2, 1) := by decide +kernel
theorem d_Press_firstPull_41 : decode prog_6_method_8_code 41 = .ok (.ixor, 1) := by decide +kernel
theorem d_Press_firstPull_42 : decode prog_6_method_8_code 42 = .ok (.iaload, 1) := by decide +kernel
theorem d_Press_firstPull_43 : decode prog_6_method_8_code 43 = .ok (.aload_n 0, 1) := by decide +kernel
theorem d_Press_firstPull_44 : decode prog_6_method_8_code 44 = .ok (.getfield 25, 3) := by decide +kernel
theorem d_Press_firstPull_47 : decode prog_6_method_8_code 47 = .ok (.iload_n 1, 1) := by decide +kernel
theorem d_Press_firstPull_48 : decode prog_6_method_8_code 48 = .ok (.iaload, 1) := by decide +kernel
theorem d_Press_firstPull_49 : decode prog_6_method_8_code 49 = .ok (.iconst 1, 1) := by decide +kernel
theorem d_Press_firstPull_50 : decode prog_6_method_8_code 50 = .ok (.isub, 1) := by decide +kernel
theorem d_Press_firstPull_51 : decode prog_6_method_8_code 51 = .ok (.if_icmp .ne 5, 3) := by decide +kernel
theorem d_Press_firstPull_54 : decode prog_6_method_8_code 54 = .ok (.iload_n 2, 1) := by decide +kernel
theorem d_Press_firstPull_55 : decode prog_6_method_8_code 55 = .ok (.ireturn, 1) := by decide +kernel
theorem d_Press_firstPull_56 : decode prog_6_method_8_code 56 = .ok (.iinc 2 1, 3) := by decide +kernel
theorem d_Press_firstPull_59 : decode prog_6_method_8_code 59 = .ok (.goto (-47), 3) := by decide +kernel
theorem d_Press_firstPull_62 : decode prog_6_method_8_code 62 = .ok (.iload_n 1, 1) := by decide +kernel
theorem d_Press_firstPull_63 : decode prog_6_method_8_code 63 = .ok (.ireturn, 1) := by decide +kernel
theorem d_Press_findPlan_0 : decode prog_6_method_7_code 0 = .ok (.iconst 1, 1) := by decide +kernel
theorem d_Press_findPlan_1 : decode prog_6_method_7_code 1 = .ok (.aload_n 0, 1) := by decide +kernel
theorem d_Press_findPlan_2 : decode prog_6_method_7_code 2 = .ok (.getfield 28, 3) := by decide +kernel
theorem d_Press_findPlan_5 : decode prog_6_method_7_code 5 = .ok (.ishl, 1) := by decide +kernel
theorem d_Press_findPlan_6 : decode prog_6_method_7_code 6 = .ok (.iconst 1, 1) := by decide +kernel
theorem d_Press_findPlan_7 : decode prog_6_method_7_code 7 = .ok (.isub, 1) := by decide +kernel
theorem d_Press_findPlan_8 : decode prog_6_method_7_code 8 = .ok (.istore_n 2, 1) := by decide +kernel
theorem d_Press_findPlan_9 : decode prog_6_method_7_code 9 = .ok (.iconst 0, 1) := by decide +kernel
theorem d_Press_findPlan_10 : decode prog_6_method_7_code 10 = .ok (.istore_n 3, 1) := by decide +kernel
theorem d_Press_findPlan_11 : decode prog_6_method_7_code 11 = .ok (.iload_n 3, 1) := by decide +kernel
theorem d_Press_findPlan_12 : decode prog_6_method_7_code 12 = .ok (.aload_n 1, 1) := by decide +kernel
theorem d_Press_findPlan_13 : decode prog_6_method_7_code 13 = .ok (.arraylength, 1) := by decide +kernel
theorem d_Press_findPlan_14 : decode prog_6_method_7_code 14 = .ok (.if_icmp .ge 29, 3) := by decide +kernel
theorem d_Press_findPlan_17 : decode prog_6_method_7_code 17 = .ok (.iload_n 2, 1) := by decide +kernel
theorem d_Press_findPlan_18 : decode prog_6_method_7_code 18 = .ok (.ifCond .eq 25, 3) := by decide +kernel
theorem d_Press_findPlan_21 : decode prog_6_method_7_code 21 = .ok (.aload_n 1, 1) := by decide +kernel
theorem d_Press_findPlan_22 : decode prog_6_method_7_code 22 = .ok (.iload_n 3, 1) := by decide +kernel
theorem d_Press_findPlan_23 : decode prog_6_method_7_code 23 = .ok (.aload_n 0, 1) := by decide +kernel
theorem d_Press_findPlan_24 : decode prog_6_method_7_code 24 = .ok (.iload_n 2, 1) := by decide +kernel
theorem d_Press_findPlan_25 : decode prog_6_method_7_code 25 = .ok (.invokevirtual 121, 3) := by decide +kernel
theorem d_Press_findPlan_28 : decode prog_6_method_7_code 28 = .ok (.iastore, 1) := by decide +kernel
theorem d_Press_findPlan_29 : decode prog_6_method_7_code 29 = .ok (.iload_n 2, 1) := by decide +kernel
theorem d_Press_findPlan_30 : decode prog_6_method_7_code 30 = .ok (.aload_n 1, 1) := by decide +kernel
theorem d_Press_findPlan_31 : decode prog_6_method_7_code 31 = .ok (.iload_n 3, 1) := by decide +kernel
theorem d_Press_findPlan_32 : decode prog_6_method_7_code 32 = .ok (.iaload, 1) := by decide +kernel
theorem d_Press_findPlan_33 : decode prog_6_method_7_code 33 = .ok (.iconst (-1), 1) := by decide +kernel
theorem d_Press_findPlan_34 : decode prog_6_method_7_code 34 = .ok (.ixor, 1) := by decide +kernel
theorem d_Press_findPlan_35 : decode prog_6_method_7_code 35 = .ok (.iand, 1) := by decide +kernel
theorem d_Press_findPlan_36 : decode prog_6_method_7_code 36 = .ok (.istore_n 2, 1) := by decide +kernel
theorem d_Press_findPlan_37 : decode prog_6_method_7_code 37 = .ok (.iinc 3 1, 3) := by decide +kernel
theorem d_Press_findPlan_40 : decode prog_6_method_7_code 40 = .ok (.goto (-29), 3) := by decide +kernel
theorem d_Press_findPlan_43 : decode prog_6_method_7_code 43 = .ok (.return_, 1) := by decide +kernel
theorem d_X_pullsFor_0 : decode prog_1_method_44_code 0 = .ok (.iload_n 1, 1) := by decide +kernel
theorem d_X_pullsFor_1 : decode prog_1_method_44_code 1 = .ok (.bipush 8, 2) := by decide +kernel
theorem d_X_pullsFor_3 : decode prog_1_method_44_code 3 = .ok (.if_icmp .ne 13, 3) := by decide +kernel
theorem d_X_pullsFor_6 : decode prog_1_method_44_code 6 = .ok (.aload_n 0, 1) := by decide +kernel
theorem d_X_pullsFor_7 : decode prog_1_method_44_code 7 = .ok (.getfield 12, 3) := by decide +kernel
theorem d_X_pullsFor_10 : decode prog_1_method_44_code 10 = .ok (.getfield 139, 3) := by decide +kernel
theorem d_X_pullsFor_13 : decode prog_1_method_44_code 13 = .ok (.goto 12, 3) := by decide +kernel
theorem d_X_pullsFor_16 : decode prog_1_method_44_code 16 = .ok (.aload_n 0, 1) := by decide +kernel
theorem d_X_pullsFor_17 : decode prog_1_method_44_code 17 = .ok (.getfield 12, 3) := by decide +kernel
theorem d_X_pullsFor_20 : decode prog_1_method_44_code 20 = .ok (.getfield 236, 3) := by decide +kernel
theorem d_X_pullsFor_23 : decode prog_1_method_44_code 23 = .ok (.iload_n 1, 1) := by decide +kernel
theorem d_X_pullsFor_24 : decode prog_1_method_44_code 24 = .ok (.aaload, 1) := by decide +kernel
theorem d_X_pullsFor_25 : decode prog_1_method_44_code 25 = .ok (.astore_n 2, 1) := by decide +kernel
theorem d_X_pullsFor_26 : decode prog_1_method_44_code 26 = .ok (.aload_n 2, 1) := by decide +kernel
theorem d_X_pullsFor_27 : decode prog_1_method_44_code 27 = .ok (.getfield 161, 3) := by decide +kernel
theorem d_X_pullsFor_30 : decode prog_1_method_44_code 30 = .ok (.ifCond .ne 6, 3) := by decide +kernel
theorem d_X_pullsFor_33 : decode prog_1_method_44_code 33 = .ok (.bipush (-2), 2) := by decide +kernel
theorem d_X_pullsFor_35 : decode prog_1_method_44_code 35 = .ok (.ireturn, 1) := by decide +kernel
theorem d_X_pullsFor_36 : decode prog_1_method_44_code 36 = .ok (.aload_n 0, 1) := by decide +kernel
theorem d_X_pullsFor_37 : decode prog_1_method_44_code 37 = .ok (.getfield 58, 3) := by decide +kernel
theorem d_X_pullsFor_40 : decode prog_1_method_44_code 40 = .ok (.iload_n 1, 1) := by decide +kernel
theorem d_X_pullsFor_41 : decode prog_1_method_44_code 41 = .ok (.iaload, 1) := by decide +kernel
theorem d_X_pullsFor_42 : decode prog_1_method_44_code 42 = .ok (.ifCond .ne 89, 3) := by decide +kernel
theorem d_X_pullsFor_45 : decode prog_1_method_44_code 45 = .ok (.aload_n 0, 1) := by decide +kernel
theorem d_X_pullsFor_46 : decode prog_1_method_44_code 46 = .ok (.getfield 58, 3) := by decide +kernel
theorem d_X_pullsFor_49 : decode prog_1_method_44_code 49 = .ok (.iload_n 1, 1) := by decide +kernel
theorem d_X_pullsFor_50 : decode prog_1_method_44_code 50 = .ok (.bipush (-4), 2) := by decide +kernel
theorem d_X_pullsFor_52 : decode prog_1_method_44_code 52 = .ok (.iastore, 1) := by decide +kernel
theorem d_X_pullsFor_53 : decode prog_1_method_44_code 53 = .ok (.aload_n 2, 1) := by decide +kernel
theorem d_X_pullsFor_54 : decode prog_1_method_44_code 54 = .ok (.aload_n 0, 1) := by decide +kernel
theorem d_X_pullsFor_55 : decode prog_1_method_44_code 55 = .ok (.getfield 12, 3) := by decide +kernel
theorem d_X_pullsFor_58 : decode prog_1_method_44_code 58 = .ok (.getfield 82, 3) := by decide +kernel
theorem d_X_pullsFor_61 : decode prog_1_method_44_code 61 = .ok (.iconst (-1), 1) := by decide +kernel
theorem d_X_pullsFor_62 : decode prog_1_method_44_code 62 = .ok (.invokevirtual 246, 3) := by decide +kernel
theorem d_X_pullsFor_65 : decode prog_1_method_44_code 65 = .ok (.ifCond .eq 66, 3) := by decide +kernel
theorem d_X_pullsFor_68 : decode prog_1_method_44_code 68 = .ok (.aload_n 0, 1) := by decide +kernel
theorem d_X_pullsFor_69 : decode prog_1_method_44_code 69 = .ok (.getfield 33, 3) := by decide +kernel
theorem d_X_pullsFor_72 : decode prog_1_method_44_code 72 = .ok (.aload_n 2, 1) := by decide +kernel
theorem d_X_pullsFor_73 : decode prog_1_method_44_code 73 = .ok (.aload_n 0, 1) := by decide +kernel
theorem d_X_pullsFor_74 : decode prog_1_method_44_code 74 = .ok (.getfield 12, 3) := by decide +kernel
theorem d_X_pullsFor_77 : decode prog_1_method_44_code 77 = .ok (.getfield 82, 3) := by decide +kernel
theorem d_X_pullsFor_80 : decode prog_1_method_44_code 80 = .ok (.aload_n 0, 1) := by decide +kernel
theorem d_X_pullsFor_81 : decode prog_1_method_44_code 81 = .ok (.getfield 12, 3) := by decide +kernel
theorem d_X_pullsFor_84 : decode prog_1_method_44_code 84 = .ok (.getfield 125, 3) := by decide +kernel
theorem d_X_pullsFor_87 : decode prog_1_method_44_code 87 = .ok (.iconst 0, 1) := by decide +kernel
theorem d_X_pullsFor_88 : decode prog_1_method_44_code 88 = .ok (.iaload, 1) := by decide +kernel
theorem d_X_pullsFor_89 : decode prog_1_method_44_code 89 = .ok (.iconst 1, 1) := by decide +kernel
theorem d_X_pullsFor_90 : decode prog_1_method_44_code 90 = .ok (.if_icmp .ne 7, 3) := by decide +kernel
theorem d_X_pullsFor_93 : decode prog_1_method_44_code 93 = .ok (.iconst 1, 1) := by decide +kernel
theorem d_X_pullsFor_94 : decode prog_1_method_44_code 94 = .ok (.goto 4, 3) := by decide +kernel
theorem d_X_pullsFor_97 : decode prog_1_method_44_code 97 = .ok (.iconst 0, 1) := by decide +kernel
theorem d_X_pullsFor_98 : decode prog_1_method_44_code 98 = .ok (.invokevirtual 310, 3) := by decide +kernel
theorem d_X_pullsFor_101 : decode prog_1_method_44_code 101 = .ok (.aload_n 0, 1) := by decide +kernel
theorem d_X_pullsFor_102 : decode prog_1_method_44_code 102 = .ok (.getfield 58, 3) := by decide +kernel
theorem d_X_pullsFor_105 : decode prog_1_method_44_code 105 = .ok (.iload_n 1, 1) := by decide +kernel
theorem d_X_pullsFor_106 : decode prog_1_method_44_code 106 = .ok (.aload_n 0, 1) := by decide +kernel
theorem d_X_pullsFor_107 : decode prog_1_method_44_code 107 = .ok (.getfield 33, 3) := by decide +kernel
theorem d_X_pullsFor_110 : decode prog_1_method_44_code 110 = .ok (.invokevirtual 314, 3) := by decide +kernel
theorem d_X_pullsFor_113 : decode prog_1_method_44_code 113 = .ok (.iastore, 1) := by decide +kernel
theorem d_X_pullsFor_114 : decode prog_1_method_44_code 114 = .ok (.iload_n 1, 1) := by decide +kernel
theorem d_X_pullsFor_115 : decode prog_1_method_44_code 115 = .ok (.bipush 8, 2) := by decide +kernel
theorem d_X_pullsFor_117 : decode prog_1_method_44_code 117 = .ok (.if_icmp .ne 14, 3) := by decide +kernel
theorem d_X_pullsFor_120 : decode prog_1_method_44_code 120 = .ok (.aload_n 0, 1) := by decide +kernel
theorem d_X_pullsFor_121 : decode prog_1_method_44_code 121 = .ok (.getfield 33, 3) := by decide +kernel
theorem d_X_pullsFor_124 : decode prog_1_method_44_code 124 = .ok (.aload_n 0, 1) := by decide +kernel
theorem d_X_pullsFor_125 : decode prog_1_method_44_code 125 = .ok (.getfield 62, 3) := by decide +kernel
theorem d_X_pullsFor_128 : decode prog_1_method_44_code 128 = .ok (.invokevirtual 317, 3) := by decide +kernel
theorem d_X_pullsFor_131 : decode prog_1_method_44_code 131 = .ok (.aload_n 0, 1) := by decide +kernel
theorem d_X_pullsFor_132 : decode prog_1_method_44_code 132 = .ok (.getfield 58, 3) := by decide +kernel
theorem d_X_pullsFor_135 : decode prog_1_method_44_code 135 = .ok (.iload_n 1, 1) := by decide +kernel
theorem d_X_pullsFor_136 : decode prog_1_method_44_code 136 = .ok (.iaload, 1) := by decide +kernel
theorem d_X_pullsFor_137 : decode prog_1_method_44_code 137 = .ok (.ireturn, 1) := by decide +kernel
theorem d_X_fewest_0 : decode prog_1_method_14_code 0 = .ok (.aload_n 0, 1) := by decide +kernel
theorem d_X_fewest_1 : decode prog_1_method_14_code 1 = .ok (.bipush 8, 2) := by decide +kernel
theorem d_X_fewest_3 : decode prog_1_method_14_code 3 = .ok (.invokevirtual 193, 3) := by decide +kernel
theorem d_X_fewest_6 : decode prog_1_method_14_code 6 = .ok (.ireturn, 1) := by decide +kernel
theorem d_X_plan_0 : decode prog_1_method_15_code 0 = .ok (.iload_n 1, 1) := by decide +kernel
theorem d_X_plan_1 : decode prog_1_method_15_code 1 = .ok (.ifCond .lt 9, 3) := by decide +kernel
theorem d_X_plan_4 : decode prog_1_method_15_code 4 = .ok (.iload_n 1, 1) := by decide +kernel
theorem d_X_plan_5 : decode prog_1_method_15_code 5 = .ok (.bipush 10, 2) := by decide +kernel
theorem d_X_plan_7 : decode prog_1_method_15_code 7 = .ok (.if_icmp .lt 5, 3) := by decide +kernel
theorem d_X_plan_10 : decode prog_1_method_15_code 10 = .ok (.iconst (-1), 1) := by decide +kernel
theorem d_X_plan_11 : decode prog_1_method_15_code 11 = .ok (.ireturn, 1) := by decide +kernel
theorem d_X_plan_12 : decode prog_1_method_15_code 12 = .ok (.aload_n 0, 1) := by decide +kernel
theorem d_X_plan_13 : decode prog_1_method_15_code 13 = .ok (.bipush 8, 2) := by decide +kernel
theorem d_X_plan_15 : decode prog_1_method_15_code 15 = .ok (.invokevirtual 193, 3) := by decide +kernel
theorem d_X_plan_18 : decode prog_1_method_15_code 18 = .ok (.istore_n 2, 1) := by decide +kernel
theorem d_X_plan_19 : decode prog_1_method_15_code 19 = .ok (.iload_n 2, 1) := by decide +kernel
theorem d_X_plan_20 : decode prog_1_method_15_code 20 = .ok (.ifCond .ge 5, 3) := by decide +kernel
theorem d_X_plan_23 : decode prog_1_method_15_code 23 = .ok (.iload_n 2, 1) := by decide +kernel
theorem d_X_plan_24 : decode prog_1_method_15_code 24 = .ok (.ireturn, 1) := by decide +kernel
theorem d_X_plan_25 : decode prog_1_method_15_code 25 = .ok (.iload_n 1, 1) := by decide +kernel
theorem d_X_plan_26 : decode prog_1_method_15_code 26 = .ok (.iload_n 2, 1) := by decide +kernel
theorem d_X_plan_27 : decode prog_1_method_15_code 27 = .ok (.if_icmp .ge 12, 3) := by decide +kernel
theorem d_X_plan_30 : decode prog_1_method_15_code 30 = .ok (.aload_n 0, 1) := by decide +kernel
theorem d_X_plan_31 : decode prog_1_method_15_code 31 = .ok (.getfield 62, 3) := by decide +kernel
theorem d_X_plan_34 : decode prog_1_method_15_code 34 = .ok (.iload_n 1, 1) := by decide +kernel
theorem d_X_plan_35 : decode prog_1_method_15_code 35 = .ok (.iaload, 1) := by decide +kernel
theorem d_X_plan_36 : decode prog_1_method_15_code 36 = .ok (.goto 5, 3) := by decide +kernel
theorem d_X_plan_39 : decode prog_1_method_15_code 39 = .ok (.bipush (-4), 2) := by decide +kernel
theorem d_X_plan_41 : decode prog_1_method_15_code 41 = .ok (.ireturn, 1) := by decide +kernel
theorem d_Line_howOften_0 : decode prog_4_method_9_code 0 = .ok (.iconst 0, 1) := by decide +kernel
theorem d_Line_howOften_1 : decode prog_4_method_9_code 1 = .ok (.istore_n 2, 1) := by decide +kernel
theorem d_Line_howOften_2 : decode prog_4_method_9_code 2 = .ok (.iconst 0, 1) := by decide +kernel
theorem d_Line_howOften_3 : decode prog_4_method_9_code 3 = .ok (.istore_n 3, 1) := by decide +kernel
theorem d_Line_howOften_4 : decode prog_4_method_9_code 4 = .ok (.iload_n 3, 1) := by decide +kernel
theorem d_Line_howOften_5 : decode prog_4_method_9_code 5 = .ok (.aload_n 0, 1) := by decide +kernel
theorem d_Line_howOften_6 : decode prog_4_method_9_code 6 = .ok (.getfield 15, 3) := by decide +kernel
theorem d_Line_howOften_9 : decode prog_4_method_9_code 9 = .ok (.if_icmp .ge 22, 3) := by decide +kernel
theorem d_Line_howOften_12 : decode prog_4_method_9_code 12 = .ok (.aload_n 0, 1) := by decide +kernel
theorem d_Line_howOften_13 : decode prog_4_method_9_code 13 = .ok (.getfield 9, 3) := by decide +kernel
theorem d_Line_howOften_16 : decode prog_4_method_9_code 16 = .ok (.iload_n 3, 1) := by decide +kernel
theorem d_Line_howOften_17 : decode prog_4_method_9_code 17 = .ok (.iaload, 1) := by decide +kernel
theorem d_Line_howOften_18 : decode prog_4_method_9_code 18 = .ok (.iload_n 1, 1) := by decide +kernel
theorem d_Line_howOften_19 : decode prog_4_method_9_code 19 = .ok (.if_icmp .ne 6, 3) := by decide +kernel
theorem d_Line_howOften_22 : decode prog_4_method_9_code 22 = .ok (.iinc 2 1, 3) := by decide +kernel
theorem d_Line_howOften_25 : decode prog_4_method_9_code 25 = .ok (.iinc 3 1, 3) := by decide +kernel
theorem d_Line_howOften_28 : decode prog_4_method_9_code 28 = .ok (.goto (-24), 3) := by decide +kernel
theorem d_Line_howOften_31 : decode prog_4_method_9_code 31 = .ok (.iload_n 2, 1) := by decide +kernel
theorem d_Line_howOften_32 : decode prog_4_method_9_code 32 = .ok (.ireturn, 1) := by decide +kernel
theorem d_Case_printers_0 : decode prog_2_method_11_code 0 = .ok (.iconst 0, 1) := by decide +kernel
theorem d_Case_printers_1 : decode prog_2_method_11_code 1 = .ok (.istore_n 2, 1) := by decide +kernel
theorem d_Case_printers_2 : decode prog_2_method_11_code 2 = .ok (.iconst 0, 1) := by decide +kernel
theorem d_Case_printers_3 : decode prog_2_method_11_code 3 = .ok (.istore_n 3, 1) := by decide +kernel
theorem d_Case_printers_4 : decode prog_2_method_11_code 4 = .ok (.iload_n 3, 1) := by decide +kernel
theorem d_Case_printers_5 : decode prog_2_method_11_code 5 = .ok (.aload_n 0, 1) := by decide +kernel
theorem d_Case_printers_6 : decode prog_2_method_11_code 6 = .ok (.getfield 21, 3) := by decide +kernel
theorem d_Case_printers_9 : decode prog_2_method_11_code 9 = .ok (.if_icmp .ge 55, 3) := by decide +kernel
theorem d_Case_printers_12 : decode prog_2_method_11_code 12 = .ok (.aload_n 0, 1) := by decide +kernel
theorem d_Case_printers_13 : decode prog_2_method_11_code 13 = .ok (.getfield 15, 3) := by decide +kernel
theorem d_Case_printers_16 : decode prog_2_method_11_code 16 = .ok (.iload_n 3, 1) := by decide +kernel
theorem d_Case_printers_17 : decode prog_2_method_11_code 17 = .ok (.iaload, 1) := by decide +kernel
theorem d_Case_printers_18 : decode prog_2_method_11_code 18 = .ok (.iload_n 1, 1) := by decide +kernel
theorem d_Case_printers_19 : decode prog_2_method_11_code 19 = .ok (.if_icmp .ne 6, 3) := by decide +kernel
theorem d_Case_printers_22 : decode prog_2_method_11_code 22 = .ok (.iinc 2 1, 3) := by decide +kernel
theorem d_Case_printers_25 : decode prog_2_method_11_code 25 = .ok (.aload_n 0, 1) := by decide +kernel
theorem d_Case_printers_26 : decode prog_2_method_11_code 26 = .ok (.getfield 9, 3) := by decide +kernel
theorem d_Case_printers_29 : decode prog_2_method_11_code 29 = .ok (.iload_n 3, 1) := by decide +kernel
theorem d_Case_printers_30 : decode prog_2_method_11_code 30 = .ok (.iaload, 1) := by decide +kernel
theorem d_Case_printers_31 : decode prog_2_method_11_code 31 = .ok (.iconst 1, 1) := by decide +kernel
theorem d_Case_printers_32 : decode prog_2_method_11_code 32 = .ok (.if_icmp .eq 13, 3) := by decide +kernel
theorem d_Case_printers_35 : decode prog_2_method_11_code 35 = .ok (.aload_n 0, 1) := by decide +kernel
theorem d_Case_printers_36 : decode prog_2_method_11_code 36 = .ok (.getfield 9, 3) := by decide +kernel
theorem d_Case_printers_39 : decode prog_2_method_11_code 39 = .ok (.iload_n 3, 1) := by decide +kernel
theorem d_Case_printers_40 : decode prog_2_method_11_code 40 = .ok (.iaload, 1) := by decide +kernel
theorem d_Case_printers_41 : decode prog_2_method_11_code 41 = .ok (.iconst 2, 1) := by decide +kernel
theorem d_Case_printers_42 : decode prog_2_method_11_code 42 = .ok (.if_icmp .ne 16, 3) := by decide +kernel
theorem d_Case_printers_45 : decode prog_2_method_11_code 45 = .ok (.aload_n 0, 1) := by decide +kernel
theorem d_Case_printers_46 : decode prog_2_method_11_code 46 = .ok (.getfield 18, 3) := by decide +kernel
theorem d_Case_printers_49 : decode prog_2_method_11_code 49 = .ok (.iload_n 3, 1) := by decide +kernel
theorem d_Case_printers_50 : decode prog_2_method_11_code 50 = .ok (.iaload, 1) := by decide +kernel
theorem d_Case_printers_51 : decode prog_2_method_11_code 51 = .ok (.iload_n 1, 1) := by decide +kernel
theorem d_Case_printers_52 : decode prog_2_method_11_code 52 = .ok (.if_icmp .ne 6, 3) := by decide +kernel
theorem d_Case_printers_55 : decode prog_2_method_11_code 55 = .ok (.iinc 2 1, 3) := by decide +kernel
theorem d_Case_printers_58 : decode prog_2_method_11_code 58 = .ok (.iinc 3 1, 3) := by decide +kernel
theorem d_Case_printers_61 : decode prog_2_method_11_code 61 = .ok (.goto (-57), 3) := by decide +kernel
theorem d_Case_printers_64 : decode prog_2_method_11_code 64 = .ok (.iload_n 2, 1) := by decide +kernel
theorem d_Case_printers_65 : decode prog_2_method_11_code 65 = .ok (.ireturn, 1) := by decide +kernel
def f_Integer_bitCount (a0 : Int32) : Option (Int32) :=
  fw_nm ((a0 - ((UInt32.toInt32 (Int32.toUInt32 a0 >>> (Int32.toUInt32 1 &&& Int32.toUInt32 31))) &&& 1431655765))) fun (v9 : Int32) =>
  fw_nm (((v9 &&& 858993459) + ((UInt32.toInt32 (Int32.toUInt32 v9 >>> (Int32.toUInt32 2 &&& Int32.toUInt32 31))) &&& 858993459))) fun (v23 : Int32) =>
  fw_nm (((v23 + (UInt32.toInt32 (Int32.toUInt32 v23 >>> (Int32.toUInt32 4 &&& Int32.toUInt32 31)))) &&& 252645135)) fun (v33 : Int32) =>
  fw_nm ((v33 + (UInt32.toInt32 (Int32.toUInt32 v33 >>> (Int32.toUInt32 8 &&& Int32.toUInt32 31))))) fun (v40 : Int32) =>
  fw_nm ((v40 + (UInt32.toInt32 (Int32.toUInt32 v40 >>> (Int32.toUInt32 16 &&& Int32.toUInt32 31))))) fun (v47 : Int32) =>
  some (v47 &&& 63)
set_option maxHeartbeats 4000000 in
set_option maxRecDepth 100000 in
theorem c_Integer_bitCount {a0 : Int32} {μ : fw_M} {r : Int32} (h : f_Integer_bitCount a0 = some r) : fw_Con Y_Integer_bitCount fw_X 1 [.int a0] (some r) μ μ := by
  refine fw_con (by decide) (Nat.le_of_ble_eq_true rfl) ?_
  rw [f_Integer_bitCount] at h
  show fw_R "java/lang/Integer" prog_12_method_49_code 1 (some .int) fw_X 1 (some r) μ 0 [(0, .int a0)] [] μ
  refine fw_iload_n (pc := 0) d_Integer_bitCount_0 0 rfl rfl ?_
  refine fw_iload_n (pc := 1) d_Integer_bitCount_1 0 rfl rfl ?_
  refine fw_iconst (pc := 2) d_Integer_bitCount_2 fw_ic1 ?_
  refine fw_iushr (pc := 3) d_Integer_bitCount_3 ?_
  refine fw_ldcw (pc := 4) d_Integer_bitCount_4 cw_Integer_265 ?_
  refine fw_iand (pc := 7) d_Integer_bitCount_7 ?_
  refine fw_isub (pc := 8) d_Integer_bitCount_8 ?_
  obtain ⟨v9, e9, h⟩ := fw_ne h
  refine fw_top e9 ?_
  refine fw_istore_n (pc := 9) (lv1 := [(0, .int v9)]) d_Integer_bitCount_9 rfl (by decide) rfl ?_
  refine fw_iload_n (pc := 10) d_Integer_bitCount_10 0 rfl rfl ?_
  refine fw_ldcw (pc := 11) d_Integer_bitCount_11 cw_Integer_266 ?_
  refine fw_iand (pc := 14) d_Integer_bitCount_14 ?_
  refine fw_iload_n (pc := 15) d_Integer_bitCount_15 0 rfl rfl ?_
  refine fw_iconst (pc := 16) d_Integer_bitCount_16 fw_ic2 ?_
  refine fw_iushr (pc := 17) d_Integer_bitCount_17 ?_
  refine fw_ldcw (pc := 18) d_Integer_bitCount_18 cw_Integer_266 ?_
  refine fw_iand (pc := 21) d_Integer_bitCount_21 ?_
  refine fw_iadd (pc := 22) d_Integer_bitCount_22 ?_
  obtain ⟨v23, e23, h⟩ := fw_ne h
  refine fw_top e23 ?_
  refine fw_istore_n (pc := 23) (lv1 := [(0, .int v23)]) d_Integer_bitCount_23 rfl (by decide) rfl ?_
  refine fw_iload_n (pc := 24) d_Integer_bitCount_24 0 rfl rfl ?_
  refine fw_iload_n (pc := 25) d_Integer_bitCount_25 0 rfl rfl ?_
  refine fw_iconst (pc := 26) d_Integer_bitCount_26 fw_ic4 ?_
  refine fw_iushr (pc := 27) d_Integer_bitCount_27 ?_
  refine fw_iadd (pc := 28) d_Integer_bitCount_28 ?_
  refine fw_ldcw (pc := 29) d_Integer_bitCount_29 cw_Integer_267 ?_
  refine fw_iand (pc := 32) d_Integer_bitCount_32 ?_
  obtain ⟨v33, e33, h⟩ := fw_ne h
  refine fw_top e33 ?_
  refine fw_istore_n (pc := 33) (lv1 := [(0, .int v33)]) d_Integer_bitCount_33 rfl (by decide) rfl ?_
  refine fw_iload_n (pc := 34) d_Integer_bitCount_34 0 rfl rfl ?_
  refine fw_iload_n (pc := 35) d_Integer_bitCount_35 0 rfl rfl ?_
  refine fw_bipush (pc := 36) d_Integer_bitCount_36 fw_bp8 ?_
  refine fw_iushr (pc := 38) d_Integer_bitCount_38 ?_
  refine fw_iadd (pc := 39) d_Integer_bitCount_39 ?_
  obtain ⟨v40, e40, h⟩ := fw_ne h
  refine fw_top e40 ?_
  refine fw_istore_n (pc := 40) (lv1 := [(0, .int v40)]) d_Integer_bitCount_40 rfl (by decide) rfl ?_
  refine fw_iload_n (pc := 41) d_Integer_bitCount_41 0 rfl rfl ?_
  refine fw_iload_n (pc := 42) d_Integer_bitCount_42 0 rfl rfl ?_
  refine fw_bipush (pc := 43) d_Integer_bitCount_43 fw_bp16 ?_
  refine fw_iushr (pc := 45) d_Integer_bitCount_45 ?_
  refine fw_iadd (pc := 46) d_Integer_bitCount_46 ?_
  obtain ⟨v47, e47, h⟩ := fw_ne h
  refine fw_top e47 ?_
  refine fw_istore_n (pc := 47) (lv1 := [(0, .int v47)]) d_Integer_bitCount_47 rfl (by decide) rfl ?_
  refine fw_iload_n (pc := 48) d_Integer_bitCount_48 0 rfl rfl ?_
  refine fw_bipush (pc := 49) d_Integer_bitCount_49 fw_bp63 ?_
  refine fw_iand (pc := 51) d_Integer_bitCount_51 ?_
  obtain rfl := Option.some.inj h
  exact fw_iret (pc := 52) d_Integer_bitCount_52 rfl
def f_Press_lowestOf_L2 (a1 : Int32) (μ : fw_M) (x2_2 : Int32) : Option ((Int32) ⊕ (Int32)) :=
  if ((μ.1 65 5) - 1) ≤ x2_2 then
    some (.inr x2_2)
  else
    (f_X_inSet a1 x2_2).bind fun (p14 : Int32) =>
    if p14 = 0 then
      fw_nm (x2_2 + 1) fun (v20 : Int32) =>
      some (.inl v20)
    else
      some (.inr x2_2)
def f_Press_lowestOf (a1 : Int32) (μ : fw_M) : Option (Int32) :=
  (fw_wh (f_Press_lowestOf_L2 a1 μ) fw_N 0).bind fun (e2x : Int32) =>
  some e2x
set_option maxHeartbeats 4000000 in
set_option maxRecDepth 100000 in
theorem c_Press_lowestOf {a1 : Int32} {μ : fw_M} {r : Int32} (h : f_Press_lowestOf a1 μ = some r) : fw_Con Y_Press_lowestOf fw_X 2 [.ref 65, .int a1] (some r) μ μ := by
  refine fw_con (by decide) (Nat.le_of_ble_eq_true rfl) ?_
  rw [f_Press_lowestOf] at h
  show fw_R "FewTypes$Press" prog_6_method_10_code 3 (some .int) fw_X 2 (some r) μ 0 [(0, .ref 65), (1, .int a1)] [] μ
  refine fw_iconst (pc := 0) d_Press_lowestOf_0 fw_ic0 ?_
  refine fw_istore_n (pc := 1) (lv1 := [(2, .int 0), (0, .ref 65), (1, .int a1)]) d_Press_lowestOf_1 rfl (by decide) rfl ?_
  obtain ⟨e2x, w2, h⟩ := fw_be h
  have hE2 : fw_R "FewTypes$Press" prog_6_method_10_code 3 (some .int) fw_X 2 (some r) μ 26 [(2, .int e2x)] [] μ := by
    refine fw_iload_n (pc := 26) d_Press_lowestOf_26 0 rfl rfl ?_
    obtain rfl := Option.some.inj h
    exact fw_iret (pc := 27) d_Press_lowestOf_27 rfl
  clear h
  exact fw_sub [1, 2, 0] rfl (fw_we (e := e2x) (fun (s : Int32) => fw_R "FewTypes$Press" prog_6_method_10_code 3 (some .int) fw_X 2 (some r) μ 2 [(0, .ref 65), (1, .int a1), (2, .int s)] [] μ) (by
    intro s x h hl hr
    obtain ⟨x2_2, rfl⟩ : ∃ z, z = s := ⟨_, rfl⟩
    rw [f_Press_lowestOf_L2] at h
    show fw_R "FewTypes$Press" prog_6_method_10_code 3 (some .int) fw_X 2 (some r) μ 2 [(0, .ref 65), (1, .int a1), (2, .int x2_2)] [] μ
    refine fw_iload_n (pc := 2) d_Press_lowestOf_2 2 rfl rfl ?_
    refine fw_aload_n (pc := 3) d_Press_lowestOf_3 0 rfl rfl ?_
    refine fw_getI (pc := 4) d_Press_lowestOf_4 fl_Press_28 fw_X65 rfl ?_
    refine fw_iconst (pc := 7) d_Press_lowestOf_7 fw_ic1 ?_
    refine fw_isub (pc := 8) d_Press_lowestOf_8 ?_
    refine fw_icmp_ge (pc := 9) (tgt := 26) d_Press_lowestOf_9 rfl (fun hc => ?_) (fun hc => ?_)
    · have h := fw_it hc h
      obtain rfl := Option.some.inj h
      have he := hr _ rfl
      subst he
      exact fw_sub [2] rfl hE2
    · have h := fw_if hc h
      refine fw_iload_n (pc := 12) d_Press_lowestOf_12 1 rfl rfl ?_
      refine fw_iload_n (pc := 13) d_Press_lowestOf_13 2 rfl rfl ?_
      obtain ⟨p14, e14, h⟩ := fw_be h
      refine fw_callNi (pc := 14) d_Press_lowestOf_14 ms_Press_133 (c_X_inSet e14) (by decide) rfl rfl (Nat.le_of_ble_eq_true rfl) ?_
      refine fw_if_ne (pc := 17) (tgt := 26) d_Press_lowestOf_17 rfl (fun hc => ?_) (fun hc => ?_)
      · have h := fw_it hc h
        obtain ⟨v20, e20, h⟩ := fw_ne h
        refine fw_iinc2 (pc := 20) (j := 2) (lv1 := [(2, .int v20), (0, .ref 65), (1, .int a1)]) d_Press_lowestOf_20 rfl fw_ic1 e20 (by decide) rfl ?_
        refine fw_goto (pc := 23) (tgt := 2) d_Press_lowestOf_23 rfl ?_
        obtain rfl := Option.some.inj h
        exact fw_sub [1, 2, 0] rfl (hl _ rfl)
      · have h := fw_if hc h
        obtain rfl := Option.some.inj h
        have he := hr _ rfl
        subst he
        exact fw_sub [2] rfl hE2
    ) _ _ w2)
def f_X_cutUp (a0 : Int32) (a1 : Int32) : Option (Int32) :=
  Option.bind (
    if 1 ≤ a1 then
      (fw_dv ((a0 + a1) - 1) a1).bind fun v15 =>
      some v15
    else
      some 0) fun (j2 : Int32) =>
  some j2
set_option maxHeartbeats 4000000 in
set_option maxRecDepth 100000 in
theorem c_X_cutUp {a0 : Int32} {a1 : Int32} {μ : fw_M} {r : Int32} (h : f_X_cutUp a0 a1 = some r) : fw_Con Y_X_cutUp fw_X 1 [.int a0, .int a1] (some r) μ μ := by
  refine fw_con (by decide) (Nat.le_of_ble_eq_true rfl) ?_
  rw [f_X_cutUp] at h
  show fw_R "FewTypes" prog_1_method_39_code 2 (some .int) fw_X 1 (some r) μ 0 [(0, .int a0), (1, .int a1)] [] μ
  refine fw_iload_n (pc := 0) d_X_cutUp_0 1 rfl rfl ?_
  refine fw_iconst (pc := 1) d_X_cutUp_1 fw_ic1 ?_
  obtain ⟨j2, w2, h⟩ := fw_be h
  have hJ2 : fw_R "FewTypes" prog_1_method_39_code 2 (some .int) fw_X 1 (some r) μ 16 [] [.int j2] μ := by
    obtain rfl := Option.some.inj h
    exact fw_iret (pc := 16) d_X_cutUp_16 rfl
  clear h
  have h := w2
  clear w2
  refine fw_icmp_ge (pc := 2) (tgt := 9) d_X_cutUp_2 rfl (fun hc => ?_) (fun hc => ?_)
  · have h := fw_it hc h
    refine fw_iload_n (pc := 9) d_X_cutUp_9 0 rfl rfl ?_
    refine fw_iload_n (pc := 10) d_X_cutUp_10 1 rfl rfl ?_
    refine fw_iadd (pc := 11) d_X_cutUp_11 ?_
    refine fw_iconst (pc := 12) d_X_cutUp_12 fw_ic1 ?_
    refine fw_isub (pc := 13) d_X_cutUp_13 ?_
    refine fw_iload_n (pc := 14) d_X_cutUp_14 1 rfl rfl ?_
    obtain ⟨v15, e15, h⟩ := fw_be h
    refine fw_idiv (pc := 15) d_X_cutUp_15 e15 ?_
    obtain rfl := Option.some.inj h
    exact fw_sub [] rfl hJ2
  · have h := fw_if hc h
    refine fw_iconst (pc := 5) d_X_cutUp_5 fw_ic0 ?_
    refine fw_goto (pc := 6) (tgt := 16) d_X_cutUp_6 rfl ?_
    obtain rfl := Option.some.inj h
    exact fw_sub [] rfl hJ2
def f_Press_leastApart_L30 (a1 : Int32) (μ : fw_M) (v18 : Int32) (v24 : Int32) : Int32 × Int32 → Option ((Int32 × Int32) ⊕ (Int32))
  | (x2_30, x5_30) =>
  if x5_30 ≤ 0 then
    some (.inr x2_30)
  else
    if x2_30 ≤ v18 then
      some (.inr x2_30)
    else
      (fw_rd 1024 (μ.1 70) (a1 ^^^ x5_30)).bind fun v48 =>
      Option.bind (
        if v48 = 1 then
          (fw_rd 1024 (μ.1 70) x5_30).bind fun v59 =>
          if x2_30 ≤ (v59 + 1) then
            some x2_30
          else
            (fw_rd 1024 (μ.1 70) x5_30).bind fun v72 =>
            fw_nm ((v72 + 1)) fun (v75 : Int32) =>
            some v75
        else
          some x2_30) fun (j50 : Int32) =>
      fw_nm (((x5_30 - 1) &&& v24)) fun (v83 : Int32) =>
      some (.inl (j50, v83))
def f_Press_leastApart (a1 : Int32) (μ : fw_M) : Option (Int32) :=
  (f_Integer_bitCount a1).bind fun (p5 : Int32) =>
  (f_X_cutUp p5 (μ.1 65 10)).bind fun (p12 : Int32) =>
  fw_nm ((if 2 < p12 then p12 else 2)) fun (v18 : Int32) =>
  fw_nm ((a1 &&& (a1 - 1))) fun (v24 : Int32) =>
  (fw_wh (f_Press_leastApart_L30 a1 μ v18 v24) fw_N (99, v24)).bind fun (e30x : Int32) =>
  some e30x
set_option maxHeartbeats 4000000 in
set_option maxRecDepth 100000 in
theorem c_Press_leastApart {a1 : Int32} {μ : fw_M} {r : Int32} (h : f_Press_leastApart a1 μ = some r) : fw_Con Y_Press_leastApart fw_X 2 [.ref 65, .int a1] (some r) μ μ := by
  refine fw_con (by decide) (Nat.le_of_ble_eq_true rfl) ?_
  rw [f_Press_leastApart] at h
  show fw_R "FewTypes$Press" prog_6_method_9_code 6 (some .int) fw_X 2 (some r) μ 0 [(0, .ref 65), (1, .int a1)] [] μ
  refine fw_bipush (pc := 0) d_Press_leastApart_0 fw_bp99 ?_
  refine fw_istore_n (pc := 2) (lv1 := [(2, .int 99), (0, .ref 65), (1, .int a1)]) d_Press_leastApart_2 rfl (by decide) rfl ?_
  refine fw_iconst (pc := 3) d_Press_leastApart_3 fw_ic2 ?_
  refine fw_iload_n (pc := 4) d_Press_leastApart_4 2 rfl rfl ?_
  obtain ⟨p5, e5, h⟩ := fw_be h
  refine fw_callSi (pc := 5) d_Press_leastApart_5 ms_Press_109 (c_Integer_bitCount e5) (by decide) rfl rfl (Nat.le_of_ble_eq_true rfl) ?_
  refine fw_aload_n (pc := 8) d_Press_leastApart_8 1 rfl rfl ?_
  refine fw_getI (pc := 9) d_Press_leastApart_9 fl_Press_45 fw_X65 rfl ?_
  obtain ⟨p12, e12, h⟩ := fw_be h
  refine fw_callNi (pc := 12) d_Press_leastApart_12 ms_Press_124 (c_X_cutUp e12) (by decide) rfl rfl (Nat.le_of_ble_eq_true rfl) ?_
  refine fw_mmax (pc := 15) d_Press_leastApart_15 mx_Press_128 (by decide) (Nat.le_of_ble_eq_true rfl) ?_
  obtain ⟨v18, e18, h⟩ := fw_ne h
  refine fw_top e18 ?_
  refine fw_istore_n (pc := 18) (lv1 := [(3, .int v18), (2, .int 99), (0, .ref 65), (1, .int a1)]) d_Press_leastApart_18 rfl (by decide) rfl ?_
  refine fw_iload_n (pc := 19) d_Press_leastApart_19 3 rfl rfl ?_
  refine fw_iload_n (pc := 20) d_Press_leastApart_20 3 rfl rfl ?_
  refine fw_iconst (pc := 21) d_Press_leastApart_21 fw_ic1 ?_
  refine fw_isub (pc := 22) d_Press_leastApart_22 ?_
  refine fw_iand (pc := 23) d_Press_leastApart_23 ?_
  obtain ⟨v24, e24, h⟩ := fw_ne h
  refine fw_top e24 ?_
  refine fw_istore (pc := 24) (lv1 := [(4, .int v24), (3, .int v18), (2, .int 99), (0, .ref 65), (1, .int a1)]) d_Press_leastApart_24 (by decide) rfl ?_
  refine fw_iload (pc := 26) d_Press_leastApart_26 0 rfl ?_
  refine fw_istore (pc := 28) (lv1 := [(5, .int v24), (4, .int v24), (3, .int v18), (2, .int 99), (0, .ref 65), (1, .int a1)]) d_Press_leastApart_28 (by decide) rfl ?_
  obtain ⟨e30x, w30, h⟩ := fw_be h
  have hE30 : fw_R "FewTypes$Press" prog_6_method_9_code 6 (some .int) fw_X 2 (some r) μ 88 [(2, .int e30x)] [] μ := by
    refine fw_iload_n (pc := 88) d_Press_leastApart_88 0 rfl rfl ?_
    obtain rfl := Option.some.inj h
    exact fw_iret (pc := 89) d_Press_leastApart_89 rfl
  clear h
  exact fw_sub [4, 5, 3, 2, 1, 0] rfl (fw_we (e := e30x) (fun (s : Int32 × Int32) => fw_R "FewTypes$Press" prog_6_method_9_code 6 (some .int) fw_X 2 (some r) μ 30 [(0, .ref 65), (1, .int a1), (2, .int s.1), (3, .int v18), (4, .int v24), (5, .int s.2)] [] μ) (by
    intro s x h hl hr
    obtain ⟨x2_30, x5_30⟩ := s
    rw [f_Press_leastApart_L30] at h
    show fw_R "FewTypes$Press" prog_6_method_9_code 6 (some .int) fw_X 2 (some r) μ 30 [(0, .ref 65), (1, .int a1), (2, .int x2_30), (3, .int v18), (4, .int v24), (5, .int x5_30)] [] μ
    refine fw_iload (pc := 30) d_Press_leastApart_30 5 rfl ?_
    refine fw_if_le (pc := 32) (tgt := 88) d_Press_leastApart_32 rfl (fun hc => ?_) (fun hc => ?_)
    · have h := fw_it hc h
      obtain rfl := Option.some.inj h
      have he := hr _ rfl
      subst he
      exact fw_sub [2] rfl hE30
    · have h := fw_if hc h
      refine fw_iload_n (pc := 35) d_Press_leastApart_35 2 rfl rfl ?_
      refine fw_iload_n (pc := 36) d_Press_leastApart_36 3 rfl rfl ?_
      refine fw_icmp_le (pc := 37) (tgt := 88) d_Press_leastApart_37 rfl (fun hc => ?_) (fun hc => ?_)
      · have h := fw_it hc h
        obtain rfl := Option.some.inj h
        have he := hr _ rfl
        subst he
        exact fw_sub [2] rfl hE30
      · have h := fw_if hc h
        refine fw_aload_n (pc := 40) d_Press_leastApart_40 0 rfl rfl ?_
        refine fw_getR (pc := 41) d_Press_leastApart_41 fl_Press_25 fw_X65 rfl ?_
        refine fw_iload_n (pc := 44) d_Press_leastApart_44 1 rfl rfl ?_
        refine fw_iload (pc := 45) d_Press_leastApart_45 5 rfl ?_
        refine fw_ixor (pc := 47) d_Press_leastApart_47 ?_
        obtain ⟨v48, e48, h⟩ := fw_be h
        refine fw_iald (pc := 48) d_Press_leastApart_48 fw_X70 e48 ?_
        refine fw_iconst (pc := 49) d_Press_leastApart_49 fw_ic1 ?_
        obtain ⟨j50, w50, h⟩ := fw_be h
        have hJ50 : fw_R "FewTypes$Press" prog_6_method_9_code 6 (some .int) fw_X 2 (some r) μ 76 [(0, .ref 65), (1, .int a1), (2, .int j50), (3, .int v18), (4, .int v24), (5, .int x5_30)] [] μ := by
          refine fw_iload (pc := 76) d_Press_leastApart_76 5 rfl ?_
          refine fw_iconst (pc := 78) d_Press_leastApart_78 fw_ic1 ?_
          refine fw_isub (pc := 79) d_Press_leastApart_79 ?_
          refine fw_iload (pc := 80) d_Press_leastApart_80 4 rfl ?_
          refine fw_iand (pc := 82) d_Press_leastApart_82 ?_
          obtain ⟨v83, e83, h⟩ := fw_ne h
          refine fw_top e83 ?_
          refine fw_istore (pc := 83) (lv1 := [(5, .int v83), (0, .ref 65), (1, .int a1), (2, .int j50), (3, .int v18), (4, .int v24)]) d_Press_leastApart_83 (by decide) rfl ?_
          refine fw_goto (pc := 85) (tgt := 30) d_Press_leastApart_85 rfl ?_
          obtain rfl := Option.some.inj h
          exact fw_sub [1, 2, 3, 4, 5, 0] rfl (hl _ rfl)
        clear h
        have h := w50
        clear w50
        refine fw_icmp_ne (pc := 50) (tgt := 76) d_Press_leastApart_50 rfl (fun hc => ?_) (fun hc => ?_)
        · have h := fw_it hc h
          refine fw_aload_n (pc := 53) d_Press_leastApart_53 0 rfl rfl ?_
          refine fw_getR (pc := 54) d_Press_leastApart_54 fl_Press_25 fw_X65 rfl ?_
          refine fw_iload (pc := 57) d_Press_leastApart_57 5 rfl ?_
          obtain ⟨v59, e59, h⟩ := fw_be h
          refine fw_iald (pc := 59) d_Press_leastApart_59 fw_X70 e59 ?_
          refine fw_iconst (pc := 60) d_Press_leastApart_60 fw_ic1 ?_
          refine fw_iadd (pc := 61) d_Press_leastApart_61 ?_
          refine fw_iload_n (pc := 62) d_Press_leastApart_62 2 rfl rfl ?_
          refine fw_icmp_ge (pc := 63) (tgt := 76) d_Press_leastApart_63 rfl (fun hc => ?_) (fun hc => ?_)
          · have h := fw_it hc h
            obtain rfl := Option.some.inj h
            exact fw_sub [0, 1, 2, 3, 4, 5] rfl hJ50
          · have h := fw_if hc h
            refine fw_aload_n (pc := 66) d_Press_leastApart_66 0 rfl rfl ?_
            refine fw_getR (pc := 67) d_Press_leastApart_67 fl_Press_25 fw_X65 rfl ?_
            refine fw_iload (pc := 70) d_Press_leastApart_70 5 rfl ?_
            obtain ⟨v72, e72, h⟩ := fw_be h
            refine fw_iald (pc := 72) d_Press_leastApart_72 fw_X70 e72 ?_
            refine fw_iconst (pc := 73) d_Press_leastApart_73 fw_ic1 ?_
            refine fw_iadd (pc := 74) d_Press_leastApart_74 ?_
            obtain ⟨v75, e75, h⟩ := fw_ne h
            refine fw_top e75 ?_
            refine fw_istore_n (pc := 75) (lv1 := [(2, .int v75), (0, .ref 65), (1, .int a1), (3, .int v18), (4, .int v24), (5, .int x5_30)]) d_Press_leastApart_75 rfl (by decide) rfl ?_
            obtain rfl := Option.some.inj h
            exact fw_sub [1, 2, 0, 3, 4, 5] rfl hJ50
        · have h := fw_if hc h
          obtain rfl := Option.some.inj h
          exact fw_sub [0, 1, 2, 3, 4, 5] rfl hJ50
    ) _ _ w30)
def f_Press_fillLeast_L20 (a1 : Int32) : Int32 × fw_M → Option ((Int32 × fw_M) ⊕ (fw_M))
  | (x2_20, μ20) =>
  if a1 < x2_20 then
    some (.inr μ20)
  else
    (f_Integer_bitCount x2_20).bind fun (p28 : Int32) =>
    Option.bind (
      if (μ20.1 65 10) < p28 then
        some (0, μ20)
      else
        (f_Press_lowestOf x2_20 μ20).bind fun (p42 : Int32) =>
        (f_Press_fillRows x2_20 p42 μ20).bind fun (p45 : fw_M) =>
        (f_Press_allUseful p45).bind fun (p51 : Int32) =>
        (f_Press_isEnough 0 p51 p45).bind fun (p54 : Int32) =>
        some (p54, p45)) fun (j35 : Int32 × fw_M) =>
    Option.bind (
      if j35.1 = 0 then
        (f_Press_leastApart x2_20 j35.2).bind fun (p73 : Int32) =>
        some p73
      else
        some 1) fun (j64 : Int32) =>
    (fw_si 1024 j35.2 70 x2_20 j64).bind fun μ76 =>
    fw_nm (x2_20 + 1) fun (v77 : Int32) =>
    some (.inl (v77, μ76))
def f_Press_fillLeast (a1 : Int32) (μ : fw_M) : Option (fw_M) :=
  (f_Press_fillRows 0 ((μ.1 65 5) - 1) μ).bind fun (p8 : fw_M) =>
  (fw_si 1024 p8 70 0 0).bind fun μ17 =>
  (fw_wh (f_Press_fillLeast_L20 a1) fw_N (1, μ17)).bind fun (e20x : fw_M) =>
  some e20x
set_option maxHeartbeats 4000000 in
set_option maxRecDepth 100000 in
theorem c_Press_fillLeast {a1 : Int32} {μ : fw_M} {r : fw_M} (h : f_Press_fillLeast a1 μ = some r) : fw_Con Y_Press_fillLeast fw_X 4 [.ref 65, .int a1] none μ r := by
  refine fw_con (by decide) (Nat.le_of_ble_eq_true rfl) ?_
  rw [f_Press_fillLeast] at h
  show fw_R "FewTypes$Press" prog_6_method_6_code 4 none fw_X 4 none r 0 [(0, .ref 65), (1, .int a1)] [] μ
  refine fw_aload_n (pc := 0) d_Press_fillLeast_0 0 rfl rfl ?_
  refine fw_iconst (pc := 1) d_Press_fillLeast_1 fw_ic0 ?_
  refine fw_aload_n (pc := 2) d_Press_fillLeast_2 0 rfl rfl ?_
  refine fw_getI (pc := 3) d_Press_fillLeast_3 fl_Press_28 fw_X65 rfl ?_
  refine fw_iconst (pc := 6) d_Press_fillLeast_6 fw_ic1 ?_
  refine fw_isub (pc := 7) d_Press_fillLeast_7 ?_
  obtain ⟨p8, e8, h⟩ := fw_be h
  refine fw_callVv (pc := 8) d_Press_fillLeast_8 mv_Press_91 fw_X65 (c_Press_fillRows e8) (by decide) rfl rfl (Nat.le_of_ble_eq_true rfl) ?_
  refine fw_aload_n (pc := 11) d_Press_fillLeast_11 0 rfl rfl ?_
  refine fw_getR (pc := 12) d_Press_fillLeast_12 fl_Press_25 fw_X65 rfl ?_
  refine fw_iconst (pc := 15) d_Press_fillLeast_15 fw_ic0 ?_
  refine fw_iconst (pc := 16) d_Press_fillLeast_16 fw_ic0 ?_
  obtain ⟨μ17, e17, h⟩ := fw_be h
  refine fw_iast (pc := 17) d_Press_fillLeast_17 fw_X70 e17 ?_
  refine fw_iconst (pc := 18) d_Press_fillLeast_18 fw_ic1 ?_
  refine fw_istore_n (pc := 19) (lv1 := [(2, .int 1), (0, .ref 65), (1, .int a1)]) d_Press_fillLeast_19 rfl (by decide) rfl ?_
  obtain ⟨e20x, w20, h⟩ := fw_be h
  have hE20 : fw_R "FewTypes$Press" prog_6_method_6_code 4 none fw_X 4 none r 83 [] [] e20x := by
    obtain rfl := Option.some.inj h
    exact fw_vret (pc := 83) d_Press_fillLeast_83 rfl
  clear h
  exact fw_sub [1, 2, 0] rfl (fw_we (e := e20x) (fun (s : Int32 × fw_M) => fw_R "FewTypes$Press" prog_6_method_6_code 4 none fw_X 4 none r 20 [(0, .ref 65), (1, .int a1), (2, .int s.1)] [] s.2) (by
    intro s x h hl hr
    obtain ⟨x2_20, μ20⟩ := s
    rw [f_Press_fillLeast_L20] at h
    show fw_R "FewTypes$Press" prog_6_method_6_code 4 none fw_X 4 none r 20 [(0, .ref 65), (1, .int a1), (2, .int x2_20)] [] μ20
    refine fw_iload_n (pc := 20) d_Press_fillLeast_20 2 rfl rfl ?_
    refine fw_iload_n (pc := 21) d_Press_fillLeast_21 1 rfl rfl ?_
    refine fw_icmp_gt (pc := 22) (tgt := 83) d_Press_fillLeast_22 rfl (fun hc => ?_) (fun hc => ?_)
    · have h := fw_it hc h
      obtain rfl := Option.some.inj h
      have he := hr _ rfl
      subst he
      exact fw_sub [] rfl hE20
    · have h := fw_if hc h
      refine fw_iconst (pc := 25) d_Press_fillLeast_25 fw_ic0 ?_
      refine fw_istore_n (pc := 26) (lv1 := [(3, .int 0), (0, .ref 65), (1, .int a1), (2, .int x2_20)]) d_Press_fillLeast_26 rfl (by decide) rfl ?_
      refine fw_iload_n (pc := 27) d_Press_fillLeast_27 3 rfl rfl ?_
      obtain ⟨p28, e28, h⟩ := fw_be h
      refine fw_callSi (pc := 28) d_Press_fillLeast_28 ms_Press_109 (c_Integer_bitCount e28) (by decide) rfl rfl (Nat.le_of_ble_eq_true rfl) ?_
      refine fw_aload_n (pc := 31) d_Press_fillLeast_31 1 rfl rfl ?_
      refine fw_getI (pc := 32) d_Press_fillLeast_32 fl_Press_45 fw_X65 rfl ?_
      obtain ⟨j35, w35, h⟩ := fw_be h
      have hJ35 : fw_R "FewTypes$Press" prog_6_method_6_code 4 none fw_X 4 none r 58 [(0, .ref 65), (1, .int a1), (2, .int x2_20), (3, .int j35.1)] [] j35.2 := by
        refine fw_aload_n (pc := 58) d_Press_fillLeast_58 0 rfl rfl ?_
        refine fw_getR (pc := 59) d_Press_fillLeast_59 fl_Press_25 fw_X65 rfl ?_
        refine fw_iload_n (pc := 62) d_Press_fillLeast_62 2 rfl rfl ?_
        refine fw_iload_n (pc := 63) d_Press_fillLeast_63 3 rfl rfl ?_
        obtain ⟨j64, w64, h⟩ := fw_be h
        have hJ64 : fw_R "FewTypes$Press" prog_6_method_6_code 4 none fw_X 4 none r 76 [(0, .ref 65), (1, .int a1), (2, .int x2_20)] [.int j64, .int x2_20, .ref 70] j35.2 := by
          obtain ⟨μ76, e76, h⟩ := fw_be h
          refine fw_iast (pc := 76) d_Press_fillLeast_76 fw_X70 e76 ?_
          obtain ⟨v77, e77, h⟩ := fw_ne h
          refine fw_iinc2 (pc := 77) (j := 2) (lv1 := [(2, .int v77), (0, .ref 65), (1, .int a1)]) d_Press_fillLeast_77 rfl fw_ic1 e77 (by decide) rfl ?_
          refine fw_goto (pc := 80) (tgt := 20) d_Press_fillLeast_80 rfl ?_
          obtain rfl := Option.some.inj h
          exact fw_sub [1, 2, 0] rfl (hl _ rfl)
        clear h
        have h := w64
        clear w64
        refine fw_if_eq (pc := 64) (tgt := 71) d_Press_fillLeast_64 rfl (fun hc => ?_) (fun hc => ?_)
        · have h := fw_it hc h
          refine fw_aload_n (pc := 71) d_Press_fillLeast_71 0 rfl rfl ?_
          refine fw_iload_n (pc := 72) d_Press_fillLeast_72 2 rfl rfl ?_
          obtain ⟨p73, e73, h⟩ := fw_be h
          refine fw_callVi (pc := 73) d_Press_fillLeast_73 mv_Press_118 fw_X65 (c_Press_leastApart e73) (by decide) rfl rfl (Nat.le_of_ble_eq_true rfl) ?_
          obtain rfl := Option.some.inj h
          exact fw_sub [0, 1, 2] rfl hJ64
        · have h := fw_if hc h
          refine fw_iconst (pc := 67) d_Press_fillLeast_67 fw_ic1 ?_
          refine fw_goto (pc := 68) (tgt := 76) d_Press_fillLeast_68 rfl ?_
          obtain rfl := Option.some.inj h
          exact fw_sub [0, 1, 2] rfl hJ64
      clear h
      have h := w35
      clear w35
      refine fw_icmp_gt (pc := 35) (tgt := 58) d_Press_fillLeast_35 rfl (fun hc => ?_) (fun hc => ?_)
      · have h := fw_it hc h
        obtain rfl := Option.some.inj h
        exact fw_sub [1, 2, 3, 0] rfl hJ35
      · have h := fw_if hc h
        refine fw_aload_n (pc := 38) d_Press_fillLeast_38 1 rfl rfl ?_
        refine fw_iload_n (pc := 39) d_Press_fillLeast_39 3 rfl rfl ?_
        refine fw_aload_n (pc := 40) d_Press_fillLeast_40 1 rfl rfl ?_
        refine fw_iload_n (pc := 41) d_Press_fillLeast_41 3 rfl rfl ?_
        obtain ⟨p42, e42, h⟩ := fw_be h
        refine fw_callVi (pc := 42) d_Press_fillLeast_42 mv_Press_115 fw_X65 (c_Press_lowestOf e42) (by decide) rfl rfl (Nat.le_of_ble_eq_true rfl) ?_
        obtain ⟨p45, e45, h⟩ := fw_be h
        refine fw_callVv (pc := 45) d_Press_fillLeast_45 mv_Press_91 fw_X65 (c_Press_fillRows e45) (by decide) rfl rfl (Nat.le_of_ble_eq_true rfl) ?_
        refine fw_aload_n (pc := 48) d_Press_fillLeast_48 1 rfl rfl ?_
        refine fw_iconst (pc := 49) d_Press_fillLeast_49 fw_ic0 ?_
        refine fw_aload_n (pc := 50) d_Press_fillLeast_50 1 rfl rfl ?_
        obtain ⟨p51, e51, h⟩ := fw_be h
        refine fw_callVi (pc := 51) d_Press_fillLeast_51 mv_Press_95 fw_X65 (c_Press_allUseful e51) (by decide) rfl rfl (Nat.le_of_ble_eq_true rfl) ?_
        obtain ⟨p54, e54, h⟩ := fw_be h
        refine fw_callVi (pc := 54) d_Press_fillLeast_54 mv_Press_99 fw_X65 (c_Press_isEnough e54) (by decide) rfl rfl (Nat.le_of_ble_eq_true rfl) ?_
        refine fw_istore_n (pc := 57) (lv1 := [(3, .int p54), (0, .ref 65), (1, .int a1), (2, .int x2_20)]) d_Press_fillLeast_57 rfl (by decide) rfl ?_
        obtain rfl := Option.some.inj h
        exact fw_sub [1, 2, 3, 0] rfl hJ35
    ) _ _ w20)
def f_Press_solve  (μ : fw_M) : Option (Int32 × fw_M) :=
  fw_nm ((((1 : Int32) <<< ((μ.1 65 5) &&& 31)) - 1)) fun (v8 : Int32) =>
  (f_Press_inks v8 μ).bind fun (p11 : Int32 × fw_M) =>
  Option.bind (
    if p11.1 = 0 then
      (f_Press_fillLeast v8 p11.2).bind fun (p29 : fw_M) =>
      some p29
    else
      (fw_si 1024 p11.2 70 v8 1).bind fun μ23 =>
      some μ23) fun (j14 : fw_M) =>
  (fw_rd 1024 (j14.1 70) v8).bind fun v37 =>
  Option.bind (
    if 99 ≤ v37 then
      some (-4)
    else
      (fw_rd 1024 (j14.1 70) v8).bind fun v48 =>
      some v48) fun (j40 : Int32) =>
  some (j40, j14)
set_option maxHeartbeats 4000000 in
set_option maxRecDepth 100000 in
theorem c_Press_solve  {μ : fw_M} {r : Int32 × fw_M} (h : f_Press_solve  μ = some r) : fw_Con Y_Press_solve fw_X 5 [.ref 65] (some r.1) μ r.2 := by
  refine fw_con (by decide) (Nat.le_of_ble_eq_true rfl) ?_
  rw [f_Press_solve] at h
  show fw_R "FewTypes$Press" prog_6_method_5_code 2 (some .int) fw_X 5 (some r.1) r.2 0 [(0, .ref 65)] [] μ
  refine fw_iconst (pc := 0) d_Press_solve_0 fw_ic1 ?_
  refine fw_aload_n (pc := 1) d_Press_solve_1 0 rfl rfl ?_
  refine fw_getI (pc := 2) d_Press_solve_2 fl_Press_28 fw_X65 rfl ?_
  refine fw_ishl (pc := 5) d_Press_solve_5 ?_
  refine fw_iconst (pc := 6) d_Press_solve_6 fw_ic1 ?_
  refine fw_isub (pc := 7) d_Press_solve_7 ?_
  obtain ⟨v8, e8, h⟩ := fw_ne h
  refine fw_top e8 ?_
  refine fw_istore_n (pc := 8) (lv1 := [(1, .int v8), (0, .ref 65)]) d_Press_solve_8 rfl (by decide) rfl ?_
  refine fw_aload_n (pc := 9) d_Press_solve_9 1 rfl rfl ?_
  refine fw_iload_n (pc := 10) d_Press_solve_10 0 rfl rfl ?_
  obtain ⟨p11, e11, h⟩ := fw_be h
  refine fw_callVi (pc := 11) d_Press_solve_11 mv_Press_102 fw_X65 (c_Press_inks e11) (by decide) rfl rfl (Nat.le_of_ble_eq_true rfl) ?_
  obtain ⟨j14, w14, h⟩ := fw_be h
  have hJ14 : fw_R "FewTypes$Press" prog_6_method_5_code 2 (some .int) fw_X 5 (some r.1) r.2 32 [(0, .ref 65), (1, .int v8)] [] j14 := by
    refine fw_aload_n (pc := 32) d_Press_solve_32 0 rfl rfl ?_
    refine fw_getR (pc := 33) d_Press_solve_33 fl_Press_25 fw_X65 rfl ?_
    refine fw_iload_n (pc := 36) d_Press_solve_36 1 rfl rfl ?_
    obtain ⟨v37, e37, h⟩ := fw_be h
    refine fw_iald (pc := 37) d_Press_solve_37 fw_X70 e37 ?_
    refine fw_bipush (pc := 38) d_Press_solve_38 fw_bp99 ?_
    obtain ⟨j40, w40, h⟩ := fw_be h
    have hJ40 : fw_R "FewTypes$Press" prog_6_method_5_code 2 (some .int) fw_X 5 (some r.1) r.2 54 [] [.int j40] j14 := by
      obtain rfl := Option.some.inj h
      exact fw_iret (pc := 54) d_Press_solve_54 rfl
    clear h
    have h := w40
    clear w40
    refine fw_icmp_ge (pc := 40) (tgt := 52) d_Press_solve_40 rfl (fun hc => ?_) (fun hc => ?_)
    · have h := fw_it hc h
      refine fw_bipush (pc := 52) d_Press_solve_52 fw_bpm4 ?_
      obtain rfl := Option.some.inj h
      exact fw_sub [] rfl hJ40
    · have h := fw_if hc h
      refine fw_aload_n (pc := 43) d_Press_solve_43 0 rfl rfl ?_
      refine fw_getR (pc := 44) d_Press_solve_44 fl_Press_25 fw_X65 rfl ?_
      refine fw_iload_n (pc := 47) d_Press_solve_47 1 rfl rfl ?_
      obtain ⟨v48, e48, h⟩ := fw_be h
      refine fw_iald (pc := 48) d_Press_solve_48 fw_X70 e48 ?_
      refine fw_goto (pc := 49) (tgt := 54) d_Press_solve_49 rfl ?_
      obtain rfl := Option.some.inj h
      exact fw_sub [] rfl hJ40
  clear h
  have h := w14
  clear w14
  refine fw_if_eq (pc := 14) (tgt := 27) d_Press_solve_14 rfl (fun hc => ?_) (fun hc => ?_)
  · have h := fw_it hc h
    refine fw_aload_n (pc := 27) d_Press_solve_27 1 rfl rfl ?_
    refine fw_iload_n (pc := 28) d_Press_solve_28 0 rfl rfl ?_
    obtain ⟨p29, e29, h⟩ := fw_be h
    refine fw_callVv (pc := 29) d_Press_solve_29 mv_Press_105 fw_X65 (c_Press_fillLeast e29) (by decide) rfl rfl (Nat.le_of_ble_eq_true rfl) ?_
    obtain rfl := Option.some.inj h
    exact fw_sub [1, 0] rfl hJ14
  · have h := fw_if hc h
    refine fw_aload_n (pc := 17) d_Press_solve_17 1 rfl rfl ?_
    refine fw_getR (pc := 18) d_Press_solve_18 fl_Press_25 fw_X65 rfl ?_
    refine fw_iload_n (pc := 21) d_Press_solve_21 0 rfl rfl ?_
    refine fw_iconst (pc := 22) d_Press_solve_22 fw_ic1 ?_
    obtain ⟨μ23, e23, h⟩ := fw_be h
    refine fw_iast (pc := 23) d_Press_solve_23 fw_X70 e23 ?_
    refine fw_goto (pc := 24) (tgt := 32) d_Press_solve_24 rfl ?_
    obtain rfl := Option.some.inj h
    exact fw_sub [1, 0] rfl hJ14
def f_Press_firstPull_L12 (a1 : Int32) (μ : fw_M) (x2_12 : Int32) : Option ((Int32) ⊕ ((Unit) ⊕ (Int32))) :=
  if a1 ≤ x2_12 then
    some (.inr (.inl ()))
  else
    if (x2_12 &&& (a1 ^^^ (-1))) = 0 then
      (fw_rd 1024 (μ.1 70) x2_12).bind fun v30 =>
      if v30 = 1 then
        (fw_rd 1024 (μ.1 70) (a1 ^^^ x2_12)).bind fun v42 =>
        (fw_rd 1024 (μ.1 70) a1).bind fun v48 =>
        if v42 = (v48 - 1) then
          some (.inr (.inr x2_12))
        else
          fw_nm (x2_12 + 1) fun (v56 : Int32) =>
          some (.inl v56)
      else
        fw_nm (x2_12 + 1) fun (v56 : Int32) =>
        some (.inl v56)
    else
      fw_nm (x2_12 + 1) fun (v56 : Int32) =>
      some (.inl v56)
def f_Press_firstPull (a1 : Int32) (μ : fw_M) : Option (Int32) :=
  (fw_rd 1024 (μ.1 70) a1).bind fun v5 =>
  if v5 ≤ 1 then
    some a1
  else
    Option.bind (fw_wh (f_Press_firstPull_L12 a1 μ) fw_N 1) fun (q12 : (Unit) ⊕ (Int32)) => match q12 with
    | .inl e12x =>
      some a1
    | .inr r12 => some r12
set_option maxHeartbeats 4000000 in
set_option maxRecDepth 100000 in
theorem c_Press_firstPull {a1 : Int32} {μ : fw_M} {r : Int32} (h : f_Press_firstPull a1 μ = some r) : fw_Con Y_Press_firstPull fw_X 1 [.ref 65, .int a1] (some r) μ μ := by
  refine fw_con (by decide) (Nat.le_of_ble_eq_true rfl) ?_
  rw [f_Press_firstPull] at h
  show fw_R "FewTypes$Press" prog_6_method_8_code 3 (some .int) fw_X 1 (some r) μ 0 [(0, .ref 65), (1, .int a1)] [] μ
  refine fw_aload_n (pc := 0) d_Press_firstPull_0 0 rfl rfl ?_
  refine fw_getR (pc := 1) d_Press_firstPull_1 fl_Press_25 fw_X65 rfl ?_
  refine fw_iload_n (pc := 4) d_Press_firstPull_4 1 rfl rfl ?_
  obtain ⟨v5, e5, h⟩ := fw_be h
  refine fw_iald (pc := 5) d_Press_firstPull_5 fw_X70 e5 ?_
  refine fw_iconst (pc := 6) d_Press_firstPull_6 fw_ic1 ?_
  refine fw_icmp_le (pc := 7) (tgt := 62) d_Press_firstPull_7 rfl (fun hc => ?_) (fun hc => ?_)
  · have h := fw_it hc h
    refine fw_iload_n (pc := 62) d_Press_firstPull_62 1 rfl rfl ?_
    obtain rfl := Option.some.inj h
    exact fw_iret (pc := 63) d_Press_firstPull_63 rfl
  · have h := fw_if hc h
    refine fw_iconst (pc := 10) d_Press_firstPull_10 fw_ic1 ?_
    refine fw_istore_n (pc := 11) (lv1 := [(2, .int 1), (0, .ref 65), (1, .int a1)]) d_Press_firstPull_11 rfl (by decide) rfl ?_
    obtain ⟨q12, w12, h⟩ := fw_be h
    have hE12 : ∀ e12x : Unit, q12 = .inl e12x → fw_R "FewTypes$Press" prog_6_method_8_code 3 (some .int) fw_X 1 (some r) μ 62 [(1, .int a1)] [] μ := by
      intro e12x hq
      subst hq
      dsimp only at h
      refine fw_iload_n (pc := 62) d_Press_firstPull_62 0 rfl rfl ?_
      obtain rfl := Option.some.inj h
      exact fw_iret (pc := 63) d_Press_firstPull_63 rfl
    have hR12 : ∀ r12, q12 = .inr r12 → r12 = r := by
      intro r12 hq
      subst hq
      exact Option.some.inj h
    clear h
    exact fw_sub [1, 2, 0] rfl (fw_we (e := q12) (fun (s : Int32) => fw_R "FewTypes$Press" prog_6_method_8_code 3 (some .int) fw_X 1 (some r) μ 12 [(0, .ref 65), (1, .int a1), (2, .int s)] [] μ) (by
      intro s x h hl hr
      obtain ⟨x2_12, rfl⟩ : ∃ z, z = s := ⟨_, rfl⟩
      rw [f_Press_firstPull_L12] at h
      show fw_R "FewTypes$Press" prog_6_method_8_code 3 (some .int) fw_X 1 (some r) μ 12 [(0, .ref 65), (1, .int a1), (2, .int x2_12)] [] μ
      refine fw_iload_n (pc := 12) d_Press_firstPull_12 2 rfl rfl ?_
      refine fw_iload_n (pc := 13) d_Press_firstPull_13 1 rfl rfl ?_
      refine fw_icmp_ge (pc := 14) (tgt := 62) d_Press_firstPull_14 rfl (fun hc => ?_) (fun hc => ?_)
      · have h := fw_it hc h
        obtain rfl := Option.some.inj h
        exact fw_sub [1] rfl (hE12 _ (hr _ rfl).symm)
      · have h := fw_if hc h
        refine fw_iload_n (pc := 17) d_Press_firstPull_17 2 rfl rfl ?_
        refine fw_iload_n (pc := 18) d_Press_firstPull_18 1 rfl rfl ?_
        refine fw_iconst (pc := 19) d_Press_firstPull_19 fw_icm1 ?_
        refine fw_ixor (pc := 20) d_Press_firstPull_20 ?_
        refine fw_iand (pc := 21) d_Press_firstPull_21 ?_
        refine fw_if_ne (pc := 22) (tgt := 56) d_Press_firstPull_22 rfl (fun hc => ?_) (fun hc => ?_)
        · have h := fw_it hc h
          refine fw_aload_n (pc := 25) d_Press_firstPull_25 0 rfl rfl ?_
          refine fw_getR (pc := 26) d_Press_firstPull_26 fl_Press_25 fw_X65 rfl ?_
          refine fw_iload_n (pc := 29) d_Press_firstPull_29 2 rfl rfl ?_
          obtain ⟨v30, e30, h⟩ := fw_be h
          refine fw_iald (pc := 30) d_Press_firstPull_30 fw_X70 e30 ?_
          refine fw_iconst (pc := 31) d_Press_firstPull_31 fw_ic1 ?_
          refine fw_icmp_ne (pc := 32) (tgt := 56) d_Press_firstPull_32 rfl (fun hc => ?_) (fun hc => ?_)
          · have h := fw_it hc h
            refine fw_aload_n (pc := 35) d_Press_firstPull_35 0 rfl rfl ?_
            refine fw_getR (pc := 36) d_Press_firstPull_36 fl_Press_25 fw_X65 rfl ?_
            refine fw_iload_n (pc := 39) d_Press_firstPull_39 1 rfl rfl ?_
            refine fw_iload_n (pc := 40) d_Press_firstPull_40 2 rfl rfl ?_
            refine fw_ixor (pc := 41) d_Press_firstPull_41 ?_
            obtain ⟨v42, e42, h⟩ := fw_be h
            refine fw_iald (pc := 42) d_Press_firstPull_42 fw_X70 e42 ?_
            refine fw_aload_n (pc := 43) d_Press_firstPull_43 0 rfl rfl ?_
            refine fw_getR (pc := 44) d_Press_firstPull_44 fl_Press_25 fw_X65 rfl ?_
            refine fw_iload_n (pc := 47) d_Press_firstPull_47 1 rfl rfl ?_
            obtain ⟨v48, e48, h⟩ := fw_be h
            refine fw_iald (pc := 48) d_Press_firstPull_48 fw_X70 e48 ?_
            refine fw_iconst (pc := 49) d_Press_firstPull_49 fw_ic1 ?_
            refine fw_isub (pc := 50) d_Press_firstPull_50 ?_
            refine fw_icmp_ne (pc := 51) (tgt := 56) d_Press_firstPull_51 rfl (fun hc => ?_) (fun hc => ?_)
            · have h := fw_it hc h
              refine fw_iload_n (pc := 54) d_Press_firstPull_54 2 rfl rfl ?_
              obtain rfl := Option.some.inj h
              have he := hR12 _ (hr _ rfl).symm
              subst he
              exact fw_iret (pc := 55) d_Press_firstPull_55 rfl
            · have h := fw_if hc h
              obtain ⟨v56, e56, h⟩ := fw_ne h
              refine fw_iinc2 (pc := 56) (j := 2) (lv1 := [(2, .int v56), (0, .ref 65), (1, .int a1)]) d_Press_firstPull_56 rfl fw_ic1 e56 (by decide) rfl ?_
              refine fw_goto (pc := 59) (tgt := 12) d_Press_firstPull_59 rfl ?_
              obtain rfl := Option.some.inj h
              exact fw_sub [1, 2, 0] rfl (hl _ rfl)
          · have h := fw_if hc h
            obtain ⟨v56, e56, h⟩ := fw_ne h
            refine fw_iinc2 (pc := 56) (j := 2) (lv1 := [(2, .int v56), (0, .ref 65), (1, .int a1)]) d_Press_firstPull_56 rfl fw_ic1 e56 (by decide) rfl ?_
            refine fw_goto (pc := 59) (tgt := 12) d_Press_firstPull_59 rfl ?_
            obtain rfl := Option.some.inj h
            exact fw_sub [1, 2, 0] rfl (hl _ rfl)
        · have h := fw_if hc h
          obtain ⟨v56, e56, h⟩ := fw_ne h
          refine fw_iinc2 (pc := 56) (j := 2) (lv1 := [(2, .int v56), (0, .ref 65), (1, .int a1)]) d_Press_firstPull_56 rfl fw_ic1 e56 (by decide) rfl ?_
          refine fw_goto (pc := 59) (tgt := 12) d_Press_firstPull_59 rfl ?_
          obtain rfl := Option.some.inj h
          exact fw_sub [1, 2, 0] rfl (hl _ rfl)
      ) _ _ w12)
def f_Press_findPlan_L11  : Int32 × Int32 × fw_M → Option ((Int32 × Int32 × fw_M) ⊕ (fw_M))
  | (x2_11, x3_11, μ11) =>
  if (nI 10) ≤ x3_11 then
    some (.inr μ11)
  else
    if x2_11 = 0 then
      some (.inr μ11)
    else
      (f_Press_firstPull x2_11 μ11).bind fun (p25 : Int32) =>
      (fw_si 10 μ11 82 x3_11 p25).bind fun μ28 =>
      (fw_rd 10 (μ28.1 82) x3_11).bind fun v32 =>
      fw_nm ((x2_11 &&& (v32 ^^^ (-1)))) fun (v36 : Int32) =>
      fw_nm (x3_11 + 1) fun (v37 : Int32) =>
      some (.inl (v36, v37, μ28))
def f_Press_findPlan  (μ : fw_M) : Option (fw_M) :=
  fw_nm ((((1 : Int32) <<< ((μ.1 65 5) &&& 31)) - 1)) fun (v8 : Int32) =>
  (fw_wh (f_Press_findPlan_L11) fw_N (v8, 0, μ)).bind fun (e11x : fw_M) =>
  some e11x
set_option maxHeartbeats 4000000 in
set_option maxRecDepth 100000 in
theorem c_Press_findPlan  {μ : fw_M} {r : fw_M} (h : f_Press_findPlan  μ = some r) : fw_Con Y_Press_findPlan fw_X 2 [.ref 65, .ref 82] none μ r := by
  refine fw_con (by decide) (Nat.le_of_ble_eq_true rfl) ?_
  rw [f_Press_findPlan] at h
  show fw_R "FewTypes$Press" prog_6_method_7_code 4 none fw_X 2 none r 0 [(0, .ref 65), (1, .ref 82)] [] μ
  refine fw_iconst (pc := 0) d_Press_findPlan_0 fw_ic1 ?_
  refine fw_aload_n (pc := 1) d_Press_findPlan_1 0 rfl rfl ?_
  refine fw_getI (pc := 2) d_Press_findPlan_2 fl_Press_28 fw_X65 rfl ?_
  refine fw_ishl (pc := 5) d_Press_findPlan_5 ?_
  refine fw_iconst (pc := 6) d_Press_findPlan_6 fw_ic1 ?_
  refine fw_isub (pc := 7) d_Press_findPlan_7 ?_
  obtain ⟨v8, e8, h⟩ := fw_ne h
  refine fw_top e8 ?_
  refine fw_istore_n (pc := 8) (lv1 := [(2, .int v8), (0, .ref 65), (1, .ref 82)]) d_Press_findPlan_8 rfl (by decide) rfl ?_
  refine fw_iconst (pc := 9) d_Press_findPlan_9 fw_ic0 ?_
  refine fw_istore_n (pc := 10) (lv1 := [(3, .int 0), (2, .int v8), (0, .ref 65), (1, .ref 82)]) d_Press_findPlan_10 rfl (by decide) rfl ?_
  obtain ⟨e11x, w11, h⟩ := fw_be h
  have hE11 : fw_R "FewTypes$Press" prog_6_method_7_code 4 none fw_X 2 none r 43 [] [] e11x := by
    obtain rfl := Option.some.inj h
    exact fw_vret (pc := 43) d_Press_findPlan_43 rfl
  clear h
  exact fw_sub [2, 3, 1, 0] rfl (fw_we (e := e11x) (fun (s : Int32 × Int32 × fw_M) => fw_R "FewTypes$Press" prog_6_method_7_code 4 none fw_X 2 none r 11 [(0, .ref 65), (1, .ref 82), (2, .int s.1), (3, .int s.2.1)] [] s.2.2) (by
    intro s x h hl hr
    obtain ⟨x2_11, x3_11, μ11⟩ := s
    rw [f_Press_findPlan_L11] at h
    show fw_R "FewTypes$Press" prog_6_method_7_code 4 none fw_X 2 none r 11 [(0, .ref 65), (1, .ref 82), (2, .int x2_11), (3, .int x3_11)] [] μ11
    refine fw_iload_n (pc := 11) d_Press_findPlan_11 3 rfl rfl ?_
    refine fw_aload_n (pc := 12) d_Press_findPlan_12 1 rfl rfl ?_
    refine fw_alen (pc := 13) d_Press_findPlan_13 fw_X82 (ty := fun _ => .int) (fun _ => rfl) ?_
    refine fw_icmp_ge (pc := 14) (tgt := 43) d_Press_findPlan_14 rfl (fun hc => ?_) (fun hc => ?_)
    · have h := fw_it hc h
      obtain rfl := Option.some.inj h
      have he := hr _ rfl
      subst he
      exact fw_sub [] rfl hE11
    · have h := fw_if hc h
      refine fw_iload_n (pc := 17) d_Press_findPlan_17 2 rfl rfl ?_
      refine fw_if_eq (pc := 18) (tgt := 43) d_Press_findPlan_18 rfl (fun hc => ?_) (fun hc => ?_)
      · have h := fw_it hc h
        obtain rfl := Option.some.inj h
        have he := hr _ rfl
        subst he
        exact fw_sub [] rfl hE11
      · have h := fw_if hc h
        refine fw_aload_n (pc := 21) d_Press_findPlan_21 1 rfl rfl ?_
        refine fw_iload_n (pc := 22) d_Press_findPlan_22 3 rfl rfl ?_
        refine fw_aload_n (pc := 23) d_Press_findPlan_23 0 rfl rfl ?_
        refine fw_iload_n (pc := 24) d_Press_findPlan_24 2 rfl rfl ?_
        obtain ⟨p25, e25, h⟩ := fw_be h
        refine fw_callVi (pc := 25) d_Press_findPlan_25 mv_Press_121 fw_X65 (c_Press_firstPull e25) (by decide) rfl rfl (Nat.le_of_ble_eq_true rfl) ?_
        obtain ⟨μ28, e28, h⟩ := fw_be h
        refine fw_iast (pc := 28) d_Press_findPlan_28 fw_X82 e28 ?_
        refine fw_iload_n (pc := 29) d_Press_findPlan_29 2 rfl rfl ?_
        refine fw_aload_n (pc := 30) d_Press_findPlan_30 1 rfl rfl ?_
        refine fw_iload_n (pc := 31) d_Press_findPlan_31 3 rfl rfl ?_
        obtain ⟨v32, e32, h⟩ := fw_be h
        refine fw_iald (pc := 32) d_Press_findPlan_32 fw_X82 e32 ?_
        refine fw_iconst (pc := 33) d_Press_findPlan_33 fw_icm1 ?_
        refine fw_ixor (pc := 34) d_Press_findPlan_34 ?_
        refine fw_iand (pc := 35) d_Press_findPlan_35 ?_
        obtain ⟨v36, e36, h⟩ := fw_ne h
        refine fw_top e36 ?_
        refine fw_istore_n (pc := 36) (lv1 := [(2, .int v36), (0, .ref 65), (1, .ref 82), (3, .int x3_11)]) d_Press_findPlan_36 rfl (by decide) rfl ?_
        obtain ⟨v37, e37, h⟩ := fw_ne h
        refine fw_iinc2 (pc := 37) (j := 3) (lv1 := [(3, .int v37), (2, .int v36), (0, .ref 65), (1, .ref 82)]) d_Press_findPlan_37 rfl fw_ic1 e37 (by decide) rfl ?_
        refine fw_goto (pc := 40) (tgt := 11) d_Press_findPlan_40 rfl ?_
        obtain rfl := Option.some.inj h
        exact fw_sub [2, 3, 1, 0] rfl (hl _ rfl)
    ) _ _ w11)
def f_X_pullsFor (a1 : Int32) (μ : fw_M) : Option (Int32 × fw_M) :=
  Option.bind (
    if a1 = 8 then
      some 6
    else
      (fw_rq 8 [11, 13, 15, 17, 19, 21, 23, 25] a1).bind fun r24 =>
      if fw_okL r24 then
        some r24
      else none) fun (j3 : Nat) =>
  if fw_okL j3 then
    if (μ.1 j3 1) = 0 then
      some ((-2), μ)
    else
      (fw_rd 9 (μ.1 81) a1).bind fun v41 =>
      Option.bind (
        if v41 = 0 then
          (fw_si 9 μ 81 a1 (-4)).bind fun μ52 =>
          (f_Line_isSayable j3 (-1) μ52).bind fun (p62 : Int32) =>
          if p62 = 0 then
            some μ52
          else
            (fw_rd 3 (μ52.1 9) 0).bind fun v88 =>
            fw_nm (
              if v88 = 1 then
                1
              else
                0) fun (j90 : Int32) =>
            (f_Press_lock j3 j90 μ52).bind fun (p98 : fw_M) =>
            (f_Press_solve p98).bind fun (p110 : Int32 × fw_M) =>
            (fw_si 9 p110.2 81 a1 p110.1).bind fun μ113 =>
            if a1 = 8 then
              (f_Press_findPlan μ113).bind fun (p128 : fw_M) =>
              some p128
            else
              some μ113
        else
          some μ) fun (j42 : fw_M) =>
      (fw_rd 9 (j42.1 81) a1).bind fun v136 =>
      some (v136, j42)
  else none
set_option maxHeartbeats 4000000 in
set_option maxRecDepth 100000 in
theorem c_X_pullsFor {a1 : Int32} {μ : fw_M} {r : Int32 × fw_M} (h : f_X_pullsFor a1 μ = some r) : fw_Con Y_X_pullsFor fw_X 6 [.ref 0, .int a1] (some r.1) μ r.2 := by
  refine fw_con (by decide) (Nat.le_of_ble_eq_true rfl) ?_
  rw [f_X_pullsFor] at h
  show fw_R "FewTypes" prog_1_method_44_code 3 (some .int) fw_X 6 (some r.1) r.2 0 [(0, .ref 0), (1, .int a1)] [] μ
  refine fw_iload_n (pc := 0) d_X_pullsFor_0 1 rfl rfl ?_
  refine fw_bipush (pc := 1) d_X_pullsFor_1 fw_bp8 ?_
  obtain ⟨j3, w3, h⟩ := fw_be h
  have hJ3 : fw_R "FewTypes" prog_1_method_44_code 3 (some .int) fw_X 6 (some r.1) r.2 25 [(0, .ref 0), (1, .int a1)] [.ref j3] μ := by
    obtain ⟨oJ3, h⟩ := fw_gu h
    refine fw_astore_n (pc := 25) (lv1 := [(2, .ref j3), (0, .ref 0), (1, .int a1)]) d_X_pullsFor_25 rfl (by decide) rfl ?_
    refine fw_aload_n (pc := 26) d_X_pullsFor_26 0 rfl rfl ?_
    refine fw_getI (pc := 27) d_X_pullsFor_27 fl_X_161 oJ3.1 rfl ?_
    refine fw_if_ne (pc := 30) (tgt := 36) d_X_pullsFor_30 rfl (fun hc => ?_) (fun hc => ?_)
    · have h := fw_it hc h
      refine fw_bipush (pc := 33) d_X_pullsFor_33 fw_bpm2 ?_
      obtain rfl := Option.some.inj h
      exact fw_iret (pc := 35) d_X_pullsFor_35 rfl
    · have h := fw_if hc h
      refine fw_aload_n (pc := 36) d_X_pullsFor_36 1 rfl rfl ?_
      refine fw_getR (pc := 37) d_X_pullsFor_37 fl_X_58 fw_X0 rfl ?_
      refine fw_iload_n (pc := 40) d_X_pullsFor_40 2 rfl rfl ?_
      obtain ⟨v41, e41, h⟩ := fw_be h
      refine fw_iald (pc := 41) d_X_pullsFor_41 fw_X81 e41 ?_
      obtain ⟨j42, w42, h⟩ := fw_be h
      have hJ42 : fw_R "FewTypes" prog_1_method_44_code 3 (some .int) fw_X 6 (some r.1) r.2 131 [(0, .ref 0), (1, .int a1)] [] j42 := by
        refine fw_aload_n (pc := 131) d_X_pullsFor_131 0 rfl rfl ?_
        refine fw_getR (pc := 132) d_X_pullsFor_132 fl_X_58 fw_X0 rfl ?_
        refine fw_iload_n (pc := 135) d_X_pullsFor_135 1 rfl rfl ?_
        obtain ⟨v136, e136, h⟩ := fw_be h
        refine fw_iald (pc := 136) d_X_pullsFor_136 fw_X81 e136 ?_
        obtain rfl := Option.some.inj h
        exact fw_iret (pc := 137) d_X_pullsFor_137 rfl
      clear h
      have h := w42
      clear w42
      refine fw_if_ne (pc := 42) (tgt := 131) d_X_pullsFor_42 rfl (fun hc => ?_) (fun hc => ?_)
      · have h := fw_it hc h
        refine fw_aload_n (pc := 45) d_X_pullsFor_45 1 rfl rfl ?_
        refine fw_getR (pc := 46) d_X_pullsFor_46 fl_X_58 fw_X0 rfl ?_
        refine fw_iload_n (pc := 49) d_X_pullsFor_49 2 rfl rfl ?_
        refine fw_bipush (pc := 50) d_X_pullsFor_50 fw_bpm4 ?_
        obtain ⟨μ52, e52, h⟩ := fw_be h
        refine fw_iast (pc := 52) d_X_pullsFor_52 fw_X81 e52 ?_
        refine fw_aload_n (pc := 53) d_X_pullsFor_53 0 rfl rfl ?_
        refine fw_aload_n (pc := 54) d_X_pullsFor_54 1 rfl rfl ?_
        refine fw_getR (pc := 55) d_X_pullsFor_55 fl_X_12 fw_X0 rfl ?_
        refine fw_getR (pc := 58) d_X_pullsFor_58 fl_X_82 fw_X1 rfl ?_
        refine fw_iconst (pc := 61) d_X_pullsFor_61 fw_icm1 ?_
        obtain ⟨p62, e62, h⟩ := fw_be h
        refine fw_callVi (pc := 62) d_X_pullsFor_62 mv_X_246 oJ3.1 (c_Line_isSayable e62) (by decide) rfl rfl (Nat.le_of_ble_eq_true rfl) ?_
        refine fw_if_eq (pc := 65) (tgt := 131) d_X_pullsFor_65 rfl (fun hc => ?_) (fun hc => ?_)
        · have h := fw_it hc h
          obtain rfl := Option.some.inj h
          exact fw_sub [1, 2] rfl hJ42
        · have h := fw_if hc h
          refine fw_aload_n (pc := 68) d_X_pullsFor_68 1 rfl rfl ?_
          refine fw_getR (pc := 69) d_X_pullsFor_69 fl_X_33 fw_X0 rfl ?_
          refine fw_aload_n (pc := 72) d_X_pullsFor_72 0 rfl rfl ?_
          refine fw_aload_n (pc := 73) d_X_pullsFor_73 1 rfl rfl ?_
          refine fw_getR (pc := 74) d_X_pullsFor_74 fl_X_12 fw_X0 rfl ?_
          refine fw_getR (pc := 77) d_X_pullsFor_77 fl_X_82 fw_X1 rfl ?_
          refine fw_aload_n (pc := 80) d_X_pullsFor_80 1 rfl rfl ?_
          refine fw_getR (pc := 81) d_X_pullsFor_81 fl_X_12 fw_X0 rfl ?_
          refine fw_getR (pc := 84) d_X_pullsFor_84 fl_X_125 fw_X1 rfl ?_
          refine fw_iconst (pc := 87) d_X_pullsFor_87 fw_ic0 ?_
          obtain ⟨v88, e88, h⟩ := fw_be h
          refine fw_iald (pc := 88) d_X_pullsFor_88 fw_X9 e88 ?_
          refine fw_iconst (pc := 89) d_X_pullsFor_89 fw_ic1 ?_
          obtain ⟨j90, w90, h⟩ := fw_ne h
          have hJ90 : fw_R "FewTypes" prog_1_method_44_code 3 (some .int) fw_X 6 (some r.1) r.2 98 [(0, .ref 0), (1, .int a1)] [.int j90, .ref 2, .ref j3, .ref 65] μ52 := by
            obtain ⟨p98, e98, h⟩ := fw_be h
            refine fw_callVv (pc := 98) d_X_pullsFor_98 mv_X_310 fw_X65 (c_Press_lock e98) (by decide) rfl rfl (Nat.le_of_ble_eq_true rfl) ?_
            refine fw_aload_n (pc := 101) d_X_pullsFor_101 0 rfl rfl ?_
            refine fw_getR (pc := 102) d_X_pullsFor_102 fl_X_58 fw_X0 rfl ?_
            refine fw_iload_n (pc := 105) d_X_pullsFor_105 1 rfl rfl ?_
            refine fw_aload_n (pc := 106) d_X_pullsFor_106 0 rfl rfl ?_
            refine fw_getR (pc := 107) d_X_pullsFor_107 fl_X_33 fw_X0 rfl ?_
            obtain ⟨p110, e110, h⟩ := fw_be h
            refine fw_callVi (pc := 110) d_X_pullsFor_110 mv_X_314 fw_X65 (c_Press_solve e110) (by decide) rfl rfl (Nat.le_of_ble_eq_true rfl) ?_
            obtain ⟨μ113, e113, h⟩ := fw_be h
            refine fw_iast (pc := 113) d_X_pullsFor_113 fw_X81 e113 ?_
            refine fw_iload_n (pc := 114) d_X_pullsFor_114 1 rfl rfl ?_
            refine fw_bipush (pc := 115) d_X_pullsFor_115 fw_bp8 ?_
            refine fw_icmp_ne (pc := 117) (tgt := 131) d_X_pullsFor_117 rfl (fun hc => ?_) (fun hc => ?_)
            · have h := fw_it hc h
              refine fw_aload_n (pc := 120) d_X_pullsFor_120 0 rfl rfl ?_
              refine fw_getR (pc := 121) d_X_pullsFor_121 fl_X_33 fw_X0 rfl ?_
              refine fw_aload_n (pc := 124) d_X_pullsFor_124 0 rfl rfl ?_
              refine fw_getR (pc := 125) d_X_pullsFor_125 fl_X_62 fw_X0 rfl ?_
              obtain ⟨p128, e128, h⟩ := fw_be h
              refine fw_callVv (pc := 128) d_X_pullsFor_128 mv_X_317 fw_X65 (c_Press_findPlan e128) (by decide) rfl rfl (Nat.le_of_ble_eq_true rfl) ?_
              obtain rfl := Option.some.inj h
              exact fw_sub [0, 1] rfl hJ42
            · have h := fw_if hc h
              obtain rfl := Option.some.inj h
              exact fw_sub [0, 1] rfl hJ42
          clear h
          have h := w90
          clear w90
          refine fw_icmp_ne (pc := 90) (tgt := 97) d_X_pullsFor_90 rfl (fun hc => ?_) (fun hc => ?_)
          · have h := h.trans (if_pos hc)
            refine fw_iconst (pc := 93) d_X_pullsFor_93 fw_ic1 ?_
            refine fw_goto (pc := 94) (tgt := 98) d_X_pullsFor_94 rfl ?_
            subst h
            exact fw_sub [1, 2] rfl hJ90
          · have h := h.trans (if_neg hc)
            refine fw_iconst (pc := 97) d_X_pullsFor_97 fw_ic0 ?_
            subst h
            exact fw_sub [1, 2] rfl hJ90
      · have h := fw_if hc h
        obtain rfl := Option.some.inj h
        exact fw_sub [1, 2] rfl hJ42
  clear h
  have h := w3
  clear w3
  refine fw_icmp_ne (pc := 3) (tgt := 16) d_X_pullsFor_3 rfl (fun hc => ?_) (fun hc => ?_)
  · have h := fw_it hc h
    refine fw_aload_n (pc := 6) d_X_pullsFor_6 0 rfl rfl ?_
    refine fw_getR (pc := 7) d_X_pullsFor_7 fl_X_12 fw_X0 rfl ?_
    refine fw_getR (pc := 10) d_X_pullsFor_10 fl_X_139 fw_X1 rfl ?_
    refine fw_goto (pc := 13) (tgt := 25) d_X_pullsFor_13 rfl ?_
    obtain rfl := Option.some.inj h
    exact fw_sub [0, 1] rfl hJ3
  · have h := fw_if hc h
    refine fw_aload_n (pc := 16) d_X_pullsFor_16 0 rfl rfl ?_
    refine fw_getR (pc := 17) d_X_pullsFor_17 fl_X_12 fw_X0 rfl ?_
    refine fw_getR (pc := 20) d_X_pullsFor_20 fl_X_236 fw_X1 rfl ?_
    refine fw_iload_n (pc := 23) d_X_pullsFor_23 1 rfl rfl ?_
    obtain ⟨r24, e24, h⟩ := fw_be h
    obtain ⟨o24, h⟩ := fw_gu h
    refine fw_aald 0 (pc := 24) d_X_pullsFor_24 (fun _ => rfl) fw_X10 e24 ?_
    obtain rfl := Option.some.inj h
    exact fw_sub [0, 1] rfl hJ3
def f_X_fewest  (μ : fw_M) : Option (Int32 × fw_M) :=
  (f_X_pullsFor 8 μ).bind fun (p3 : Int32 × fw_M) =>
  some (p3.1, p3.2)
set_option maxHeartbeats 4000000 in
set_option maxRecDepth 100000 in
theorem c_X_fewest  {μ : fw_M} {r : Int32 × fw_M} (h : f_X_fewest  μ = some r) : fw_Con Y_X_fewest fw_X 7 [.ref 0] (some r.1) μ r.2 := by
  refine fw_con (by decide) (Nat.le_of_ble_eq_true rfl) ?_
  rw [f_X_fewest] at h
  show fw_R "FewTypes" prog_1_method_14_code 1 (some .int) fw_X 7 (some r.1) r.2 0 [(0, .ref 0)] [] μ
  refine fw_aload_n (pc := 0) d_X_fewest_0 0 rfl rfl ?_
  refine fw_bipush (pc := 1) d_X_fewest_1 fw_bp8 ?_
  obtain ⟨p3, e3, h⟩ := fw_be h
  refine fw_callVi (pc := 3) d_X_fewest_3 mv_X_193 fw_X0 (c_X_pullsFor e3) (by decide) rfl rfl (Nat.le_of_ble_eq_true rfl) ?_
  obtain rfl := Option.some.inj h
  exact fw_iret (pc := 6) d_X_fewest_6 rfl
def f_X_plan (a1 : Int32) (μ : fw_M) : Option (Int32 × fw_M) :=
  if a1 < 0 then
    some ((-1), μ)
  else
    if a1 < 10 then
      (f_X_pullsFor 8 μ).bind fun (p15 : Int32 × fw_M) =>
      if 0 ≤ p15.1 then
        Option.bind (
          if p15.1 ≤ a1 then
            some (-4)
          else
            (fw_rd 10 (p15.2.1 82) a1).bind fun v35 =>
            some v35) fun (j27 : Int32) =>
        some (j27, p15.2)
      else
        some (p15.1, p15.2)
    else
      some ((-1), μ)
set_option maxHeartbeats 4000000 in
set_option maxRecDepth 100000 in
theorem c_X_plan {a1 : Int32} {μ : fw_M} {r : Int32 × fw_M} (h : f_X_plan a1 μ = some r) : fw_Con Y_X_plan fw_X 7 [.ref 0, .int a1] (some r.1) μ r.2 := by
  refine fw_con (by decide) (Nat.le_of_ble_eq_true rfl) ?_
  rw [f_X_plan] at h
  show fw_R "FewTypes" prog_1_method_15_code 3 (some .int) fw_X 7 (some r.1) r.2 0 [(0, .ref 0), (1, .int a1)] [] μ
  refine fw_iload_n (pc := 0) d_X_plan_0 1 rfl rfl ?_
  refine fw_if_lt (pc := 1) (tgt := 10) d_X_plan_1 rfl (fun hc => ?_) (fun hc => ?_)
  · have h := fw_it hc h
    refine fw_iconst (pc := 10) d_X_plan_10 fw_icm1 ?_
    obtain rfl := Option.some.inj h
    exact fw_iret (pc := 11) d_X_plan_11 rfl
  · have h := fw_if hc h
    refine fw_iload_n (pc := 4) d_X_plan_4 1 rfl rfl ?_
    refine fw_bipush (pc := 5) d_X_plan_5 fw_bp10 ?_
    refine fw_icmp_lt (pc := 7) (tgt := 12) d_X_plan_7 rfl (fun hc => ?_) (fun hc => ?_)
    · have h := fw_it hc h
      refine fw_aload_n (pc := 12) d_X_plan_12 0 rfl rfl ?_
      refine fw_bipush (pc := 13) d_X_plan_13 fw_bp8 ?_
      obtain ⟨p15, e15, h⟩ := fw_be h
      refine fw_callVi (pc := 15) d_X_plan_15 mv_X_193 fw_X0 (c_X_pullsFor e15) (by decide) rfl rfl (Nat.le_of_ble_eq_true rfl) ?_
      refine fw_istore_n (pc := 18) (lv1 := [(2, .int p15.1), (0, .ref 0), (1, .int a1)]) d_X_plan_18 rfl (by decide) rfl ?_
      refine fw_iload_n (pc := 19) d_X_plan_19 0 rfl rfl ?_
      refine fw_if_ge (pc := 20) (tgt := 25) d_X_plan_20 rfl (fun hc => ?_) (fun hc => ?_)
      · have h := fw_it hc h
        refine fw_iload_n (pc := 25) d_X_plan_25 2 rfl rfl ?_
        refine fw_iload_n (pc := 26) d_X_plan_26 0 rfl rfl ?_
        obtain ⟨j27, w27, h⟩ := fw_be h
        have hJ27 : fw_R "FewTypes" prog_1_method_15_code 3 (some .int) fw_X 7 (some r.1) r.2 41 [] [.int j27] p15.2 := by
          obtain rfl := Option.some.inj h
          exact fw_iret (pc := 41) d_X_plan_41 rfl
        clear h
        have h := w27
        clear w27
        refine fw_icmp_ge (pc := 27) (tgt := 39) d_X_plan_27 rfl (fun hc => ?_) (fun hc => ?_)
        · have h := fw_it hc h
          refine fw_bipush (pc := 39) d_X_plan_39 fw_bpm4 ?_
          obtain rfl := Option.some.inj h
          exact fw_sub [] rfl hJ27
        · have h := fw_if hc h
          refine fw_aload_n (pc := 30) d_X_plan_30 1 rfl rfl ?_
          refine fw_getR (pc := 31) d_X_plan_31 fl_X_62 fw_X0 rfl ?_
          refine fw_iload_n (pc := 34) d_X_plan_34 2 rfl rfl ?_
          obtain ⟨v35, e35, h⟩ := fw_be h
          refine fw_iald (pc := 35) d_X_plan_35 fw_X82 e35 ?_
          refine fw_goto (pc := 36) (tgt := 41) d_X_plan_36 rfl ?_
          obtain rfl := Option.some.inj h
          exact fw_sub [] rfl hJ27
      · have h := fw_if hc h
        refine fw_iload_n (pc := 23) d_X_plan_23 0 rfl rfl ?_
        obtain rfl := Option.some.inj h
        exact fw_iret (pc := 24) d_X_plan_24 rfl
    · have h := fw_if hc h
      refine fw_iconst (pc := 10) d_X_plan_10 fw_icm1 ?_
      obtain rfl := Option.some.inj h
      exact fw_iret (pc := 11) d_X_plan_11 rfl
def f_Line_howOften_L4 (t0 : Nat) (a1 : Int32) (μ : fw_M) : Int32 × Int32 → Option ((Int32 × Int32) ⊕ (Int32))
  | (x2_4, x3_4) =>
  if (μ.1 t0 1) ≤ x3_4 then
    some (.inr x2_4)
  else
    (fw_rd 10 (μ.1 (t0 + 1)) x3_4).bind fun v17 =>
    Option.bind (
      if v17 = a1 then
        fw_nm (x2_4 + 1) fun (v22 : Int32) =>
        some v22
      else
        some x2_4) fun (j19 : Int32) =>
    fw_nm (x3_4 + 1) fun (v25 : Int32) =>
    some (.inl (j19, v25))
def f_Line_howOften (t0 : Nat) (a1 : Int32) (μ : fw_M) : Option (Int32) :=
  if fw_okL t0 then
    (fw_wh (f_Line_howOften_L4 t0 a1 μ) fw_N (0, 0)).bind fun (e4x : Int32) =>
    some e4x
  else none
set_option maxHeartbeats 4000000 in
set_option maxRecDepth 100000 in
theorem c_Line_howOften {t0 : Nat} {a1 : Int32} {μ : fw_M} {r : Int32} (h : f_Line_howOften t0 a1 μ = some r) : fw_Con Y_Line_howOften fw_X 1 [.ref t0, .int a1] (some r) μ μ := by
  refine fw_con (by decide) (Nat.le_of_ble_eq_true rfl) ?_
  rw [f_Line_howOften] at h
  show fw_R "FewTypes$Line" prog_4_method_9_code 4 (some .int) fw_X 1 (some r) μ 0 [(0, .ref t0), (1, .int a1)] [] μ
  obtain ⟨g0, h⟩ := fw_gu h
  refine fw_iconst (pc := 0) d_Line_howOften_0 fw_ic0 ?_
  refine fw_istore_n (pc := 1) (lv1 := [(2, .int 0), (0, .ref t0), (1, .int a1)]) d_Line_howOften_1 rfl (by decide) rfl ?_
  refine fw_iconst (pc := 2) d_Line_howOften_2 fw_ic0 ?_
  refine fw_istore_n (pc := 3) (lv1 := [(3, .int 0), (2, .int 0), (0, .ref t0), (1, .int a1)]) d_Line_howOften_3 rfl (by decide) rfl ?_
  obtain ⟨e4x, w4, h⟩ := fw_be h
  have hE4 : fw_R "FewTypes$Line" prog_4_method_9_code 4 (some .int) fw_X 1 (some r) μ 31 [(2, .int e4x)] [] μ := by
    refine fw_iload_n (pc := 31) d_Line_howOften_31 0 rfl rfl ?_
    obtain rfl := Option.some.inj h
    exact fw_iret (pc := 32) d_Line_howOften_32 rfl
  clear h
  exact fw_sub [2, 3, 1, 0] rfl (fw_we (e := e4x) (fun (s : Int32 × Int32) => fw_R "FewTypes$Line" prog_4_method_9_code 4 (some .int) fw_X 1 (some r) μ 4 [(0, .ref t0), (1, .int a1), (2, .int s.1), (3, .int s.2)] [] μ) (by
    intro s x h hl hr
    obtain ⟨x2_4, x3_4⟩ := s
    rw [f_Line_howOften_L4] at h
    show fw_R "FewTypes$Line" prog_4_method_9_code 4 (some .int) fw_X 1 (some r) μ 4 [(0, .ref t0), (1, .int a1), (2, .int x2_4), (3, .int x3_4)] [] μ
    refine fw_iload_n (pc := 4) d_Line_howOften_4 3 rfl rfl ?_
    refine fw_aload_n (pc := 5) d_Line_howOften_5 0 rfl rfl ?_
    refine fw_getI (pc := 6) d_Line_howOften_6 fl_Line_15 g0.1 rfl ?_
    refine fw_icmp_ge (pc := 9) (tgt := 31) d_Line_howOften_9 rfl (fun hc => ?_) (fun hc => ?_)
    · have h := fw_it hc h
      obtain rfl := Option.some.inj h
      have he := hr _ rfl
      subst he
      exact fw_sub [2] rfl hE4
    · have h := fw_if hc h
      refine fw_aload_n (pc := 12) d_Line_howOften_12 0 rfl rfl ?_
      refine fw_getR (pc := 13) d_Line_howOften_13 fl_Line_9 g0.1 rfl ?_
      refine fw_iload_n (pc := 16) d_Line_howOften_16 3 rfl rfl ?_
      obtain ⟨v17, e17, h⟩ := fw_be h
      refine fw_iald (pc := 17) d_Line_howOften_17 g0.2 e17 ?_
      refine fw_iload_n (pc := 18) d_Line_howOften_18 1 rfl rfl ?_
      obtain ⟨j19, w19, h⟩ := fw_be h
      have hJ19 : fw_R "FewTypes$Line" prog_4_method_9_code 4 (some .int) fw_X 1 (some r) μ 25 [(0, .ref t0), (1, .int a1), (2, .int j19), (3, .int x3_4)] [] μ := by
        obtain ⟨v25, e25, h⟩ := fw_ne h
        refine fw_iinc2 (pc := 25) (j := 3) (lv1 := [(3, .int v25), (0, .ref t0), (1, .int a1), (2, .int j19)]) d_Line_howOften_25 rfl fw_ic1 e25 (by decide) rfl ?_
        refine fw_goto (pc := 28) (tgt := 4) d_Line_howOften_28 rfl ?_
        obtain rfl := Option.some.inj h
        exact fw_sub [1, 2, 3, 0] rfl (hl _ rfl)
      clear h
      have h := w19
      clear w19
      refine fw_icmp_ne (pc := 19) (tgt := 25) d_Line_howOften_19 rfl (fun hc => ?_) (fun hc => ?_)
      · have h := fw_it hc h
        obtain ⟨v22, e22, h⟩ := fw_ne h
        refine fw_iinc2 (pc := 22) (j := 2) (lv1 := [(2, .int v22), (0, .ref t0), (1, .int a1), (3, .int x3_4)]) d_Line_howOften_22 rfl fw_ic1 e22 (by decide) rfl ?_
        obtain rfl := Option.some.inj h
        exact fw_sub [1, 2, 0, 3] rfl hJ19
      · have h := fw_if hc h
        obtain rfl := Option.some.inj h
        exact fw_sub [0, 1, 2, 3] rfl hJ19
    ) _ _ w4)
def f_Case_printers_2_L4 (a1 : Int32) (μ : fw_M) : Int32 × Int32 → Option ((Int32 × Int32) ⊕ (Int32))
  | (x2_4, x3_4) =>
  if (μ.1 2 3) ≤ x3_4 then
    some (.inr x2_4)
  else
    (fw_rd 10 (μ.1 4) x3_4).bind fun v17 =>
    Option.bind (
      if v17 = a1 then
        fw_nm (x2_4 + 1) fun (v22 : Int32) =>
        some v22
      else
        some x2_4) fun (j19 : Int32) =>
    (fw_rd 10 (μ.1 3) x3_4).bind fun v30 =>
    Option.bind (
      if v30 = 1 then
        (fw_rd 10 (μ.1 5) x3_4).bind fun v50 =>
        if v50 = a1 then
          fw_nm (j19 + 1) fun (v55 : Int32) =>
          some v55
        else
          some j19
      else
        (fw_rd 10 (μ.1 3) x3_4).bind fun v40 =>
        if v40 = 2 then
          (fw_rd 10 (μ.1 5) x3_4).bind fun v50 =>
          if v50 = a1 then
            fw_nm (j19 + 1) fun (v55 : Int32) =>
            some v55
          else
            some j19
        else
          some j19) fun (j32 : Int32) =>
    fw_nm (x3_4 + 1) fun (v58 : Int32) =>
    some (.inl (j32, v58))
def f_Case_printers_2 (a1 : Int32) (μ : fw_M) : Option (Int32) :=
  (fw_wh (f_Case_printers_2_L4 a1 μ) fw_N (0, 0)).bind fun (e4x : Int32) =>
  some e4x
set_option maxHeartbeats 4000000 in
set_option maxRecDepth 100000 in
theorem c_Case_printers_2 {a1 : Int32} {μ : fw_M} {r : Int32} (h : f_Case_printers_2 a1 μ = some r) : fw_Con Y_Case_printers fw_X 1 [.ref 2, .int a1] (some r) μ μ := by
  refine fw_con (by decide) (Nat.le_of_ble_eq_true rfl) ?_
  rw [f_Case_printers_2] at h
  show fw_R "FewTypes$Case" prog_2_method_11_code 4 (some .int) fw_X 1 (some r) μ 0 [(0, .ref 2), (1, .int a1)] [] μ
  refine fw_iconst (pc := 0) d_Case_printers_0 fw_ic0 ?_
  refine fw_istore_n (pc := 1) (lv1 := [(2, .int 0), (0, .ref 2), (1, .int a1)]) d_Case_printers_1 rfl (by decide) rfl ?_
  refine fw_iconst (pc := 2) d_Case_printers_2 fw_ic0 ?_
  refine fw_istore_n (pc := 3) (lv1 := [(3, .int 0), (2, .int 0), (0, .ref 2), (1, .int a1)]) d_Case_printers_3 rfl (by decide) rfl ?_
  obtain ⟨e4x, w4, h⟩ := fw_be h
  have hE4 : fw_R "FewTypes$Case" prog_2_method_11_code 4 (some .int) fw_X 1 (some r) μ 64 [(2, .int e4x)] [] μ := by
    refine fw_iload_n (pc := 64) d_Case_printers_64 0 rfl rfl ?_
    obtain rfl := Option.some.inj h
    exact fw_iret (pc := 65) d_Case_printers_65 rfl
  clear h
  exact fw_sub [2, 3, 1, 0] rfl (fw_we (e := e4x) (fun (s : Int32 × Int32) => fw_R "FewTypes$Case" prog_2_method_11_code 4 (some .int) fw_X 1 (some r) μ 4 [(0, .ref 2), (1, .int a1), (2, .int s.1), (3, .int s.2)] [] μ) (by
    intro s x h hl hr
    obtain ⟨x2_4, x3_4⟩ := s
    rw [f_Case_printers_2_L4] at h
    show fw_R "FewTypes$Case" prog_2_method_11_code 4 (some .int) fw_X 1 (some r) μ 4 [(0, .ref 2), (1, .int a1), (2, .int x2_4), (3, .int x3_4)] [] μ
    refine fw_iload_n (pc := 4) d_Case_printers_4 3 rfl rfl ?_
    refine fw_aload_n (pc := 5) d_Case_printers_5 0 rfl rfl ?_
    refine fw_getI (pc := 6) d_Case_printers_6 fl_Case_21 fw_X2 rfl ?_
    refine fw_icmp_ge (pc := 9) (tgt := 64) d_Case_printers_9 rfl (fun hc => ?_) (fun hc => ?_)
    · have h := fw_it hc h
      obtain rfl := Option.some.inj h
      have he := hr _ rfl
      subst he
      exact fw_sub [2] rfl hE4
    · have h := fw_if hc h
      refine fw_aload_n (pc := 12) d_Case_printers_12 0 rfl rfl ?_
      refine fw_getR (pc := 13) d_Case_printers_13 fl_Case_15 fw_X2 rfl ?_
      refine fw_iload_n (pc := 16) d_Case_printers_16 3 rfl rfl ?_
      obtain ⟨v17, e17, h⟩ := fw_be h
      refine fw_iald (pc := 17) d_Case_printers_17 fw_X4 e17 ?_
      refine fw_iload_n (pc := 18) d_Case_printers_18 1 rfl rfl ?_
      obtain ⟨j19, w19, h⟩ := fw_be h
      have hJ19 : fw_R "FewTypes$Case" prog_2_method_11_code 4 (some .int) fw_X 1 (some r) μ 25 [(0, .ref 2), (1, .int a1), (2, .int j19), (3, .int x3_4)] [] μ := by
        refine fw_aload_n (pc := 25) d_Case_printers_25 0 rfl rfl ?_
        refine fw_getR (pc := 26) d_Case_printers_26 fl_Case_9 fw_X2 rfl ?_
        refine fw_iload_n (pc := 29) d_Case_printers_29 3 rfl rfl ?_
        obtain ⟨v30, e30, h⟩ := fw_be h
        refine fw_iald (pc := 30) d_Case_printers_30 fw_X3 e30 ?_
        refine fw_iconst (pc := 31) d_Case_printers_31 fw_ic1 ?_
        obtain ⟨j32, w32, h⟩ := fw_be h
        have hJ32 : fw_R "FewTypes$Case" prog_2_method_11_code 4 (some .int) fw_X 1 (some r) μ 58 [(0, .ref 2), (1, .int a1), (2, .int j32), (3, .int x3_4)] [] μ := by
          obtain ⟨v58, e58, h⟩ := fw_ne h
          refine fw_iinc2 (pc := 58) (j := 3) (lv1 := [(3, .int v58), (0, .ref 2), (1, .int a1), (2, .int j32)]) d_Case_printers_58 rfl fw_ic1 e58 (by decide) rfl ?_
          refine fw_goto (pc := 61) (tgt := 4) d_Case_printers_61 rfl ?_
          obtain rfl := Option.some.inj h
          exact fw_sub [1, 2, 3, 0] rfl (hl _ rfl)
        clear h
        have h := w32
        clear w32
        refine fw_icmp_eq (pc := 32) (tgt := 45) d_Case_printers_32 rfl (fun hc => ?_) (fun hc => ?_)
        · have h := fw_it hc h
          refine fw_aload_n (pc := 45) d_Case_printers_45 0 rfl rfl ?_
          refine fw_getR (pc := 46) d_Case_printers_46 fl_Case_18 fw_X2 rfl ?_
          refine fw_iload_n (pc := 49) d_Case_printers_49 3 rfl rfl ?_
          obtain ⟨v50, e50, h⟩ := fw_be h
          refine fw_iald (pc := 50) d_Case_printers_50 fw_X5 e50 ?_
          refine fw_iload_n (pc := 51) d_Case_printers_51 1 rfl rfl ?_
          refine fw_icmp_ne (pc := 52) (tgt := 58) d_Case_printers_52 rfl (fun hc => ?_) (fun hc => ?_)
          · have h := fw_it hc h
            obtain ⟨v55, e55, h⟩ := fw_ne h
            refine fw_iinc2 (pc := 55) (j := 2) (lv1 := [(2, .int v55), (0, .ref 2), (1, .int a1), (3, .int x3_4)]) d_Case_printers_55 rfl fw_ic1 e55 (by decide) rfl ?_
            obtain rfl := Option.some.inj h
            exact fw_sub [1, 2, 0, 3] rfl hJ32
          · have h := fw_if hc h
            obtain rfl := Option.some.inj h
            exact fw_sub [0, 1, 2, 3] rfl hJ32
        · have h := fw_if hc h
          refine fw_aload_n (pc := 35) d_Case_printers_35 0 rfl rfl ?_
          refine fw_getR (pc := 36) d_Case_printers_36 fl_Case_9 fw_X2 rfl ?_
          refine fw_iload_n (pc := 39) d_Case_printers_39 3 rfl rfl ?_
          obtain ⟨v40, e40, h⟩ := fw_be h
          refine fw_iald (pc := 40) d_Case_printers_40 fw_X3 e40 ?_
          refine fw_iconst (pc := 41) d_Case_printers_41 fw_ic2 ?_
          refine fw_icmp_ne (pc := 42) (tgt := 58) d_Case_printers_42 rfl (fun hc => ?_) (fun hc => ?_)
          · have h := fw_it hc h
            refine fw_aload_n (pc := 45) d_Case_printers_45 0 rfl rfl ?_
            refine fw_getR (pc := 46) d_Case_printers_46 fl_Case_18 fw_X2 rfl ?_
            refine fw_iload_n (pc := 49) d_Case_printers_49 3 rfl rfl ?_
            obtain ⟨v50, e50, h⟩ := fw_be h
            refine fw_iald (pc := 50) d_Case_printers_50 fw_X5 e50 ?_
            refine fw_iload_n (pc := 51) d_Case_printers_51 1 rfl rfl ?_
            refine fw_icmp_ne (pc := 52) (tgt := 58) d_Case_printers_52 rfl (fun hc => ?_) (fun hc => ?_)
            · have h := fw_it hc h
              obtain ⟨v55, e55, h⟩ := fw_ne h
              refine fw_iinc2 (pc := 55) (j := 2) (lv1 := [(2, .int v55), (0, .ref 2), (1, .int a1), (3, .int x3_4)]) d_Case_printers_55 rfl fw_ic1 e55 (by decide) rfl ?_
              obtain rfl := Option.some.inj h
              exact fw_sub [1, 2, 0, 3] rfl hJ32
            · have h := fw_if hc h
              obtain rfl := Option.some.inj h
              exact fw_sub [0, 1, 2, 3] rfl hJ32
          · have h := fw_if hc h
            obtain rfl := Option.some.inj h
            exact fw_sub [0, 1, 2, 3] rfl hJ32
      clear h
      have h := w19
      clear w19
      refine fw_icmp_ne (pc := 19) (tgt := 25) d_Case_printers_19 rfl (fun hc => ?_) (fun hc => ?_)
      · have h := fw_it hc h
        obtain ⟨v22, e22, h⟩ := fw_ne h
        refine fw_iinc2 (pc := 22) (j := 2) (lv1 := [(2, .int v22), (0, .ref 2), (1, .int a1), (3, .int x3_4)]) d_Case_printers_22 rfl fw_ic1 e22 (by decide) rfl ?_
        obtain rfl := Option.some.inj h
        exact fw_sub [1, 2, 0, 3] rfl hJ19
      · have h := fw_if hc h
        obtain rfl := Option.some.inj h
        exact fw_sub [0, 1, 2, 3] rfl hJ19
    ) _ _ w4)
