abbrev Y_X_count : fw_Y := (⟨"FewTypes", "count", "(I)I"⟩, prog_1_method_11_code, 2, (some .int))
abbrev Y_X_isSetOfPlaces : fw_Y := (⟨"FewTypes", "isSetOfPlaces", "(I)Z"⟩, prog_1_method_41_code, 2, (some .boolean))
abbrev Y_Case_prints : fw_Y := (⟨"FewTypes$Case", "prints", "(II)Z"⟩, prog_2_method_7_code, 3, (some .boolean))
abbrev Y_Case_joins : fw_Y := (⟨"FewTypes$Case", "joins", "(III)Z"⟩, prog_2_method_8_code, 4, (some .boolean))
abbrev Y_Press_lockType : fw_Y := (⟨"FewTypes$Press", "lockType", "(LFewTypes$Line;LFewTypes$Case;I)Z"⟩, prog_6_method_3_code, 6, (some .boolean))
abbrev Y_Press_setRow : fw_Y := (⟨"FewTypes$Press", "setRow", "(IJ)V"⟩, prog_6_method_19_code, 5, none)
abbrev Y_Press_lock : fw_Y := (⟨"FewTypes$Press", "lock", "(LFewTypes$Line;LFewTypes$Case;Z)V"⟩, prog_6_method_2_code, 5, none)
abbrev Y_X_lockLine : fw_Y := (⟨"FewTypes", "lockLine", "()V"⟩, prog_1_method_43_code, 1, none)
abbrev Y_Press_pairsOf : fw_Y := (⟨"FewTypes$Press", "pairsOf", "(I)I"⟩, prog_6_method_15_code, 2, (some .int))
abbrev Y_Press_mayPrintAlone : fw_Y := (⟨"FewTypes$Press", "mayPrintAlone", "(II)I"⟩, prog_6_method_16_code, 3, (some .int))
abbrev Y_Press_addWays : fw_Y := (⟨"FewTypes$Press", "addWays", "(III)V"⟩, prog_6_method_20_code, 9, none)
abbrev Y_Press_mayPrintJoined : fw_Y := (⟨"FewTypes$Press", "mayPrintJoined", "(II)I"⟩, prog_6_method_17_code, 4, (some .int))
theorem fl_X_161 : fw_FL "FewTypes" 161 2 1 := ⟨_, _, _, rfl, fw_i2, by decide, fw_m 128 (by decide +kernel) (by decide +kernel)⟩
theorem mv_X_162 : fw_MV "FewTypes" 162 Y_Line_hairs 2 1 := ⟨fw_m 493 (by decide +kernel) (by decide +kernel), fw_m 494 (by decide +kernel) (by decide +kernel), fw_m 495 (by decide +kernel) (by decide +kernel), fw_m 62 (by decide +kernel) (by decide +kernel), fw_m 496 (by decide +kernel) (by decide +kernel), ⟨by decide +kernel, by decide +kernel, by decide +kernel⟩, by decide, _, _, rfl⟩
theorem fl_X_166 : fw_FL "FewTypes" 166 6 6 := ⟨_, _, _, rfl, fw_i6, by decide, fw_m 183 (by decide +kernel) (by decide +kernel)⟩
theorem fl_X_169 : fw_FL "FewTypes" 169 6 7 := ⟨_, _, _, rfl, fw_i6, by decide, fw_m 185 (by decide +kernel) (by decide +kernel)⟩
theorem fl_X_173 : fw_FL "FewTypes" 173 1 3 := ⟨_, _, _, rfl, fw_i1, by decide, fw_m 149 (by decide +kernel) (by decide +kernel)⟩
theorem fl_X_33 : fw_FL "FewTypes" 33 8 4 := ⟨_, _, _, rfl, fw_i8, by decide, fw_m 317 (by decide +kernel) (by decide +kernel)⟩
theorem mv_X_310 : fw_MV "FewTypes" 310 Y_Press_lock 4 3 := ⟨fw_m 510 (by decide +kernel) (by decide +kernel), fw_m 511 (by decide +kernel) (by decide +kernel), fw_m 512 (by decide +kernel) (by decide +kernel), fw_m 67 (by decide +kernel) (by decide +kernel), fw_m 513 (by decide +kernel) (by decide +kernel), ⟨by decide +kernel, by decide +kernel, by decide +kernel⟩, by decide, _, _, rfl⟩
theorem fl_Press_48 : fw_FL "FewTypes$Press" 48 2 1 := ⟨_, _, _, rfl, fw_i2, by decide, fw_m 125 (by decide +kernel) (by decide +kernel)⟩
theorem fp_Press_28 : fw_FP "FewTypes$Press" 28 4 5 .int := ⟨_, _, _, fw_t4, rfl, fw_i4, by decide, fw_m 231 (by decide +kernel) (by decide +kernel), fw_k4, fw_n4, rfl, by decide +kernel⟩
theorem fl_Press_53 : fw_FL "FewTypes$Press" 53 2 2 := ⟨_, _, _, rfl, fw_i2, by decide, fw_m 130 (by decide +kernel) (by decide +kernel)⟩
theorem fp_Press_32 : fw_FP "FewTypes$Press" 32 4 6 .int := ⟨_, _, _, fw_t4, rfl, fw_i4, by decide, fw_m 232 (by decide +kernel) (by decide +kernel), fw_k4, fw_n4, rfl, by decide +kernel⟩
theorem fp_Press_35 : fw_FP "FewTypes$Press" 35 4 7 .boolean := ⟨_, _, _, fw_t4, rfl, fw_i4, by decide, fw_m 233 (by decide +kernel) (by decide +kernel), fw_k4, fw_n4, rfl, by decide +kernel⟩
theorem fp_Press_39 : fw_FP "FewTypes$Press" 39 4 8 .int := ⟨_, _, _, fw_t4, rfl, fw_i4, by decide, fw_m 234 (by decide +kernel) (by decide +kernel), fw_k4, fw_n4, rfl, by decide +kernel⟩
theorem fp_Press_45 : fw_FP "FewTypes$Press" 45 4 10 .int := ⟨_, _, _, fw_t4, rfl, fw_i4, by decide, fw_m 236 (by decide +kernel) (by decide +kernel), fw_k4, fw_n4, rfl, by decide +kernel⟩
theorem fl_Press_15 : fw_FL "FewTypes$Press" 15 4 1 := ⟨_, _, _, rfl, fw_i4, by decide, fw_m 227 (by decide +kernel) (by decide +kernel)⟩
theorem ms_Press_54 : fw_MS "FewTypes$Press" 54 Y_Arrays_fill 2 := ⟨fw_m 514 (by decide +kernel) (by decide +kernel), fw_m 160 (by decide +kernel) (by decide +kernel), fw_m 64 (by decide +kernel) (by decide +kernel), fw_m 161 (by decide +kernel) (by decide +kernel), ⟨by decide +kernel, by decide +kernel, by decide +kernel⟩, by decide⟩
theorem fl_Press_18 : fw_FL "FewTypes$Press" 18 4 2 := ⟨_, _, _, rfl, fw_i4, by decide, fw_m 228 (by decide +kernel) (by decide +kernel)⟩
theorem fl_Press_60 : fw_FL "FewTypes$Press" 60 0 3 := ⟨_, _, _, rfl, fw_i0, by decide, fw_m 102 (by decide +kernel) (by decide +kernel)⟩
theorem mv_Press_63 : fw_MV "FewTypes$Press" 63 Y_Press_lockType 4 3 := ⟨fw_m 515 (by decide +kernel) (by decide +kernel), fw_m 517 (by decide +kernel) (by decide +kernel), fw_m 6 (by decide +kernel) (by decide +kernel), fw_m 67 (by decide +kernel) (by decide +kernel), fw_m 518 (by decide +kernel) (by decide +kernel), ⟨by decide +kernel, by decide +kernel, by decide +kernel⟩, by decide, _, _, rfl⟩
theorem fl_Press_28 : fw_FL "FewTypes$Press" 28 4 5 := ⟨_, _, _, rfl, fw_i4, by decide, fw_m 231 (by decide +kernel) (by decide +kernel)⟩
theorem fl_Press_76 : fw_FL "FewTypes$Press" 76 2 0 := ⟨_, _, _, rfl, fw_i2, by decide, fw_m 121 (by decide +kernel) (by decide +kernel)⟩
theorem mv_Press_79 : fw_MV "FewTypes$Press" 79 Y_Case_prints 0 2 := ⟨fw_m 519 (by decide +kernel) (by decide +kernel), fw_m 520 (by decide +kernel) (by decide +kernel), fw_m 521 (by decide +kernel) (by decide +kernel), fw_m 61 (by decide +kernel) (by decide +kernel), fw_m 522 (by decide +kernel) (by decide +kernel), ⟨by decide +kernel, by decide +kernel, by decide +kernel⟩, by decide, _, _, rfl⟩
theorem fl_Press_39 : fw_FL "FewTypes$Press" 39 4 8 := ⟨_, _, _, rfl, fw_i4, by decide, fw_m 234 (by decide +kernel) (by decide +kernel)⟩
theorem mv_Press_83 : fw_MV "FewTypes$Press" 83 Y_Line_besideNext 2 1 := ⟨fw_m 523 (by decide +kernel) (by decide +kernel), fw_m 482 (by decide +kernel) (by decide +kernel), fw_m 483 (by decide +kernel) (by decide +kernel), fw_m 62 (by decide +kernel) (by decide +kernel), fw_m 484 (by decide +kernel) (by decide +kernel), ⟨by decide +kernel, by decide +kernel, by decide +kernel⟩, by decide, _, _, rfl⟩
theorem mv_Press_87 : fw_MV "FewTypes$Press" 87 Y_Case_joins 0 3 := ⟨fw_m 524 (by decide +kernel) (by decide +kernel), fw_m 525 (by decide +kernel) (by decide +kernel), fw_m 526 (by decide +kernel) (by decide +kernel), fw_m 61 (by decide +kernel) (by decide +kernel), fw_m 527 (by decide +kernel) (by decide +kernel), ⟨by decide +kernel, by decide +kernel, by decide +kernel⟩, by decide, _, _, rfl⟩
theorem fl_Press_9 : fw_FL "FewTypes$Press" 9 4 0 := ⟨_, _, _, rfl, fw_i4, by decide, fw_m 226 (by decide +kernel) (by decide +kernel)⟩
theorem fl_Press_45 : fw_FL "FewTypes$Press" 45 4 10 := ⟨_, _, _, rfl, fw_i4, by decide, fw_m 236 (by decide +kernel) (by decide +kernel)⟩
theorem fl_Press_67 : fw_FL "FewTypes$Press" 67 0 0 := ⟨_, _, _, rfl, fw_i0, by decide, fw_m 94 (by decide +kernel) (by decide +kernel)⟩
theorem fp_Press_42 : fw_FP "FewTypes$Press" 42 4 9 .int := ⟨_, _, _, fw_t4, rfl, fw_i4, by decide, fw_m 235 (by decide +kernel) (by decide +kernel), fw_k4, fw_n4, rfl, by decide +kernel⟩
theorem cl_Press_70 : Cond.constantLong "FewTypes$Press" 70 (-1) ∈ fw_tb := fw_m 528 (by decide +kernel) (by decide +kernel)
theorem mv_Press_72 : fw_MV "FewTypes$Press" 72 Y_Press_setRow 4 2 := ⟨fw_m 529 (by decide +kernel) (by decide +kernel), fw_m 531 (by decide +kernel) (by decide +kernel), fw_m 7 (by decide +kernel) (by decide +kernel), fw_m 67 (by decide +kernel) (by decide +kernel), fw_m 532 (by decide +kernel) (by decide +kernel), ⟨by decide +kernel, by decide +kernel, by decide +kernel⟩, by decide, _, _, rfl⟩
theorem fl_Press_42 : fw_FL "FewTypes$Press" 42 4 9 := ⟨_, _, _, rfl, fw_i4, by decide, fw_m 235 (by decide +kernel) (by decide +kernel)⟩
theorem fl_Press_21 : fw_FL "FewTypes$Press" 21 4 3 := ⟨_, _, _, rfl, fw_i4, by decide, fw_m 229 (by decide +kernel) (by decide +kernel)⟩
theorem ms_Press_133 : fw_MN "FewTypes$Press" 133 Y_X_inSet 2 := ⟨by decide +kernel, fw_m 486 (by decide +kernel) (by decide +kernel), fw_m 59 (by decide +kernel) (by decide +kernel), fw_m 487 (by decide +kernel) (by decide +kernel), ⟨by decide +kernel, by decide +kernel, by decide +kernel⟩, by decide⟩
theorem fl_Press_35 : fw_FL "FewTypes$Press" 35 4 7 := ⟨_, _, _, rfl, fw_i4, by decide, fw_m 233 (by decide +kernel) (by decide +kernel)⟩
theorem mv_Press_146 : fw_MV "FewTypes$Press" 146 Y_Press_pairsOf 4 1 := ⟨fw_m 546 (by decide +kernel) (by decide +kernel), fw_m 548 (by decide +kernel) (by decide +kernel), fw_m 10 (by decide +kernel) (by decide +kernel), fw_m 67 (by decide +kernel) (by decide +kernel), fw_m 549 (by decide +kernel) (by decide +kernel), ⟨by decide +kernel, by decide +kernel, by decide +kernel⟩, by decide, _, _, rfl⟩
theorem fl_Press_32 : fw_FL "FewTypes$Press" 32 4 6 := ⟨_, _, _, rfl, fw_i4, by decide, fw_m 232 (by decide +kernel) (by decide +kernel)⟩
theorem gs_Press_159 : Cond.fieldLink "FewTypes$Press" 159 "FewTypes$Press" "LACKING" "[J" ∈ fw_tb := fw_m 554 (by decide +kernel) (by decide +kernel)
theorem d_X_count_0 : decode prog_1_method_11_code 0 = .ok (.iload_n 1, 1) := by decide +kernel
theorem d_X_count_1 : decode prog_1_method_11_code 1 = .ok (.tableswitch 94 0 4 #[35, 46, 57, 75, 83], 35) := by decide +kernel
theorem d_X_count_36 : decode prog_1_method_11_code 36 = .ok (.aload_n 0, 1) := by decide +kernel
theorem d_X_count_37 : decode prog_1_method_11_code 37 = .ok (.getfield 12, 3) := by decide +kernel
theorem d_X_count_40 : decode prog_1_method_11_code 40 = .ok (.getfield 82, 3) := by decide +kernel
theorem d_X_count_43 : decode prog_1_method_11_code 43 = .ok (.getfield 85, 3) := by decide +kernel
theorem d_X_count_46 : decode prog_1_method_11_code 46 = .ok (.ireturn, 1) := by decide +kernel
theorem d_X_count_47 : decode prog_1_method_11_code 47 = .ok (.aload_n 0, 1) := by decide +kernel
theorem d_X_count_48 : decode prog_1_method_11_code 48 = .ok (.getfield 12, 3) := by decide +kernel
theorem d_X_count_51 : decode prog_1_method_11_code 51 = .ok (.getfield 139, 3) := by decide +kernel
theorem d_X_count_54 : decode prog_1_method_11_code 54 = .ok (.getfield 161, 3) := by decide +kernel
theorem d_X_count_57 : decode prog_1_method_11_code 57 = .ok (.ireturn, 1) := by decide +kernel
theorem d_X_count_58 : decode prog_1_method_11_code 58 = .ok (.aload_n 0, 1) := by decide +kernel
theorem d_X_count_59 : decode prog_1_method_11_code 59 = .ok (.getfield 12, 3) := by decide +kernel
theorem d_X_count_62 : decode prog_1_method_11_code 62 = .ok (.getfield 139, 3) := by decide +kernel
theorem d_X_count_65 : decode prog_1_method_11_code 65 = .ok (.aload_n 0, 1) := by decide +kernel
theorem d_X_count_66 : decode prog_1_method_11_code 66 = .ok (.getfield 12, 3) := by decide +kernel
theorem d_X_count_69 : decode prog_1_method_11_code 69 = .ok (.getfield 116, 3) := by decide +kernel
theorem d_X_count_72 : decode prog_1_method_11_code 72 = .ok (.invokevirtual 162, 3) := by decide +kernel
theorem d_X_count_75 : decode prog_1_method_11_code 75 = .ok (.ireturn, 1) := by decide +kernel
theorem d_X_count_76 : decode prog_1_method_11_code 76 = .ok (.aload_n 0, 1) := by decide +kernel
theorem d_X_count_77 : decode prog_1_method_11_code 77 = .ok (.getfield 12, 3) := by decide +kernel
theorem d_X_count_80 : decode prog_1_method_11_code 80 = .ok (.getfield 166, 3) := by decide +kernel
theorem d_X_count_83 : decode prog_1_method_11_code 83 = .ok (.ireturn, 1) := by decide +kernel
theorem d_X_count_84 : decode prog_1_method_11_code 84 = .ok (.aload_n 0, 1) := by decide +kernel
theorem d_X_count_85 : decode prog_1_method_11_code 85 = .ok (.getfield 12, 3) := by decide +kernel
theorem d_X_count_88 : decode prog_1_method_11_code 88 = .ok (.getfield 169, 3) := by decide +kernel
theorem d_X_count_91 : decode prog_1_method_11_code 91 = .ok (.getfield 173, 3) := by decide +kernel
theorem d_X_count_94 : decode prog_1_method_11_code 94 = .ok (.ireturn, 1) := by decide +kernel
theorem d_X_count_95 : decode prog_1_method_11_code 95 = .ok (.iconst (-1), 1) := by decide +kernel
theorem d_X_count_96 : decode prog_1_method_11_code 96 = .ok (.ireturn, 1) := by decide +kernel
theorem d_X_isSetOfPlaces_0 : decode prog_1_method_41_code 0 = .ok (.iload_n 1, 1) := by decide +kernel
theorem d_X_isSetOfPlaces_1 : decode prog_1_method_41_code 1 = .ok (.ifCond .le 23, 3) := by decide +kernel
theorem d_X_isSetOfPlaces_4 : decode prog_1_method_41_code 4 = .ok (.iload_n 1, 1) := by decide +kernel
theorem d_X_isSetOfPlaces_5 : decode prog_1_method_41_code 5 = .ok (.iconst 1, 1) := by decide +kernel
theorem d_X_isSetOfPlaces_6 : decode prog_1_method_41_code 6 = .ok (.aload_n 0, 1) := by decide +kernel
theorem d_X_isSetOfPlaces_7 : decode prog_1_method_41_code 7 = .ok (.getfield 12, 3) := by decide +kernel
theorem d_X_isSetOfPlaces_10 : decode prog_1_method_41_code 10 = .ok (.getfield 139, 3) := by decide +kernel
theorem d_X_isSetOfPlaces_13 : decode prog_1_method_41_code 13 = .ok (.getfield 161, 3) := by decide +kernel
theorem d_X_isSetOfPlaces_16 : decode prog_1_method_41_code 16 = .ok (.ishl, 1) := by decide +kernel
theorem d_X_isSetOfPlaces_17 : decode prog_1_method_41_code 17 = .ok (.if_icmp .ge 7, 3) := by decide +kernel
theorem d_X_isSetOfPlaces_20 : decode prog_1_method_41_code 20 = .ok (.iconst 1, 1) := by decide +kernel
theorem d_X_isSetOfPlaces_21 : decode prog_1_method_41_code 21 = .ok (.goto 4, 3) := by decide +kernel
theorem d_X_isSetOfPlaces_24 : decode prog_1_method_41_code 24 = .ok (.iconst 0, 1) := by decide +kernel
theorem d_X_isSetOfPlaces_25 : decode prog_1_method_41_code 25 = .ok (.ireturn, 1) := by decide +kernel
theorem d_Case_prints_0 : decode prog_2_method_7_code 0 = .ok (.aload_n 0, 1) := by decide +kernel
theorem d_Case_prints_1 : decode prog_2_method_7_code 1 = .ok (.getfield 9, 3) := by decide +kernel
theorem d_Case_prints_4 : decode prog_2_method_7_code 4 = .ok (.iload_n 1, 1) := by decide +kernel
theorem d_Case_prints_5 : decode prog_2_method_7_code 5 = .ok (.iaload, 1) := by decide +kernel
theorem d_Case_prints_6 : decode prog_2_method_7_code 6 = .ok (.iconst 2, 1) := by decide +kernel
theorem d_Case_prints_7 : decode prog_2_method_7_code 7 = .ok (.if_icmp .ne 5, 3) := by decide +kernel
theorem d_Case_prints_10 : decode prog_2_method_7_code 10 = .ok (.iconst 0, 1) := by decide +kernel
theorem d_Case_prints_11 : decode prog_2_method_7_code 11 = .ok (.ireturn, 1) := by decide +kernel
theorem d_Case_prints_12 : decode prog_2_method_7_code 12 = .ok (.aload_n 0, 1) := by decide +kernel
theorem d_Case_prints_13 : decode prog_2_method_7_code 13 = .ok (.getfield 15, 3) := by decide +kernel
theorem d_Case_prints_16 : decode prog_2_method_7_code 16 = .ok (.iload_n 1, 1) := by decide +kernel
theorem d_Case_prints_17 : decode prog_2_method_7_code 17 = .ok (.iaload, 1) := by decide +kernel
theorem d_Case_prints_18 : decode prog_2_method_7_code 18 = .ok (.iload_n 2, 1) := by decide +kernel
theorem d_Case_prints_19 : decode prog_2_method_7_code 19 = .ok (.if_icmp .eq 23, 3) := by decide +kernel
theorem d_Case_prints_22 : decode prog_2_method_7_code 22 = .ok (.aload_n 0, 1) := by decide +kernel
theorem d_Case_prints_23 : decode prog_2_method_7_code 23 = .ok (.getfield 9, 3) := by decide +kernel
theorem d_Case_prints_26 : decode prog_2_method_7_code 26 = .ok (.iload_n 1, 1) := by decide +kernel
theorem d_Case_prints_27 : decode prog_2_method_7_code 27 = .ok (.iaload, 1) := by decide +kernel
theorem d_Case_prints_28 : decode prog_2_method_7_code 28 = .ok (.iconst 1, 1) := by decide +kernel
theorem d_Case_prints_29 : decode prog_2_method_7_code 29 = .ok (.if_icmp .ne 17, 3) := by decide +kernel
theorem d_Case_prints_32 : decode prog_2_method_7_code 32 = .ok (.aload_n 0, 1) := by decide +kernel
theorem d_Case_prints_33 : decode prog_2_method_7_code 33 = .ok (.getfield 18, 3) := by decide +kernel
theorem d_Case_prints_36 : decode prog_2_method_7_code 36 = .ok (.iload_n 1, 1) := by decide +kernel
theorem d_Case_prints_37 : decode prog_2_method_7_code 37 = .ok (.iaload, 1) := by decide +kernel
theorem d_Case_prints_38 : decode prog_2_method_7_code 38 = .ok (.iload_n 2, 1) := by decide +kernel
theorem d_Case_prints_39 : decode prog_2_method_7_code 39 = .ok (.if_icmp .ne 7, 3) := by decide +kernel
theorem d_Case_prints_42 : decode prog_2_method_7_code 42 = .ok (.iconst 1, 1) := by decide +kernel
theorem d_Case_prints_43 : decode prog_2_method_7_code 43 = .ok (.goto 4, 3) := by decide +kernel
theorem d_Case_prints_46 : decode prog_2_method_7_code 46 = .ok (.iconst 0, 1) := by decide +kernel
theorem d_Case_prints_47 : decode prog_2_method_7_code 47 = .ok (.ireturn, 1) := by decide +kernel
theorem d_Case_joins_0 : decode prog_2_method_8_code 0 = .ok (.aload_n 0, 1) := by decide +kernel
theorem d_Case_joins_1 : decode prog_2_method_8_code 1 = .ok (.getfield 9, 3) := by decide +kernel
theorem d_Case_joins_4 : decode prog_2_method_8_code 4 = .ok (.iload_n 1, 1) := by decide +kernel
theorem d_Case_joins_5 : decode prog_2_method_8_code 5 = .ok (.iaload, 1) := by decide +kernel
theorem d_Case_joins_6 : decode prog_2_method_8_code 6 = .ok (.iconst 2, 1) := by decide +kernel
theorem d_Case_joins_7 : decode prog_2_method_8_code 7 = .ok (.if_icmp .ne 27, 3) := by decide +kernel
theorem d_Case_joins_10 : decode prog_2_method_8_code 10 = .ok (.aload_n 0, 1) := by decide +kernel
theorem d_Case_joins_11 : decode prog_2_method_8_code 11 = .ok (.getfield 15, 3) := by decide +kernel
theorem d_Case_joins_14 : decode prog_2_method_8_code 14 = .ok (.iload_n 1, 1) := by decide +kernel
theorem d_Case_joins_15 : decode prog_2_method_8_code 15 = .ok (.iaload, 1) := by decide +kernel
theorem d_Case_joins_16 : decode prog_2_method_8_code 16 = .ok (.iload_n 2, 1) := by decide +kernel
theorem d_Case_joins_17 : decode prog_2_method_8_code 17 = .ok (.if_icmp .ne 17, 3) := by decide +kernel
theorem d_Case_joins_20 : decode prog_2_method_8_code 20 = .ok (.aload_n 0, 1) := by decide +kernel
theorem d_Case_joins_21 : decode prog_2_method_8_code 21 = .ok (.getfield 18, 3) := by decide +kernel
theorem d_Case_joins_24 : decode prog_2_method_8_code 24 = .ok (.iload_n 1, 1) := by decide +kernel
theorem d_Case_joins_25 : decode prog_2_method_8_code 25 = .ok (.iaload, 1) := by decide +kernel
theorem d_Case_joins_26 : decode prog_2_method_8_code 26 = .ok (.iload_n 3, 1) := by decide +kernel
theorem d_Case_joins_27 : decode prog_2_method_8_code 27 = .ok (.if_icmp .ne 7, 3) := by decide +kernel
theorem d_Case_joins_30 : decode prog_2_method_8_code 30 = .ok (.iconst 1, 1) := by decide +kernel
theorem d_Case_joins_31 : decode prog_2_method_8_code 31 = .ok (.goto 4, 3) := by decide +kernel
theorem d_Case_joins_34 : decode prog_2_method_8_code 34 = .ok (.iconst 0, 1) := by decide +kernel
theorem d_Case_joins_35 : decode prog_2_method_8_code 35 = .ok (.ireturn, 1) := by decide +kernel
theorem d_Press_lockType_0 : decode prog_6_method_3_code 0 = .ok (.iconst 0, 1) := by decide +kernel
theorem d_Press_lockType_1 : decode prog_6_method_3_code 1 = .ok (.istore 4, 2) := by decide +kernel
theorem d_Press_lockType_3 : decode prog_6_method_3_code 3 = .ok (.iconst 0, 1) := by decide +kernel
theorem d_Press_lockType_4 : decode prog_6_method_3_code 4 = .ok (.istore 5, 2) := by decide +kernel
theorem d_Press_lockType_6 : decode prog_6_method_3_code 6 = .ok (.iload 5, 2) := by decide +kernel
theorem d_Press_lockType_8 : decode prog_6_method_3_code 8 = .ok (.aload_n 0, 1) := by decide +kernel
theorem d_Press_lockType_9 : decode prog_6_method_3_code 9 = .ok (.getfield 28, 3) := by decide +kernel
theorem d_Press_lockType_12 : decode prog_6_method_3_code 12 = .ok (.if_icmp .ge 106, 3) := by decide +kernel
theorem d_Press_lockType_15 : decode prog_6_method_3_code 15 = .ok (.aload_n 2, 1) := by decide +kernel
theorem d_Press_lockType_16 : decode prog_6_method_3_code 16 = .ok (.iload_n 3, 1) := by decide +kernel
theorem d_Press_lockType_17 : decode prog_6_method_3_code 17 = .ok (.aload_n 1, 1) := by decide +kernel
theorem d_Press_lockType_18 : decode prog_6_method_3_code 18 = .ok (.getfield 76, 3) := by decide +kernel
theorem d_Press_lockType_21 : decode prog_6_method_3_code 21 = .ok (.iload 5, 2) := by decide +kernel
theorem d_Press_lockType_23 : decode prog_6_method_3_code 23 = .ok (.iaload, 1) := by decide +kernel
theorem d_Press_lockType_24 : decode prog_6_method_3_code 24 = .ok (.invokevirtual 79, 3) := by decide +kernel
theorem d_Press_lockType_27 : decode prog_6_method_3_code 27 = .ok (.ifCond .eq 22, 3) := by decide +kernel
theorem d_Press_lockType_30 : decode prog_6_method_3_code 30 = .ok (.aload_n 0, 1) := by decide +kernel
theorem d_Press_lockType_31 : decode prog_6_method_3_code 31 = .ok (.getfield 15, 3) := by decide +kernel
theorem d_Press_lockType_34 : decode prog_6_method_3_code 34 = .ok (.iload 5, 2) := by decide +kernel
theorem d_Press_lockType_36 : decode prog_6_method_3_code 36 = .ok (.dup2, 1) := by decide +kernel
theorem d_Press_lockType_37 : decode prog_6_method_3_code 37 = .ok (.iaload, 1) := by decide +kernel
theorem d_Press_lockType_38 : decode prog_6_method_3_code 38 = .ok (.iconst 1, 1) := by decide +kernel
theorem d_Press_lockType_39 : decode prog_6_method_3_code 39 = .ok (.aload_n 0, 1) := by decide +kernel
theorem d_Press_lockType_40 : decode prog_6_method_3_code 40 = .ok (.getfield 39, 3) := by decide +kernel
theorem d_Press_lockType_43 : decode prog_6_method_3_code 43 = .ok (.ishl, 1) := by decide +kernel
theorem d_Press_lockType_44 : decode prog_6_method_3_code 44 = .ok (.ior, 1) := by decide +kernel
theorem d_Press_lockType_45 : decode prog_6_method_3_code 45 = .ok (.iastore, 1) := by decide +kernel
theorem d_Press_lockType_46 : decode prog_6_method_3_code 46 = .ok (.iconst 1, 1) := by decide +kernel
theorem d_Press_lockType_47 : decode prog_6_method_3_code 47 = .ok (.istore 4, 2) := by decide +kernel
theorem d_Press_lockType_49 : decode prog_6_method_3_code 49 = .ok (.iload 5, 2) := by decide +kernel
theorem d_Press_lockType_51 : decode prog_6_method_3_code 51 = .ok (.iconst 1, 1) := by decide +kernel
theorem d_Press_lockType_52 : decode prog_6_method_3_code 52 = .ok (.iadd, 1) := by decide +kernel
theorem d_Press_lockType_53 : decode prog_6_method_3_code 53 = .ok (.aload_n 0, 1) := by decide +kernel
theorem d_Press_lockType_54 : decode prog_6_method_3_code 54 = .ok (.getfield 28, 3) := by decide +kernel
theorem d_Press_lockType_57 : decode prog_6_method_3_code 57 = .ok (.if_icmp .ge 55, 3) := by decide +kernel
theorem d_Press_lockType_60 : decode prog_6_method_3_code 60 = .ok (.aload_n 1, 1) := by decide +kernel
theorem d_Press_lockType_61 : decode prog_6_method_3_code 61 = .ok (.iload 5, 2) := by decide +kernel
theorem d_Press_lockType_63 : decode prog_6_method_3_code 63 = .ok (.invokevirtual 83, 3) := by decide +kernel
theorem d_Press_lockType_66 : decode prog_6_method_3_code 66 = .ok (.ifCond .eq 46, 3) := by decide +kernel
theorem d_Press_lockType_69 : decode prog_6_method_3_code 69 = .ok (.aload_n 2, 1) := by decide +kernel
theorem d_Press_lockType_70 : decode prog_6_method_3_code 70 = .ok (.iload_n 3, 1) := by decide +kernel
theorem d_Press_lockType_71 : decode prog_6_method_3_code 71 = .ok (.aload_n 1, 1) := by decide +kernel
theorem d_Press_lockType_72 : decode prog_6_method_3_code 72 = .ok (.getfield 76, 3) := by decide +kernel
theorem d_Press_lockType_75 : decode prog_6_method_3_code 75 = .ok (.iload 5, 2) := by decide +kernel
theorem d_Press_lockType_77 : decode prog_6_method_3_code 77 = .ok (.iaload, 1) := by decide +kernel
theorem d_Press_lockType_78 : decode prog_6_method_3_code 78 = .ok (.aload_n 1, 1) := by decide +kernel
theorem d_Press_lockType_79 : decode prog_6_method_3_code 79 = .ok (.getfield 76, 3) := by decide +kernel
theorem d_Press_lockType_82 : decode prog_6_method_3_code 82 = .ok (.iload 5, 2) := by decide +kernel
theorem d_Press_lockType_84 : decode prog_6_method_3_code 84 = .ok (.iconst 1, 1) := by decide +kernel
theorem d_Press_lockType_85 : decode prog_6_method_3_code 85 = .ok (.iadd, 1) := by decide +kernel
theorem d_Press_lockType_86 : decode prog_6_method_3_code 86 = .ok (.iaload, 1) := by decide +kernel
theorem d_Press_lockType_87 : decode prog_6_method_3_code 87 = .ok (.invokevirtual 87, 3) := by decide +kernel
theorem d_Press_lockType_90 : decode prog_6_method_3_code 90 = .ok (.ifCond .eq 22, 3) := by decide +kernel
theorem d_Press_lockType_93 : decode prog_6_method_3_code 93 = .ok (.aload_n 0, 1) := by decide +kernel
theorem d_Press_lockType_94 : decode prog_6_method_3_code 94 = .ok (.getfield 18, 3) := by decide +kernel
theorem d_Press_lockType_97 : decode prog_6_method_3_code 97 = .ok (.iload 5, 2) := by decide +kernel
theorem d_Press_lockType_99 : decode prog_6_method_3_code 99 = .ok (.dup2, 1) := by decide +kernel
theorem d_Press_lockType_100 : decode prog_6_method_3_code 100 = .ok (.iaload, 1) := by decide +kernel
theorem d_Press_lockType_101 : decode prog_6_method_3_code 101 = .ok (.iconst 1, 1) := by decide +kernel
theorem d_Press_lockType_102 : decode prog_6_method_3_code 102 = .ok (.aload_n 0, 1) := by decide +kernel
theorem d_Press_lockType_103 : decode prog_6_method_3_code 103 = .ok (.getfield 39, 3) := by decide +kernel
theorem d_Press_lockType_106 : decode prog_6_method_3_code 106 = .ok (.ishl, 1) := by decide +kernel
theorem d_Press_lockType_107 : decode prog_6_method_3_code 107 = .ok (.ior, 1) := by decide +kernel
theorem d_Press_lockType_108 : decode prog_6_method_3_code 108 = .ok (.iastore, 1) := by decide +kernel
theorem d_Press_lockType_109 : decode prog_6_method_3_code 109 = .ok (.iconst 1, 1) := by decide +kernel
theorem d_Press_lockType_110 : decode prog_6_method_3_code 110 = .ok (.istore 4, 2) := by decide +kernel
theorem d_Press_lockType_112 : decode prog_6_method_3_code 112 = .ok (.iinc 5 1, 3) := by decide +kernel
theorem d_Press_lockType_115 : decode prog_6_method_3_code 115 = .ok (.goto (-109), 3) := by decide +kernel
theorem d_Press_lockType_118 : decode prog_6_method_3_code 118 = .ok (.iload 4, 2) := by decide +kernel
theorem d_Press_lockType_120 : decode prog_6_method_3_code 120 = .ok (.ireturn, 1) := by decide +kernel
theorem d_Press_setRow_0 : decode prog_6_method_19_code 0 = .ok (.iconst 0, 1) := by decide +kernel
theorem d_Press_setRow_1 : decode prog_6_method_19_code 1 = .ok (.istore 4, 2) := by decide +kernel
theorem d_Press_setRow_3 : decode prog_6_method_19_code 3 = .ok (.iload 4, 2) := by decide +kernel
theorem d_Press_setRow_5 : decode prog_6_method_19_code 5 = .ok (.aload_n 0, 1) := by decide +kernel
theorem d_Press_setRow_6 : decode prog_6_method_19_code 6 = .ok (.getfield 42, 3) := by decide +kernel
theorem d_Press_setRow_9 : decode prog_6_method_19_code 9 = .ok (.if_icmp .ge 22, 3) := by decide +kernel
theorem d_Press_setRow_12 : decode prog_6_method_19_code 12 = .ok (.aload_n 0, 1) := by decide +kernel
theorem d_Press_setRow_13 : decode prog_6_method_19_code 13 = .ok (.getfield 21, 3) := by decide +kernel
theorem d_Press_setRow_16 : decode prog_6_method_19_code 16 = .ok (.iload_n 1, 1) := by decide +kernel
theorem d_Press_setRow_17 : decode prog_6_method_19_code 17 = .ok (.bipush 16, 2) := by decide +kernel
theorem d_Press_setRow_19 : decode prog_6_method_19_code 19 = .ok (.imul, 1) := by decide +kernel
theorem d_Press_setRow_20 : decode prog_6_method_19_code 20 = .ok (.iload 4, 2) := by decide +kernel
theorem d_Press_setRow_22 : decode prog_6_method_19_code 22 = .ok (.iadd, 1) := by decide +kernel
theorem d_Press_setRow_23 : decode prog_6_method_19_code 23 = .ok (.lload_n 2, 1) := by decide +kernel
theorem d_Press_setRow_24 : decode prog_6_method_19_code 24 = .ok (.lastore, 1) := by decide +kernel
theorem d_Press_setRow_25 : decode prog_6_method_19_code 25 = .ok (.iinc 4 1, 3) := by decide +kernel
theorem d_Press_setRow_28 : decode prog_6_method_19_code 28 = .ok (.goto (-25), 3) := by decide +kernel
theorem d_Press_setRow_31 : decode prog_6_method_19_code 31 = .ok (.return_, 1) := by decide +kernel
theorem d_Press_lock_0 : decode prog_6_method_2_code 0 = .ok (.aload_n 0, 1) := by decide +kernel
theorem d_Press_lock_1 : decode prog_6_method_2_code 1 = .ok (.aload_n 1, 1) := by decide +kernel
theorem d_Press_lock_2 : decode prog_6_method_2_code 2 = .ok (.getfield 48, 3) := by decide +kernel
theorem d_Press_lock_5 : decode prog_6_method_2_code 5 = .ok (.putfield 28, 3) := by decide +kernel
theorem d_Press_lock_8 : decode prog_6_method_2_code 8 = .ok (.aload_n 0, 1) := by decide +kernel
theorem d_Press_lock_9 : decode prog_6_method_2_code 9 = .ok (.aload_n 1, 1) := by decide +kernel
theorem d_Press_lock_10 : decode prog_6_method_2_code 10 = .ok (.getfield 53, 3) := by decide +kernel
theorem d_Press_lock_13 : decode prog_6_method_2_code 13 = .ok (.putfield 32, 3) := by decide +kernel
theorem d_Press_lock_16 : decode prog_6_method_2_code 16 = .ok (.aload_n 0, 1) := by decide +kernel
theorem d_Press_lock_17 : decode prog_6_method_2_code 17 = .ok (.iload_n 3, 1) := by decide +kernel
theorem d_Press_lock_18 : decode prog_6_method_2_code 18 = .ok (.putfield 35, 3) := by decide +kernel
theorem d_Press_lock_21 : decode prog_6_method_2_code 21 = .ok (.aload_n 0, 1) := by decide +kernel
theorem d_Press_lock_22 : decode prog_6_method_2_code 22 = .ok (.iconst 0, 1) := by decide +kernel
theorem d_Press_lock_23 : decode prog_6_method_2_code 23 = .ok (.putfield 39, 3) := by decide +kernel
theorem d_Press_lock_26 : decode prog_6_method_2_code 26 = .ok (.aload_n 0, 1) := by decide +kernel
theorem d_Press_lock_27 : decode prog_6_method_2_code 27 = .ok (.iconst 0, 1) := by decide +kernel
theorem d_Press_lock_28 : decode prog_6_method_2_code 28 = .ok (.putfield 45, 3) := by decide +kernel
theorem d_Press_lock_31 : decode prog_6_method_2_code 31 = .ok (.aload_n 0, 1) := by decide +kernel
theorem d_Press_lock_32 : decode prog_6_method_2_code 32 = .ok (.getfield 15, 3) := by decide +kernel
theorem d_Press_lock_35 : decode prog_6_method_2_code 35 = .ok (.iconst 0, 1) := by decide +kernel
theorem d_Press_lock_36 : decode prog_6_method_2_code 36 = .ok (.invokestatic 54, 3) := by decide +kernel
theorem d_Press_lock_39 : decode prog_6_method_2_code 39 = .ok (.aload_n 0, 1) := by decide +kernel
theorem d_Press_lock_40 : decode prog_6_method_2_code 40 = .ok (.getfield 18, 3) := by decide +kernel
theorem d_Press_lock_43 : decode prog_6_method_2_code 43 = .ok (.iconst 0, 1) := by decide +kernel
theorem d_Press_lock_44 : decode prog_6_method_2_code 44 = .ok (.invokestatic 54, 3) := by decide +kernel
theorem d_Press_lock_47 : decode prog_6_method_2_code 47 = .ok (.iconst 0, 1) := by decide +kernel
theorem d_Press_lock_48 : decode prog_6_method_2_code 48 = .ok (.istore 4, 2) := by decide +kernel
theorem d_Press_lock_50 : decode prog_6_method_2_code 50 = .ok (.iload 4, 2) := by decide +kernel
theorem d_Press_lock_52 : decode prog_6_method_2_code 52 = .ok (.aload_n 2, 1) := by decide +kernel
theorem d_Press_lock_53 : decode prog_6_method_2_code 53 = .ok (.getfield 60, 3) := by decide +kernel
theorem d_Press_lock_56 : decode prog_6_method_2_code 56 = .ok (.if_icmp .ge 66, 3) := by decide +kernel
theorem d_Press_lock_59 : decode prog_6_method_2_code 59 = .ok (.aload_n 0, 1) := by decide +kernel
theorem d_Press_lock_60 : decode prog_6_method_2_code 60 = .ok (.aload_n 1, 1) := by decide +kernel
theorem d_Press_lock_61 : decode prog_6_method_2_code 61 = .ok (.aload_n 2, 1) := by decide +kernel
theorem d_Press_lock_62 : decode prog_6_method_2_code 62 = .ok (.iload 4, 2) := by decide +kernel
theorem d_Press_lock_64 : decode prog_6_method_2_code 64 = .ok (.invokevirtual 63, 3) := by decide +kernel
theorem d_Press_lock_67 : decode prog_6_method_2_code 67 = .ok (.ifCond .eq 49, 3) := by decide +kernel
theorem d_Press_lock_70 : decode prog_6_method_2_code 70 = .ok (.aload_n 0, 1) := by decide +kernel
theorem d_Press_lock_71 : decode prog_6_method_2_code 71 = .ok (.getfield 9, 3) := by decide +kernel
theorem d_Press_lock_74 : decode prog_6_method_2_code 74 = .ok (.aload_n 0, 1) := by decide +kernel
theorem d_Press_lock_75 : decode prog_6_method_2_code 75 = .ok (.getfield 39, 3) := by decide +kernel
theorem d_Press_lock_78 : decode prog_6_method_2_code 78 = .ok (.iload 4, 2) := by decide +kernel
theorem d_Press_lock_80 : decode prog_6_method_2_code 80 = .ok (.iastore, 1) := by decide +kernel
theorem d_Press_lock_81 : decode prog_6_method_2_code 81 = .ok (.aload_n 0, 1) := by decide +kernel
theorem d_Press_lock_82 : decode prog_6_method_2_code 82 = .ok (.dup, 1) := by decide +kernel
theorem d_Press_lock_83 : decode prog_6_method_2_code 83 = .ok (.getfield 39, 3) := by decide +kernel
theorem d_Press_lock_86 : decode prog_6_method_2_code 86 = .ok (.iconst 1, 1) := by decide +kernel
theorem d_Press_lock_87 : decode prog_6_method_2_code 87 = .ok (.iadd, 1) := by decide +kernel
theorem d_Press_lock_88 : decode prog_6_method_2_code 88 = .ok (.putfield 39, 3) := by decide +kernel
theorem d_Press_lock_91 : decode prog_6_method_2_code 91 = .ok (.aload_n 0, 1) := by decide +kernel
theorem d_Press_lock_92 : decode prog_6_method_2_code 92 = .ok (.dup, 1) := by decide +kernel
theorem d_Press_lock_93 : decode prog_6_method_2_code 93 = .ok (.getfield 45, 3) := by decide +kernel
theorem d_Press_lock_96 : decode prog_6_method_2_code 96 = .ok (.aload_n 2, 1) := by decide +kernel
theorem d_Press_lock_97 : decode prog_6_method_2_code 97 = .ok (.getfield 67, 3) := by decide +kernel
theorem d_Press_lock_100 : decode prog_6_method_2_code 100 = .ok (.iload 4, 2) := by decide +kernel
theorem d_Press_lock_102 : decode prog_6_method_2_code 102 = .ok (.iaload, 1) := by decide +kernel
theorem d_Press_lock_103 : decode prog_6_method_2_code 103 = .ok (.iconst 2, 1) := by decide +kernel
theorem d_Press_lock_104 : decode prog_6_method_2_code 104 = .ok (.if_icmp .ne 7, 3) := by decide +kernel
theorem d_Press_lock_107 : decode prog_6_method_2_code 107 = .ok (.iconst 2, 1) := by decide +kernel
theorem d_Press_lock_108 : decode prog_6_method_2_code 108 = .ok (.goto 4, 3) := by decide +kernel
theorem d_Press_lock_111 : decode prog_6_method_2_code 111 = .ok (.iconst 1, 1) := by decide +kernel
theorem d_Press_lock_112 : decode prog_6_method_2_code 112 = .ok (.iadd, 1) := by decide +kernel
theorem d_Press_lock_113 : decode prog_6_method_2_code 113 = .ok (.putfield 45, 3) := by decide +kernel
theorem d_Press_lock_116 : decode prog_6_method_2_code 116 = .ok (.iinc 4 1, 3) := by decide +kernel
theorem d_Press_lock_119 : decode prog_6_method_2_code 119 = .ok (.goto (-69), 3) := by decide +kernel
theorem d_Press_lock_122 : decode prog_6_method_2_code 122 = .ok (.aload_n 0, 1) := by decide +kernel
theorem d_Press_lock_123 : decode prog_6_method_2_code 123 = .ok (.aload_n 0, 1) := by decide +kernel
theorem d_Press_lock_124 : decode prog_6_method_2_code 124 = .ok (.getfield 39, 3) := by decide +kernel
theorem d_Press_lock_127 : decode prog_6_method_2_code 127 = .ok (.bipush 6, 2) := by decide +kernel
theorem d_Press_lock_129 : decode prog_6_method_2_code 129 = .ok (.if_icmp .gt 7, 3) := by decide +kernel
theorem d_Press_lock_132 : decode prog_6_method_2_code 132 = .ok (.iconst 1, 1) := by decide +kernel
theorem d_Press_lock_133 : decode prog_6_method_2_code 133 = .ok (.goto 12, 3) := by decide +kernel
theorem d_Press_lock_136 : decode prog_6_method_2_code 136 = .ok (.iconst 1, 1) := by decide +kernel
theorem d_Press_lock_137 : decode prog_6_method_2_code 137 = .ok (.aload_n 0, 1) := by decide +kernel
theorem d_Press_lock_138 : decode prog_6_method_2_code 138 = .ok (.getfield 39, 3) := by decide +kernel
theorem d_Press_lock_141 : decode prog_6_method_2_code 141 = .ok (.bipush 6, 2) := by decide +kernel
theorem d_Press_lock_143 : decode prog_6_method_2_code 143 = .ok (.isub, 1) := by decide +kernel
theorem d_Press_lock_144 : decode prog_6_method_2_code 144 = .ok (.ishl, 1) := by decide +kernel
theorem d_Press_lock_145 : decode prog_6_method_2_code 145 = .ok (.putfield 42, 3) := by decide +kernel
theorem d_Press_lock_148 : decode prog_6_method_2_code 148 = .ok (.aload_n 0, 1) := by decide +kernel
theorem d_Press_lock_149 : decode prog_6_method_2_code 149 = .ok (.aload_n 0, 1) := by decide +kernel
theorem d_Press_lock_150 : decode prog_6_method_2_code 150 = .ok (.getfield 28, 3) := by decide +kernel
theorem d_Press_lock_153 : decode prog_6_method_2_code 153 = .ok (.ldc2_w 70, 3) := by decide +kernel
theorem d_Press_lock_156 : decode prog_6_method_2_code 156 = .ok (.invokevirtual 72, 3) := by decide +kernel
theorem d_Press_lock_159 : decode prog_6_method_2_code 159 = .ok (.return_, 1) := by decide +kernel
theorem d_X_lockLine_0 : decode prog_1_method_43_code 0 = .ok (.aload_n 0, 1) := by decide +kernel
theorem d_X_lockLine_1 : decode prog_1_method_43_code 1 = .ok (.getfield 33, 3) := by decide +kernel
theorem d_X_lockLine_4 : decode prog_1_method_43_code 4 = .ok (.aload_n 0, 1) := by decide +kernel
theorem d_X_lockLine_5 : decode prog_1_method_43_code 5 = .ok (.getfield 12, 3) := by decide +kernel
theorem d_X_lockLine_8 : decode prog_1_method_43_code 8 = .ok (.getfield 139, 3) := by decide +kernel
theorem d_X_lockLine_11 : decode prog_1_method_43_code 11 = .ok (.aload_n 0, 1) := by decide +kernel
theorem d_X_lockLine_12 : decode prog_1_method_43_code 12 = .ok (.getfield 12, 3) := by decide +kernel
theorem d_X_lockLine_15 : decode prog_1_method_43_code 15 = .ok (.getfield 82, 3) := by decide +kernel
theorem d_X_lockLine_18 : decode prog_1_method_43_code 18 = .ok (.aload_n 0, 1) := by decide +kernel
theorem d_X_lockLine_19 : decode prog_1_method_43_code 19 = .ok (.getfield 12, 3) := by decide +kernel
theorem d_X_lockLine_22 : decode prog_1_method_43_code 22 = .ok (.getfield 125, 3) := by decide +kernel
theorem d_X_lockLine_25 : decode prog_1_method_43_code 25 = .ok (.iconst 0, 1) := by decide +kernel
theorem d_X_lockLine_26 : decode prog_1_method_43_code 26 = .ok (.iaload, 1) := by decide +kernel
theorem d_X_lockLine_27 : decode prog_1_method_43_code 27 = .ok (.iconst 1, 1) := by decide +kernel
theorem d_X_lockLine_28 : decode prog_1_method_43_code 28 = .ok (.if_icmp .ne 7, 3) := by decide +kernel
theorem d_X_lockLine_31 : decode prog_1_method_43_code 31 = .ok (.iconst 1, 1) := by decide +kernel
theorem d_X_lockLine_32 : decode prog_1_method_43_code 32 = .ok (.goto 4, 3) := by decide +kernel
theorem d_X_lockLine_35 : decode prog_1_method_43_code 35 = .ok (.iconst 0, 1) := by decide +kernel
theorem d_X_lockLine_36 : decode prog_1_method_43_code 36 = .ok (.invokevirtual 310, 3) := by decide +kernel
theorem d_X_lockLine_39 : decode prog_1_method_43_code 39 = .ok (.return_, 1) := by decide +kernel
theorem d_Press_pairsOf_0 : decode prog_6_method_15_code 0 = .ok (.iload_n 1, 1) := by decide +kernel
theorem d_Press_pairsOf_1 : decode prog_6_method_15_code 1 = .ok (.iload_n 1, 1) := by decide +kernel
theorem d_Press_pairsOf_2 : decode prog_6_method_15_code 2 = .ok (.iconst 1, 1) := by decide +kernel
theorem d_Press_pairsOf_3 : decode prog_6_method_15_code 3 = .ok (.ishr, 1) := by decide +kernel
theorem d_Press_pairsOf_4 : decode prog_6_method_15_code 4 = .ok (.iand, 1) := by decide +kernel
theorem d_Press_pairsOf_5 : decode prog_6_method_15_code 5 = .ok (.aload_n 0, 1) := by decide +kernel
theorem d_Press_pairsOf_6 : decode prog_6_method_15_code 6 = .ok (.getfield 32, 3) := by decide +kernel
theorem d_Press_pairsOf_9 : decode prog_6_method_15_code 9 = .ok (.iand, 1) := by decide +kernel
theorem d_Press_pairsOf_10 : decode prog_6_method_15_code 10 = .ok (.ireturn, 1) := by decide +kernel
theorem d_Press_mayPrintAlone_0 : decode prog_6_method_16_code 0 = .ok (.aload_n 0, 1) := by decide +kernel
theorem d_Press_mayPrintAlone_1 : decode prog_6_method_16_code 1 = .ok (.getfield 35, 3) := by decide +kernel
theorem d_Press_mayPrintAlone_4 : decode prog_6_method_16_code 4 = .ok (.ifCond .eq 19, 3) := by decide +kernel
theorem d_Press_mayPrintAlone_7 : decode prog_6_method_16_code 7 = .ok (.aload_n 0, 1) := by decide +kernel
theorem d_Press_mayPrintAlone_8 : decode prog_6_method_16_code 8 = .ok (.iload_n 1, 1) := by decide +kernel
theorem d_Press_mayPrintAlone_9 : decode prog_6_method_16_code 9 = .ok (.invokevirtual 146, 3) := by decide +kernel
theorem d_Press_mayPrintAlone_12 : decode prog_6_method_16_code 12 = .ok (.iload_n 2, 1) := by decide +kernel
theorem d_Press_mayPrintAlone_13 : decode prog_6_method_16_code 13 = .ok (.invokestatic 133, 3) := by decide +kernel
theorem d_Press_mayPrintAlone_16 : decode prog_6_method_16_code 16 = .ok (.ifCond .eq 7, 3) := by decide +kernel
theorem d_Press_mayPrintAlone_19 : decode prog_6_method_16_code 19 = .ok (.iconst 0, 1) := by decide +kernel
theorem d_Press_mayPrintAlone_20 : decode prog_6_method_16_code 20 = .ok (.goto 9, 3) := by decide +kernel
theorem d_Press_mayPrintAlone_23 : decode prog_6_method_16_code 23 = .ok (.aload_n 0, 1) := by decide +kernel
theorem d_Press_mayPrintAlone_24 : decode prog_6_method_16_code 24 = .ok (.getfield 15, 3) := by decide +kernel
theorem d_Press_mayPrintAlone_27 : decode prog_6_method_16_code 27 = .ok (.iload_n 2, 1) := by decide +kernel
theorem d_Press_mayPrintAlone_28 : decode prog_6_method_16_code 28 = .ok (.iaload, 1) := by decide +kernel
theorem d_Press_mayPrintAlone_29 : decode prog_6_method_16_code 29 = .ok (.ireturn, 1) := by decide +kernel
theorem d_Press_addWays_0 : decode prog_6_method_20_code 0 = .ok (.iload_n 1, 1) := by decide +kernel
theorem d_Press_addWays_1 : decode prog_6_method_20_code 1 = .ok (.bipush 16, 2) := by decide +kernel
theorem d_Press_addWays_3 : decode prog_6_method_20_code 3 = .ok (.imul, 1) := by decide +kernel
theorem d_Press_addWays_4 : decode prog_6_method_20_code 4 = .ok (.istore 4, 2) := by decide +kernel
theorem d_Press_addWays_6 : decode prog_6_method_20_code 6 = .ok (.iload_n 2, 1) := by decide +kernel
theorem d_Press_addWays_7 : decode prog_6_method_20_code 7 = .ok (.bipush 16, 2) := by decide +kernel
theorem d_Press_addWays_9 : decode prog_6_method_20_code 9 = .ok (.imul, 1) := by decide +kernel
theorem d_Press_addWays_10 : decode prog_6_method_20_code 10 = .ok (.istore 5, 2) := by decide +kernel
theorem d_Press_addWays_12 : decode prog_6_method_20_code 12 = .ok (.iconst 0, 1) := by decide +kernel
theorem d_Press_addWays_13 : decode prog_6_method_20_code 13 = .ok (.istore 6, 2) := by decide +kernel
theorem d_Press_addWays_15 : decode prog_6_method_20_code 15 = .ok (.iload 6, 2) := by decide +kernel
theorem d_Press_addWays_17 : decode prog_6_method_20_code 17 = .ok (.aload_n 0, 1) := by decide +kernel
theorem d_Press_addWays_18 : decode prog_6_method_20_code 18 = .ok (.getfield 39, 3) := by decide +kernel
theorem d_Press_addWays_21 : decode prog_6_method_20_code 21 = .ok (.if_icmp .ge 158, 3) := by decide +kernel
theorem d_Press_addWays_24 : decode prog_6_method_20_code 24 = .ok (.iload_n 3, 1) := by decide +kernel
theorem d_Press_addWays_25 : decode prog_6_method_20_code 25 = .ok (.iload 6, 2) := by decide +kernel
theorem d_Press_addWays_27 : decode prog_6_method_20_code 27 = .ok (.ishr, 1) := by decide +kernel
theorem d_Press_addWays_28 : decode prog_6_method_20_code 28 = .ok (.ifCond .eq 151, 3) := by decide +kernel
theorem d_Press_addWays_31 : decode prog_6_method_20_code 31 = .ok (.iload_n 3, 1) := by decide +kernel
theorem d_Press_addWays_32 : decode prog_6_method_20_code 32 = .ok (.iload 6, 2) := by decide +kernel
theorem d_Press_addWays_34 : decode prog_6_method_20_code 34 = .ok (.ishr, 1) := by decide +kernel
theorem d_Press_addWays_35 : decode prog_6_method_20_code 35 = .ok (.iconst 1, 1) := by decide +kernel
theorem d_Press_addWays_36 : decode prog_6_method_20_code 36 = .ok (.iand, 1) := by decide +kernel
theorem d_Press_addWays_37 : decode prog_6_method_20_code 37 = .ok (.ifCond .eq 136, 3) := by decide +kernel
theorem d_Press_addWays_40 : decode prog_6_method_20_code 40 = .ok (.iload 6, 2) := by decide +kernel
theorem d_Press_addWays_42 : decode prog_6_method_20_code 42 = .ok (.getstatic 159, 3) := by decide +kernel
theorem d_Press_addWays_45 : decode prog_6_method_20_code 45 = .ok (.arraylength, 1) := by decide +kernel
theorem d_Press_addWays_46 : decode prog_6_method_20_code 46 = .ok (.if_icmp .ge 59, 3) := by decide +kernel
theorem d_Press_addWays_49 : decode prog_6_method_20_code 49 = .ok (.iconst 0, 1) := by decide +kernel
theorem d_Press_addWays_50 : decode prog_6_method_20_code 50 = .ok (.istore 7, 2) := by decide +kernel
theorem d_Press_addWays_52 : decode prog_6_method_20_code 52 = .ok (.iload 7, 2) := by decide +kernel
theorem d_Press_addWays_54 : decode prog_6_method_20_code 54 = .ok (.aload_n 0, 1) := by decide +kernel
theorem d_Press_addWays_55 : decode prog_6_method_20_code 55 = .ok (.getfield 42, 3) := by decide +kernel
theorem d_Press_addWays_58 : decode prog_6_method_20_code 58 = .ok (.if_icmp .ge 44, 3) := by decide +kernel
theorem d_Press_addWays_61 : decode prog_6_method_20_code 61 = .ok (.aload_n 0, 1) := by decide +kernel
theorem d_Press_addWays_62 : decode prog_6_method_20_code 62 = .ok (.getfield 21, 3) := by decide +kernel
theorem d_Press_addWays_65 : decode prog_6_method_20_code 65 = .ok (.iload 4, 2) := by decide +kernel
theorem d_Press_addWays_67 : decode prog_6_method_20_code 67 = .ok (.iload 7, 2) := by decide +kernel
theorem d_Press_addWays_69 : decode prog_6_method_20_code 69 = .ok (.iadd, 1) := by decide +kernel
theorem d_Press_addWays_70 : decode prog_6_method_20_code 70 = .ok (.dup2, 1) := by decide +kernel
theorem d_Press_addWays_71 : decode prog_6_method_20_code 71 = .ok (.laload, 1) := by decide +kernel
theorem d_Press_addWays_72 : decode prog_6_method_20_code 72 = .ok (.aload_n 0, 1) := by decide +kernel
theorem d_Press_addWays_73 : decode prog_6_method_20_code 73 = .ok (.getfield 21, 3) := by decide +kernel
theorem d_Press_addWays_76 : decode prog_6_method_20_code 76 = .ok (.iload 5, 2) := by decide +kernel
theorem d_Press_addWays_78 : decode prog_6_method_20_code 78 = .ok (.iload 7, 2) := by decide +kernel
theorem d_Press_addWays_80 : decode prog_6_method_20_code 80 = .ok (.iadd, 1) := by decide +kernel
theorem d_Press_addWays_81 : decode prog_6_method_20_code 81 = .ok (.laload, 1) := by decide +kernel
theorem d_Press_addWays_82 : decode prog_6_method_20_code 82 = .ok (.getstatic 159, 3) := by decide +kernel
theorem d_Press_addWays_85 : decode prog_6_method_20_code 85 = .ok (.iload 6, 2) := by decide +kernel
theorem d_Press_addWays_87 : decode prog_6_method_20_code 87 = .ok (.laload, 1) := by decide +kernel
theorem d_Press_addWays_88 : decode prog_6_method_20_code 88 = .ok (.land, 1) := by decide +kernel
theorem d_Press_addWays_89 : decode prog_6_method_20_code 89 = .ok (.iconst 1, 1) := by decide +kernel
theorem d_Press_addWays_90 : decode prog_6_method_20_code 90 = .ok (.iload 6, 2) := by decide +kernel
theorem d_Press_addWays_92 : decode prog_6_method_20_code 92 = .ok (.ishl, 1) := by decide +kernel
theorem d_Press_addWays_93 : decode prog_6_method_20_code 93 = .ok (.lshl, 1) := by decide +kernel
theorem d_Press_addWays_94 : decode prog_6_method_20_code 94 = .ok (.lor, 1) := by decide +kernel
theorem d_Press_addWays_95 : decode prog_6_method_20_code 95 = .ok (.lastore, 1) := by decide +kernel
theorem d_Press_addWays_96 : decode prog_6_method_20_code 96 = .ok (.iinc 7 1, 3) := by decide +kernel
theorem d_Press_addWays_99 : decode prog_6_method_20_code 99 = .ok (.goto (-47), 3) := by decide +kernel
theorem d_Press_addWays_102 : decode prog_6_method_20_code 102 = .ok (.goto 71, 3) := by decide +kernel
theorem d_Press_addWays_105 : decode prog_6_method_20_code 105 = .ok (.iconst 1, 1) := by decide +kernel
theorem d_Press_addWays_106 : decode prog_6_method_20_code 106 = .ok (.iload 6, 2) := by decide +kernel
theorem d_Press_addWays_108 : decode prog_6_method_20_code 108 = .ok (.getstatic 159, 3) := by decide +kernel
theorem d_Press_addWays_111 : decode prog_6_method_20_code 111 = .ok (.arraylength, 1) := by decide +kernel
theorem d_Press_addWays_112 : decode prog_6_method_20_code 112 = .ok (.isub, 1) := by decide +kernel
theorem d_Press_addWays_113 : decode prog_6_method_20_code 113 = .ok (.ishl, 1) := by decide +kernel
theorem d_Press_addWays_114 : decode prog_6_method_20_code 114 = .ok (.istore 7, 2) := by decide +kernel
theorem d_Press_addWays_116 : decode prog_6_method_20_code 116 = .ok (.iload 7, 2) := by decide +kernel
theorem d_Press_addWays_118 : decode prog_6_method_20_code 118 = .ok (.istore 8, 2) := by decide +kernel
theorem d_Press_addWays_120 : decode prog_6_method_20_code 120 = .ok (.iload 8, 2) := by decide +kernel
theorem d_Press_addWays_122 : decode prog_6_method_20_code 122 = .ok (.aload_n 0, 1) := by decide +kernel
theorem d_Press_addWays_123 : decode prog_6_method_20_code 123 = .ok (.getfield 42, 3) := by decide +kernel
theorem d_Press_addWays_126 : decode prog_6_method_20_code 126 = .ok (.if_icmp .ge 47, 3) := by decide +kernel
theorem d_Press_addWays_129 : decode prog_6_method_20_code 129 = .ok (.aload_n 0, 1) := by decide +kernel
theorem d_Press_addWays_130 : decode prog_6_method_20_code 130 = .ok (.getfield 21, 3) := by decide +kernel
theorem d_Press_addWays_133 : decode prog_6_method_20_code 133 = .ok (.iload 4, 2) := by decide +kernel
theorem d_Press_addWays_135 : decode prog_6_method_20_code 135 = .ok (.iload 8, 2) := by decide +kernel
theorem d_Press_addWays_137 : decode prog_6_method_20_code 137 = .ok (.iadd, 1) := by decide +kernel
theorem d_Press_addWays_138 : decode prog_6_method_20_code 138 = .ok (.dup2, 1) := by decide +kernel
theorem d_Press_addWays_139 : decode prog_6_method_20_code 139 = .ok (.laload, 1) := by decide +kernel
theorem d_Press_addWays_140 : decode prog_6_method_20_code 140 = .ok (.iload 8, 2) := by decide +kernel
theorem d_Press_addWays_142 : decode prog_6_method_20_code 142 = .ok (.iload 7, 2) := by decide +kernel
theorem d_Press_addWays_144 : decode prog_6_method_20_code 144 = .ok (.iand, 1) := by decide +kernel
theorem d_Press_addWays_145 : decode prog_6_method_20_code 145 = .ok (.ifCond .eq 19, 3) := by decide +kernel
theorem d_Press_addWays_148 : decode prog_6_method_20_code 148 = .ok (.aload_n 0, 1) := by decide +kernel
theorem d_Press_addWays_149 : decode prog_6_method_20_code 149 = .ok (.getfield 21, 3) := by decide +kernel
theorem d_Press_addWays_152 : decode prog_6_method_20_code 152 = .ok (.iload 5, 2) := by decide +kernel
theorem d_Press_addWays_154 : decode prog_6_method_20_code 154 = .ok (.iload 8, 2) := by decide +kernel
theorem d_Press_addWays_156 : decode prog_6_method_20_code 156 = .ok (.iadd, 1) := by decide +kernel
theorem d_Press_addWays_157 : decode prog_6_method_20_code 157 = .ok (.iload 7, 2) := by decide +kernel
theorem d_Press_addWays_159 : decode prog_6_method_20_code 159 = .ok (.isub, 1) := by decide +kernel
theorem d_Press_addWays_160 : decode prog_6_method_20_code 160 = .ok (.laload, 1) := by decide +kernel
theorem d_Press_addWays_161 : decode prog_6_method_20_code 161 = .ok (.goto 4, 3) := by decide +kernel
theorem d_Press_addWays_164 : decode prog_6_method_20_code 164 = .ok (.lconst 0, 1) := by decide +kernel
theorem d_Press_addWays_165 : decode prog_6_method_20_code 165 = .ok (.lor, 1) := by decide +kernel
theorem d_Press_addWays_166 : decode prog_6_method_20_code 166 = .ok (.lastore, 1) := by decide +kernel
theorem d_Press_addWays_167 : decode prog_6_method_20_code 167 = .ok (.iinc 8 1, 3) := by decide +kernel
theorem d_Press_addWays_170 : decode prog_6_method_20_code 170 = .ok (.goto (-50), 3) := by decide +kernel
theorem d_Press_addWays_173 : decode prog_6_method_20_code 173 = .ok (.iinc 6 1, 3) := by decide +kernel
theorem d_Press_addWays_176 : decode prog_6_method_20_code 176 = .ok (.goto (-161), 3) := by decide +kernel
theorem d_Press_addWays_179 : decode prog_6_method_20_code 179 = .ok (.return_, 1) := by decide +kernel
theorem d_Press_mayPrintJoined_0 : decode prog_6_method_17_code 0 = .ok (.aload_n 0, 1) := by decide +kernel
theorem d_Press_mayPrintJoined_1 : decode prog_6_method_17_code 1 = .ok (.iload_n 1, 1) := by decide +kernel
theorem d_Press_mayPrintJoined_2 : decode prog_6_method_17_code 2 = .ok (.invokevirtual 146, 3) := by decide +kernel
theorem d_Press_mayPrintJoined_5 : decode prog_6_method_17_code 5 = .ok (.istore_n 3, 1) := by decide +kernel
theorem d_Press_mayPrintJoined_6 : decode prog_6_method_17_code 6 = .ok (.iload_n 3, 1) := by decide +kernel
theorem d_Press_mayPrintJoined_7 : decode prog_6_method_17_code 7 = .ok (.iload_n 2, 1) := by decide +kernel
theorem d_Press_mayPrintJoined_8 : decode prog_6_method_17_code 8 = .ok (.invokestatic 133, 3) := by decide +kernel
theorem d_Press_mayPrintJoined_11 : decode prog_6_method_17_code 11 = .ok (.ifCond .eq 20, 3) := by decide +kernel
theorem d_Press_mayPrintJoined_14 : decode prog_6_method_17_code 14 = .ok (.aload_n 0, 1) := by decide +kernel
theorem d_Press_mayPrintJoined_15 : decode prog_6_method_17_code 15 = .ok (.getfield 35, 3) := by decide +kernel
theorem d_Press_mayPrintJoined_18 : decode prog_6_method_17_code 18 = .ok (.ifCond .eq 17, 3) := by decide +kernel
theorem d_Press_mayPrintJoined_21 : decode prog_6_method_17_code 21 = .ok (.iload_n 3, 1) := by decide +kernel
theorem d_Press_mayPrintJoined_22 : decode prog_6_method_17_code 22 = .ok (.iload_n 2, 1) := by decide +kernel
theorem d_Press_mayPrintJoined_23 : decode prog_6_method_17_code 23 = .ok (.iconst 1, 1) := by decide +kernel
theorem d_Press_mayPrintJoined_24 : decode prog_6_method_17_code 24 = .ok (.iadd, 1) := by decide +kernel
theorem d_Press_mayPrintJoined_25 : decode prog_6_method_17_code 25 = .ok (.invokestatic 133, 3) := by decide +kernel
theorem d_Press_mayPrintJoined_28 : decode prog_6_method_17_code 28 = .ok (.ifCond .eq 7, 3) := by decide +kernel
theorem d_Press_mayPrintJoined_31 : decode prog_6_method_17_code 31 = .ok (.iconst 0, 1) := by decide +kernel
theorem d_Press_mayPrintJoined_32 : decode prog_6_method_17_code 32 = .ok (.goto 9, 3) := by decide +kernel
theorem d_Press_mayPrintJoined_35 : decode prog_6_method_17_code 35 = .ok (.aload_n 0, 1) := by decide +kernel
theorem d_Press_mayPrintJoined_36 : decode prog_6_method_17_code 36 = .ok (.getfield 18, 3) := by decide +kernel
theorem d_Press_mayPrintJoined_39 : decode prog_6_method_17_code 39 = .ok (.iload_n 2, 1) := by decide +kernel
theorem d_Press_mayPrintJoined_40 : decode prog_6_method_17_code 40 = .ok (.iaload, 1) := by decide +kernel
theorem d_Press_mayPrintJoined_41 : decode prog_6_method_17_code 41 = .ok (.ireturn, 1) := by decide +kernel
def f_X_count (a1 : Int32) (μ : fw_M) : Option (Int32) :=
  if a1 = 0 then
    some (μ.1 2 3)
  else
    if a1 = 1 then
      some (μ.1 6 1)
    else
      if a1 = 2 then
        (f_Line_hairs 6 μ).bind fun (p72 : Int32) =>
        some p72
      else
        if a1 = 3 then
          some (μ.1 1 6)
        else
          if a1 = 4 then
            some (μ.1 28 3)
          else
            some (-1)
set_option maxHeartbeats 4000000 in
set_option maxRecDepth 100000 in
theorem c_X_count {a1 : Int32} {μ : fw_M} {r : Int32} (h : f_X_count a1 μ = some r) : fw_Con Y_X_count fw_X 5 [.ref 0, .int a1] (some r) μ μ := by
  refine fw_con (by decide) (Nat.le_of_ble_eq_true rfl) ?_
  rw [f_X_count] at h
  show fw_R "FewTypes" prog_1_method_11_code 2 (some .int) fw_X 5 (some r) μ 0 [(0, .ref 0), (1, .int a1)] [] μ
  refine fw_iload_n (pc := 0) d_X_count_0 1 rfl rfl ?_
  by_cases hc0 : a1 = 0
  · have h := fw_it hc0 h
    refine fw_top hc0.symm ?_
    refine fw_tin (pc := 1) (off := 35) (tgt := 36) d_X_count_1 (by decide) (by decide) (by decide) rfl ?_
    refine fw_aload_n (pc := 36) d_X_count_36 0 rfl rfl ?_
    refine fw_getR (pc := 37) d_X_count_37 fl_X_12 fw_X0 rfl ?_
    refine fw_getR (pc := 40) d_X_count_40 fl_X_82 fw_X1 rfl ?_
    refine fw_getI (pc := 43) d_X_count_43 fl_X_85 fw_X2 rfl ?_
    obtain rfl := Option.some.inj h
    exact fw_iret (pc := 46) d_X_count_46 rfl
  · have h := fw_if hc0 h
    by_cases hc1 : a1 = 1
    · have h := fw_it hc1 h
      refine fw_top hc1.symm ?_
      refine fw_tin (pc := 1) (off := 46) (tgt := 47) d_X_count_1 (by decide) (by decide) (by decide) rfl ?_
      refine fw_aload_n (pc := 47) d_X_count_47 0 rfl rfl ?_
      refine fw_getR (pc := 48) d_X_count_48 fl_X_12 fw_X0 rfl ?_
      refine fw_getR (pc := 51) d_X_count_51 fl_X_139 fw_X1 rfl ?_
      refine fw_getI (pc := 54) d_X_count_54 fl_X_161 fw_X6 rfl ?_
      obtain rfl := Option.some.inj h
      exact fw_iret (pc := 57) d_X_count_57 rfl
    · have h := fw_if hc1 h
      by_cases hc2 : a1 = 2
      · have h := fw_it hc2 h
        refine fw_top hc2.symm ?_
        refine fw_tin (pc := 1) (off := 57) (tgt := 58) d_X_count_1 (by decide) (by decide) (by decide) rfl ?_
        refine fw_aload_n (pc := 58) d_X_count_58 0 rfl rfl ?_
        refine fw_getR (pc := 59) d_X_count_59 fl_X_12 fw_X0 rfl ?_
        refine fw_getR (pc := 62) d_X_count_62 fl_X_139 fw_X1 rfl ?_
        refine fw_aload_n (pc := 65) d_X_count_65 0 rfl rfl ?_
        refine fw_getR (pc := 66) d_X_count_66 fl_X_12 fw_X0 rfl ?_
        refine fw_getR (pc := 69) d_X_count_69 fl_X_116 fw_X1 rfl ?_
        obtain ⟨p72, e72, h⟩ := fw_be h
        refine fw_callVi (pc := 72) d_X_count_72 mv_X_162 fw_X6 (c_Line_hairs e72) (by decide) rfl rfl (Nat.le_of_ble_eq_true rfl) ?_
        obtain rfl := Option.some.inj h
        exact fw_iret (pc := 75) d_X_count_75 rfl
      · have h := fw_if hc2 h
        by_cases hc3 : a1 = 3
        · have h := fw_it hc3 h
          refine fw_top hc3.symm ?_
          refine fw_tin (pc := 1) (off := 75) (tgt := 76) d_X_count_1 (by decide) (by decide) (by decide) rfl ?_
          refine fw_aload_n (pc := 76) d_X_count_76 0 rfl rfl ?_
          refine fw_getR (pc := 77) d_X_count_77 fl_X_12 fw_X0 rfl ?_
          refine fw_getI (pc := 80) d_X_count_80 fl_X_166 fw_X1 rfl ?_
          obtain rfl := Option.some.inj h
          exact fw_iret (pc := 83) d_X_count_83 rfl
        · have h := fw_if hc3 h
          by_cases hc4 : a1 = 4
          · have h := fw_it hc4 h
            refine fw_top hc4.symm ?_
            refine fw_tin (pc := 1) (off := 83) (tgt := 84) d_X_count_1 (by decide) (by decide) (by decide) rfl ?_
            refine fw_aload_n (pc := 84) d_X_count_84 0 rfl rfl ?_
            refine fw_getR (pc := 85) d_X_count_85 fl_X_12 fw_X0 rfl ?_
            refine fw_getR (pc := 88) d_X_count_88 fl_X_169 fw_X1 rfl ?_
            refine fw_getI (pc := 91) d_X_count_91 fl_X_173 fw_X28 rfl ?_
            obtain rfl := Option.some.inj h
            exact fw_iret (pc := 94) d_X_count_94 rfl
          · have h := fw_if hc4 h
            refine fw_tout (pc := 1) (tgt := 95) d_X_count_1 ?_ rfl ?_
            · have g0 := fw_ti hc0
              have g1 := fw_ti hc1
              have g2 := fw_ti hc2
              have g3 := fw_ti hc3
              have g4 := fw_ti hc4
              revert g0 g1 g2 g3 g4
              exact fw_sw0_4
            · refine fw_iconst (pc := 95) d_X_count_95 fw_icm1 ?_
              obtain rfl := Option.some.inj h
              exact fw_iret (pc := 96) d_X_count_96 rfl
def f_X_isSetOfPlaces (a1 : Int32) (μ : fw_M) : Option (Int32) :=
  fw_nm (
    if a1 ≤ 0 then
      0
    else
      if ((1 : Int32) <<< ((μ.1 6 1) &&& 31)) ≤ a1 then
        0
      else
        1) fun (j1 : Int32) =>
  (fw_bz j1).bind fun b25 =>
  some b25
set_option maxHeartbeats 4000000 in
set_option maxRecDepth 100000 in
theorem c_X_isSetOfPlaces {a1 : Int32} {μ : fw_M} {r : Int32} (h : f_X_isSetOfPlaces a1 μ = some r) : fw_Con Y_X_isSetOfPlaces fw_X 1 [.ref 0, .int a1] (some r) μ μ := by
  refine fw_con (by decide) (Nat.le_of_ble_eq_true rfl) ?_
  rw [f_X_isSetOfPlaces] at h
  show fw_R "FewTypes" prog_1_method_41_code 2 (some .boolean) fw_X 1 (some r) μ 0 [(0, .ref 0), (1, .int a1)] [] μ
  refine fw_iload_n (pc := 0) d_X_isSetOfPlaces_0 1 rfl rfl ?_
  obtain ⟨j1, w1, h⟩ := fw_ne h
  have hJ1 : fw_R "FewTypes" prog_1_method_41_code 2 (some .boolean) fw_X 1 (some r) μ 25 [] [.int j1] μ := by
    obtain ⟨b25, e25, h⟩ := fw_be h
    obtain rfl := Option.some.inj h
    exact fw_zret (pc := 25) d_X_isSetOfPlaces_25 rfl e25
  clear h
  have h := w1
  clear w1
  refine fw_if_le (pc := 1) (tgt := 24) d_X_isSetOfPlaces_1 rfl (fun hc => ?_) (fun hc => ?_)
  · have h := h.trans (if_pos hc)
    refine fw_iconst (pc := 24) d_X_isSetOfPlaces_24 fw_ic0 ?_
    subst h
    exact fw_sub [] rfl hJ1
  · have h := h.trans (if_neg hc)
    refine fw_iload_n (pc := 4) d_X_isSetOfPlaces_4 1 rfl rfl ?_
    refine fw_iconst (pc := 5) d_X_isSetOfPlaces_5 fw_ic1 ?_
    refine fw_aload_n (pc := 6) d_X_isSetOfPlaces_6 0 rfl rfl ?_
    refine fw_getR (pc := 7) d_X_isSetOfPlaces_7 fl_X_12 fw_X0 rfl ?_
    refine fw_getR (pc := 10) d_X_isSetOfPlaces_10 fl_X_139 fw_X1 rfl ?_
    refine fw_getI (pc := 13) d_X_isSetOfPlaces_13 fl_X_161 fw_X6 rfl ?_
    refine fw_ishl (pc := 16) d_X_isSetOfPlaces_16 ?_
    refine fw_icmp_ge (pc := 17) (tgt := 24) d_X_isSetOfPlaces_17 rfl (fun hc => ?_) (fun hc => ?_)
    · have h := h.trans (if_pos hc)
      refine fw_iconst (pc := 24) d_X_isSetOfPlaces_24 fw_ic0 ?_
      subst h
      exact fw_sub [] rfl hJ1
    · have h := h.trans (if_neg hc)
      refine fw_iconst (pc := 20) d_X_isSetOfPlaces_20 fw_ic1 ?_
      refine fw_goto (pc := 21) (tgt := 25) d_X_isSetOfPlaces_21 rfl ?_
      subst h
      exact fw_sub [] rfl hJ1
def f_Case_prints_2 (a1 : Int32) (a2 : Int32) (μ : fw_M) : Option (Int32) :=
  (fw_rd 10 (μ.1 3) a1).bind fun v5 =>
  if v5 = 2 then
    some 0
  else
    (fw_rd 10 (μ.1 4) a1).bind fun v17 =>
    Option.bind (
      if v17 = a2 then
        some 1
      else
        (fw_rd 10 (μ.1 3) a1).bind fun v27 =>
        if v27 = 1 then
          (fw_rd 10 (μ.1 5) a1).bind fun v37 =>
          if v37 = a2 then
            some 1
          else
            some 0
        else
          some 0) fun (j19 : Int32) =>
    (fw_bz j19).bind fun b47 =>
    some b47
set_option maxHeartbeats 4000000 in
set_option maxRecDepth 100000 in
theorem c_Case_prints_2 {a1 : Int32} {a2 : Int32} {μ : fw_M} {r : Int32} (h : f_Case_prints_2 a1 a2 μ = some r) : fw_Con Y_Case_prints fw_X 1 [.ref 2, .int a1, .int a2] (some r) μ μ := by
  refine fw_con (by decide) (Nat.le_of_ble_eq_true rfl) ?_
  rw [f_Case_prints_2] at h
  show fw_R "FewTypes$Case" prog_2_method_7_code 3 (some .boolean) fw_X 1 (some r) μ 0 [(0, .ref 2), (1, .int a1), (2, .int a2)] [] μ
  refine fw_aload_n (pc := 0) d_Case_prints_0 0 rfl rfl ?_
  refine fw_getR (pc := 1) d_Case_prints_1 fl_Case_9 fw_X2 rfl ?_
  refine fw_iload_n (pc := 4) d_Case_prints_4 1 rfl rfl ?_
  obtain ⟨v5, e5, h⟩ := fw_be h
  refine fw_iald (pc := 5) d_Case_prints_5 fw_X3 e5 ?_
  refine fw_iconst (pc := 6) d_Case_prints_6 fw_ic2 ?_
  refine fw_icmp_ne (pc := 7) (tgt := 12) d_Case_prints_7 rfl (fun hc => ?_) (fun hc => ?_)
  · have h := fw_it hc h
    refine fw_iconst (pc := 10) d_Case_prints_10 fw_ic0 ?_
    obtain rfl := Option.some.inj h
    exact fw_zret (pc := 11) d_Case_prints_11 rfl fw_bz0
  · have h := fw_if hc h
    refine fw_aload_n (pc := 12) d_Case_prints_12 0 rfl rfl ?_
    refine fw_getR (pc := 13) d_Case_prints_13 fl_Case_15 fw_X2 rfl ?_
    refine fw_iload_n (pc := 16) d_Case_prints_16 1 rfl rfl ?_
    obtain ⟨v17, e17, h⟩ := fw_be h
    refine fw_iald (pc := 17) d_Case_prints_17 fw_X4 e17 ?_
    refine fw_iload_n (pc := 18) d_Case_prints_18 2 rfl rfl ?_
    obtain ⟨j19, w19, h⟩ := fw_be h
    have hJ19 : fw_R "FewTypes$Case" prog_2_method_7_code 3 (some .boolean) fw_X 1 (some r) μ 47 [] [.int j19] μ := by
      obtain ⟨b47, e47, h⟩ := fw_be h
      obtain rfl := Option.some.inj h
      exact fw_zret (pc := 47) d_Case_prints_47 rfl e47
    clear h
    have h := w19
    clear w19
    refine fw_icmp_eq (pc := 19) (tgt := 42) d_Case_prints_19 rfl (fun hc => ?_) (fun hc => ?_)
    · have h := fw_it hc h
      refine fw_iconst (pc := 42) d_Case_prints_42 fw_ic1 ?_
      refine fw_goto (pc := 43) (tgt := 47) d_Case_prints_43 rfl ?_
      obtain rfl := Option.some.inj h
      exact fw_sub [] rfl hJ19
    · have h := fw_if hc h
      refine fw_aload_n (pc := 22) d_Case_prints_22 0 rfl rfl ?_
      refine fw_getR (pc := 23) d_Case_prints_23 fl_Case_9 fw_X2 rfl ?_
      refine fw_iload_n (pc := 26) d_Case_prints_26 1 rfl rfl ?_
      obtain ⟨v27, e27, h⟩ := fw_be h
      refine fw_iald (pc := 27) d_Case_prints_27 fw_X3 e27 ?_
      refine fw_iconst (pc := 28) d_Case_prints_28 fw_ic1 ?_
      refine fw_icmp_ne (pc := 29) (tgt := 46) d_Case_prints_29 rfl (fun hc => ?_) (fun hc => ?_)
      · have h := fw_it hc h
        refine fw_aload_n (pc := 32) d_Case_prints_32 0 rfl rfl ?_
        refine fw_getR (pc := 33) d_Case_prints_33 fl_Case_18 fw_X2 rfl ?_
        refine fw_iload_n (pc := 36) d_Case_prints_36 1 rfl rfl ?_
        obtain ⟨v37, e37, h⟩ := fw_be h
        refine fw_iald (pc := 37) d_Case_prints_37 fw_X5 e37 ?_
        refine fw_iload_n (pc := 38) d_Case_prints_38 2 rfl rfl ?_
        refine fw_icmp_ne (pc := 39) (tgt := 46) d_Case_prints_39 rfl (fun hc => ?_) (fun hc => ?_)
        · have h := fw_it hc h
          refine fw_iconst (pc := 42) d_Case_prints_42 fw_ic1 ?_
          refine fw_goto (pc := 43) (tgt := 47) d_Case_prints_43 rfl ?_
          obtain rfl := Option.some.inj h
          exact fw_sub [] rfl hJ19
        · have h := fw_if hc h
          refine fw_iconst (pc := 46) d_Case_prints_46 fw_ic0 ?_
          obtain rfl := Option.some.inj h
          exact fw_sub [] rfl hJ19
      · have h := fw_if hc h
        refine fw_iconst (pc := 46) d_Case_prints_46 fw_ic0 ?_
        obtain rfl := Option.some.inj h
        exact fw_sub [] rfl hJ19
def f_Case_joins_2 (a1 : Int32) (a2 : Int32) (a3 : Int32) (μ : fw_M) : Option (Int32) :=
  (fw_rd 10 (μ.1 3) a1).bind fun v5 =>
  Option.bind (
    if v5 = 2 then
      (fw_rd 10 (μ.1 4) a1).bind fun v15 =>
      if v15 = a2 then
        (fw_rd 10 (μ.1 5) a1).bind fun v25 =>
        if v25 = a3 then
          some 1
        else
          some 0
      else
        some 0
    else
      some 0) fun (j7 : Int32) =>
  (fw_bz j7).bind fun b35 =>
  some b35
set_option maxHeartbeats 4000000 in
set_option maxRecDepth 100000 in
theorem c_Case_joins_2 {a1 : Int32} {a2 : Int32} {a3 : Int32} {μ : fw_M} {r : Int32} (h : f_Case_joins_2 a1 a2 a3 μ = some r) : fw_Con Y_Case_joins fw_X 1 [.ref 2, .int a1, .int a2, .int a3] (some r) μ μ := by
  refine fw_con (by decide) (Nat.le_of_ble_eq_true rfl) ?_
  rw [f_Case_joins_2] at h
  show fw_R "FewTypes$Case" prog_2_method_8_code 4 (some .boolean) fw_X 1 (some r) μ 0 [(0, .ref 2), (1, .int a1), (2, .int a2), (3, .int a3)] [] μ
  refine fw_aload_n (pc := 0) d_Case_joins_0 0 rfl rfl ?_
  refine fw_getR (pc := 1) d_Case_joins_1 fl_Case_9 fw_X2 rfl ?_
  refine fw_iload_n (pc := 4) d_Case_joins_4 1 rfl rfl ?_
  obtain ⟨v5, e5, h⟩ := fw_be h
  refine fw_iald (pc := 5) d_Case_joins_5 fw_X3 e5 ?_
  refine fw_iconst (pc := 6) d_Case_joins_6 fw_ic2 ?_
  obtain ⟨j7, w7, h⟩ := fw_be h
  have hJ7 : fw_R "FewTypes$Case" prog_2_method_8_code 4 (some .boolean) fw_X 1 (some r) μ 35 [] [.int j7] μ := by
    obtain ⟨b35, e35, h⟩ := fw_be h
    obtain rfl := Option.some.inj h
    exact fw_zret (pc := 35) d_Case_joins_35 rfl e35
  clear h
  have h := w7
  clear w7
  refine fw_icmp_ne (pc := 7) (tgt := 34) d_Case_joins_7 rfl (fun hc => ?_) (fun hc => ?_)
  · have h := fw_it hc h
    refine fw_aload_n (pc := 10) d_Case_joins_10 0 rfl rfl ?_
    refine fw_getR (pc := 11) d_Case_joins_11 fl_Case_15 fw_X2 rfl ?_
    refine fw_iload_n (pc := 14) d_Case_joins_14 1 rfl rfl ?_
    obtain ⟨v15, e15, h⟩ := fw_be h
    refine fw_iald (pc := 15) d_Case_joins_15 fw_X4 e15 ?_
    refine fw_iload_n (pc := 16) d_Case_joins_16 2 rfl rfl ?_
    refine fw_icmp_ne (pc := 17) (tgt := 34) d_Case_joins_17 rfl (fun hc => ?_) (fun hc => ?_)
    · have h := fw_it hc h
      refine fw_aload_n (pc := 20) d_Case_joins_20 0 rfl rfl ?_
      refine fw_getR (pc := 21) d_Case_joins_21 fl_Case_18 fw_X2 rfl ?_
      refine fw_iload_n (pc := 24) d_Case_joins_24 1 rfl rfl ?_
      obtain ⟨v25, e25, h⟩ := fw_be h
      refine fw_iald (pc := 25) d_Case_joins_25 fw_X5 e25 ?_
      refine fw_iload_n (pc := 26) d_Case_joins_26 3 rfl rfl ?_
      refine fw_icmp_ne (pc := 27) (tgt := 34) d_Case_joins_27 rfl (fun hc => ?_) (fun hc => ?_)
      · have h := fw_it hc h
        refine fw_iconst (pc := 30) d_Case_joins_30 fw_ic1 ?_
        refine fw_goto (pc := 31) (tgt := 35) d_Case_joins_31 rfl ?_
        obtain rfl := Option.some.inj h
        exact fw_sub [] rfl hJ7
      · have h := fw_if hc h
        refine fw_iconst (pc := 34) d_Case_joins_34 fw_ic0 ?_
        obtain rfl := Option.some.inj h
        exact fw_sub [] rfl hJ7
    · have h := fw_if hc h
      refine fw_iconst (pc := 34) d_Case_joins_34 fw_ic0 ?_
      obtain rfl := Option.some.inj h
      exact fw_sub [] rfl hJ7
  · have h := fw_if hc h
    refine fw_iconst (pc := 34) d_Case_joins_34 fw_ic0 ?_
    obtain rfl := Option.some.inj h
    exact fw_sub [] rfl hJ7
def f_Press_lockType_L6 (t1 : Nat) (a3 : Int32) : Int32 × Int32 × fw_M → Option ((Int32 × Int32 × fw_M) ⊕ (Int32 × fw_M))
  | (x4_6, x5_6, μ6) =>
  if (μ6.1 65 5) ≤ x5_6 then
    some (.inr (x4_6, μ6))
  else
    (fw_rd 10 (μ6.1 (t1 + 1)) x5_6).bind fun v23 =>
    (f_Case_prints_2 a3 v23 μ6).bind fun (p24 : Int32) =>
    Option.bind (
      if p24 = 0 then
        some (x4_6, μ6)
      else
        (fw_rd 10 (μ6.1 67) x5_6).bind fun v37 =>
        (fw_si 10 μ6 67 x5_6 (v37 ||| ((1 : Int32) <<< ((μ6.1 65 8) &&& 31)))).bind fun μ45 =>
        some (1, μ45)) fun (j27 : Int32 × fw_M) =>
    Option.bind (
      if (j27.2.1 65 5) ≤ (x5_6 + 1) then
        some (j27.1, j27.2)
      else
        (f_Line_besideNext t1 x5_6 j27.2).bind fun (p63 : Int32) =>
        if p63 = 0 then
          some (j27.1, j27.2)
        else
          (fw_rd 10 (j27.2.1 (t1 + 1)) x5_6).bind fun v77 =>
          (fw_rd 10 (j27.2.1 (t1 + 1)) (x5_6 + 1)).bind fun v86 =>
          (f_Case_joins_2 a3 v77 v86 j27.2).bind fun (p87 : Int32) =>
          if p87 = 0 then
            some (j27.1, j27.2)
          else
            (fw_rd 10 (j27.2.1 68) x5_6).bind fun v100 =>
            (fw_si 10 j27.2 68 x5_6 (v100 ||| ((1 : Int32) <<< ((j27.2.1 65 8) &&& 31)))).bind fun μ108 =>
            some (1, μ108)) fun (j57 : Int32 × fw_M) =>
    fw_nm (x5_6 + 1) fun (v112 : Int32) =>
    some (.inl (j57.1, v112, j57.2))
def f_Press_lockType (t1 : Nat) (a3 : Int32) (μ : fw_M) : Option (Int32 × fw_M) :=
  if fw_okL t1 then
    (fw_wh (f_Press_lockType_L6 t1 a3) fw_N (0, 0, μ)).bind fun (e6x : Int32 × fw_M) =>
    (fw_bz e6x.1).bind fun b120 =>
    some (b120, e6x.2)
  else none
set_option maxHeartbeats 4000000 in
set_option maxRecDepth 100000 in
theorem c_Press_lockType {t1 : Nat} {a3 : Int32} {μ : fw_M} {r : Int32 × fw_M} (h : f_Press_lockType t1 a3 μ = some r) : fw_Con Y_Press_lockType fw_X 3 [.ref 65, .ref t1, .ref 2, .int a3] (some r.1) μ r.2 := by
  refine fw_con (by decide) (Nat.le_of_ble_eq_true rfl) ?_
  rw [f_Press_lockType] at h
  show fw_R "FewTypes$Press" prog_6_method_3_code 6 (some .boolean) fw_X 3 (some r.1) r.2 0 [(0, .ref 65), (1, .ref t1), (2, .ref 2), (3, .int a3)] [] μ
  obtain ⟨g1, h⟩ := fw_gu h
  refine fw_iconst (pc := 0) d_Press_lockType_0 fw_ic0 ?_
  refine fw_istore (pc := 1) (lv1 := [(4, .int 0), (0, .ref 65), (1, .ref t1), (2, .ref 2), (3, .int a3)]) d_Press_lockType_1 (by decide) rfl ?_
  refine fw_iconst (pc := 3) d_Press_lockType_3 fw_ic0 ?_
  refine fw_istore (pc := 4) (lv1 := [(5, .int 0), (4, .int 0), (0, .ref 65), (1, .ref t1), (2, .ref 2), (3, .int a3)]) d_Press_lockType_4 (by decide) rfl ?_
  obtain ⟨e6x, w6, h⟩ := fw_be h
  have hE6 : fw_R "FewTypes$Press" prog_6_method_3_code 6 (some .boolean) fw_X 3 (some r.1) r.2 118 [(4, .int e6x.1)] [] e6x.2 := by
    refine fw_iload (pc := 118) d_Press_lockType_118 0 rfl ?_
    obtain ⟨b120, e120, h⟩ := fw_be h
    obtain rfl := Option.some.inj h
    exact fw_zret (pc := 120) d_Press_lockType_120 rfl e120
  clear h
  exact fw_sub [2, 3, 4, 5, 1, 0] rfl (fw_we (e := e6x) (fun (s : Int32 × Int32 × fw_M) => fw_R "FewTypes$Press" prog_6_method_3_code 6 (some .boolean) fw_X 3 (some r.1) r.2 6 [(0, .ref 65), (1, .ref t1), (2, .ref 2), (3, .int a3), (4, .int s.1), (5, .int s.2.1)] [] s.2.2) (by
    intro s x h hl hr
    obtain ⟨x4_6, x5_6, μ6⟩ := s
    rw [f_Press_lockType_L6] at h
    show fw_R "FewTypes$Press" prog_6_method_3_code 6 (some .boolean) fw_X 3 (some r.1) r.2 6 [(0, .ref 65), (1, .ref t1), (2, .ref 2), (3, .int a3), (4, .int x4_6), (5, .int x5_6)] [] μ6
    refine fw_iload (pc := 6) d_Press_lockType_6 5 rfl ?_
    refine fw_aload_n (pc := 8) d_Press_lockType_8 0 rfl rfl ?_
    refine fw_getI (pc := 9) d_Press_lockType_9 fl_Press_28 fw_X65 rfl ?_
    refine fw_icmp_ge (pc := 12) (tgt := 118) d_Press_lockType_12 rfl (fun hc => ?_) (fun hc => ?_)
    · have h := fw_it hc h
      obtain rfl := Option.some.inj h
      have he := hr _ rfl
      subst he
      exact fw_sub [4] rfl hE6
    · have h := fw_if hc h
      refine fw_aload_n (pc := 15) d_Press_lockType_15 2 rfl rfl ?_
      refine fw_iload_n (pc := 16) d_Press_lockType_16 3 rfl rfl ?_
      refine fw_aload_n (pc := 17) d_Press_lockType_17 1 rfl rfl ?_
      refine fw_getR (pc := 18) d_Press_lockType_18 fl_Press_76 g1.1 rfl ?_
      refine fw_iload (pc := 21) d_Press_lockType_21 5 rfl ?_
      obtain ⟨v23, e23, h⟩ := fw_be h
      refine fw_iald (pc := 23) d_Press_lockType_23 g1.2 e23 ?_
      obtain ⟨p24, e24, h⟩ := fw_be h
      refine fw_callVi (pc := 24) d_Press_lockType_24 mv_Press_79 fw_X2 (c_Case_prints_2 e24) (by decide) rfl rfl (Nat.le_of_ble_eq_true rfl) ?_
      obtain ⟨j27, w27, h⟩ := fw_be h
      have hJ27 : fw_R "FewTypes$Press" prog_6_method_3_code 6 (some .boolean) fw_X 3 (some r.1) r.2 49 [(0, .ref 65), (1, .ref t1), (2, .ref 2), (3, .int a3), (4, .int j27.1), (5, .int x5_6)] [] j27.2 := by
        refine fw_iload (pc := 49) d_Press_lockType_49 5 rfl ?_
        refine fw_iconst (pc := 51) d_Press_lockType_51 fw_ic1 ?_
        refine fw_iadd (pc := 52) d_Press_lockType_52 ?_
        refine fw_aload_n (pc := 53) d_Press_lockType_53 0 rfl rfl ?_
        refine fw_getI (pc := 54) d_Press_lockType_54 fl_Press_28 fw_X65 rfl ?_
        obtain ⟨j57, w57, h⟩ := fw_be h
        have hJ57 : fw_R "FewTypes$Press" prog_6_method_3_code 6 (some .boolean) fw_X 3 (some r.1) r.2 112 [(0, .ref 65), (1, .ref t1), (2, .ref 2), (3, .int a3), (4, .int j57.1), (5, .int x5_6)] [] j57.2 := by
          obtain ⟨v112, e112, h⟩ := fw_ne h
          refine fw_iinc2 (pc := 112) (j := 5) (lv1 := [(5, .int v112), (0, .ref 65), (1, .ref t1), (2, .ref 2), (3, .int a3), (4, .int j57.1)]) d_Press_lockType_112 rfl fw_ic1 e112 (by decide) rfl ?_
          refine fw_goto (pc := 115) (tgt := 6) d_Press_lockType_115 rfl ?_
          obtain rfl := Option.some.inj h
          exact fw_sub [1, 2, 3, 4, 5, 0] rfl (hl _ rfl)
        clear h
        have h := w57
        clear w57
        refine fw_icmp_ge (pc := 57) (tgt := 112) d_Press_lockType_57 rfl (fun hc => ?_) (fun hc => ?_)
        · have h := fw_it hc h
          obtain rfl := Option.some.inj h
          exact fw_sub [0, 1, 2, 3, 4, 5] rfl hJ57
        · have h := fw_if hc h
          refine fw_aload_n (pc := 60) d_Press_lockType_60 1 rfl rfl ?_
          refine fw_iload (pc := 61) d_Press_lockType_61 5 rfl ?_
          obtain ⟨p63, e63, h⟩ := fw_be h
          refine fw_callVi (pc := 63) d_Press_lockType_63 mv_Press_83 g1.1 (c_Line_besideNext e63) (by decide) rfl rfl (Nat.le_of_ble_eq_true rfl) ?_
          refine fw_if_eq (pc := 66) (tgt := 112) d_Press_lockType_66 rfl (fun hc => ?_) (fun hc => ?_)
          · have h := fw_it hc h
            obtain rfl := Option.some.inj h
            exact fw_sub [0, 1, 2, 3, 4, 5] rfl hJ57
          · have h := fw_if hc h
            refine fw_aload_n (pc := 69) d_Press_lockType_69 2 rfl rfl ?_
            refine fw_iload_n (pc := 70) d_Press_lockType_70 3 rfl rfl ?_
            refine fw_aload_n (pc := 71) d_Press_lockType_71 1 rfl rfl ?_
            refine fw_getR (pc := 72) d_Press_lockType_72 fl_Press_76 g1.1 rfl ?_
            refine fw_iload (pc := 75) d_Press_lockType_75 5 rfl ?_
            obtain ⟨v77, e77, h⟩ := fw_be h
            refine fw_iald (pc := 77) d_Press_lockType_77 g1.2 e77 ?_
            refine fw_aload_n (pc := 78) d_Press_lockType_78 1 rfl rfl ?_
            refine fw_getR (pc := 79) d_Press_lockType_79 fl_Press_76 g1.1 rfl ?_
            refine fw_iload (pc := 82) d_Press_lockType_82 5 rfl ?_
            refine fw_iconst (pc := 84) d_Press_lockType_84 fw_ic1 ?_
            refine fw_iadd (pc := 85) d_Press_lockType_85 ?_
            obtain ⟨v86, e86, h⟩ := fw_be h
            refine fw_iald (pc := 86) d_Press_lockType_86 g1.2 e86 ?_
            obtain ⟨p87, e87, h⟩ := fw_be h
            refine fw_callVi (pc := 87) d_Press_lockType_87 mv_Press_87 fw_X2 (c_Case_joins_2 e87) (by decide) rfl rfl (Nat.le_of_ble_eq_true rfl) ?_
            refine fw_if_eq (pc := 90) (tgt := 112) d_Press_lockType_90 rfl (fun hc => ?_) (fun hc => ?_)
            · have h := fw_it hc h
              obtain rfl := Option.some.inj h
              exact fw_sub [0, 1, 2, 3, 4, 5] rfl hJ57
            · have h := fw_if hc h
              refine fw_aload_n (pc := 93) d_Press_lockType_93 0 rfl rfl ?_
              refine fw_getR (pc := 94) d_Press_lockType_94 fl_Press_18 fw_X65 rfl ?_
              refine fw_iload (pc := 97) d_Press_lockType_97 5 rfl ?_
              refine fw_dup2 (pc := 99) d_Press_lockType_99 rfl rfl ?_
              obtain ⟨v100, e100, h⟩ := fw_be h
              refine fw_iald (pc := 100) d_Press_lockType_100 fw_X68 e100 ?_
              refine fw_iconst (pc := 101) d_Press_lockType_101 fw_ic1 ?_
              refine fw_aload_n (pc := 102) d_Press_lockType_102 0 rfl rfl ?_
              refine fw_getI (pc := 103) d_Press_lockType_103 fl_Press_39 fw_X65 rfl ?_
              refine fw_ishl (pc := 106) d_Press_lockType_106 ?_
              refine fw_ior (pc := 107) d_Press_lockType_107 ?_
              obtain ⟨μ108, e108, h⟩ := fw_be h
              refine fw_iast (pc := 108) d_Press_lockType_108 fw_X68 e108 ?_
              refine fw_iconst (pc := 109) d_Press_lockType_109 fw_ic1 ?_
              refine fw_istore (pc := 110) (lv1 := [(4, .int 1), (0, .ref 65), (1, .ref t1), (2, .ref 2), (3, .int a3), (5, .int x5_6)]) d_Press_lockType_110 (by decide) rfl ?_
              obtain rfl := Option.some.inj h
              exact fw_sub [1, 2, 3, 4, 0, 5] rfl hJ57
      clear h
      have h := w27
      clear w27
      refine fw_if_eq (pc := 27) (tgt := 49) d_Press_lockType_27 rfl (fun hc => ?_) (fun hc => ?_)
      · have h := fw_it hc h
        obtain rfl := Option.some.inj h
        exact fw_sub [0, 1, 2, 3, 4, 5] rfl hJ27
      · have h := fw_if hc h
        refine fw_aload_n (pc := 30) d_Press_lockType_30 0 rfl rfl ?_
        refine fw_getR (pc := 31) d_Press_lockType_31 fl_Press_15 fw_X65 rfl ?_
        refine fw_iload (pc := 34) d_Press_lockType_34 5 rfl ?_
        refine fw_dup2 (pc := 36) d_Press_lockType_36 rfl rfl ?_
        obtain ⟨v37, e37, h⟩ := fw_be h
        refine fw_iald (pc := 37) d_Press_lockType_37 fw_X67 e37 ?_
        refine fw_iconst (pc := 38) d_Press_lockType_38 fw_ic1 ?_
        refine fw_aload_n (pc := 39) d_Press_lockType_39 0 rfl rfl ?_
        refine fw_getI (pc := 40) d_Press_lockType_40 fl_Press_39 fw_X65 rfl ?_
        refine fw_ishl (pc := 43) d_Press_lockType_43 ?_
        refine fw_ior (pc := 44) d_Press_lockType_44 ?_
        obtain ⟨μ45, e45, h⟩ := fw_be h
        refine fw_iast (pc := 45) d_Press_lockType_45 fw_X67 e45 ?_
        refine fw_iconst (pc := 46) d_Press_lockType_46 fw_ic1 ?_
        refine fw_istore (pc := 47) (lv1 := [(4, .int 1), (0, .ref 65), (1, .ref t1), (2, .ref 2), (3, .int a3), (5, .int x5_6)]) d_Press_lockType_47 (by decide) rfl ?_
        obtain rfl := Option.some.inj h
        exact fw_sub [1, 2, 3, 4, 0, 5] rfl hJ27
    ) _ _ w6)
def f_Press_setRow_L3 (a1 : Int32) (a2 : Int64) : Int32 × fw_M → Option ((Int32 × fw_M) ⊕ (fw_M))
  | (x4_3, μ3) =>
  if (μ3.1 65 9) ≤ x4_3 then
    some (.inr μ3)
  else
    (fw_sl 176 μ3 69 ((a1 * 16) + x4_3) a2).bind fun μ24 =>
    fw_nm (x4_3 + 1) fun (v25 : Int32) =>
    some (.inl (v25, μ24))
def f_Press_setRow (a1 : Int32) (a2 : Int64) (μ : fw_M) : Option (fw_M) :=
  (fw_wh (f_Press_setRow_L3 a1 a2) fw_N (0, μ)).bind fun (e3x : fw_M) =>
  some e3x
set_option maxHeartbeats 4000000 in
set_option maxRecDepth 100000 in
theorem c_Press_setRow {a1 : Int32} {a2 : Int64} {μ : fw_M} {r : fw_M} (h : f_Press_setRow a1 a2 μ = some r) : fw_Con Y_Press_setRow fw_X 1 [.ref 65, .int a1, .long a2] none μ r := by
  refine fw_con (by decide) (Nat.le_of_ble_eq_true rfl) ?_
  rw [f_Press_setRow] at h
  show fw_R "FewTypes$Press" prog_6_method_19_code 5 none fw_X 1 none r 0 [(0, .ref 65), (1, .int a1), (2, .long a2)] [] μ
  refine fw_iconst (pc := 0) d_Press_setRow_0 fw_ic0 ?_
  refine fw_istore (pc := 1) (lv1 := [(4, .int 0), (0, .ref 65), (1, .int a1), (2, .long a2)]) d_Press_setRow_1 (by decide) rfl ?_
  obtain ⟨e3x, w3, h⟩ := fw_be h
  have hE3 : fw_R "FewTypes$Press" prog_6_method_19_code 5 none fw_X 1 none r 31 [] [] e3x := by
    obtain rfl := Option.some.inj h
    exact fw_vret (pc := 31) d_Press_setRow_31 rfl
  clear h
  exact fw_sub [1, 2, 3, 0] rfl (fw_we (e := e3x) (fun (s : Int32 × fw_M) => fw_R "FewTypes$Press" prog_6_method_19_code 5 none fw_X 1 none r 3 [(0, .ref 65), (1, .int a1), (2, .long a2), (4, .int s.1)] [] s.2) (by
    intro s x h hl hr
    obtain ⟨x4_3, μ3⟩ := s
    rw [f_Press_setRow_L3] at h
    show fw_R "FewTypes$Press" prog_6_method_19_code 5 none fw_X 1 none r 3 [(0, .ref 65), (1, .int a1), (2, .long a2), (4, .int x4_3)] [] μ3
    refine fw_iload (pc := 3) d_Press_setRow_3 3 rfl ?_
    refine fw_aload_n (pc := 5) d_Press_setRow_5 0 rfl rfl ?_
    refine fw_getI (pc := 6) d_Press_setRow_6 fl_Press_42 fw_X65 rfl ?_
    refine fw_icmp_ge (pc := 9) (tgt := 31) d_Press_setRow_9 rfl (fun hc => ?_) (fun hc => ?_)
    · have h := fw_it hc h
      obtain rfl := Option.some.inj h
      have he := hr _ rfl
      subst he
      exact fw_sub [] rfl hE3
    · have h := fw_if hc h
      refine fw_aload_n (pc := 12) d_Press_setRow_12 0 rfl rfl ?_
      refine fw_getR (pc := 13) d_Press_setRow_13 fl_Press_21 fw_X65 rfl ?_
      refine fw_iload_n (pc := 16) d_Press_setRow_16 1 rfl rfl ?_
      refine fw_bipush (pc := 17) d_Press_setRow_17 fw_bp16 ?_
      refine fw_imul (pc := 19) d_Press_setRow_19 ?_
      refine fw_iload (pc := 20) d_Press_setRow_20 3 rfl ?_
      refine fw_iadd (pc := 22) d_Press_setRow_22 ?_
      refine fw_lload_n (pc := 23) d_Press_setRow_23 2 rfl rfl ?_
      obtain ⟨μ24, e24, h⟩ := fw_be h
      refine fw_last (pc := 24) d_Press_setRow_24 fw_X69 e24 ?_
      obtain ⟨v25, e25, h⟩ := fw_ne h
      refine fw_iinc2 (pc := 25) (j := 3) (lv1 := [(4, .int v25), (0, .ref 65), (1, .int a1), (2, .long a2)]) d_Press_setRow_25 rfl fw_ic1 e25 (by decide) rfl ?_
      refine fw_goto (pc := 28) (tgt := 3) d_Press_setRow_28 rfl ?_
      obtain rfl := Option.some.inj h
      exact fw_sub [1, 2, 3, 0] rfl (hl _ rfl)
    ) _ _ w3)
def f_Press_lock_L50 (t1 : Nat) : Int32 × fw_M → Option ((Int32 × fw_M) ⊕ (fw_M))
  | (x4_50, μ50) =>
  if (μ50.1 2 3) ≤ x4_50 then
    some (.inr μ50)
  else
    (f_Press_lockType t1 x4_50 μ50).bind fun (p64 : Int32 × fw_M) =>
    Option.bind (
      if p64.1 = 0 then
        some p64.2
      else
        (fw_si 10 p64.2 66 (p64.2.1 65 8) x4_50).bind fun μ80 =>
        fw_nm (fw_wr μ80 65 8 ((μ80.1 65 8) + 1)) fun (μ88 : fw_M) =>
        (fw_rd 10 (μ88.1 3) x4_50).bind fun v102 =>
        fw_nm (
          if v102 = 2 then
            2
          else
            1) fun (j104 : Int32) =>
        fw_nm (fw_wr μ88 65 10 ((μ88.1 65 10) + j104)) fun (μ113 : fw_M) =>
        some μ113) fun (j67 : fw_M) =>
    fw_nm (x4_50 + 1) fun (v116 : Int32) =>
    some (.inl (v116, j67))
def f_Press_lock (t1 : Nat) (a3 : Int32) (μ : fw_M) : Option (fw_M) :=
  if fw_okL t1 then
    fw_nm (fw_wr μ 65 5 (μ.1 t1 1)) fun (μ5 : fw_M) =>
    fw_nm (fw_wr μ5 65 6 (μ5.1 t1 2)) fun (μ13 : fw_M) =>
    (fw_bz a3).bind fun b18 =>
    fw_nm (fw_wr μ13 65 7 b18) fun (μ18 : fw_M) =>
    fw_nm (fw_wr μ18 65 8 0) fun (μ23 : fw_M) =>
    fw_nm (fw_wr μ23 65 10 0) fun (μ28 : fw_M) =>
    (f_Arrays_fill 67 10 0 μ28).bind fun (p36 : fw_M) =>
    (f_Arrays_fill 68 10 0 p36).bind fun (p44 : fw_M) =>
    (fw_wh (f_Press_lock_L50 t1) fw_N (0, p44)).bind fun (e50x : fw_M) =>
    fw_nm (
      if 6 < (e50x.1 65 8) then
        ((1 : Int32) <<< (((e50x.1 65 8) - 6) &&& 31))
      else
        1) fun (j129 : Int32) =>
    fw_nm (fw_wr e50x 65 9 j129) fun (μ145 : fw_M) =>
    (f_Press_setRow (μ145.1 65 5) (-1) μ145).bind fun (p156 : fw_M) =>
    some p156
  else none
set_option maxHeartbeats 4000000 in
set_option maxRecDepth 100000 in
theorem c_Press_lock {t1 : Nat} {a3 : Int32} {μ : fw_M} {r : fw_M} (h : f_Press_lock t1 a3 μ = some r) : fw_Con Y_Press_lock fw_X 4 [.ref 65, .ref t1, .ref 2, .int a3] none μ r := by
  refine fw_con (by decide) (Nat.le_of_ble_eq_true rfl) ?_
  rw [f_Press_lock] at h
  show fw_R "FewTypes$Press" prog_6_method_2_code 5 none fw_X 4 none r 0 [(0, .ref 65), (1, .ref t1), (2, .ref 2), (3, .int a3)] [] μ
  obtain ⟨g1, h⟩ := fw_gu h
  refine fw_aload_n (pc := 0) d_Press_lock_0 0 rfl rfl ?_
  refine fw_aload_n (pc := 1) d_Press_lock_1 1 rfl rfl ?_
  refine fw_getI (pc := 2) d_Press_lock_2 fl_Press_48 g1.1 rfl ?_
  obtain ⟨μ5, e5, h⟩ := fw_ne h
  refine fw_putI (pc := 5) d_Press_lock_5 fp_Press_28 fw_X65 rfl (fw_mem e5 ?_)
  refine fw_aload_n (pc := 8) d_Press_lock_8 0 rfl rfl ?_
  refine fw_aload_n (pc := 9) d_Press_lock_9 1 rfl rfl ?_
  refine fw_getI (pc := 10) d_Press_lock_10 fl_Press_53 g1.1 rfl ?_
  obtain ⟨μ13, e13, h⟩ := fw_ne h
  refine fw_putI (pc := 13) d_Press_lock_13 fp_Press_32 fw_X65 rfl (fw_mem e13 ?_)
  refine fw_aload_n (pc := 16) d_Press_lock_16 0 rfl rfl ?_
  refine fw_iload_n (pc := 17) d_Press_lock_17 3 rfl rfl ?_
  obtain ⟨b18, z18, h⟩ := fw_be h
  obtain ⟨μ18, e18, h⟩ := fw_ne h
  refine fw_putZ (pc := 18) d_Press_lock_18 z18 fp_Press_35 fw_X65 rfl (fw_mem e18 ?_)
  refine fw_aload_n (pc := 21) d_Press_lock_21 0 rfl rfl ?_
  refine fw_iconst (pc := 22) d_Press_lock_22 fw_ic0 ?_
  obtain ⟨μ23, e23, h⟩ := fw_ne h
  refine fw_putI (pc := 23) d_Press_lock_23 fp_Press_39 fw_X65 rfl (fw_mem e23 ?_)
  refine fw_aload_n (pc := 26) d_Press_lock_26 0 rfl rfl ?_
  refine fw_iconst (pc := 27) d_Press_lock_27 fw_ic0 ?_
  obtain ⟨μ28, e28, h⟩ := fw_ne h
  refine fw_putI (pc := 28) d_Press_lock_28 fp_Press_45 fw_X65 rfl (fw_mem e28 ?_)
  refine fw_aload_n (pc := 31) d_Press_lock_31 0 rfl rfl ?_
  refine fw_getR (pc := 32) d_Press_lock_32 fl_Press_15 fw_X65 rfl ?_
  refine fw_iconst (pc := 35) d_Press_lock_35 fw_ic0 ?_
  obtain ⟨p36, e36, h⟩ := fw_be h
  refine fw_callSv (pc := 36) d_Press_lock_36 ms_Press_54 (c_Arrays_fill e36) (by decide) rfl rfl (Nat.le_of_ble_eq_true rfl) ?_
  refine fw_aload_n (pc := 39) d_Press_lock_39 0 rfl rfl ?_
  refine fw_getR (pc := 40) d_Press_lock_40 fl_Press_18 fw_X65 rfl ?_
  refine fw_iconst (pc := 43) d_Press_lock_43 fw_ic0 ?_
  obtain ⟨p44, e44, h⟩ := fw_be h
  refine fw_callSv (pc := 44) d_Press_lock_44 ms_Press_54 (c_Arrays_fill e44) (by decide) rfl rfl (Nat.le_of_ble_eq_true rfl) ?_
  refine fw_iconst (pc := 47) d_Press_lock_47 fw_ic0 ?_
  refine fw_istore (pc := 48) (lv1 := [(4, .int 0), (0, .ref 65), (1, .ref t1), (2, .ref 2), (3, .int a3)]) d_Press_lock_48 (by decide) rfl ?_
  obtain ⟨e50x, w50, h⟩ := fw_be h
  have hE50 : fw_R "FewTypes$Press" prog_6_method_2_code 5 none fw_X 4 none r 122 [(0, .ref 65)] [] e50x := by
    refine fw_aload_n (pc := 122) d_Press_lock_122 0 rfl rfl ?_
    refine fw_aload_n (pc := 123) d_Press_lock_123 0 rfl rfl ?_
    refine fw_getI (pc := 124) d_Press_lock_124 fl_Press_39 fw_X65 rfl ?_
    refine fw_bipush (pc := 127) d_Press_lock_127 fw_bp6 ?_
    obtain ⟨j129, w129, h⟩ := fw_ne h
    have hJ129 : fw_R "FewTypes$Press" prog_6_method_2_code 5 none fw_X 4 none r 145 [(0, .ref 65)] [.int j129, .ref 65] e50x := by
      obtain ⟨μ145, e145, h⟩ := fw_ne h
      refine fw_putI (pc := 145) d_Press_lock_145 fp_Press_42 fw_X65 rfl (fw_mem e145 ?_)
      refine fw_aload_n (pc := 148) d_Press_lock_148 0 rfl rfl ?_
      refine fw_aload_n (pc := 149) d_Press_lock_149 0 rfl rfl ?_
      refine fw_getI (pc := 150) d_Press_lock_150 fl_Press_28 fw_X65 rfl ?_
      refine fw_ldc2 (pc := 153) d_Press_lock_153 cl_Press_70 ?_
      obtain ⟨p156, e156, h⟩ := fw_be h
      refine fw_callVv (pc := 156) d_Press_lock_156 mv_Press_72 fw_X65 (c_Press_setRow e156) (by decide) rfl rfl (Nat.le_of_ble_eq_true rfl) ?_
      obtain rfl := Option.some.inj h
      exact fw_vret (pc := 159) d_Press_lock_159 rfl
    clear h
    have h := w129
    clear w129
    refine fw_icmp_gt (pc := 129) (tgt := 136) d_Press_lock_129 rfl (fun hc => ?_) (fun hc => ?_)
    · have h := h.trans (if_pos hc)
      refine fw_iconst (pc := 136) d_Press_lock_136 fw_ic1 ?_
      refine fw_aload_n (pc := 137) d_Press_lock_137 0 rfl rfl ?_
      refine fw_getI (pc := 138) d_Press_lock_138 fl_Press_39 fw_X65 rfl ?_
      refine fw_bipush (pc := 141) d_Press_lock_141 fw_bp6 ?_
      refine fw_isub (pc := 143) d_Press_lock_143 ?_
      refine fw_ishl (pc := 144) d_Press_lock_144 ?_
      subst h
      exact fw_sub [0] rfl hJ129
    · have h := h.trans (if_neg hc)
      refine fw_iconst (pc := 132) d_Press_lock_132 fw_ic1 ?_
      refine fw_goto (pc := 133) (tgt := 145) d_Press_lock_133 rfl ?_
      subst h
      exact fw_sub [0] rfl hJ129
  clear h
  exact fw_sub [1, 2, 3, 0] rfl (fw_we (e := e50x) (fun (s : Int32 × fw_M) => fw_R "FewTypes$Press" prog_6_method_2_code 5 none fw_X 4 none r 50 [(0, .ref 65), (1, .ref t1), (2, .ref 2), (4, .int s.1)] [] s.2) (by
    intro s x h hl hr
    obtain ⟨x4_50, μ50⟩ := s
    rw [f_Press_lock_L50] at h
    show fw_R "FewTypes$Press" prog_6_method_2_code 5 none fw_X 4 none r 50 [(0, .ref 65), (1, .ref t1), (2, .ref 2), (4, .int x4_50)] [] μ50
    refine fw_iload (pc := 50) d_Press_lock_50 3 rfl ?_
    refine fw_aload_n (pc := 52) d_Press_lock_52 2 rfl rfl ?_
    refine fw_getI (pc := 53) d_Press_lock_53 fl_Press_60 fw_X2 rfl ?_
    refine fw_icmp_ge (pc := 56) (tgt := 122) d_Press_lock_56 rfl (fun hc => ?_) (fun hc => ?_)
    · have h := fw_it hc h
      obtain rfl := Option.some.inj h
      have he := hr _ rfl
      subst he
      exact fw_sub [0] rfl hE50
    · have h := fw_if hc h
      refine fw_aload_n (pc := 59) d_Press_lock_59 0 rfl rfl ?_
      refine fw_aload_n (pc := 60) d_Press_lock_60 1 rfl rfl ?_
      refine fw_aload_n (pc := 61) d_Press_lock_61 2 rfl rfl ?_
      refine fw_iload (pc := 62) d_Press_lock_62 3 rfl ?_
      obtain ⟨p64, e64, h⟩ := fw_be h
      refine fw_callVi (pc := 64) d_Press_lock_64 mv_Press_63 fw_X65 (c_Press_lockType e64) (by decide) rfl rfl (Nat.le_of_ble_eq_true rfl) ?_
      obtain ⟨j67, w67, h⟩ := fw_be h
      have hJ67 : fw_R "FewTypes$Press" prog_6_method_2_code 5 none fw_X 4 none r 116 [(0, .ref 65), (1, .ref t1), (2, .ref 2), (4, .int x4_50)] [] j67 := by
        obtain ⟨v116, e116, h⟩ := fw_ne h
        refine fw_iinc2 (pc := 116) (j := 3) (lv1 := [(4, .int v116), (0, .ref 65), (1, .ref t1), (2, .ref 2)]) d_Press_lock_116 rfl fw_ic1 e116 (by decide) rfl ?_
        refine fw_goto (pc := 119) (tgt := 50) d_Press_lock_119 rfl ?_
        obtain rfl := Option.some.inj h
        exact fw_sub [1, 2, 3, 0] rfl (hl _ rfl)
      clear h
      have h := w67
      clear w67
      refine fw_if_eq (pc := 67) (tgt := 116) d_Press_lock_67 rfl (fun hc => ?_) (fun hc => ?_)
      · have h := fw_it hc h
        obtain rfl := Option.some.inj h
        exact fw_sub [0, 1, 2, 3] rfl hJ67
      · have h := fw_if hc h
        refine fw_aload_n (pc := 70) d_Press_lock_70 0 rfl rfl ?_
        refine fw_getR (pc := 71) d_Press_lock_71 fl_Press_9 fw_X65 rfl ?_
        refine fw_aload_n (pc := 74) d_Press_lock_74 0 rfl rfl ?_
        refine fw_getI (pc := 75) d_Press_lock_75 fl_Press_39 fw_X65 rfl ?_
        refine fw_iload (pc := 78) d_Press_lock_78 3 rfl ?_
        obtain ⟨μ80, e80, h⟩ := fw_be h
        refine fw_iast (pc := 80) d_Press_lock_80 fw_X66 e80 ?_
        refine fw_aload_n (pc := 81) d_Press_lock_81 0 rfl rfl ?_
        refine fw_dup (pc := 82) d_Press_lock_82 rfl ?_
        refine fw_getI (pc := 83) d_Press_lock_83 fl_Press_39 fw_X65 rfl ?_
        refine fw_iconst (pc := 86) d_Press_lock_86 fw_ic1 ?_
        refine fw_iadd (pc := 87) d_Press_lock_87 ?_
        obtain ⟨μ88, e88, h⟩ := fw_ne h
        refine fw_putI (pc := 88) d_Press_lock_88 fp_Press_39 fw_X65 rfl (fw_mem e88 ?_)
        refine fw_aload_n (pc := 91) d_Press_lock_91 0 rfl rfl ?_
        refine fw_dup (pc := 92) d_Press_lock_92 rfl ?_
        refine fw_getI (pc := 93) d_Press_lock_93 fl_Press_45 fw_X65 rfl ?_
        refine fw_aload_n (pc := 96) d_Press_lock_96 2 rfl rfl ?_
        refine fw_getR (pc := 97) d_Press_lock_97 fl_Press_67 fw_X2 rfl ?_
        refine fw_iload (pc := 100) d_Press_lock_100 3 rfl ?_
        obtain ⟨v102, e102, h⟩ := fw_be h
        refine fw_iald (pc := 102) d_Press_lock_102 fw_X3 e102 ?_
        refine fw_iconst (pc := 103) d_Press_lock_103 fw_ic2 ?_
        obtain ⟨j104, w104, h⟩ := fw_ne h
        have hJ104 : fw_R "FewTypes$Press" prog_6_method_2_code 5 none fw_X 4 none r 112 [(0, .ref 65), (1, .ref t1), (2, .ref 2), (4, .int x4_50)] [.int j104, .int (μ88.1 65 10), .ref 65] μ88 := by
          refine fw_iadd (pc := 112) d_Press_lock_112 ?_
          obtain ⟨μ113, e113, h⟩ := fw_ne h
          refine fw_putI (pc := 113) d_Press_lock_113 fp_Press_45 fw_X65 rfl (fw_mem e113 ?_)
          obtain rfl := Option.some.inj h
          exact fw_sub [0, 1, 2, 3] rfl hJ67
        clear h
        have h := w104
        clear w104
        refine fw_icmp_ne (pc := 104) (tgt := 111) d_Press_lock_104 rfl (fun hc => ?_) (fun hc => ?_)
        · have h := h.trans (if_pos hc)
          refine fw_iconst (pc := 107) d_Press_lock_107 fw_ic2 ?_
          refine fw_goto (pc := 108) (tgt := 112) d_Press_lock_108 rfl ?_
          subst h
          exact fw_sub [0, 1, 2, 3] rfl hJ104
        · have h := h.trans (if_neg hc)
          refine fw_iconst (pc := 111) d_Press_lock_111 fw_ic1 ?_
          subst h
          exact fw_sub [0, 1, 2, 3] rfl hJ104
    ) _ _ w50)
def f_X_lockLine  (μ : fw_M) : Option (fw_M) :=
  (fw_rd 3 (μ.1 9) 0).bind fun v26 =>
  fw_nm (
    if v26 = 1 then
      1
    else
      0) fun (j28 : Int32) =>
  (f_Press_lock 6 j28 μ).bind fun (p36 : fw_M) =>
  some p36
set_option maxHeartbeats 4000000 in
set_option maxRecDepth 100000 in
theorem c_X_lockLine  {μ : fw_M} {r : fw_M} (h : f_X_lockLine  μ = some r) : fw_Con Y_X_lockLine fw_X 5 [.ref 0] none μ r := by
  refine fw_con (by decide) (Nat.le_of_ble_eq_true rfl) ?_
  rw [f_X_lockLine] at h
  show fw_R "FewTypes" prog_1_method_43_code 1 none fw_X 5 none r 0 [(0, .ref 0)] [] μ
  refine fw_aload_n (pc := 0) d_X_lockLine_0 0 rfl rfl ?_
  refine fw_getR (pc := 1) d_X_lockLine_1 fl_X_33 fw_X0 rfl ?_
  refine fw_aload_n (pc := 4) d_X_lockLine_4 0 rfl rfl ?_
  refine fw_getR (pc := 5) d_X_lockLine_5 fl_X_12 fw_X0 rfl ?_
  refine fw_getR (pc := 8) d_X_lockLine_8 fl_X_139 fw_X1 rfl ?_
  refine fw_aload_n (pc := 11) d_X_lockLine_11 0 rfl rfl ?_
  refine fw_getR (pc := 12) d_X_lockLine_12 fl_X_12 fw_X0 rfl ?_
  refine fw_getR (pc := 15) d_X_lockLine_15 fl_X_82 fw_X1 rfl ?_
  refine fw_aload_n (pc := 18) d_X_lockLine_18 0 rfl rfl ?_
  refine fw_getR (pc := 19) d_X_lockLine_19 fl_X_12 fw_X0 rfl ?_
  refine fw_getR (pc := 22) d_X_lockLine_22 fl_X_125 fw_X1 rfl ?_
  refine fw_iconst (pc := 25) d_X_lockLine_25 fw_ic0 ?_
  obtain ⟨v26, e26, h⟩ := fw_be h
  refine fw_iald (pc := 26) d_X_lockLine_26 fw_X9 e26 ?_
  refine fw_iconst (pc := 27) d_X_lockLine_27 fw_ic1 ?_
  obtain ⟨j28, w28, h⟩ := fw_ne h
  have hJ28 : fw_R "FewTypes" prog_1_method_43_code 1 none fw_X 5 none r 36 [] [.int j28, .ref 2, .ref 6, .ref 65] μ := by
    obtain ⟨p36, e36, h⟩ := fw_be h
    refine fw_callVv (pc := 36) d_X_lockLine_36 mv_X_310 fw_X65 (c_Press_lock e36) (by decide) rfl rfl (Nat.le_of_ble_eq_true rfl) ?_
    obtain rfl := Option.some.inj h
    exact fw_vret (pc := 39) d_X_lockLine_39 rfl
  clear h
  have h := w28
  clear w28
  refine fw_icmp_ne (pc := 28) (tgt := 35) d_X_lockLine_28 rfl (fun hc => ?_) (fun hc => ?_)
  · have h := h.trans (if_pos hc)
    refine fw_iconst (pc := 31) d_X_lockLine_31 fw_ic1 ?_
    refine fw_goto (pc := 32) (tgt := 36) d_X_lockLine_32 rfl ?_
    subst h
    exact fw_sub [] rfl hJ28
  · have h := h.trans (if_neg hc)
    refine fw_iconst (pc := 35) d_X_lockLine_35 fw_ic0 ?_
    subst h
    exact fw_sub [] rfl hJ28
def f_Press_pairsOf (a1 : Int32) (μ : fw_M) : Option (Int32) :=
  some ((a1 &&& (a1 >>> ((1 : Int32) &&& 31))) &&& (μ.1 65 6))
set_option maxHeartbeats 4000000 in
set_option maxRecDepth 100000 in
theorem c_Press_pairsOf {a1 : Int32} {μ : fw_M} {r : Int32} (h : f_Press_pairsOf a1 μ = some r) : fw_Con Y_Press_pairsOf fw_X 1 [.ref 65, .int a1] (some r) μ μ := by
  refine fw_con (by decide) (Nat.le_of_ble_eq_true rfl) ?_
  rw [f_Press_pairsOf] at h
  show fw_R "FewTypes$Press" prog_6_method_15_code 2 (some .int) fw_X 1 (some r) μ 0 [(0, .ref 65), (1, .int a1)] [] μ
  refine fw_iload_n (pc := 0) d_Press_pairsOf_0 1 rfl rfl ?_
  refine fw_iload_n (pc := 1) d_Press_pairsOf_1 1 rfl rfl ?_
  refine fw_iconst (pc := 2) d_Press_pairsOf_2 fw_ic1 ?_
  refine fw_ishr (pc := 3) d_Press_pairsOf_3 ?_
  refine fw_iand (pc := 4) d_Press_pairsOf_4 ?_
  refine fw_aload_n (pc := 5) d_Press_pairsOf_5 0 rfl rfl ?_
  refine fw_getI (pc := 6) d_Press_pairsOf_6 fl_Press_32 fw_X65 rfl ?_
  refine fw_iand (pc := 9) d_Press_pairsOf_9 ?_
  obtain rfl := Option.some.inj h
  exact fw_iret (pc := 10) d_Press_pairsOf_10 rfl
def f_Press_mayPrintAlone (a1 : Int32) (a2 : Int32) (μ : fw_M) : Option (Int32) :=
  Option.bind (
    if (μ.1 65 7) = 0 then
      (fw_rd 10 (μ.1 67) a2).bind fun v28 =>
      some v28
    else
      (f_Press_pairsOf a1 μ).bind fun (p9 : Int32) =>
      (f_X_inSet p9 a2).bind fun (p13 : Int32) =>
      if p13 = 0 then
        (fw_rd 10 (μ.1 67) a2).bind fun v28 =>
        some v28
      else
        some 0) fun (j4 : Int32) =>
  some j4
set_option maxHeartbeats 4000000 in
set_option maxRecDepth 100000 in
theorem c_Press_mayPrintAlone {a1 : Int32} {a2 : Int32} {μ : fw_M} {r : Int32} (h : f_Press_mayPrintAlone a1 a2 μ = some r) : fw_Con Y_Press_mayPrintAlone fw_X 2 [.ref 65, .int a1, .int a2] (some r) μ μ := by
  refine fw_con (by decide) (Nat.le_of_ble_eq_true rfl) ?_
  rw [f_Press_mayPrintAlone] at h
  show fw_R "FewTypes$Press" prog_6_method_16_code 3 (some .int) fw_X 2 (some r) μ 0 [(0, .ref 65), (1, .int a1), (2, .int a2)] [] μ
  refine fw_aload_n (pc := 0) d_Press_mayPrintAlone_0 0 rfl rfl ?_
  refine fw_getI (pc := 1) d_Press_mayPrintAlone_1 fl_Press_35 fw_X65 rfl ?_
  obtain ⟨j4, w4, h⟩ := fw_be h
  have hJ4 : fw_R "FewTypes$Press" prog_6_method_16_code 3 (some .int) fw_X 2 (some r) μ 29 [] [.int j4] μ := by
    obtain rfl := Option.some.inj h
    exact fw_iret (pc := 29) d_Press_mayPrintAlone_29 rfl
  clear h
  have h := w4
  clear w4
  refine fw_if_eq (pc := 4) (tgt := 23) d_Press_mayPrintAlone_4 rfl (fun hc => ?_) (fun hc => ?_)
  · have h := fw_it hc h
    refine fw_aload_n (pc := 23) d_Press_mayPrintAlone_23 0 rfl rfl ?_
    refine fw_getR (pc := 24) d_Press_mayPrintAlone_24 fl_Press_15 fw_X65 rfl ?_
    refine fw_iload_n (pc := 27) d_Press_mayPrintAlone_27 2 rfl rfl ?_
    obtain ⟨v28, e28, h⟩ := fw_be h
    refine fw_iald (pc := 28) d_Press_mayPrintAlone_28 fw_X67 e28 ?_
    obtain rfl := Option.some.inj h
    exact fw_sub [] rfl hJ4
  · have h := fw_if hc h
    refine fw_aload_n (pc := 7) d_Press_mayPrintAlone_7 0 rfl rfl ?_
    refine fw_iload_n (pc := 8) d_Press_mayPrintAlone_8 1 rfl rfl ?_
    obtain ⟨p9, e9, h⟩ := fw_be h
    refine fw_callVi (pc := 9) d_Press_mayPrintAlone_9 mv_Press_146 fw_X65 (c_Press_pairsOf e9) (by decide) rfl rfl (Nat.le_of_ble_eq_true rfl) ?_
    refine fw_iload_n (pc := 12) d_Press_mayPrintAlone_12 2 rfl rfl ?_
    obtain ⟨p13, e13, h⟩ := fw_be h
    refine fw_callNi (pc := 13) d_Press_mayPrintAlone_13 ms_Press_133 (c_X_inSet e13) (by decide) rfl rfl (Nat.le_of_ble_eq_true rfl) ?_
    refine fw_if_eq (pc := 16) (tgt := 23) d_Press_mayPrintAlone_16 rfl (fun hc => ?_) (fun hc => ?_)
    · have h := fw_it hc h
      refine fw_aload_n (pc := 23) d_Press_mayPrintAlone_23 0 rfl rfl ?_
      refine fw_getR (pc := 24) d_Press_mayPrintAlone_24 fl_Press_15 fw_X65 rfl ?_
      refine fw_iload_n (pc := 27) d_Press_mayPrintAlone_27 2 rfl rfl ?_
      obtain ⟨v28, e28, h⟩ := fw_be h
      refine fw_iald (pc := 28) d_Press_mayPrintAlone_28 fw_X67 e28 ?_
      obtain rfl := Option.some.inj h
      exact fw_sub [] rfl hJ4
    · have h := fw_if hc h
      refine fw_iconst (pc := 19) d_Press_mayPrintAlone_19 fw_ic0 ?_
      refine fw_goto (pc := 20) (tgt := 29) d_Press_mayPrintAlone_20 rfl ?_
      obtain rfl := Option.some.inj h
      exact fw_sub [] rfl hJ4
def f_Press_addWays_L120 (v4 : Int32) (v10 : Int32) (v114 : Int32) : Int32 × fw_M → Option ((Int32 × fw_M) ⊕ (fw_M))
  | (x8_120, μ120) =>
  if (μ120.1 65 9) ≤ x8_120 then
    some (.inr μ120)
  else
    (fw_rl 176 (μ120.2 69) (v4 + x8_120)).bind fun v139 =>
    Option.bind (
      if (x8_120 &&& v114) = 0 then
        some 0
      else
        (fw_rl 176 (μ120.2 69) ((v10 + x8_120) - v114)).bind fun v160 =>
        some v160) fun (j145 : Int64) =>
    (fw_sl 176 μ120 69 (v4 + x8_120) (v139 ||| j145)).bind fun μ166 =>
    fw_nm (x8_120 + 1) fun (v167 : Int32) =>
    some (.inl (v167, μ166))
def f_Press_addWays_L52 (v4 : Int32) (v10 : Int32) (x6_15 : Int32) : Int32 × fw_M → Option ((Int32 × fw_M) ⊕ (fw_M))
  | (x7_52, μ52) =>
  if (μ52.1 65 9) ≤ x7_52 then
    some (.inr μ52)
  else
    (fw_rl 176 (μ52.2 69) (v4 + x7_52)).bind fun v71 =>
    (fw_rl 176 (μ52.2 69) (v10 + x7_52)).bind fun v81 =>
    (fw_rl 6 fw_s2 x6_15).bind fun v87 =>
    (fw_sl 176 μ52 69 (v4 + x7_52) (v71 ||| ((v81 &&& v87) <<< (Int32.toInt64 ((1 : Int32) <<< (x6_15 &&& 31)) &&& 63)))).bind fun μ95 =>
    fw_nm (x7_52 + 1) fun (v96 : Int32) =>
    some (.inl (v96, μ95))
def f_Press_addWays_L15 (a3 : Int32) (v4 : Int32) (v10 : Int32) : Int32 × fw_M → Option ((Int32 × fw_M) ⊕ (fw_M))
  | (x6_15, μ15) =>
  if (μ15.1 65 8) ≤ x6_15 then
    some (.inr μ15)
  else
    if (a3 >>> (x6_15 &&& 31)) = 0 then
      some (.inr μ15)
    else
      Option.bind (
        if ((a3 >>> (x6_15 &&& 31)) &&& 1) = 0 then
          some μ15
        else
          if 6 ≤ x6_15 then
            fw_nm (((1 : Int32) <<< ((x6_15 - 6) &&& 31))) fun (v114 : Int32) =>
            (fw_wh (f_Press_addWays_L120 v4 v10 v114) fw_N (v114, μ15)).bind fun (e120x : fw_M) =>
            some e120x
          else
            (fw_wh (f_Press_addWays_L52 v4 v10 x6_15) fw_N (0, μ15)).bind fun (e52x : fw_M) =>
            some e52x) fun (j37 : fw_M) =>
      fw_nm (x6_15 + 1) fun (v173 : Int32) =>
      some (.inl (v173, j37))
def f_Press_addWays (a1 : Int32) (a2 : Int32) (a3 : Int32) (μ : fw_M) : Option (fw_M) :=
  fw_nm ((a1 * 16)) fun (v4 : Int32) =>
  fw_nm ((a2 * 16)) fun (v10 : Int32) =>
  (fw_wh (f_Press_addWays_L15 a3 v4 v10) fw_N (0, μ)).bind fun (e15x : fw_M) =>
  some e15x
set_option maxHeartbeats 4000000 in
set_option maxRecDepth 100000 in
theorem c_Press_addWays {a1 : Int32} {a2 : Int32} {a3 : Int32} {μ : fw_M} {r : fw_M} (h : f_Press_addWays a1 a2 a3 μ = some r) : fw_Con Y_Press_addWays fw_X 1 [.ref 65, .int a1, .int a2, .int a3] none μ r := by
  refine fw_con (by decide) (Nat.le_of_ble_eq_true rfl) ?_
  rw [f_Press_addWays] at h
  show fw_R "FewTypes$Press" prog_6_method_20_code 9 none fw_X 1 none r 0 [(0, .ref 65), (1, .int a1), (2, .int a2), (3, .int a3)] [] μ
  refine fw_iload_n (pc := 0) d_Press_addWays_0 1 rfl rfl ?_
  refine fw_bipush (pc := 1) d_Press_addWays_1 fw_bp16 ?_
  refine fw_imul (pc := 3) d_Press_addWays_3 ?_
  obtain ⟨v4, e4, h⟩ := fw_ne h
  refine fw_top e4 ?_
  refine fw_istore (pc := 4) (lv1 := [(4, .int v4), (0, .ref 65), (1, .int a1), (2, .int a2), (3, .int a3)]) d_Press_addWays_4 (by decide) rfl ?_
  refine fw_iload_n (pc := 6) d_Press_addWays_6 3 rfl rfl ?_
  refine fw_bipush (pc := 7) d_Press_addWays_7 fw_bp16 ?_
  refine fw_imul (pc := 9) d_Press_addWays_9 ?_
  obtain ⟨v10, e10, h⟩ := fw_ne h
  refine fw_top e10 ?_
  refine fw_istore (pc := 10) (lv1 := [(5, .int v10), (4, .int v4), (0, .ref 65), (1, .int a1), (2, .int a2), (3, .int a3)]) d_Press_addWays_10 (by decide) rfl ?_
  refine fw_iconst (pc := 12) d_Press_addWays_12 fw_ic0 ?_
  refine fw_istore (pc := 13) (lv1 := [(6, .int 0), (5, .int v10), (4, .int v4), (0, .ref 65), (1, .int a1), (2, .int a2), (3, .int a3)]) d_Press_addWays_13 (by decide) rfl ?_
  obtain ⟨e15x, w15, h⟩ := fw_be h
  have hE15 : fw_R "FewTypes$Press" prog_6_method_20_code 9 none fw_X 1 none r 179 [] [] e15x := by
    obtain rfl := Option.some.inj h
    exact fw_vret (pc := 179) d_Press_addWays_179 rfl
  clear h
  exact fw_sub [3, 6, 2, 1, 0] rfl (fw_we (e := e15x) (fun (s : Int32 × fw_M) => fw_R "FewTypes$Press" prog_6_method_20_code 9 none fw_X 1 none r 15 [(0, .ref 65), (3, .int a3), (4, .int v4), (5, .int v10), (6, .int s.1)] [] s.2) (by
    intro s x h hl hr
    obtain ⟨x6_15, μ15⟩ := s
    rw [f_Press_addWays_L15] at h
    show fw_R "FewTypes$Press" prog_6_method_20_code 9 none fw_X 1 none r 15 [(0, .ref 65), (3, .int a3), (4, .int v4), (5, .int v10), (6, .int x6_15)] [] μ15
    refine fw_iload (pc := 15) d_Press_addWays_15 4 rfl ?_
    refine fw_aload_n (pc := 17) d_Press_addWays_17 0 rfl rfl ?_
    refine fw_getI (pc := 18) d_Press_addWays_18 fl_Press_39 fw_X65 rfl ?_
    refine fw_icmp_ge (pc := 21) (tgt := 179) d_Press_addWays_21 rfl (fun hc => ?_) (fun hc => ?_)
    · have h := fw_it hc h
      obtain rfl := Option.some.inj h
      have he := hr _ rfl
      subst he
      exact fw_sub [] rfl hE15
    · have h := fw_if hc h
      refine fw_iload_n (pc := 24) d_Press_addWays_24 1 rfl rfl ?_
      refine fw_iload (pc := 25) d_Press_addWays_25 4 rfl ?_
      refine fw_ishr (pc := 27) d_Press_addWays_27 ?_
      refine fw_if_eq (pc := 28) (tgt := 179) d_Press_addWays_28 rfl (fun hc => ?_) (fun hc => ?_)
      · have h := fw_it hc h
        obtain rfl := Option.some.inj h
        have he := hr _ rfl
        subst he
        exact fw_sub [] rfl hE15
      · have h := fw_if hc h
        refine fw_iload_n (pc := 31) d_Press_addWays_31 1 rfl rfl ?_
        refine fw_iload (pc := 32) d_Press_addWays_32 4 rfl ?_
        refine fw_ishr (pc := 34) d_Press_addWays_34 ?_
        refine fw_iconst (pc := 35) d_Press_addWays_35 fw_ic1 ?_
        refine fw_iand (pc := 36) d_Press_addWays_36 ?_
        obtain ⟨j37, w37, h⟩ := fw_be h
        have hJ37 : fw_R "FewTypes$Press" prog_6_method_20_code 9 none fw_X 1 none r 173 [(0, .ref 65), (3, .int a3), (4, .int v4), (5, .int v10), (6, .int x6_15)] [] j37 := by
          obtain ⟨v173, e173, h⟩ := fw_ne h
          refine fw_iinc2 (pc := 173) (j := 4) (lv1 := [(6, .int v173), (0, .ref 65), (3, .int a3), (4, .int v4), (5, .int v10)]) d_Press_addWays_173 rfl fw_ic1 e173 (by decide) rfl ?_
          refine fw_goto (pc := 176) (tgt := 15) d_Press_addWays_176 rfl ?_
          obtain rfl := Option.some.inj h
          exact fw_sub [1, 2, 3, 4, 0] rfl (hl _ rfl)
        clear h
        have h := w37
        clear w37
        refine fw_if_eq (pc := 37) (tgt := 173) d_Press_addWays_37 rfl (fun hc => ?_) (fun hc => ?_)
        · have h := fw_it hc h
          obtain rfl := Option.some.inj h
          exact fw_sub [0, 1, 2, 3, 4] rfl hJ37
        · have h := fw_if hc h
          refine fw_iload (pc := 40) d_Press_addWays_40 4 rfl ?_
          refine fw_gs2 (pc := 42) d_Press_addWays_42 gs_Press_159 ?_
          refine fw_t2len (pc := 45) d_Press_addWays_45 ?_
          refine fw_icmp_ge (pc := 46) (tgt := 105) d_Press_addWays_46 rfl (fun hc => ?_) (fun hc => ?_)
          · have h := fw_it hc h
            refine fw_iconst (pc := 105) d_Press_addWays_105 fw_ic1 ?_
            refine fw_iload (pc := 106) d_Press_addWays_106 4 rfl ?_
            refine fw_gs2 (pc := 108) d_Press_addWays_108 gs_Press_159 ?_
            refine fw_t2len (pc := 111) d_Press_addWays_111 ?_
            refine fw_isub (pc := 112) d_Press_addWays_112 ?_
            refine fw_ishl (pc := 113) d_Press_addWays_113 ?_
            obtain ⟨v114, e114, h⟩ := fw_ne h
            refine fw_top e114 ?_
            refine fw_istore (pc := 114) (lv1 := [(7, .int v114), (0, .ref 65), (3, .int a3), (4, .int v4), (5, .int v10), (6, .int x6_15)]) d_Press_addWays_114 (by decide) rfl ?_
            refine fw_iload (pc := 116) d_Press_addWays_116 0 rfl ?_
            refine fw_istore (pc := 118) (lv1 := [(8, .int v114), (7, .int v114), (0, .ref 65), (3, .int a3), (4, .int v4), (5, .int v10), (6, .int x6_15)]) d_Press_addWays_118 (by decide) rfl ?_
            obtain ⟨e120x, w120, h⟩ := fw_be h
            have hE120 : fw_R "FewTypes$Press" prog_6_method_20_code 9 none fw_X 1 none r 173 [(0, .ref 65), (3, .int a3), (4, .int v4), (5, .int v10), (6, .int x6_15)] [] e120x := by
              obtain rfl := Option.some.inj h
              exact fw_sub [0, 1, 2, 3, 4] rfl hJ37
            clear h
            exact fw_sub [2, 3, 4, 5, 6, 1, 0] rfl (fw_we (e := e120x) (fun (s : Int32 × fw_M) => fw_R "FewTypes$Press" prog_6_method_20_code 9 none fw_X 1 none r 120 [(0, .ref 65), (3, .int a3), (4, .int v4), (5, .int v10), (6, .int x6_15), (7, .int v114), (8, .int s.1)] [] s.2) (by
              intro s x h hl hr
              obtain ⟨x8_120, μ120⟩ := s
              rw [f_Press_addWays_L120] at h
              show fw_R "FewTypes$Press" prog_6_method_20_code 9 none fw_X 1 none r 120 [(0, .ref 65), (3, .int a3), (4, .int v4), (5, .int v10), (6, .int x6_15), (7, .int v114), (8, .int x8_120)] [] μ120
              refine fw_iload (pc := 120) d_Press_addWays_120 6 rfl ?_
              refine fw_aload_n (pc := 122) d_Press_addWays_122 0 rfl rfl ?_
              refine fw_getI (pc := 123) d_Press_addWays_123 fl_Press_42 fw_X65 rfl ?_
              refine fw_icmp_ge (pc := 126) (tgt := 173) d_Press_addWays_126 rfl (fun hc => ?_) (fun hc => ?_)
              · have h := fw_it hc h
                obtain rfl := Option.some.inj h
                have he := hr _ rfl
                subst he
                exact fw_sub [0, 1, 2, 3, 4] rfl hE120
              · have h := fw_if hc h
                refine fw_aload_n (pc := 129) d_Press_addWays_129 0 rfl rfl ?_
                refine fw_getR (pc := 130) d_Press_addWays_130 fl_Press_21 fw_X65 rfl ?_
                refine fw_iload (pc := 133) d_Press_addWays_133 2 rfl ?_
                refine fw_iload (pc := 135) d_Press_addWays_135 6 rfl ?_
                refine fw_iadd (pc := 137) d_Press_addWays_137 ?_
                refine fw_dup2 (pc := 138) d_Press_addWays_138 rfl rfl ?_
                obtain ⟨v139, e139, h⟩ := fw_be h
                refine fw_lald (pc := 139) d_Press_addWays_139 fw_X69 e139 ?_
                refine fw_iload (pc := 140) d_Press_addWays_140 6 rfl ?_
                refine fw_iload (pc := 142) d_Press_addWays_142 5 rfl ?_
                refine fw_iand (pc := 144) d_Press_addWays_144 ?_
                obtain ⟨j145, w145, h⟩ := fw_be h
                have hJ145 : fw_R "FewTypes$Press" prog_6_method_20_code 9 none fw_X 1 none r 165 [(0, .ref 65), (3, .int a3), (4, .int v4), (5, .int v10), (6, .int x6_15), (7, .int v114), (8, .int x8_120)] [.long j145, .long v139, .int (v4 + x8_120), .ref 69] μ120 := by
                  refine fw_lor (pc := 165) d_Press_addWays_165 ?_
                  obtain ⟨μ166, e166, h⟩ := fw_be h
                  refine fw_last (pc := 166) d_Press_addWays_166 fw_X69 e166 ?_
                  obtain ⟨v167, e167, h⟩ := fw_ne h
                  refine fw_iinc2 (pc := 167) (j := 6) (lv1 := [(8, .int v167), (0, .ref 65), (3, .int a3), (4, .int v4), (5, .int v10), (6, .int x6_15), (7, .int v114)]) d_Press_addWays_167 rfl fw_ic1 e167 (by decide) rfl ?_
                  refine fw_goto (pc := 170) (tgt := 120) d_Press_addWays_170 rfl ?_
                  obtain rfl := Option.some.inj h
                  exact fw_sub [1, 2, 3, 4, 5, 6, 0] rfl (hl _ rfl)
                clear h
                have h := w145
                clear w145
                refine fw_if_eq (pc := 145) (tgt := 164) d_Press_addWays_145 rfl (fun hc => ?_) (fun hc => ?_)
                · have h := fw_it hc h
                  refine fw_lconst (pc := 164) d_Press_addWays_164 (v := 0) (by decide) ?_
                  obtain rfl := Option.some.inj h
                  exact fw_sub [0, 1, 2, 3, 4, 5, 6] rfl hJ145
                · have h := fw_if hc h
                  refine fw_aload_n (pc := 148) d_Press_addWays_148 0 rfl rfl ?_
                  refine fw_getR (pc := 149) d_Press_addWays_149 fl_Press_21 fw_X65 rfl ?_
                  refine fw_iload (pc := 152) d_Press_addWays_152 3 rfl ?_
                  refine fw_iload (pc := 154) d_Press_addWays_154 6 rfl ?_
                  refine fw_iadd (pc := 156) d_Press_addWays_156 ?_
                  refine fw_iload (pc := 157) d_Press_addWays_157 5 rfl ?_
                  refine fw_isub (pc := 159) d_Press_addWays_159 ?_
                  obtain ⟨v160, e160, h⟩ := fw_be h
                  refine fw_lald (pc := 160) d_Press_addWays_160 fw_X69 e160 ?_
                  refine fw_goto (pc := 161) (tgt := 165) d_Press_addWays_161 rfl ?_
                  obtain rfl := Option.some.inj h
                  exact fw_sub [0, 1, 2, 3, 4, 5, 6] rfl hJ145
              ) _ _ w120)
          · have h := fw_if hc h
            refine fw_iconst (pc := 49) d_Press_addWays_49 fw_ic0 ?_
            refine fw_istore (pc := 50) (lv1 := [(7, .int 0), (0, .ref 65), (3, .int a3), (4, .int v4), (5, .int v10), (6, .int x6_15)]) d_Press_addWays_50 (by decide) rfl ?_
            obtain ⟨e52x, w52, h⟩ := fw_be h
            have hE52 : fw_R "FewTypes$Press" prog_6_method_20_code 9 none fw_X 1 none r 102 [(0, .ref 65), (3, .int a3), (4, .int v4), (5, .int v10), (6, .int x6_15)] [] e52x := by
              refine fw_goto (pc := 102) (tgt := 173) d_Press_addWays_102 rfl ?_
              obtain rfl := Option.some.inj h
              exact fw_sub [0, 1, 2, 3, 4] rfl hJ37
            clear h
            exact fw_sub [1, 2, 3, 4, 5, 0] rfl (fw_we (e := e52x) (fun (s : Int32 × fw_M) => fw_R "FewTypes$Press" prog_6_method_20_code 9 none fw_X 1 none r 52 [(0, .ref 65), (3, .int a3), (4, .int v4), (5, .int v10), (6, .int x6_15), (7, .int s.1)] [] s.2) (by
              intro s x h hl hr
              obtain ⟨x7_52, μ52⟩ := s
              rw [f_Press_addWays_L52] at h
              show fw_R "FewTypes$Press" prog_6_method_20_code 9 none fw_X 1 none r 52 [(0, .ref 65), (3, .int a3), (4, .int v4), (5, .int v10), (6, .int x6_15), (7, .int x7_52)] [] μ52
              refine fw_iload (pc := 52) d_Press_addWays_52 5 rfl ?_
              refine fw_aload_n (pc := 54) d_Press_addWays_54 0 rfl rfl ?_
              refine fw_getI (pc := 55) d_Press_addWays_55 fl_Press_42 fw_X65 rfl ?_
              refine fw_icmp_ge (pc := 58) (tgt := 102) d_Press_addWays_58 rfl (fun hc => ?_) (fun hc => ?_)
              · have h := fw_it hc h
                obtain rfl := Option.some.inj h
                have he := hr _ rfl
                subst he
                exact fw_sub [0, 1, 2, 3, 4] rfl hE52
              · have h := fw_if hc h
                refine fw_aload_n (pc := 61) d_Press_addWays_61 0 rfl rfl ?_
                refine fw_getR (pc := 62) d_Press_addWays_62 fl_Press_21 fw_X65 rfl ?_
                refine fw_iload (pc := 65) d_Press_addWays_65 2 rfl ?_
                refine fw_iload (pc := 67) d_Press_addWays_67 5 rfl ?_
                refine fw_iadd (pc := 69) d_Press_addWays_69 ?_
                refine fw_dup2 (pc := 70) d_Press_addWays_70 rfl rfl ?_
                obtain ⟨v71, e71, h⟩ := fw_be h
                refine fw_lald (pc := 71) d_Press_addWays_71 fw_X69 e71 ?_
                refine fw_aload_n (pc := 72) d_Press_addWays_72 0 rfl rfl ?_
                refine fw_getR (pc := 73) d_Press_addWays_73 fl_Press_21 fw_X65 rfl ?_
                refine fw_iload (pc := 76) d_Press_addWays_76 3 rfl ?_
                refine fw_iload (pc := 78) d_Press_addWays_78 5 rfl ?_
                refine fw_iadd (pc := 80) d_Press_addWays_80 ?_
                obtain ⟨v81, e81, h⟩ := fw_be h
                refine fw_lald (pc := 81) d_Press_addWays_81 fw_X69 e81 ?_
                refine fw_gs2 (pc := 82) d_Press_addWays_82 gs_Press_159 ?_
                refine fw_iload (pc := 85) d_Press_addWays_85 4 rfl ?_
                obtain ⟨v87, e87, h⟩ := fw_be h
                refine fw_t2ld (pc := 87) d_Press_addWays_87 e87 ?_
                refine fw_land (pc := 88) d_Press_addWays_88 ?_
                refine fw_iconst (pc := 89) d_Press_addWays_89 fw_ic1 ?_
                refine fw_iload (pc := 90) d_Press_addWays_90 4 rfl ?_
                refine fw_ishl (pc := 92) d_Press_addWays_92 ?_
                refine fw_lshl (pc := 93) d_Press_addWays_93 ?_
                refine fw_lor (pc := 94) d_Press_addWays_94 ?_
                obtain ⟨μ95, e95, h⟩ := fw_be h
                refine fw_last (pc := 95) d_Press_addWays_95 fw_X69 e95 ?_
                obtain ⟨v96, e96, h⟩ := fw_ne h
                refine fw_iinc2 (pc := 96) (j := 5) (lv1 := [(7, .int v96), (0, .ref 65), (3, .int a3), (4, .int v4), (5, .int v10), (6, .int x6_15)]) d_Press_addWays_96 rfl fw_ic1 e96 (by decide) rfl ?_
                refine fw_goto (pc := 99) (tgt := 52) d_Press_addWays_99 rfl ?_
                obtain rfl := Option.some.inj h
                exact fw_sub [1, 2, 3, 4, 5, 0] rfl (hl _ rfl)
              ) _ _ w52)
    ) _ _ w15)
def f_Press_mayPrintJoined (a1 : Int32) (a2 : Int32) (μ : fw_M) : Option (Int32) :=
  (f_Press_pairsOf a1 μ).bind fun (p2 : Int32) =>
  (f_X_inSet p2 a2).bind fun (p8 : Int32) =>
  Option.bind (
    if p8 = 0 then
      some 0
    else
      if (μ.1 65 7) = 0 then
        (fw_rd 10 (μ.1 68) a2).bind fun v40 =>
        some v40
      else
        (f_X_inSet p2 (a2 + 1)).bind fun (p25 : Int32) =>
        if p25 = 0 then
          (fw_rd 10 (μ.1 68) a2).bind fun v40 =>
          some v40
        else
          some 0) fun (j11 : Int32) =>
  some j11
set_option maxHeartbeats 4000000 in
set_option maxRecDepth 100000 in
theorem c_Press_mayPrintJoined {a1 : Int32} {a2 : Int32} {μ : fw_M} {r : Int32} (h : f_Press_mayPrintJoined a1 a2 μ = some r) : fw_Con Y_Press_mayPrintJoined fw_X 2 [.ref 65, .int a1, .int a2] (some r) μ μ := by
  refine fw_con (by decide) (Nat.le_of_ble_eq_true rfl) ?_
  rw [f_Press_mayPrintJoined] at h
  show fw_R "FewTypes$Press" prog_6_method_17_code 4 (some .int) fw_X 2 (some r) μ 0 [(0, .ref 65), (1, .int a1), (2, .int a2)] [] μ
  refine fw_aload_n (pc := 0) d_Press_mayPrintJoined_0 0 rfl rfl ?_
  refine fw_iload_n (pc := 1) d_Press_mayPrintJoined_1 1 rfl rfl ?_
  obtain ⟨p2, e2, h⟩ := fw_be h
  refine fw_callVi (pc := 2) d_Press_mayPrintJoined_2 mv_Press_146 fw_X65 (c_Press_pairsOf e2) (by decide) rfl rfl (Nat.le_of_ble_eq_true rfl) ?_
  refine fw_istore_n (pc := 5) (lv1 := [(3, .int p2), (0, .ref 65), (1, .int a1), (2, .int a2)]) d_Press_mayPrintJoined_5 rfl (by decide) rfl ?_
  refine fw_iload_n (pc := 6) d_Press_mayPrintJoined_6 0 rfl rfl ?_
  refine fw_iload_n (pc := 7) d_Press_mayPrintJoined_7 3 rfl rfl ?_
  obtain ⟨p8, e8, h⟩ := fw_be h
  refine fw_callNi (pc := 8) d_Press_mayPrintJoined_8 ms_Press_133 (c_X_inSet e8) (by decide) rfl rfl (Nat.le_of_ble_eq_true rfl) ?_
  obtain ⟨j11, w11, h⟩ := fw_be h
  have hJ11 : fw_R "FewTypes$Press" prog_6_method_17_code 4 (some .int) fw_X 2 (some r) μ 41 [] [.int j11] μ := by
    obtain rfl := Option.some.inj h
    exact fw_iret (pc := 41) d_Press_mayPrintJoined_41 rfl
  clear h
  have h := w11
  clear w11
  refine fw_if_eq (pc := 11) (tgt := 31) d_Press_mayPrintJoined_11 rfl (fun hc => ?_) (fun hc => ?_)
  · have h := fw_it hc h
    refine fw_iconst (pc := 31) d_Press_mayPrintJoined_31 fw_ic0 ?_
    refine fw_goto (pc := 32) (tgt := 41) d_Press_mayPrintJoined_32 rfl ?_
    obtain rfl := Option.some.inj h
    exact fw_sub [] rfl hJ11
  · have h := fw_if hc h
    refine fw_aload_n (pc := 14) d_Press_mayPrintJoined_14 1 rfl rfl ?_
    refine fw_getI (pc := 15) d_Press_mayPrintJoined_15 fl_Press_35 fw_X65 rfl ?_
    refine fw_if_eq (pc := 18) (tgt := 35) d_Press_mayPrintJoined_18 rfl (fun hc => ?_) (fun hc => ?_)
    · have h := fw_it hc h
      refine fw_aload_n (pc := 35) d_Press_mayPrintJoined_35 1 rfl rfl ?_
      refine fw_getR (pc := 36) d_Press_mayPrintJoined_36 fl_Press_18 fw_X65 rfl ?_
      refine fw_iload_n (pc := 39) d_Press_mayPrintJoined_39 3 rfl rfl ?_
      obtain ⟨v40, e40, h⟩ := fw_be h
      refine fw_iald (pc := 40) d_Press_mayPrintJoined_40 fw_X68 e40 ?_
      obtain rfl := Option.some.inj h
      exact fw_sub [] rfl hJ11
    · have h := fw_if hc h
      refine fw_iload_n (pc := 21) d_Press_mayPrintJoined_21 0 rfl rfl ?_
      refine fw_iload_n (pc := 22) d_Press_mayPrintJoined_22 3 rfl rfl ?_
      refine fw_iconst (pc := 23) d_Press_mayPrintJoined_23 fw_ic1 ?_
      refine fw_iadd (pc := 24) d_Press_mayPrintJoined_24 ?_
      obtain ⟨p25, e25, h⟩ := fw_be h
      refine fw_callNi (pc := 25) d_Press_mayPrintJoined_25 ms_Press_133 (c_X_inSet e25) (by decide) rfl rfl (Nat.le_of_ble_eq_true rfl) ?_
      refine fw_if_eq (pc := 28) (tgt := 35) d_Press_mayPrintJoined_28 rfl (fun hc => ?_) (fun hc => ?_)
      · have h := fw_it hc h
        refine fw_aload_n (pc := 35) d_Press_mayPrintJoined_35 1 rfl rfl ?_
        refine fw_getR (pc := 36) d_Press_mayPrintJoined_36 fl_Press_18 fw_X65 rfl ?_
        refine fw_iload_n (pc := 39) d_Press_mayPrintJoined_39 3 rfl rfl ?_
        obtain ⟨v40, e40, h⟩ := fw_be h
        refine fw_iald (pc := 40) d_Press_mayPrintJoined_40 fw_X68 e40 ?_
        obtain rfl := Option.some.inj h
        exact fw_sub [] rfl hJ11
      · have h := fw_if hc h
        refine fw_iconst (pc := 31) d_Press_mayPrintJoined_31 fw_ic0 ?_
        refine fw_goto (pc := 32) (tgt := 41) d_Press_mayPrintJoined_32 rfl ?_
        obtain rfl := Option.some.inj h
        exact fw_sub [] rfl hJ11
