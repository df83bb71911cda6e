abbrev Y_X_isLetter : fw_Y := (⟨"FewTypes", "isLetter", "(I)Z"⟩, prog_1_method_34_code, 1, (some .boolean))
abbrev Y_Case_fits : fw_Y := (⟨"FewTypes$Case", "fits", "(III)Z"⟩, prog_2_method_2_code, 3, (some .boolean))
abbrev Y_Case_add : fw_Y := (⟨"FewTypes$Case", "add", "(III)V"⟩, prog_2_method_4_code, 4, none)
abbrev Y_Arrays_fill : fw_Y := (⟨"java/util/Arrays", "fill", "([II)V"⟩, prog_15_method_103_code, 4, none)
abbrev Y_X_forgetPulls : fw_Y := (⟨"FewTypes", "forgetPulls", "()V"⟩, prog_1_method_42_code, 1, none)
abbrev Y_X_cast : fw_Y := (⟨"FewTypes", "cast", "(III)I"⟩, prog_1_method_2_code, 4, (some .int))
abbrev Y_Case_has : fw_Y := (⟨"FewTypes$Case", "has", "(I)Z"⟩, prog_2_method_3_code, 2, (some .boolean))
abbrev Y_X_told : fw_Y := (⟨"FewTypes", "told", "(II)I"⟩, prog_1_method_3_code, 3, (some .int))
abbrev Y_Case_remove : fw_Y := (⟨"FewTypes$Case", "remove", "(I)V"⟩, prog_2_method_5_code, 3, none)
abbrev Y_X_lose : fw_Y := (⟨"FewTypes", "lose", "(I)I"⟩, prog_1_method_4_code, 2, (some .int))
abbrev Y_X_width : fw_Y := (⟨"FewTypes", "width", "(II)I"⟩, prog_1_method_5_code, 4, (some .int))
abbrev Y_X_rule : fw_Y := (⟨"FewTypes", "rule", "(II)I"⟩, prog_1_method_6_code, 4, (some .int))
abbrev Y_Tape_byteOf : fw_Y := (⟨"FewTypes$Tape", "byteOf", "(JI)I"⟩, prog_9_method_3_code, 3, (some .int))
abbrev Y_Tape_takes : fw_Y := (⟨"FewTypes$Tape", "takes", "(JI)Z"⟩, prog_9_method_2_code, 5, (some .boolean))
abbrev Y_Tape_add : fw_Y := (⟨"FewTypes$Tape", "add", "(JI)V"⟩, prog_9_method_4_code, 5, none)
abbrev Y_X_type : fw_Y := (⟨"FewTypes", "type", "(JI)I"⟩, prog_1_method_7_code, 4, (some .int))
abbrev Y_Line_empty : fw_Y := (⟨"FewTypes$Line", "empty", "()V"⟩, prog_4_method_3_code, 1, none)
abbrev Y_Tape_nextSign : fw_Y := (⟨"FewTypes$Tape", "nextSign", "()I"⟩, prog_9_method_9_code, 1, (some .int))
abbrev Y_Tape_fault : fw_Y := (⟨"FewTypes$Tape", "fault", "()I"⟩, prog_9_method_10_code, 1, (some .int))
abbrev Y_Line_add : fw_Y := (⟨"FewTypes$Line", "add", "(IZ)V"⟩, prog_4_method_4_code, 3, none)
theorem ms_X_78 : fw_MS "FewTypes" 78 Y_Case_fits 3 := ⟨fw_m 357 (by decide +kernel) (by decide +kernel), fw_m 358 (by decide +kernel) (by decide +kernel), fw_m 61 (by decide +kernel) (by decide +kernel), fw_m 359 (by decide +kernel) (by decide +kernel), ⟨by decide +kernel, by decide +kernel, by decide +kernel⟩, by decide⟩
theorem ms_Case_25 : fw_MN "FewTypes$Case" 25 Y_X_isLetter 1 := ⟨by decide +kernel, fw_m 361 (by decide +kernel) (by decide +kernel), fw_m 59 (by decide +kernel) (by decide +kernel), fw_m 362 (by decide +kernel) (by decide +kernel), ⟨by decide +kernel, by decide +kernel, by decide +kernel⟩, by decide⟩
theorem fl_X_12 : fw_FL "FewTypes" 12 8 0 := ⟨_, _, _, rfl, fw_i8, by decide, fw_m 313 (by decide +kernel) (by decide +kernel)⟩
theorem fl_X_82 : fw_FL "FewTypes" 82 6 0 := ⟨_, _, _, rfl, fw_i6, by decide, fw_m 168 (by decide +kernel) (by decide +kernel)⟩
theorem fl_X_85 : fw_FL "FewTypes" 85 0 3 := ⟨_, _, _, rfl, fw_i0, by decide, fw_m 101 (by decide +kernel) (by decide +kernel)⟩
theorem mv_X_89 : fw_MV "FewTypes" 89 Y_Case_add 0 3 := ⟨fw_m 363 (by decide +kernel) (by decide +kernel), fw_m 364 (by decide +kernel) (by decide +kernel), fw_m 365 (by decide +kernel) (by decide +kernel), fw_m 61 (by decide +kernel) (by decide +kernel), fw_m 366 (by decide +kernel) (by decide +kernel), ⟨by decide +kernel, by decide +kernel, by decide +kernel⟩, by decide, _, _, rfl⟩
theorem fl_Case_21 : fw_FL "FewTypes$Case" 21 0 3 := ⟨_, _, _, rfl, fw_i0, by decide, fw_m 100 (by decide +kernel) (by decide +kernel)⟩
theorem fl_Case_9 : fw_FL "FewTypes$Case" 9 0 0 := ⟨_, _, _, rfl, fw_i0, by decide, fw_m 93 (by decide +kernel) (by decide +kernel)⟩
theorem fl_Case_15 : fw_FL "FewTypes$Case" 15 0 1 := ⟨_, _, _, rfl, fw_i0, by decide, fw_m 96 (by decide +kernel) (by decide +kernel)⟩
theorem fl_Case_18 : fw_FL "FewTypes$Case" 18 0 2 := ⟨_, _, _, rfl, fw_i0, by decide, fw_m 98 (by decide +kernel) (by decide +kernel)⟩
theorem fp_Case_21 : fw_FP "FewTypes$Case" 21 0 3 .int := ⟨_, _, _, fw_t0, rfl, fw_i0, by decide, fw_m 100 (by decide +kernel) (by decide +kernel), fw_k0, fw_n0, rfl, by decide +kernel⟩
theorem mv_X_93 : fw_MV "FewTypes" 93 Y_X_forgetPulls 8 0 := ⟨fw_m 367 (by decide +kernel) (by decide +kernel), fw_m 369 (by decide +kernel) (by decide +kernel), fw_m 0 (by decide +kernel) (by decide +kernel), fw_m 59 (by decide +kernel) (by decide +kernel), fw_m 370 (by decide +kernel) (by decide +kernel), ⟨by decide +kernel, by decide +kernel, by decide +kernel⟩, by decide, _, _, rfl⟩
theorem fl_X_58 : fw_FL "FewTypes" 58 8 8 := ⟨_, _, _, rfl, fw_i8, by decide, fw_m 321 (by decide +kernel) (by decide +kernel)⟩
theorem ms_X_304 : fw_MS "FewTypes" 304 Y_Arrays_fill 2 := ⟨fw_m 371 (by decide +kernel) (by decide +kernel), fw_m 160 (by decide +kernel) (by decide +kernel), fw_m 64 (by decide +kernel) (by decide +kernel), fw_m 161 (by decide +kernel) (by decide +kernel), ⟨by decide +kernel, by decide +kernel, by decide +kernel⟩, by decide⟩
theorem mv_X_96 : fw_MV "FewTypes" 96 Y_Case_has 0 1 := ⟨fw_m 376 (by decide +kernel) (by decide +kernel), fw_m 377 (by decide +kernel) (by decide +kernel), fw_m 378 (by decide +kernel) (by decide +kernel), fw_m 61 (by decide +kernel) (by decide +kernel), fw_m 379 (by decide +kernel) (by decide +kernel), ⟨by decide +kernel, by decide +kernel, by decide +kernel⟩, by decide, _, _, rfl⟩
theorem fl_X_100 : fw_FL "FewTypes" 100 0 0 := ⟨_, _, _, rfl, fw_i0, by decide, fw_m 95 (by decide +kernel) (by decide +kernel)⟩
theorem fl_X_103 : fw_FL "FewTypes" 103 0 1 := ⟨_, _, _, rfl, fw_i0, by decide, fw_m 97 (by decide +kernel) (by decide +kernel)⟩
theorem fl_X_106 : fw_FL "FewTypes" 106 0 2 := ⟨_, _, _, rfl, fw_i0, by decide, fw_m 99 (by decide +kernel) (by decide +kernel)⟩
theorem mv_X_109 : fw_MV "FewTypes" 109 Y_Case_remove 0 1 := ⟨fw_m 384 (by decide +kernel) (by decide +kernel), fw_m 385 (by decide +kernel) (by decide +kernel), fw_m 386 (by decide +kernel) (by decide +kernel), fw_m 61 (by decide +kernel) (by decide +kernel), fw_m 387 (by decide +kernel) (by decide +kernel), ⟨by decide +kernel, by decide +kernel, by decide +kernel⟩, by decide, _, _, rfl⟩
theorem mv_Case_29 : fw_MV "FewTypes$Case" 29 Y_Case_has 0 1 := ⟨fw_m 388 (by decide +kernel) (by decide +kernel), fw_m 377 (by decide +kernel) (by decide +kernel), fw_m 378 (by decide +kernel) (by decide +kernel), fw_m 61 (by decide +kernel) (by decide +kernel), fw_m 379 (by decide +kernel) (by decide +kernel), ⟨by decide +kernel, by decide +kernel, by decide +kernel⟩, by decide, _, _, rfl⟩
theorem ms_X_113 : fw_MS "FewTypes" 113 Y_X_isLetter 1 := ⟨fw_m 393 (by decide +kernel) (by decide +kernel), fw_m 361 (by decide +kernel) (by decide +kernel), fw_m 59 (by decide +kernel) (by decide +kernel), fw_m 362 (by decide +kernel) (by decide +kernel), ⟨by decide +kernel, by decide +kernel, by decide +kernel⟩, by decide⟩
theorem fl_X_116 : fw_FL "FewTypes" 116 6 2 := ⟨_, _, _, rfl, fw_i6, by decide, fw_m 174 (by decide +kernel) (by decide +kernel)⟩
theorem gs_X_119 : Cond.fieldLink "FewTypes" 119 "FewTypes" "RULE_LEAST" "[I" ∈ fw_tb := fw_m 398 (by decide +kernel) (by decide +kernel)
theorem gs_X_122 : Cond.fieldLink "FewTypes" 122 "FewTypes" "RULE_MOST" "[I" ∈ fw_tb := fw_m 400 (by decide +kernel) (by decide +kernel)
theorem fl_X_125 : fw_FL "FewTypes" 125 6 3 := ⟨_, _, _, rfl, fw_i6, by decide, fw_m 177 (by decide +kernel) (by decide +kernel)⟩
theorem ms_X_128 : fw_MS "FewTypes" 128 Y_Tape_takes 2 := ⟨fw_m 406 (by decide +kernel) (by decide +kernel), fw_m 407 (by decide +kernel) (by decide +kernel), fw_m 66 (by decide +kernel) (by decide +kernel), fw_m 408 (by decide +kernel) (by decide +kernel), ⟨by decide +kernel, by decide +kernel, by decide +kernel⟩, by decide⟩
theorem ms_Tape_22 : fw_MS "FewTypes$Tape" 22 Y_Tape_byteOf 2 := ⟨fw_m 409 (by decide +kernel) (by decide +kernel), fw_m 410 (by decide +kernel) (by decide +kernel), fw_m 66 (by decide +kernel) (by decide +kernel), fw_m 411 (by decide +kernel) (by decide +kernel), ⟨by decide +kernel, by decide +kernel, by decide +kernel⟩, by decide⟩
theorem cl_Tape_26 : Cond.constantLong "FewTypes$Tape" 26 255 ∈ fw_tb := fw_m 412 (by decide +kernel) (by decide +kernel)
theorem fl_X_26 : fw_FL "FewTypes" 26 8 3 := ⟨_, _, _, rfl, fw_i8, by decide, fw_m 316 (by decide +kernel) (by decide +kernel)⟩
theorem fl_X_132 : fw_FL "FewTypes" 132 7 1 := ⟨_, _, _, rfl, fw_i7, by decide, fw_m 211 (by decide +kernel) (by decide +kernel)⟩
theorem mv_X_133 : fw_MV "FewTypes" 133 Y_Tape_add 7 2 := ⟨fw_m 413 (by decide +kernel) (by decide +kernel), fw_m 414 (by decide +kernel) (by decide +kernel), fw_m 415 (by decide +kernel) (by decide +kernel), fw_m 66 (by decide +kernel) (by decide +kernel), fw_m 416 (by decide +kernel) (by decide +kernel), ⟨by decide +kernel, by decide +kernel, by decide +kernel⟩, by decide, _, _, rfl⟩
theorem fl_Tape_15 : fw_FL "FewTypes$Tape" 15 7 1 := ⟨_, _, _, rfl, fw_i7, by decide, fw_m 210 (by decide +kernel) (by decide +kernel)⟩
theorem fl_Tape_9 : fw_FL "FewTypes$Tape" 9 7 0 := ⟨_, _, _, rfl, fw_i7, by decide, fw_m 209 (by decide +kernel) (by decide +kernel)⟩
theorem fp_Tape_15 : fw_FP "FewTypes$Tape" 15 7 1 .int := ⟨_, _, _, fw_t7, rfl, fw_i7, by decide, fw_m 210 (by decide +kernel) (by decide +kernel), fw_k7, fw_n7, rfl, by decide +kernel⟩
theorem fp_Tape_19 : fw_FP "FewTypes$Tape" 19 7 2 .int := ⟨_, _, _, fw_t7, rfl, fw_i7, by decide, fw_m 212 (by decide +kernel) (by decide +kernel), fw_k7, fw_n7, rfl, by decide +kernel⟩
theorem fp_Line_15 : fw_FP "FewTypes$Line" 15 2 1 .int := ⟨_, _, _, fw_t2, rfl, fw_i2, by decide, fw_m 124 (by decide +kernel) (by decide +kernel), fw_k2, fw_n2, rfl, by decide +kernel⟩
theorem fp_Line_19 : fw_FP "FewTypes$Line" 19 2 2 .int := ⟨_, _, _, fw_t2, rfl, fw_i2, by decide, fw_m 129 (by decide +kernel) (by decide +kernel), fw_k2, fw_n2, rfl, by decide +kernel⟩
theorem fl_Tape_19 : fw_FL "FewTypes$Tape" 19 7 2 := ⟨_, _, _, rfl, fw_i7, by decide, fw_m 212 (by decide +kernel) (by decide +kernel)⟩
theorem fl_Line_15 : fw_FL "FewTypes$Line" 15 2 1 := ⟨_, _, _, rfl, fw_i2, by decide, fw_m 124 (by decide +kernel) (by decide +kernel)⟩
theorem fl_Line_19 : fw_FL "FewTypes$Line" 19 2 2 := ⟨_, _, _, rfl, fw_i2, by decide, fw_m 129 (by decide +kernel) (by decide +kernel)⟩
theorem fl_Line_9 : fw_FL "FewTypes$Line" 9 2 0 := ⟨_, _, _, rfl, fw_i2, by decide, fw_m 120 (by decide +kernel) (by decide +kernel)⟩
theorem d_X_isLetter_0 : decode prog_1_method_34_code 0 = .ok (.iload_n 0, 1) := by decide +kernel
theorem d_X_isLetter_1 : decode prog_1_method_34_code 1 = .ok (.ifCond .lt 13, 3) := by decide +kernel
theorem d_X_isLetter_4 : decode prog_1_method_34_code 4 = .ok (.iload_n 0, 1) := by decide +kernel
theorem d_X_isLetter_5 : decode prog_1_method_34_code 5 = .ok (.bipush 12, 2) := by decide +kernel
theorem d_X_isLetter_7 : decode prog_1_method_34_code 7 = .ok (.if_icmp .ge 7, 3) := by decide +kernel
theorem d_X_isLetter_10 : decode prog_1_method_34_code 10 = .ok (.iconst 1, 1) := by decide +kernel
theorem d_X_isLetter_11 : decode prog_1_method_34_code 11 = .ok (.goto 4, 3) := by decide +kernel
theorem d_X_isLetter_14 : decode prog_1_method_34_code 14 = .ok (.iconst 0, 1) := by decide +kernel
theorem d_X_isLetter_15 : decode prog_1_method_34_code 15 = .ok (.ireturn, 1) := by decide +kernel
theorem d_Case_fits_0 : decode prog_2_method_2_code 0 = .ok (.iload_n 1, 1) := by decide +kernel
theorem d_Case_fits_1 : decode prog_2_method_2_code 1 = .ok (.invokestatic 25, 3) := by decide +kernel
theorem d_Case_fits_4 : decode prog_2_method_2_code 4 = .ok (.ifCond .ne 5, 3) := by decide +kernel
theorem d_Case_fits_7 : decode prog_2_method_2_code 7 = .ok (.iconst 0, 1) := by decide +kernel
theorem d_Case_fits_8 : decode prog_2_method_2_code 8 = .ok (.ireturn, 1) := by decide +kernel
theorem d_Case_fits_9 : decode prog_2_method_2_code 9 = .ok (.iload_n 0, 1) := by decide +kernel
theorem d_Case_fits_10 : decode prog_2_method_2_code 10 = .ok (.tableswitch 80 0 3 #[30, 40, 58, 63], 30) := by decide +kernel
theorem d_Case_fits_40 : decode prog_2_method_2_code 40 = .ok (.iload_n 2, 1) := by decide +kernel
theorem d_Case_fits_41 : decode prog_2_method_2_code 41 = .ok (.ifCond .ne 7, 3) := by decide +kernel
theorem d_Case_fits_44 : decode prog_2_method_2_code 44 = .ok (.iconst 1, 1) := by decide +kernel
theorem d_Case_fits_45 : decode prog_2_method_2_code 45 = .ok (.goto 4, 3) := by decide +kernel
theorem d_Case_fits_48 : decode prog_2_method_2_code 48 = .ok (.iconst 0, 1) := by decide +kernel
theorem d_Case_fits_49 : decode prog_2_method_2_code 49 = .ok (.ireturn, 1) := by decide +kernel
theorem d_Case_fits_50 : decode prog_2_method_2_code 50 = .ok (.iload_n 2, 1) := by decide +kernel
theorem d_Case_fits_51 : decode prog_2_method_2_code 51 = .ok (.invokestatic 25, 3) := by decide +kernel
theorem d_Case_fits_54 : decode prog_2_method_2_code 54 = .ok (.ifCond .eq 12, 3) := by decide +kernel
theorem d_Case_fits_57 : decode prog_2_method_2_code 57 = .ok (.iload_n 2, 1) := by decide +kernel
theorem d_Case_fits_58 : decode prog_2_method_2_code 58 = .ok (.iload_n 1, 1) := by decide +kernel
theorem d_Case_fits_59 : decode prog_2_method_2_code 59 = .ok (.if_icmp .eq 7, 3) := by decide +kernel
theorem d_Case_fits_62 : decode prog_2_method_2_code 62 = .ok (.iconst 1, 1) := by decide +kernel
theorem d_Case_fits_63 : decode prog_2_method_2_code 63 = .ok (.goto 4, 3) := by decide +kernel
theorem d_Case_fits_66 : decode prog_2_method_2_code 66 = .ok (.iconst 0, 1) := by decide +kernel
theorem d_Case_fits_67 : decode prog_2_method_2_code 67 = .ok (.ireturn, 1) := by decide +kernel
theorem d_Case_fits_68 : decode prog_2_method_2_code 68 = .ok (.iload_n 2, 1) := by decide +kernel
theorem d_Case_fits_69 : decode prog_2_method_2_code 69 = .ok (.invokestatic 25, 3) := by decide +kernel
theorem d_Case_fits_72 : decode prog_2_method_2_code 72 = .ok (.ireturn, 1) := by decide +kernel
theorem d_Case_fits_73 : decode prog_2_method_2_code 73 = .ok (.iload_n 2, 1) := by decide +kernel
theorem d_Case_fits_74 : decode prog_2_method_2_code 74 = .ok (.iconst 1, 1) := by decide +kernel
theorem d_Case_fits_75 : decode prog_2_method_2_code 75 = .ok (.if_icmp .lt 13, 3) := by decide +kernel
theorem d_Case_fits_78 : decode prog_2_method_2_code 78 = .ok (.iload_n 2, 1) := by decide +kernel
theorem d_Case_fits_79 : decode prog_2_method_2_code 79 = .ok (.bipush 9, 2) := by decide +kernel
theorem d_Case_fits_81 : decode prog_2_method_2_code 81 = .ok (.if_icmp .gt 7, 3) := by decide +kernel
theorem d_Case_fits_84 : decode prog_2_method_2_code 84 = .ok (.iconst 1, 1) := by decide +kernel
theorem d_Case_fits_85 : decode prog_2_method_2_code 85 = .ok (.goto 4, 3) := by decide +kernel
theorem d_Case_fits_88 : decode prog_2_method_2_code 88 = .ok (.iconst 0, 1) := by decide +kernel
theorem d_Case_fits_89 : decode prog_2_method_2_code 89 = .ok (.ireturn, 1) := by decide +kernel
theorem d_Case_fits_90 : decode prog_2_method_2_code 90 = .ok (.iconst 0, 1) := by decide +kernel
theorem d_Case_fits_91 : decode prog_2_method_2_code 91 = .ok (.ireturn, 1) := by decide +kernel
theorem d_Case_add_0 : decode prog_2_method_4_code 0 = .ok (.aload_n 0, 1) := by decide +kernel
theorem d_Case_add_1 : decode prog_2_method_4_code 1 = .ok (.getfield 21, 3) := by decide +kernel
theorem d_Case_add_4 : decode prog_2_method_4_code 4 = .ok (.bipush 10, 2) := by decide +kernel
theorem d_Case_add_6 : decode prog_2_method_4_code 6 = .ok (.if_icmp .ge 43, 3) := by decide +kernel
theorem d_Case_add_9 : decode prog_2_method_4_code 9 = .ok (.aload_n 0, 1) := by decide +kernel
theorem d_Case_add_10 : decode prog_2_method_4_code 10 = .ok (.getfield 9, 3) := by decide +kernel
theorem d_Case_add_13 : decode prog_2_method_4_code 13 = .ok (.aload_n 0, 1) := by decide +kernel
theorem d_Case_add_14 : decode prog_2_method_4_code 14 = .ok (.getfield 21, 3) := by decide +kernel
theorem d_Case_add_17 : decode prog_2_method_4_code 17 = .ok (.iload_n 1, 1) := by decide +kernel
theorem d_Case_add_18 : decode prog_2_method_4_code 18 = .ok (.iastore, 1) := by decide +kernel
theorem d_Case_add_19 : decode prog_2_method_4_code 19 = .ok (.aload_n 0, 1) := by decide +kernel
theorem d_Case_add_20 : decode prog_2_method_4_code 20 = .ok (.getfield 15, 3) := by decide +kernel
theorem d_Case_add_23 : decode prog_2_method_4_code 23 = .ok (.aload_n 0, 1) := by decide +kernel
theorem d_Case_add_24 : decode prog_2_method_4_code 24 = .ok (.getfield 21, 3) := by decide +kernel
theorem d_Case_add_27 : decode prog_2_method_4_code 27 = .ok (.iload_n 2, 1) := by decide +kernel
theorem d_Case_add_28 : decode prog_2_method_4_code 28 = .ok (.iastore, 1) := by decide +kernel
theorem d_Case_add_29 : decode prog_2_method_4_code 29 = .ok (.aload_n 0, 1) := by decide +kernel
theorem d_Case_add_30 : decode prog_2_method_4_code 30 = .ok (.getfield 18, 3) := by decide +kernel
theorem d_Case_add_33 : decode prog_2_method_4_code 33 = .ok (.aload_n 0, 1) := by decide +kernel
theorem d_Case_add_34 : decode prog_2_method_4_code 34 = .ok (.getfield 21, 3) := by decide +kernel
theorem d_Case_add_37 : decode prog_2_method_4_code 37 = .ok (.iload_n 3, 1) := by decide +kernel
theorem d_Case_add_38 : decode prog_2_method_4_code 38 = .ok (.iastore, 1) := by decide +kernel
theorem d_Case_add_39 : decode prog_2_method_4_code 39 = .ok (.aload_n 0, 1) := by decide +kernel
theorem d_Case_add_40 : decode prog_2_method_4_code 40 = .ok (.dup, 1) := by decide +kernel
theorem d_Case_add_41 : decode prog_2_method_4_code 41 = .ok (.getfield 21, 3) := by decide +kernel
theorem d_Case_add_44 : decode prog_2_method_4_code 44 = .ok (.iconst 1, 1) := by decide +kernel
theorem d_Case_add_45 : decode prog_2_method_4_code 45 = .ok (.iadd, 1) := by decide +kernel
theorem d_Case_add_46 : decode prog_2_method_4_code 46 = .ok (.putfield 21, 3) := by decide +kernel
theorem d_Case_add_49 : decode prog_2_method_4_code 49 = .ok (.return_, 1) := by decide +kernel
theorem d_Arrays_fill_0 : decode prog_15_method_103_code 0 = .ok (.iconst 0, 1) := by decide +kernel
theorem d_Arrays_fill_1 : decode prog_15_method_103_code 1 = .ok (.istore_n 2, 1) := by decide +kernel
theorem d_Arrays_fill_2 : decode prog_15_method_103_code 2 = .ok (.aload_n 0, 1) := by decide +kernel
theorem d_Arrays_fill_3 : decode prog_15_method_103_code 3 = .ok (.arraylength, 1) := by decide +kernel
theorem d_Arrays_fill_4 : decode prog_15_method_103_code 4 = .ok (.istore_n 3, 1) := by decide +kernel
theorem d_Arrays_fill_5 : decode prog_15_method_103_code 5 = .ok (.iload_n 2, 1) := by decide +kernel
theorem d_Arrays_fill_6 : decode prog_15_method_103_code 6 = .ok (.iload_n 3, 1) := by decide +kernel
theorem d_Arrays_fill_7 : decode prog_15_method_103_code 7 = .ok (.if_icmp .ge 13, 3) := by decide +kernel
theorem d_Arrays_fill_10 : decode prog_15_method_103_code 10 = .ok (.aload_n 0, 1) := by decide +kernel
theorem d_Arrays_fill_11 : decode prog_15_method_103_code 11 = .ok (.iload_n 2, 1) := by decide +kernel
theorem d_Arrays_fill_12 : decode prog_15_method_103_code 12 = .ok (.iload_n 1, 1) := by decide +kernel
theorem d_Arrays_fill_13 : decode prog_15_method_103_code 13 = .ok (.iastore, 1) := by decide +kernel
theorem d_Arrays_fill_14 : decode prog_15_method_103_code 14 = .ok (.iinc 2 1, 3) := by decide +kernel
theorem d_Arrays_fill_17 : decode prog_15_method_103_code 17 = .ok (.goto (-12), 3) := by decide +kernel
theorem d_Arrays_fill_20 : decode prog_15_method_103_code 20 = .ok (.return_, 1) := by decide +kernel
theorem d_X_forgetPulls_0 : decode prog_1_method_42_code 0 = .ok (.aload_n 0, 1) := by decide +kernel
theorem d_X_forgetPulls_1 : decode prog_1_method_42_code 1 = .ok (.getfield 58, 3) := by decide +kernel
theorem d_X_forgetPulls_4 : decode prog_1_method_42_code 4 = .ok (.iconst 0, 1) := by decide +kernel
theorem d_X_forgetPulls_5 : decode prog_1_method_42_code 5 = .ok (.invokestatic 304, 3) := by decide +kernel
theorem d_X_forgetPulls_8 : decode prog_1_method_42_code 8 = .ok (.return_, 1) := by decide +kernel
theorem d_X_cast_0 : decode prog_1_method_2_code 0 = .ok (.iload_n 1, 1) := by decide +kernel
theorem d_X_cast_1 : decode prog_1_method_2_code 1 = .ok (.iload_n 2, 1) := by decide +kernel
theorem d_X_cast_2 : decode prog_1_method_2_code 2 = .ok (.iload_n 3, 1) := by decide +kernel
theorem d_X_cast_3 : decode prog_1_method_2_code 3 = .ok (.invokestatic 78, 3) := by decide +kernel
theorem d_X_cast_6 : decode prog_1_method_2_code 6 = .ok (.ifCond .ne 5, 3) := by decide +kernel
theorem d_X_cast_9 : decode prog_1_method_2_code 9 = .ok (.iconst (-1), 1) := by decide +kernel
theorem d_X_cast_10 : decode prog_1_method_2_code 10 = .ok (.ireturn, 1) := by decide +kernel
theorem d_X_cast_11 : decode prog_1_method_2_code 11 = .ok (.aload_n 0, 1) := by decide +kernel
theorem d_X_cast_12 : decode prog_1_method_2_code 12 = .ok (.getfield 12, 3) := by decide +kernel
theorem d_X_cast_15 : decode prog_1_method_2_code 15 = .ok (.getfield 82, 3) := by decide +kernel
theorem d_X_cast_18 : decode prog_1_method_2_code 18 = .ok (.getfield 85, 3) := by decide +kernel
theorem d_X_cast_21 : decode prog_1_method_2_code 21 = .ok (.bipush 10, 2) := by decide +kernel
theorem d_X_cast_23 : decode prog_1_method_2_code 23 = .ok (.if_icmp .lt 6, 3) := by decide +kernel
theorem d_X_cast_26 : decode prog_1_method_2_code 26 = .ok (.bipush (-3), 2) := by decide +kernel
theorem d_X_cast_28 : decode prog_1_method_2_code 28 = .ok (.ireturn, 1) := by decide +kernel
theorem d_X_cast_29 : decode prog_1_method_2_code 29 = .ok (.aload_n 0, 1) := by decide +kernel
theorem d_X_cast_30 : decode prog_1_method_2_code 30 = .ok (.getfield 12, 3) := by decide +kernel
theorem d_X_cast_33 : decode prog_1_method_2_code 33 = .ok (.getfield 82, 3) := by decide +kernel
theorem d_X_cast_36 : decode prog_1_method_2_code 36 = .ok (.iload_n 1, 1) := by decide +kernel
theorem d_X_cast_37 : decode prog_1_method_2_code 37 = .ok (.iload_n 2, 1) := by decide +kernel
theorem d_X_cast_38 : decode prog_1_method_2_code 38 = .ok (.iload_n 3, 1) := by decide +kernel
theorem d_X_cast_39 : decode prog_1_method_2_code 39 = .ok (.invokevirtual 89, 3) := by decide +kernel
theorem d_X_cast_42 : decode prog_1_method_2_code 42 = .ok (.aload_n 0, 1) := by decide +kernel
theorem d_X_cast_43 : decode prog_1_method_2_code 43 = .ok (.invokevirtual 93, 3) := by decide +kernel
theorem d_X_cast_46 : decode prog_1_method_2_code 46 = .ok (.aload_n 0, 1) := by decide +kernel
theorem d_X_cast_47 : decode prog_1_method_2_code 47 = .ok (.getfield 12, 3) := by decide +kernel
theorem d_X_cast_50 : decode prog_1_method_2_code 50 = .ok (.getfield 82, 3) := by decide +kernel
theorem d_X_cast_53 : decode prog_1_method_2_code 53 = .ok (.getfield 85, 3) := by decide +kernel
theorem d_X_cast_56 : decode prog_1_method_2_code 56 = .ok (.iconst 1, 1) := by decide +kernel
theorem d_X_cast_57 : decode prog_1_method_2_code 57 = .ok (.isub, 1) := by decide +kernel
theorem d_X_cast_58 : decode prog_1_method_2_code 58 = .ok (.ireturn, 1) := by decide +kernel
theorem d_Case_has_0 : decode prog_2_method_3_code 0 = .ok (.iload_n 1, 1) := by decide +kernel
theorem d_Case_has_1 : decode prog_2_method_3_code 1 = .ok (.ifCond .lt 15, 3) := by decide +kernel
theorem d_Case_has_4 : decode prog_2_method_3_code 4 = .ok (.iload_n 1, 1) := by decide +kernel
theorem d_Case_has_5 : decode prog_2_method_3_code 5 = .ok (.aload_n 0, 1) := by decide +kernel
theorem d_Case_has_6 : decode prog_2_method_3_code 6 = .ok (.getfield 21, 3) := by decide +kernel
theorem d_Case_has_9 : decode prog_2_method_3_code 9 = .ok (.if_icmp .ge 7, 3) := by decide +kernel
theorem d_Case_has_12 : decode prog_2_method_3_code 12 = .ok (.iconst 1, 1) := by decide +kernel
theorem d_Case_has_13 : decode prog_2_method_3_code 13 = .ok (.goto 4, 3) := by decide +kernel
theorem d_Case_has_16 : decode prog_2_method_3_code 16 = .ok (.iconst 0, 1) := by decide +kernel
theorem d_Case_has_17 : decode prog_2_method_3_code 17 = .ok (.ireturn, 1) := by decide +kernel
theorem d_X_told_0 : decode prog_1_method_3_code 0 = .ok (.aload_n 0, 1) := by decide +kernel
theorem d_X_told_1 : decode prog_1_method_3_code 1 = .ok (.getfield 12, 3) := by decide +kernel
theorem d_X_told_4 : decode prog_1_method_3_code 4 = .ok (.getfield 82, 3) := by decide +kernel
theorem d_X_told_7 : decode prog_1_method_3_code 7 = .ok (.iload_n 1, 1) := by decide +kernel
theorem d_X_told_8 : decode prog_1_method_3_code 8 = .ok (.invokevirtual 96, 3) := by decide +kernel
theorem d_X_told_11 : decode prog_1_method_3_code 11 = .ok (.ifCond .ne 5, 3) := by decide +kernel
theorem d_X_told_14 : decode prog_1_method_3_code 14 = .ok (.iconst (-1), 1) := by decide +kernel
theorem d_X_told_15 : decode prog_1_method_3_code 15 = .ok (.ireturn, 1) := by decide +kernel
theorem d_X_told_16 : decode prog_1_method_3_code 16 = .ok (.iload_n 2, 1) := by decide +kernel
theorem d_X_told_17 : decode prog_1_method_3_code 17 = .ok (.tableswitch 66 0 2 #[27, 40, 53], 27) := by decide +kernel
theorem d_X_told_44 : decode prog_1_method_3_code 44 = .ok (.aload_n 0, 1) := by decide +kernel
theorem d_X_told_45 : decode prog_1_method_3_code 45 = .ok (.getfield 12, 3) := by decide +kernel
theorem d_X_told_48 : decode prog_1_method_3_code 48 = .ok (.getfield 82, 3) := by decide +kernel
theorem d_X_told_51 : decode prog_1_method_3_code 51 = .ok (.getfield 100, 3) := by decide +kernel
theorem d_X_told_54 : decode prog_1_method_3_code 54 = .ok (.iload_n 1, 1) := by decide +kernel
theorem d_X_told_55 : decode prog_1_method_3_code 55 = .ok (.iaload, 1) := by decide +kernel
theorem d_X_told_56 : decode prog_1_method_3_code 56 = .ok (.ireturn, 1) := by decide +kernel
theorem d_X_told_57 : decode prog_1_method_3_code 57 = .ok (.aload_n 0, 1) := by decide +kernel
theorem d_X_told_58 : decode prog_1_method_3_code 58 = .ok (.getfield 12, 3) := by decide +kernel
theorem d_X_told_61 : decode prog_1_method_3_code 61 = .ok (.getfield 82, 3) := by decide +kernel
theorem d_X_told_64 : decode prog_1_method_3_code 64 = .ok (.getfield 103, 3) := by decide +kernel
theorem d_X_told_67 : decode prog_1_method_3_code 67 = .ok (.iload_n 1, 1) := by decide +kernel
theorem d_X_told_68 : decode prog_1_method_3_code 68 = .ok (.iaload, 1) := by decide +kernel
theorem d_X_told_69 : decode prog_1_method_3_code 69 = .ok (.ireturn, 1) := by decide +kernel
theorem d_X_told_70 : decode prog_1_method_3_code 70 = .ok (.aload_n 0, 1) := by decide +kernel
theorem d_X_told_71 : decode prog_1_method_3_code 71 = .ok (.getfield 12, 3) := by decide +kernel
theorem d_X_told_74 : decode prog_1_method_3_code 74 = .ok (.getfield 82, 3) := by decide +kernel
theorem d_X_told_77 : decode prog_1_method_3_code 77 = .ok (.getfield 106, 3) := by decide +kernel
theorem d_X_told_80 : decode prog_1_method_3_code 80 = .ok (.iload_n 1, 1) := by decide +kernel
theorem d_X_told_81 : decode prog_1_method_3_code 81 = .ok (.iaload, 1) := by decide +kernel
theorem d_X_told_82 : decode prog_1_method_3_code 82 = .ok (.ireturn, 1) := by decide +kernel
theorem d_X_told_83 : decode prog_1_method_3_code 83 = .ok (.iconst (-1), 1) := by decide +kernel
theorem d_X_told_84 : decode prog_1_method_3_code 84 = .ok (.ireturn, 1) := by decide +kernel
theorem d_Case_remove_0 : decode prog_2_method_5_code 0 = .ok (.aload_n 0, 1) := by decide +kernel
theorem d_Case_remove_1 : decode prog_2_method_5_code 1 = .ok (.iload_n 1, 1) := by decide +kernel
theorem d_Case_remove_2 : decode prog_2_method_5_code 2 = .ok (.invokevirtual 29, 3) := by decide +kernel
theorem d_Case_remove_5 : decode prog_2_method_5_code 5 = .ok (.ifCond .eq 73, 3) := by decide +kernel
theorem d_Case_remove_8 : decode prog_2_method_5_code 8 = .ok (.iload_n 1, 1) := by decide +kernel
theorem d_Case_remove_9 : decode prog_2_method_5_code 9 = .ok (.istore_n 2, 1) := by decide +kernel
theorem d_Case_remove_10 : decode prog_2_method_5_code 10 = .ok (.iload_n 2, 1) := by decide +kernel
theorem d_Case_remove_11 : decode prog_2_method_5_code 11 = .ok (.aload_n 0, 1) := by decide +kernel
theorem d_Case_remove_12 : decode prog_2_method_5_code 12 = .ok (.getfield 21, 3) := by decide +kernel
theorem d_Case_remove_15 : decode prog_2_method_5_code 15 = .ok (.iconst 1, 1) := by decide +kernel
theorem d_Case_remove_16 : decode prog_2_method_5_code 16 = .ok (.isub, 1) := by decide +kernel
theorem d_Case_remove_17 : decode prog_2_method_5_code 17 = .ok (.if_icmp .ge 51, 3) := by decide +kernel
theorem d_Case_remove_20 : decode prog_2_method_5_code 20 = .ok (.aload_n 0, 1) := by decide +kernel
theorem d_Case_remove_21 : decode prog_2_method_5_code 21 = .ok (.getfield 9, 3) := by decide +kernel
theorem d_Case_remove_24 : decode prog_2_method_5_code 24 = .ok (.iload_n 2, 1) := by decide +kernel
theorem d_Case_remove_25 : decode prog_2_method_5_code 25 = .ok (.aload_n 0, 1) := by decide +kernel
theorem d_Case_remove_26 : decode prog_2_method_5_code 26 = .ok (.getfield 9, 3) := by decide +kernel
theorem d_Case_remove_29 : decode prog_2_method_5_code 29 = .ok (.iload_n 2, 1) := by decide +kernel
theorem d_Case_remove_30 : decode prog_2_method_5_code 30 = .ok (.iconst 1, 1) := by decide +kernel
theorem d_Case_remove_31 : decode prog_2_method_5_code 31 = .ok (.iadd, 1) := by decide +kernel
theorem d_Case_remove_32 : decode prog_2_method_5_code 32 = .ok (.iaload, 1) := by decide +kernel
theorem d_Case_remove_33 : decode prog_2_method_5_code 33 = .ok (.iastore, 1) := by decide +kernel
theorem d_Case_remove_34 : decode prog_2_method_5_code 34 = .ok (.aload_n 0, 1) := by decide +kernel
theorem d_Case_remove_35 : decode prog_2_method_5_code 35 = .ok (.getfield 15, 3) := by decide +kernel
theorem d_Case_remove_38 : decode prog_2_method_5_code 38 = .ok (.iload_n 2, 1) := by decide +kernel
theorem d_Case_remove_39 : decode prog_2_method_5_code 39 = .ok (.aload_n 0, 1) := by decide +kernel
theorem d_Case_remove_40 : decode prog_2_method_5_code 40 = .ok (.getfield 15, 3) := by decide +kernel
theorem d_Case_remove_43 : decode prog_2_method_5_code 43 = .ok (.iload_n 2, 1) := by decide +kernel
theorem d_Case_remove_44 : decode prog_2_method_5_code 44 = .ok (.iconst 1, 1) := by decide +kernel
theorem d_Case_remove_45 : decode prog_2_method_5_code 45 = .ok (.iadd, 1) := by decide +kernel
theorem d_Case_remove_46 : decode prog_2_method_5_code 46 = .ok (.iaload, 1) := by decide +kernel
theorem d_Case_remove_47 : decode prog_2_method_5_code 47 = .ok (.iastore, 1) := by decide +kernel
theorem d_Case_remove_48 : decode prog_2_method_5_code 48 = .ok (.aload_n 0, 1) := by decide +kernel
theorem d_Case_remove_49 : decode prog_2_method_5_code 49 = .ok (.getfield 18, 3) := by decide +kernel
theorem d_Case_remove_52 : decode prog_2_method_5_code 52 = .ok (.iload_n 2, 1) := by decide +kernel
theorem d_Case_remove_53 : decode prog_2_method_5_code 53 = .ok (.aload_n 0, 1) := by decide +kernel
theorem d_Case_remove_54 : decode prog_2_method_5_code 54 = .ok (.getfield 18, 3) := by decide +kernel
theorem d_Case_remove_57 : decode prog_2_method_5_code 57 = .ok (.iload_n 2, 1) := by decide +kernel
theorem d_Case_remove_58 : decode prog_2_method_5_code 58 = .ok (.iconst 1, 1) := by decide +kernel
theorem d_Case_remove_59 : decode prog_2_method_5_code 59 = .ok (.iadd, 1) := by decide +kernel
theorem d_Case_remove_60 : decode prog_2_method_5_code 60 = .ok (.iaload, 1) := by decide +kernel
theorem d_Case_remove_61 : decode prog_2_method_5_code 61 = .ok (.iastore, 1) := by decide +kernel
theorem d_Case_remove_62 : decode prog_2_method_5_code 62 = .ok (.iinc 2 1, 3) := by decide +kernel
theorem d_Case_remove_65 : decode prog_2_method_5_code 65 = .ok (.goto (-55), 3) := by decide +kernel
theorem d_Case_remove_68 : decode prog_2_method_5_code 68 = .ok (.aload_n 0, 1) := by decide +kernel
theorem d_Case_remove_69 : decode prog_2_method_5_code 69 = .ok (.dup, 1) := by decide +kernel
theorem d_Case_remove_70 : decode prog_2_method_5_code 70 = .ok (.getfield 21, 3) := by decide +kernel
theorem d_Case_remove_73 : decode prog_2_method_5_code 73 = .ok (.iconst 1, 1) := by decide +kernel
theorem d_Case_remove_74 : decode prog_2_method_5_code 74 = .ok (.isub, 1) := by decide +kernel
theorem d_Case_remove_75 : decode prog_2_method_5_code 75 = .ok (.putfield 21, 3) := by decide +kernel
theorem d_Case_remove_78 : decode prog_2_method_5_code 78 = .ok (.return_, 1) := by decide +kernel
theorem d_X_lose_0 : decode prog_1_method_4_code 0 = .ok (.aload_n 0, 1) := by decide +kernel
theorem d_X_lose_1 : decode prog_1_method_4_code 1 = .ok (.getfield 12, 3) := by decide +kernel
theorem d_X_lose_4 : decode prog_1_method_4_code 4 = .ok (.getfield 82, 3) := by decide +kernel
theorem d_X_lose_7 : decode prog_1_method_4_code 7 = .ok (.iload_n 1, 1) := by decide +kernel
theorem d_X_lose_8 : decode prog_1_method_4_code 8 = .ok (.invokevirtual 96, 3) := by decide +kernel
theorem d_X_lose_11 : decode prog_1_method_4_code 11 = .ok (.ifCond .ne 5, 3) := by decide +kernel
theorem d_X_lose_14 : decode prog_1_method_4_code 14 = .ok (.iconst (-1), 1) := by decide +kernel
theorem d_X_lose_15 : decode prog_1_method_4_code 15 = .ok (.ireturn, 1) := by decide +kernel
theorem d_X_lose_16 : decode prog_1_method_4_code 16 = .ok (.aload_n 0, 1) := by decide +kernel
theorem d_X_lose_17 : decode prog_1_method_4_code 17 = .ok (.getfield 12, 3) := by decide +kernel
theorem d_X_lose_20 : decode prog_1_method_4_code 20 = .ok (.getfield 82, 3) := by decide +kernel
theorem d_X_lose_23 : decode prog_1_method_4_code 23 = .ok (.iload_n 1, 1) := by decide +kernel
theorem d_X_lose_24 : decode prog_1_method_4_code 24 = .ok (.invokevirtual 109, 3) := by decide +kernel
theorem d_X_lose_27 : decode prog_1_method_4_code 27 = .ok (.aload_n 0, 1) := by decide +kernel
theorem d_X_lose_28 : decode prog_1_method_4_code 28 = .ok (.invokevirtual 93, 3) := by decide +kernel
theorem d_X_lose_31 : decode prog_1_method_4_code 31 = .ok (.aload_n 0, 1) := by decide +kernel
theorem d_X_lose_32 : decode prog_1_method_4_code 32 = .ok (.getfield 12, 3) := by decide +kernel
theorem d_X_lose_35 : decode prog_1_method_4_code 35 = .ok (.getfield 82, 3) := by decide +kernel
theorem d_X_lose_38 : decode prog_1_method_4_code 38 = .ok (.getfield 85, 3) := by decide +kernel
theorem d_X_lose_41 : decode prog_1_method_4_code 41 = .ok (.ireturn, 1) := by decide +kernel
theorem d_X_width_0 : decode prog_1_method_5_code 0 = .ok (.iload_n 1, 1) := by decide +kernel
theorem d_X_width_1 : decode prog_1_method_5_code 1 = .ok (.invokestatic 113, 3) := by decide +kernel
theorem d_X_width_4 : decode prog_1_method_5_code 4 = .ok (.ifCond .eq 13, 3) := by decide +kernel
theorem d_X_width_7 : decode prog_1_method_5_code 7 = .ok (.iload_n 2, 1) := by decide +kernel
theorem d_X_width_8 : decode prog_1_method_5_code 8 = .ok (.iconst 1, 1) := by decide +kernel
theorem d_X_width_9 : decode prog_1_method_5_code 9 = .ok (.if_icmp .lt 8, 3) := by decide +kernel
theorem d_X_width_12 : decode prog_1_method_5_code 12 = .ok (.iload_n 2, 1) := by decide +kernel
theorem d_X_width_13 : decode prog_1_method_5_code 13 = .ok (.iconst 4, 1) := by decide +kernel
theorem d_X_width_14 : decode prog_1_method_5_code 14 = .ok (.if_icmp .le 5, 3) := by decide +kernel
theorem d_X_width_17 : decode prog_1_method_5_code 17 = .ok (.iconst (-1), 1) := by decide +kernel
theorem d_X_width_18 : decode prog_1_method_5_code 18 = .ok (.ireturn, 1) := by decide +kernel
theorem d_X_width_19 : decode prog_1_method_5_code 19 = .ok (.aload_n 0, 1) := by decide +kernel
theorem d_X_width_20 : decode prog_1_method_5_code 20 = .ok (.getfield 12, 3) := by decide +kernel
theorem d_X_width_23 : decode prog_1_method_5_code 23 = .ok (.getfield 116, 3) := by decide +kernel
theorem d_X_width_26 : decode prog_1_method_5_code 26 = .ok (.iload_n 1, 1) := by decide +kernel
theorem d_X_width_27 : decode prog_1_method_5_code 27 = .ok (.iaload, 1) := by decide +kernel
theorem d_X_width_28 : decode prog_1_method_5_code 28 = .ok (.istore_n 3, 1) := by decide +kernel
theorem d_X_width_29 : decode prog_1_method_5_code 29 = .ok (.aload_n 0, 1) := by decide +kernel
theorem d_X_width_30 : decode prog_1_method_5_code 30 = .ok (.getfield 12, 3) := by decide +kernel
theorem d_X_width_33 : decode prog_1_method_5_code 33 = .ok (.getfield 116, 3) := by decide +kernel
theorem d_X_width_36 : decode prog_1_method_5_code 36 = .ok (.iload_n 1, 1) := by decide +kernel
theorem d_X_width_37 : decode prog_1_method_5_code 37 = .ok (.iload_n 2, 1) := by decide +kernel
theorem d_X_width_38 : decode prog_1_method_5_code 38 = .ok (.iastore, 1) := by decide +kernel
theorem d_X_width_39 : decode prog_1_method_5_code 39 = .ok (.iload_n 3, 1) := by decide +kernel
theorem d_X_width_40 : decode prog_1_method_5_code 40 = .ok (.ireturn, 1) := by decide +kernel
theorem d_X_rule_0 : decode prog_1_method_6_code 0 = .ok (.iload_n 1, 1) := by decide +kernel
theorem d_X_rule_1 : decode prog_1_method_6_code 1 = .ok (.ifCond .lt 26, 3) := by decide +kernel
theorem d_X_rule_4 : decode prog_1_method_6_code 4 = .ok (.iload_n 1, 1) := by decide +kernel
theorem d_X_rule_5 : decode prog_1_method_6_code 5 = .ok (.iconst 3, 1) := by decide +kernel
theorem d_X_rule_6 : decode prog_1_method_6_code 6 = .ok (.if_icmp .ge 21, 3) := by decide +kernel
theorem d_X_rule_9 : decode prog_1_method_6_code 9 = .ok (.iload_n 2, 1) := by decide +kernel
theorem d_X_rule_10 : decode prog_1_method_6_code 10 = .ok (.getstatic 119, 3) := by decide +kernel
theorem d_X_rule_13 : decode prog_1_method_6_code 13 = .ok (.iload_n 1, 1) := by decide +kernel
theorem d_X_rule_14 : decode prog_1_method_6_code 14 = .ok (.iaload, 1) := by decide +kernel
theorem d_X_rule_15 : decode prog_1_method_6_code 15 = .ok (.if_icmp .lt 12, 3) := by decide +kernel
theorem d_X_rule_18 : decode prog_1_method_6_code 18 = .ok (.iload_n 2, 1) := by decide +kernel
theorem d_X_rule_19 : decode prog_1_method_6_code 19 = .ok (.getstatic 122, 3) := by decide +kernel
theorem d_X_rule_22 : decode prog_1_method_6_code 22 = .ok (.iload_n 1, 1) := by decide +kernel
theorem d_X_rule_23 : decode prog_1_method_6_code 23 = .ok (.iaload, 1) := by decide +kernel
theorem d_X_rule_24 : decode prog_1_method_6_code 24 = .ok (.if_icmp .le 5, 3) := by decide +kernel
theorem d_X_rule_27 : decode prog_1_method_6_code 27 = .ok (.iconst (-1), 1) := by decide +kernel
theorem d_X_rule_28 : decode prog_1_method_6_code 28 = .ok (.ireturn, 1) := by decide +kernel
theorem d_X_rule_29 : decode prog_1_method_6_code 29 = .ok (.aload_n 0, 1) := by decide +kernel
theorem d_X_rule_30 : decode prog_1_method_6_code 30 = .ok (.getfield 12, 3) := by decide +kernel
theorem d_X_rule_33 : decode prog_1_method_6_code 33 = .ok (.getfield 125, 3) := by decide +kernel
theorem d_X_rule_36 : decode prog_1_method_6_code 36 = .ok (.iload_n 1, 1) := by decide +kernel
theorem d_X_rule_37 : decode prog_1_method_6_code 37 = .ok (.iaload, 1) := by decide +kernel
theorem d_X_rule_38 : decode prog_1_method_6_code 38 = .ok (.istore_n 3, 1) := by decide +kernel
theorem d_X_rule_39 : decode prog_1_method_6_code 39 = .ok (.aload_n 0, 1) := by decide +kernel
theorem d_X_rule_40 : decode prog_1_method_6_code 40 = .ok (.getfield 12, 3) := by decide +kernel
theorem d_X_rule_43 : decode prog_1_method_6_code 43 = .ok (.getfield 125, 3) := by decide +kernel
theorem d_X_rule_46 : decode prog_1_method_6_code 46 = .ok (.iload_n 1, 1) := by decide +kernel
theorem d_X_rule_47 : decode prog_1_method_6_code 47 = .ok (.iload_n 2, 1) := by decide +kernel
theorem d_X_rule_48 : decode prog_1_method_6_code 48 = .ok (.iastore, 1) := by decide +kernel
theorem d_X_rule_49 : decode prog_1_method_6_code 49 = .ok (.aload_n 0, 1) := by decide +kernel
theorem d_X_rule_50 : decode prog_1_method_6_code 50 = .ok (.invokevirtual 93, 3) := by decide +kernel
theorem d_X_rule_53 : decode prog_1_method_6_code 53 = .ok (.iload_n 3, 1) := by decide +kernel
theorem d_X_rule_54 : decode prog_1_method_6_code 54 = .ok (.ireturn, 1) := by decide +kernel
theorem d_Tape_byteOf_0 : decode prog_9_method_3_code 0 = .ok (.lload_n 0, 1) := by decide +kernel
theorem d_Tape_byteOf_1 : decode prog_9_method_3_code 1 = .ok (.bipush 8, 2) := by decide +kernel
theorem d_Tape_byteOf_3 : decode prog_9_method_3_code 3 = .ok (.iload_n 2, 1) := by decide +kernel
theorem d_Tape_byteOf_4 : decode prog_9_method_3_code 4 = .ok (.imul, 1) := by decide +kernel
theorem d_Tape_byteOf_5 : decode prog_9_method_3_code 5 = .ok (.lshr, 1) := by decide +kernel
theorem d_Tape_byteOf_6 : decode prog_9_method_3_code 6 = .ok (.ldc2_w 26, 3) := by decide +kernel
theorem d_Tape_byteOf_9 : decode prog_9_method_3_code 9 = .ok (.land, 1) := by decide +kernel
theorem d_Tape_byteOf_10 : decode prog_9_method_3_code 10 = .ok (.l2i, 1) := by decide +kernel
theorem d_Tape_byteOf_11 : decode prog_9_method_3_code 11 = .ok (.ireturn, 1) := by decide +kernel
theorem d_Tape_takes_0 : decode prog_9_method_2_code 0 = .ok (.iconst 0, 1) := by decide +kernel
theorem d_Tape_takes_1 : decode prog_9_method_2_code 1 = .ok (.istore_n 3, 1) := by decide +kernel
theorem d_Tape_takes_2 : decode prog_9_method_2_code 2 = .ok (.iload_n 3, 1) := by decide +kernel
theorem d_Tape_takes_3 : decode prog_9_method_2_code 3 = .ok (.iload_n 2, 1) := by decide +kernel
theorem d_Tape_takes_4 : decode prog_9_method_2_code 4 = .ok (.if_icmp .ge 32, 3) := by decide +kernel
theorem d_Tape_takes_7 : decode prog_9_method_2_code 7 = .ok (.lload_n 0, 1) := by decide +kernel
theorem d_Tape_takes_8 : decode prog_9_method_2_code 8 = .ok (.iload_n 3, 1) := by decide +kernel
theorem d_Tape_takes_9 : decode prog_9_method_2_code 9 = .ok (.invokestatic 22, 3) := by decide +kernel
theorem d_Tape_takes_12 : decode prog_9_method_2_code 12 = .ok (.istore 4, 2) := by decide +kernel
theorem d_Tape_takes_14 : decode prog_9_method_2_code 14 = .ok (.iload 4, 2) := by decide +kernel
theorem d_Tape_takes_16 : decode prog_9_method_2_code 16 = .ok (.bipush 32, 2) := by decide +kernel
theorem d_Tape_takes_18 : decode prog_9_method_2_code 18 = .ok (.if_icmp .lt 10, 3) := by decide +kernel
theorem d_Tape_takes_21 : decode prog_9_method_2_code 21 = .ok (.iload 4, 2) := by decide +kernel
theorem d_Tape_takes_23 : decode prog_9_method_2_code 23 = .ok (.bipush 126, 2) := by decide +kernel
theorem d_Tape_takes_25 : decode prog_9_method_2_code 25 = .ok (.if_icmp .le 5, 3) := by decide +kernel
theorem d_Tape_takes_28 : decode prog_9_method_2_code 28 = .ok (.iconst 0, 1) := by decide +kernel
theorem d_Tape_takes_29 : decode prog_9_method_2_code 29 = .ok (.ireturn, 1) := by decide +kernel
theorem d_Tape_takes_30 : decode prog_9_method_2_code 30 = .ok (.iinc 3 1, 3) := by decide +kernel
theorem d_Tape_takes_33 : decode prog_9_method_2_code 33 = .ok (.goto (-31), 3) := by decide +kernel
theorem d_Tape_takes_36 : decode prog_9_method_2_code 36 = .ok (.iconst 1, 1) := by decide +kernel
theorem d_Tape_takes_37 : decode prog_9_method_2_code 37 = .ok (.ireturn, 1) := by decide +kernel
theorem d_Tape_add_0 : decode prog_9_method_4_code 0 = .ok (.iload_n 3, 1) := by decide +kernel
theorem d_Tape_add_1 : decode prog_9_method_4_code 1 = .ok (.iconst 1, 1) := by decide +kernel
theorem d_Tape_add_2 : decode prog_9_method_4_code 2 = .ok (.isub, 1) := by decide +kernel
theorem d_Tape_add_3 : decode prog_9_method_4_code 3 = .ok (.istore 4, 2) := by decide +kernel
theorem d_Tape_add_5 : decode prog_9_method_4_code 5 = .ok (.iload 4, 2) := by decide +kernel
theorem d_Tape_add_7 : decode prog_9_method_4_code 7 = .ok (.ifCond .lt 43, 3) := by decide +kernel
theorem d_Tape_add_10 : decode prog_9_method_4_code 10 = .ok (.aload_n 0, 1) := by decide +kernel
theorem d_Tape_add_11 : decode prog_9_method_4_code 11 = .ok (.getfield 15, 3) := by decide +kernel
theorem d_Tape_add_14 : decode prog_9_method_4_code 14 = .ok (.bipush 60, 2) := by decide +kernel
theorem d_Tape_add_16 : decode prog_9_method_4_code 16 = .ok (.if_icmp .ge 28, 3) := by decide +kernel
theorem d_Tape_add_19 : decode prog_9_method_4_code 19 = .ok (.aload_n 0, 1) := by decide +kernel
theorem d_Tape_add_20 : decode prog_9_method_4_code 20 = .ok (.getfield 9, 3) := by decide +kernel
theorem d_Tape_add_23 : decode prog_9_method_4_code 23 = .ok (.aload_n 0, 1) := by decide +kernel
theorem d_Tape_add_24 : decode prog_9_method_4_code 24 = .ok (.getfield 15, 3) := by decide +kernel
theorem d_Tape_add_27 : decode prog_9_method_4_code 27 = .ok (.lload_n 1, 1) := by decide +kernel
theorem d_Tape_add_28 : decode prog_9_method_4_code 28 = .ok (.iload 4, 2) := by decide +kernel
theorem d_Tape_add_30 : decode prog_9_method_4_code 30 = .ok (.invokestatic 22, 3) := by decide +kernel
theorem d_Tape_add_33 : decode prog_9_method_4_code 33 = .ok (.iastore, 1) := by decide +kernel
theorem d_Tape_add_34 : decode prog_9_method_4_code 34 = .ok (.aload_n 0, 1) := by decide +kernel
theorem d_Tape_add_35 : decode prog_9_method_4_code 35 = .ok (.dup, 1) := by decide +kernel
theorem d_Tape_add_36 : decode prog_9_method_4_code 36 = .ok (.getfield 15, 3) := by decide +kernel
theorem d_Tape_add_39 : decode prog_9_method_4_code 39 = .ok (.iconst 1, 1) := by decide +kernel
theorem d_Tape_add_40 : decode prog_9_method_4_code 40 = .ok (.iadd, 1) := by decide +kernel
theorem d_Tape_add_41 : decode prog_9_method_4_code 41 = .ok (.putfield 15, 3) := by decide +kernel
theorem d_Tape_add_44 : decode prog_9_method_4_code 44 = .ok (.iinc 4 (-1), 3) := by decide +kernel
theorem d_Tape_add_47 : decode prog_9_method_4_code 47 = .ok (.goto (-42), 3) := by decide +kernel
theorem d_Tape_add_50 : decode prog_9_method_4_code 50 = .ok (.return_, 1) := by decide +kernel
theorem d_X_type_0 : decode prog_1_method_7_code 0 = .ok (.iload_n 3, 1) := by decide +kernel
theorem d_X_type_1 : decode prog_1_method_7_code 1 = .ok (.iconst 1, 1) := by decide +kernel
theorem d_X_type_2 : decode prog_1_method_7_code 2 = .ok (.if_icmp .lt 17, 3) := by decide +kernel
theorem d_X_type_5 : decode prog_1_method_7_code 5 = .ok (.iload_n 3, 1) := by decide +kernel
theorem d_X_type_6 : decode prog_1_method_7_code 6 = .ok (.bipush 8, 2) := by decide +kernel
theorem d_X_type_8 : decode prog_1_method_7_code 8 = .ok (.if_icmp .gt 11, 3) := by decide +kernel
theorem d_X_type_11 : decode prog_1_method_7_code 11 = .ok (.lload_n 1, 1) := by decide +kernel
theorem d_X_type_12 : decode prog_1_method_7_code 12 = .ok (.iload_n 3, 1) := by decide +kernel
theorem d_X_type_13 : decode prog_1_method_7_code 13 = .ok (.invokestatic 128, 3) := by decide +kernel
theorem d_X_type_16 : decode prog_1_method_7_code 16 = .ok (.ifCond .ne 5, 3) := by decide +kernel
theorem d_X_type_19 : decode prog_1_method_7_code 19 = .ok (.iconst (-1), 1) := by decide +kernel
theorem d_X_type_20 : decode prog_1_method_7_code 20 = .ok (.ireturn, 1) := by decide +kernel
theorem d_X_type_21 : decode prog_1_method_7_code 21 = .ok (.aload_n 0, 1) := by decide +kernel
theorem d_X_type_22 : decode prog_1_method_7_code 22 = .ok (.getfield 26, 3) := by decide +kernel
theorem d_X_type_25 : decode prog_1_method_7_code 25 = .ok (.getfield 132, 3) := by decide +kernel
theorem d_X_type_28 : decode prog_1_method_7_code 28 = .ok (.iload_n 3, 1) := by decide +kernel
theorem d_X_type_29 : decode prog_1_method_7_code 29 = .ok (.iadd, 1) := by decide +kernel
theorem d_X_type_30 : decode prog_1_method_7_code 30 = .ok (.bipush 60, 2) := by decide +kernel
theorem d_X_type_32 : decode prog_1_method_7_code 32 = .ok (.if_icmp .le 6, 3) := by decide +kernel
theorem d_X_type_35 : decode prog_1_method_7_code 35 = .ok (.bipush (-3), 2) := by decide +kernel
theorem d_X_type_37 : decode prog_1_method_7_code 37 = .ok (.ireturn, 1) := by decide +kernel
theorem d_X_type_38 : decode prog_1_method_7_code 38 = .ok (.aload_n 0, 1) := by decide +kernel
theorem d_X_type_39 : decode prog_1_method_7_code 39 = .ok (.getfield 26, 3) := by decide +kernel
theorem d_X_type_42 : decode prog_1_method_7_code 42 = .ok (.lload_n 1, 1) := by decide +kernel
theorem d_X_type_43 : decode prog_1_method_7_code 43 = .ok (.iload_n 3, 1) := by decide +kernel
theorem d_X_type_44 : decode prog_1_method_7_code 44 = .ok (.invokevirtual 133, 3) := by decide +kernel
theorem d_X_type_47 : decode prog_1_method_7_code 47 = .ok (.aload_n 0, 1) := by decide +kernel
theorem d_X_type_48 : decode prog_1_method_7_code 48 = .ok (.getfield 26, 3) := by decide +kernel
theorem d_X_type_51 : decode prog_1_method_7_code 51 = .ok (.getfield 132, 3) := by decide +kernel
theorem d_X_type_54 : decode prog_1_method_7_code 54 = .ok (.ireturn, 1) := by decide +kernel
theorem d_Line_empty_0 : decode prog_4_method_3_code 0 = .ok (.aload_n 0, 1) := by decide +kernel
theorem d_Line_empty_1 : decode prog_4_method_3_code 1 = .ok (.iconst 0, 1) := by decide +kernel
theorem d_Line_empty_2 : decode prog_4_method_3_code 2 = .ok (.putfield 15, 3) := by decide +kernel
theorem d_Line_empty_5 : decode prog_4_method_3_code 5 = .ok (.aload_n 0, 1) := by decide +kernel
theorem d_Line_empty_6 : decode prog_4_method_3_code 6 = .ok (.iconst 0, 1) := by decide +kernel
theorem d_Line_empty_7 : decode prog_4_method_3_code 7 = .ok (.putfield 19, 3) := by decide +kernel
theorem d_Line_empty_10 : decode prog_4_method_3_code 10 = .ok (.return_, 1) := by decide +kernel
theorem d_Tape_nextSign_0 : decode prog_9_method_9_code 0 = .ok (.aload_n 0, 1) := by decide +kernel
theorem d_Tape_nextSign_1 : decode prog_9_method_9_code 1 = .ok (.getfield 19, 3) := by decide +kernel
theorem d_Tape_nextSign_4 : decode prog_9_method_9_code 4 = .ok (.aload_n 0, 1) := by decide +kernel
theorem d_Tape_nextSign_5 : decode prog_9_method_9_code 5 = .ok (.getfield 15, 3) := by decide +kernel
theorem d_Tape_nextSign_8 : decode prog_9_method_9_code 8 = .ok (.if_icmp .ge 30, 3) := by decide +kernel
theorem d_Tape_nextSign_11 : decode prog_9_method_9_code 11 = .ok (.aload_n 0, 1) := by decide +kernel
theorem d_Tape_nextSign_12 : decode prog_9_method_9_code 12 = .ok (.getfield 9, 3) := by decide +kernel
theorem d_Tape_nextSign_15 : decode prog_9_method_9_code 15 = .ok (.aload_n 0, 1) := by decide +kernel
theorem d_Tape_nextSign_16 : decode prog_9_method_9_code 16 = .ok (.getfield 19, 3) := by decide +kernel
theorem d_Tape_nextSign_19 : decode prog_9_method_9_code 19 = .ok (.iaload, 1) := by decide +kernel
theorem d_Tape_nextSign_20 : decode prog_9_method_9_code 20 = .ok (.bipush 32, 2) := by decide +kernel
theorem d_Tape_nextSign_22 : decode prog_9_method_9_code 22 = .ok (.if_icmp .ne 16, 3) := by decide +kernel
theorem d_Tape_nextSign_25 : decode prog_9_method_9_code 25 = .ok (.aload_n 0, 1) := by decide +kernel
theorem d_Tape_nextSign_26 : decode prog_9_method_9_code 26 = .ok (.dup, 1) := by decide +kernel
theorem d_Tape_nextSign_27 : decode prog_9_method_9_code 27 = .ok (.getfield 19, 3) := by decide +kernel
theorem d_Tape_nextSign_30 : decode prog_9_method_9_code 30 = .ok (.iconst 1, 1) := by decide +kernel
theorem d_Tape_nextSign_31 : decode prog_9_method_9_code 31 = .ok (.iadd, 1) := by decide +kernel
theorem d_Tape_nextSign_32 : decode prog_9_method_9_code 32 = .ok (.putfield 19, 3) := by decide +kernel
theorem d_Tape_nextSign_35 : decode prog_9_method_9_code 35 = .ok (.goto (-35), 3) := by decide +kernel
theorem d_Tape_nextSign_38 : decode prog_9_method_9_code 38 = .ok (.aload_n 0, 1) := by decide +kernel
theorem d_Tape_nextSign_39 : decode prog_9_method_9_code 39 = .ok (.getfield 19, 3) := by decide +kernel
theorem d_Tape_nextSign_42 : decode prog_9_method_9_code 42 = .ok (.aload_n 0, 1) := by decide +kernel
theorem d_Tape_nextSign_43 : decode prog_9_method_9_code 43 = .ok (.getfield 15, 3) := by decide +kernel
theorem d_Tape_nextSign_46 : decode prog_9_method_9_code 46 = .ok (.if_icmp .ge 15, 3) := by decide +kernel
theorem d_Tape_nextSign_49 : decode prog_9_method_9_code 49 = .ok (.aload_n 0, 1) := by decide +kernel
theorem d_Tape_nextSign_50 : decode prog_9_method_9_code 50 = .ok (.getfield 9, 3) := by decide +kernel
theorem d_Tape_nextSign_53 : decode prog_9_method_9_code 53 = .ok (.aload_n 0, 1) := by decide +kernel
theorem d_Tape_nextSign_54 : decode prog_9_method_9_code 54 = .ok (.getfield 19, 3) := by decide +kernel
theorem d_Tape_nextSign_57 : decode prog_9_method_9_code 57 = .ok (.iaload, 1) := by decide +kernel
theorem d_Tape_nextSign_58 : decode prog_9_method_9_code 58 = .ok (.goto 4, 3) := by decide +kernel
theorem d_Tape_nextSign_61 : decode prog_9_method_9_code 61 = .ok (.iconst (-1), 1) := by decide +kernel
theorem d_Tape_nextSign_62 : decode prog_9_method_9_code 62 = .ok (.ireturn, 1) := by decide +kernel
theorem d_Tape_fault_0 : decode prog_9_method_10_code 0 = .ok (.bipush (-20), 2) := by decide +kernel
theorem d_Tape_fault_2 : decode prog_9_method_10_code 2 = .ok (.aload_n 0, 1) := by decide +kernel
theorem d_Tape_fault_3 : decode prog_9_method_10_code 3 = .ok (.getfield 19, 3) := by decide +kernel
theorem d_Tape_fault_6 : decode prog_9_method_10_code 6 = .ok (.isub, 1) := by decide +kernel
theorem d_Tape_fault_7 : decode prog_9_method_10_code 7 = .ok (.ireturn, 1) := by decide +kernel
theorem d_Line_add_0 : decode prog_4_method_4_code 0 = .ok (.aload_n 0, 1) := by decide +kernel
theorem d_Line_add_1 : decode prog_4_method_4_code 1 = .ok (.getfield 15, 3) := by decide +kernel
theorem d_Line_add_4 : decode prog_4_method_4_code 4 = .ok (.bipush 10, 2) := by decide +kernel
theorem d_Line_add_6 : decode prog_4_method_4_code 6 = .ok (.if_icmp .ge 51, 3) := by decide +kernel
theorem d_Line_add_9 : decode prog_4_method_4_code 9 = .ok (.aload_n 0, 1) := by decide +kernel
theorem d_Line_add_10 : decode prog_4_method_4_code 10 = .ok (.getfield 15, 3) := by decide +kernel
theorem d_Line_add_13 : decode prog_4_method_4_code 13 = .ok (.ifCond .le 24, 3) := by decide +kernel
theorem d_Line_add_16 : decode prog_4_method_4_code 16 = .ok (.iload_n 2, 1) := by decide +kernel
theorem d_Line_add_17 : decode prog_4_method_4_code 17 = .ok (.ifCond .ne 20, 3) := by decide +kernel
theorem d_Line_add_20 : decode prog_4_method_4_code 20 = .ok (.aload_n 0, 1) := by decide +kernel
theorem d_Line_add_21 : decode prog_4_method_4_code 21 = .ok (.dup, 1) := by decide +kernel
theorem d_Line_add_22 : decode prog_4_method_4_code 22 = .ok (.getfield 19, 3) := by decide +kernel
theorem d_Line_add_25 : decode prog_4_method_4_code 25 = .ok (.iconst 1, 1) := by decide +kernel
theorem d_Line_add_26 : decode prog_4_method_4_code 26 = .ok (.aload_n 0, 1) := by decide +kernel
theorem d_Line_add_27 : decode prog_4_method_4_code 27 = .ok (.getfield 15, 3) := by decide +kernel
theorem d_Line_add_30 : decode prog_4_method_4_code 30 = .ok (.iconst 1, 1) := by decide +kernel
theorem d_Line_add_31 : decode prog_4_method_4_code 31 = .ok (.isub, 1) := by decide +kernel
theorem d_Line_add_32 : decode prog_4_method_4_code 32 = .ok (.ishl, 1) := by decide +kernel
theorem d_Line_add_33 : decode prog_4_method_4_code 33 = .ok (.ior, 1) := by decide +kernel
theorem d_Line_add_34 : decode prog_4_method_4_code 34 = .ok (.putfield 19, 3) := by decide +kernel
theorem d_Line_add_37 : decode prog_4_method_4_code 37 = .ok (.aload_n 0, 1) := by decide +kernel
theorem d_Line_add_38 : decode prog_4_method_4_code 38 = .ok (.getfield 9, 3) := by decide +kernel
theorem d_Line_add_41 : decode prog_4_method_4_code 41 = .ok (.aload_n 0, 1) := by decide +kernel
theorem d_Line_add_42 : decode prog_4_method_4_code 42 = .ok (.getfield 15, 3) := by decide +kernel
theorem d_Line_add_45 : decode prog_4_method_4_code 45 = .ok (.iload_n 1, 1) := by decide +kernel
theorem d_Line_add_46 : decode prog_4_method_4_code 46 = .ok (.iastore, 1) := by decide +kernel
theorem d_Line_add_47 : decode prog_4_method_4_code 47 = .ok (.aload_n 0, 1) := by decide +kernel
theorem d_Line_add_48 : decode prog_4_method_4_code 48 = .ok (.dup, 1) := by decide +kernel
theorem d_Line_add_49 : decode prog_4_method_4_code 49 = .ok (.getfield 15, 3) := by decide +kernel
theorem d_Line_add_52 : decode prog_4_method_4_code 52 = .ok (.iconst 1, 1) := by decide +kernel
theorem d_Line_add_53 : decode prog_4_method_4_code 53 = .ok (.iadd, 1) := by decide +kernel
theorem d_Line_add_54 : decode prog_4_method_4_code 54 = .ok (.putfield 15, 3) := by decide +kernel
theorem d_Line_add_57 : decode prog_4_method_4_code 57 = .ok (.return_, 1) := by decide +kernel
def f_X_isLetter (a0 : Int32) : Option (Int32) :=
  fw_nm (
    if a0 < 0 then
      0
    else
      if 12 ≤ a0 then
        0
      else
        1) fun (j1 : Int32) =>
  (fw_bz j1).bind fun b15 =>
  some b15
set_option maxHeartbeats 4000000 in
set_option maxRecDepth 100000 in
theorem c_X_isLetter {a0 : Int32} {μ : fw_M} {r : Int32} (h : f_X_isLetter a0 = some r) : fw_Con Y_X_isLetter fw_X 1 [.int a0] (some r) μ μ := by
  refine fw_con (by decide) (Nat.le_of_ble_eq_true rfl) ?_
  rw [f_X_isLetter] at h
  show fw_R "FewTypes" prog_1_method_34_code 1 (some .boolean) fw_X 1 (some r) μ 0 [(0, .int a0)] [] μ
  refine fw_iload_n (pc := 0) d_X_isLetter_0 0 rfl rfl ?_
  obtain ⟨j1, w1, h⟩ := fw_ne h
  have hJ1 : fw_R "FewTypes" prog_1_method_34_code 1 (some .boolean) fw_X 1 (some r) μ 15 [] [.int j1] μ := by
    obtain ⟨b15, e15, h⟩ := fw_be h
    obtain rfl := Option.some.inj h
    exact fw_zret (pc := 15) d_X_isLetter_15 rfl e15
  clear h
  have h := w1
  clear w1
  refine fw_if_lt (pc := 1) (tgt := 14) d_X_isLetter_1 rfl (fun hc => ?_) (fun hc => ?_)
  · have h := h.trans (if_pos hc)
    refine fw_iconst (pc := 14) d_X_isLetter_14 fw_ic0 ?_
    subst h
    exact fw_sub [] rfl hJ1
  · have h := h.trans (if_neg hc)
    refine fw_iload_n (pc := 4) d_X_isLetter_4 0 rfl rfl ?_
    refine fw_bipush (pc := 5) d_X_isLetter_5 fw_bp12 ?_
    refine fw_icmp_ge (pc := 7) (tgt := 14) d_X_isLetter_7 rfl (fun hc => ?_) (fun hc => ?_)
    · have h := h.trans (if_pos hc)
      refine fw_iconst (pc := 14) d_X_isLetter_14 fw_ic0 ?_
      subst h
      exact fw_sub [] rfl hJ1
    · have h := h.trans (if_neg hc)
      refine fw_iconst (pc := 10) d_X_isLetter_10 fw_ic1 ?_
      refine fw_goto (pc := 11) (tgt := 15) d_X_isLetter_11 rfl ?_
      subst h
      exact fw_sub [] rfl hJ1
def f_Case_fits (a0 : Int32) (a1 : Int32) (a2 : Int32) : Option (Int32) :=
  (f_X_isLetter a1).bind fun (p1 : Int32) =>
  if p1 = 0 then
    some 0
  else
    if a0 = 0 then
      fw_nm (
        if a2 = 0 then
          1
        else
          0) fun (j41 : Int32) =>
      (fw_bz j41).bind fun b49 =>
      some b49
    else
      if a0 = 1 then
        (f_X_isLetter a2).bind fun (p51 : Int32) =>
        fw_nm (
          if p51 = 0 then
            0
          else
            if a2 = a1 then
              0
            else
              1) fun (j54 : Int32) =>
        (fw_bz j54).bind fun b67 =>
        some b67
      else
        if a0 = 2 then
          (f_X_isLetter a2).bind fun (p69 : Int32) =>
          (fw_bz p69).bind fun b72 =>
          some b72
        else
          if a0 = 3 then
            fw_nm (
              if a2 < 1 then
                0
              else
                if 9 < a2 then
                  0
                else
                  1) fun (j75 : Int32) =>
            (fw_bz j75).bind fun b89 =>
            some b89
          else
            some 0
set_option maxHeartbeats 4000000 in
set_option maxRecDepth 100000 in
theorem c_Case_fits {a0 : Int32} {a1 : Int32} {a2 : Int32} {μ : fw_M} {r : Int32} (h : f_Case_fits a0 a1 a2 = some r) : fw_Con Y_Case_fits fw_X 2 [.int a0, .int a1, .int a2] (some r) μ μ := by
  refine fw_con (by decide) (Nat.le_of_ble_eq_true rfl) ?_
  rw [f_Case_fits] at h
  show fw_R "FewTypes$Case" prog_2_method_2_code 3 (some .boolean) fw_X 2 (some r) μ 0 [(0, .int a0), (1, .int a1), (2, .int a2)] [] μ
  refine fw_iload_n (pc := 0) d_Case_fits_0 1 rfl rfl ?_
  obtain ⟨p1, e1, h⟩ := fw_be h
  refine fw_callNi (pc := 1) d_Case_fits_1 ms_Case_25 (c_X_isLetter e1) (by decide) rfl rfl (Nat.le_of_ble_eq_true rfl) ?_
  refine fw_if_ne (pc := 4) (tgt := 9) d_Case_fits_4 rfl (fun hc => ?_) (fun hc => ?_)
  · have h := fw_it hc h
    refine fw_iconst (pc := 7) d_Case_fits_7 fw_ic0 ?_
    obtain rfl := Option.some.inj h
    exact fw_zret (pc := 8) d_Case_fits_8 rfl fw_bz0
  · have h := fw_if hc h
    refine fw_iload_n (pc := 9) d_Case_fits_9 0 rfl rfl ?_
    by_cases hc0 : a0 = 0
    · have h := fw_it hc0 h
      refine fw_top hc0.symm ?_
      refine fw_tin (pc := 10) (off := 30) (tgt := 40) d_Case_fits_10 (by decide) (by decide) (by decide) rfl ?_
      refine fw_iload_n (pc := 40) d_Case_fits_40 2 rfl rfl ?_
      obtain ⟨j41, w41, h⟩ := fw_ne h
      have hJ41 : fw_R "FewTypes$Case" prog_2_method_2_code 3 (some .boolean) fw_X 2 (some r) μ 49 [] [.int j41] μ := by
        obtain ⟨b49, e49, h⟩ := fw_be h
        obtain rfl := Option.some.inj h
        exact fw_zret (pc := 49) d_Case_fits_49 rfl e49
      clear h
      have h := w41
      clear w41
      refine fw_if_ne (pc := 41) (tgt := 48) d_Case_fits_41 rfl (fun hc => ?_) (fun hc => ?_)
      · have h := h.trans (if_pos hc)
        refine fw_iconst (pc := 44) d_Case_fits_44 fw_ic1 ?_
        refine fw_goto (pc := 45) (tgt := 49) d_Case_fits_45 rfl ?_
        subst h
        exact fw_sub [] rfl hJ41
      · have h := h.trans (if_neg hc)
        refine fw_iconst (pc := 48) d_Case_fits_48 fw_ic0 ?_
        subst h
        exact fw_sub [] rfl hJ41
    · have h := fw_if hc0 h
      by_cases hc1 : a0 = 1
      · have h := fw_it hc1 h
        refine fw_top hc1.symm ?_
        refine fw_tin (pc := 10) (off := 40) (tgt := 50) d_Case_fits_10 (by decide) (by decide) (by decide) rfl ?_
        refine fw_iload_n (pc := 50) d_Case_fits_50 2 rfl rfl ?_
        obtain ⟨p51, e51, h⟩ := fw_be h
        refine fw_callNi (pc := 51) d_Case_fits_51 ms_Case_25 (c_X_isLetter e51) (by decide) rfl rfl (Nat.le_of_ble_eq_true rfl) ?_
        obtain ⟨j54, w54, h⟩ := fw_ne h
        have hJ54 : fw_R "FewTypes$Case" prog_2_method_2_code 3 (some .boolean) fw_X 2 (some r) μ 67 [] [.int j54] μ := by
          obtain ⟨b67, e67, h⟩ := fw_be h
          obtain rfl := Option.some.inj h
          exact fw_zret (pc := 67) d_Case_fits_67 rfl e67
        clear h
        have h := w54
        clear w54
        refine fw_if_eq (pc := 54) (tgt := 66) d_Case_fits_54 rfl (fun hc => ?_) (fun hc => ?_)
        · have h := h.trans (if_pos hc)
          refine fw_iconst (pc := 66) d_Case_fits_66 fw_ic0 ?_
          subst h
          exact fw_sub [] rfl hJ54
        · have h := h.trans (if_neg hc)
          refine fw_iload_n (pc := 57) d_Case_fits_57 2 rfl rfl ?_
          refine fw_iload_n (pc := 58) d_Case_fits_58 1 rfl rfl ?_
          refine fw_icmp_eq (pc := 59) (tgt := 66) d_Case_fits_59 rfl (fun hc => ?_) (fun hc => ?_)
          · have h := h.trans (if_pos hc)
            refine fw_iconst (pc := 66) d_Case_fits_66 fw_ic0 ?_
            subst h
            exact fw_sub [] rfl hJ54
          · have h := h.trans (if_neg hc)
            refine fw_iconst (pc := 62) d_Case_fits_62 fw_ic1 ?_
            refine fw_goto (pc := 63) (tgt := 67) d_Case_fits_63 rfl ?_
            subst h
            exact fw_sub [] rfl hJ54
      · have h := fw_if hc1 h
        by_cases hc2 : a0 = 2
        · have h := fw_it hc2 h
          refine fw_top hc2.symm ?_
          refine fw_tin (pc := 10) (off := 58) (tgt := 68) d_Case_fits_10 (by decide) (by decide) (by decide) rfl ?_
          refine fw_iload_n (pc := 68) d_Case_fits_68 2 rfl rfl ?_
          obtain ⟨p69, e69, h⟩ := fw_be h
          refine fw_callNi (pc := 69) d_Case_fits_69 ms_Case_25 (c_X_isLetter e69) (by decide) rfl rfl (Nat.le_of_ble_eq_true rfl) ?_
          obtain ⟨b72, e72, h⟩ := fw_be h
          obtain rfl := Option.some.inj h
          exact fw_zret (pc := 72) d_Case_fits_72 rfl e72
        · have h := fw_if hc2 h
          by_cases hc3 : a0 = 3
          · have h := fw_it hc3 h
            refine fw_top hc3.symm ?_
            refine fw_tin (pc := 10) (off := 63) (tgt := 73) d_Case_fits_10 (by decide) (by decide) (by decide) rfl ?_
            refine fw_iload_n (pc := 73) d_Case_fits_73 2 rfl rfl ?_
            refine fw_iconst (pc := 74) d_Case_fits_74 fw_ic1 ?_
            obtain ⟨j75, w75, h⟩ := fw_ne h
            have hJ75 : fw_R "FewTypes$Case" prog_2_method_2_code 3 (some .boolean) fw_X 2 (some r) μ 89 [] [.int j75] μ := by
              obtain ⟨b89, e89, h⟩ := fw_be h
              obtain rfl := Option.some.inj h
              exact fw_zret (pc := 89) d_Case_fits_89 rfl e89
            clear h
            have h := w75
            clear w75
            refine fw_icmp_lt (pc := 75) (tgt := 88) d_Case_fits_75 rfl (fun hc => ?_) (fun hc => ?_)
            · have h := h.trans (if_pos hc)
              refine fw_iconst (pc := 88) d_Case_fits_88 fw_ic0 ?_
              subst h
              exact fw_sub [] rfl hJ75
            · have h := h.trans (if_neg hc)
              refine fw_iload_n (pc := 78) d_Case_fits_78 2 rfl rfl ?_
              refine fw_bipush (pc := 79) d_Case_fits_79 fw_bp9 ?_
              refine fw_icmp_gt (pc := 81) (tgt := 88) d_Case_fits_81 rfl (fun hc => ?_) (fun hc => ?_)
              · have h := h.trans (if_pos hc)
                refine fw_iconst (pc := 88) d_Case_fits_88 fw_ic0 ?_
                subst h
                exact fw_sub [] rfl hJ75
              · have h := h.trans (if_neg hc)
                refine fw_iconst (pc := 84) d_Case_fits_84 fw_ic1 ?_
                refine fw_goto (pc := 85) (tgt := 89) d_Case_fits_85 rfl ?_
                subst h
                exact fw_sub [] rfl hJ75
          · have h := fw_if hc3 h
            refine fw_tout (pc := 10) (tgt := 90) d_Case_fits_10 ?_ rfl ?_
            · have g0 := fw_ti hc0
              have g1 := fw_ti hc1
              have g2 := fw_ti hc2
              have g3 := fw_ti hc3
              revert g0 g1 g2 g3
              exact fw_sw0_3
            · refine fw_iconst (pc := 90) d_Case_fits_90 fw_ic0 ?_
              obtain rfl := Option.some.inj h
              exact fw_zret (pc := 91) d_Case_fits_91 rfl fw_bz0
def f_Case_add_2 (a1 : Int32) (a2 : Int32) (a3 : Int32) (μ : fw_M) : Option (fw_M) :=
  Option.bind (
    if 10 ≤ (μ.1 2 3) then
      some μ
    else
      (fw_si 10 μ 3 (μ.1 2 3) a1).bind fun μ18 =>
      (fw_si 10 μ18 4 (μ18.1 2 3) a2).bind fun μ28 =>
      (fw_si 10 μ28 5 (μ28.1 2 3) a3).bind fun μ38 =>
      fw_nm (fw_wr μ38 2 3 ((μ38.1 2 3) + 1)) fun (μ46 : fw_M) =>
      some μ46) fun (j6 : fw_M) =>
  some j6
set_option maxHeartbeats 4000000 in
set_option maxRecDepth 100000 in
theorem c_Case_add_2 {a1 : Int32} {a2 : Int32} {a3 : Int32} {μ : fw_M} {r : fw_M} (h : f_Case_add_2 a1 a2 a3 μ = some r) : fw_Con Y_Case_add fw_X 1 [.ref 2, .int a1, .int a2, .int a3] none μ r := by
  refine fw_con (by decide) (Nat.le_of_ble_eq_true rfl) ?_
  rw [f_Case_add_2] at h
  show fw_R "FewTypes$Case" prog_2_method_4_code 4 none fw_X 1 none r 0 [(0, .ref 2), (1, .int a1), (2, .int a2), (3, .int a3)] [] μ
  refine fw_aload_n (pc := 0) d_Case_add_0 0 rfl rfl ?_
  refine fw_getI (pc := 1) d_Case_add_1 fl_Case_21 fw_X2 rfl ?_
  refine fw_bipush (pc := 4) d_Case_add_4 fw_bp10 ?_
  obtain ⟨j6, w6, h⟩ := fw_be h
  have hJ6 : fw_R "FewTypes$Case" prog_2_method_4_code 4 none fw_X 1 none r 49 [] [] j6 := by
    obtain rfl := Option.some.inj h
    exact fw_vret (pc := 49) d_Case_add_49 rfl
  clear h
  have h := w6
  clear w6
  refine fw_icmp_ge (pc := 6) (tgt := 49) d_Case_add_6 rfl (fun hc => ?_) (fun hc => ?_)
  · have h := fw_it hc h
    obtain rfl := Option.some.inj h
    exact fw_sub [] rfl hJ6
  · have h := fw_if hc h
    refine fw_aload_n (pc := 9) d_Case_add_9 0 rfl rfl ?_
    refine fw_getR (pc := 10) d_Case_add_10 fl_Case_9 fw_X2 rfl ?_
    refine fw_aload_n (pc := 13) d_Case_add_13 0 rfl rfl ?_
    refine fw_getI (pc := 14) d_Case_add_14 fl_Case_21 fw_X2 rfl ?_
    refine fw_iload_n (pc := 17) d_Case_add_17 1 rfl rfl ?_
    obtain ⟨μ18, e18, h⟩ := fw_be h
    refine fw_iast (pc := 18) d_Case_add_18 fw_X3 e18 ?_
    refine fw_aload_n (pc := 19) d_Case_add_19 0 rfl rfl ?_
    refine fw_getR (pc := 20) d_Case_add_20 fl_Case_15 fw_X2 rfl ?_
    refine fw_aload_n (pc := 23) d_Case_add_23 0 rfl rfl ?_
    refine fw_getI (pc := 24) d_Case_add_24 fl_Case_21 fw_X2 rfl ?_
    refine fw_iload_n (pc := 27) d_Case_add_27 2 rfl rfl ?_
    obtain ⟨μ28, e28, h⟩ := fw_be h
    refine fw_iast (pc := 28) d_Case_add_28 fw_X4 e28 ?_
    refine fw_aload_n (pc := 29) d_Case_add_29 0 rfl rfl ?_
    refine fw_getR (pc := 30) d_Case_add_30 fl_Case_18 fw_X2 rfl ?_
    refine fw_aload_n (pc := 33) d_Case_add_33 0 rfl rfl ?_
    refine fw_getI (pc := 34) d_Case_add_34 fl_Case_21 fw_X2 rfl ?_
    refine fw_iload_n (pc := 37) d_Case_add_37 3 rfl rfl ?_
    obtain ⟨μ38, e38, h⟩ := fw_be h
    refine fw_iast (pc := 38) d_Case_add_38 fw_X5 e38 ?_
    refine fw_aload_n (pc := 39) d_Case_add_39 0 rfl rfl ?_
    refine fw_dup (pc := 40) d_Case_add_40 rfl ?_
    refine fw_getI (pc := 41) d_Case_add_41 fl_Case_21 fw_X2 rfl ?_
    refine fw_iconst (pc := 44) d_Case_add_44 fw_ic1 ?_
    refine fw_iadd (pc := 45) d_Case_add_45 ?_
    obtain ⟨μ46, e46, h⟩ := fw_ne h
    refine fw_putI (pc := 46) d_Case_add_46 fp_Case_21 fw_X2 rfl (fw_mem e46 ?_)
    obtain rfl := Option.some.inj h
    exact fw_sub [] rfl hJ6
def f_Arrays_fill_L5 (k0 : Nat) (n0 : Nat) (a1 : Int32) (v4 : Int32) : Int32 × fw_M → Option ((Int32 × fw_M) ⊕ (fw_M))
  | (x2_5, μ5) =>
  if v4 ≤ x2_5 then
    some (.inr μ5)
  else
    (fw_si n0 μ5 k0 x2_5 a1).bind fun μ13 =>
    fw_nm (x2_5 + 1) fun (v14 : Int32) =>
    some (.inl (v14, μ13))
def f_Arrays_fill (k0 : Nat) (n0 : Nat) (a1 : Int32) (μ : fw_M) : Option (fw_M) :=
  if fw_X[k0]? = some (.inr (0, n0, [])) then
    fw_nm ((nI n0)) fun (v4 : Int32) =>
    (fw_wh (f_Arrays_fill_L5 k0 n0 a1 v4) fw_N (0, μ)).bind fun (e5x : fw_M) =>
    some e5x
  else none
set_option maxHeartbeats 4000000 in
set_option maxRecDepth 100000 in
theorem c_Arrays_fill {k0 : Nat} {n0 : Nat} {a1 : Int32} {μ : fw_M} {r : fw_M} (h : f_Arrays_fill k0 n0 a1 μ = some r) : fw_Con Y_Arrays_fill fw_X 1 [.ref k0, .int a1] none μ r := by
  refine fw_con (by decide) (Nat.le_of_ble_eq_true rfl) ?_
  rw [f_Arrays_fill] at h
  show fw_R "java/util/Arrays" prog_15_method_103_code 4 none fw_X 1 none r 0 [(0, .ref k0), (1, .int a1)] [] μ
  obtain ⟨g0, h⟩ := fw_gu h
  refine fw_iconst (pc := 0) d_Arrays_fill_0 fw_ic0 ?_
  refine fw_istore_n (pc := 1) (lv1 := [(2, .int 0), (0, .ref k0), (1, .int a1)]) d_Arrays_fill_1 rfl (by decide) rfl ?_
  refine fw_aload_n (pc := 2) d_Arrays_fill_2 1 rfl rfl ?_
  refine fw_alen (pc := 3) d_Arrays_fill_3 g0 (ty := fun _ => .int) (fun _ => rfl) ?_
  obtain ⟨v4, e4, h⟩ := fw_ne h
  refine fw_top e4 ?_
  refine fw_istore_n (pc := 4) (lv1 := [(3, .int v4), (2, .int 0), (0, .ref k0), (1, .int a1)]) d_Arrays_fill_4 rfl (by decide) rfl ?_
  obtain ⟨e5x, w5, h⟩ := fw_be h
  have hE5 : fw_R "java/util/Arrays" prog_15_method_103_code 4 none fw_X 1 none r 20 [] [] e5x := by
    obtain rfl := Option.some.inj h
    exact fw_vret (pc := 20) d_Arrays_fill_20 rfl
  clear h
  exact fw_sub [2, 3, 1, 0] rfl (fw_we (e := e5x) (fun (s : Int32 × fw_M) => fw_R "java/util/Arrays" prog_15_method_103_code 4 none fw_X 1 none r 5 [(0, .ref k0), (1, .int a1), (2, .int s.1), (3, .int v4)] [] s.2) (by
    intro s x h hl hr
    obtain ⟨x2_5, μ5⟩ := s
    rw [f_Arrays_fill_L5] at h
    show fw_R "java/util/Arrays" prog_15_method_103_code 4 none fw_X 1 none r 5 [(0, .ref k0), (1, .int a1), (2, .int x2_5), (3, .int v4)] [] μ5
    refine fw_iload_n (pc := 5) d_Arrays_fill_5 2 rfl rfl ?_
    refine fw_iload_n (pc := 6) d_Arrays_fill_6 3 rfl rfl ?_
    refine fw_icmp_ge (pc := 7) (tgt := 20) d_Arrays_fill_7 rfl (fun hc => ?_) (fun hc => ?_)
    · have h := fw_it hc h
      obtain rfl := Option.some.inj h
      have he := hr _ rfl
      subst he
      exact fw_sub [] rfl hE5
    · have h := fw_if hc h
      refine fw_aload_n (pc := 10) d_Arrays_fill_10 0 rfl rfl ?_
      refine fw_iload_n (pc := 11) d_Arrays_fill_11 2 rfl rfl ?_
      refine fw_iload_n (pc := 12) d_Arrays_fill_12 1 rfl rfl ?_
      obtain ⟨μ13, e13, h⟩ := fw_be h
      refine fw_iast (pc := 13) d_Arrays_fill_13 g0 e13 ?_
      obtain ⟨v14, e14, h⟩ := fw_ne h
      refine fw_iinc2 (pc := 14) (j := 2) (lv1 := [(2, .int v14), (0, .ref k0), (1, .int a1), (3, .int v4)]) d_Arrays_fill_14 rfl fw_ic1 e14 (by decide) rfl ?_
      refine fw_goto (pc := 17) (tgt := 5) d_Arrays_fill_17 rfl ?_
      obtain rfl := Option.some.inj h
      exact fw_sub [1, 2, 0, 3] rfl (hl _ rfl)
    ) _ _ w5)
def f_X_forgetPulls  (μ : fw_M) : Option (fw_M) :=
  (f_Arrays_fill 81 9 0 μ).bind fun (p5 : fw_M) =>
  some p5
set_option maxHeartbeats 4000000 in
set_option maxRecDepth 100000 in
theorem c_X_forgetPulls  {μ : fw_M} {r : fw_M} (h : f_X_forgetPulls  μ = some r) : fw_Con Y_X_forgetPulls fw_X 2 [.ref 0] none μ r := by
  refine fw_con (by decide) (Nat.le_of_ble_eq_true rfl) ?_
  rw [f_X_forgetPulls] at h
  show fw_R "FewTypes" prog_1_method_42_code 1 none fw_X 2 none r 0 [(0, .ref 0)] [] μ
  refine fw_aload_n (pc := 0) d_X_forgetPulls_0 0 rfl rfl ?_
  refine fw_getR (pc := 1) d_X_forgetPulls_1 fl_X_58 fw_X0 rfl ?_
  refine fw_iconst (pc := 4) d_X_forgetPulls_4 fw_ic0 ?_
  obtain ⟨p5, e5, h⟩ := fw_be h
  refine fw_callSv (pc := 5) d_X_forgetPulls_5 ms_X_304 (c_Arrays_fill e5) (by decide) rfl rfl (Nat.le_of_ble_eq_true rfl) ?_
  obtain rfl := Option.some.inj h
  exact fw_vret (pc := 8) d_X_forgetPulls_8 rfl
def f_X_cast (a1 : Int32) (a2 : Int32) (a3 : Int32) (μ : fw_M) : Option (Int32 × fw_M) :=
  (f_Case_fits a1 a2 a3).bind fun (p3 : Int32) =>
  if p3 = 0 then
    some ((-1), μ)
  else
    if (μ.1 2 3) < 10 then
      (f_Case_add_2 a1 a2 a3 μ).bind fun (p39 : fw_M) =>
      (f_X_forgetPulls p39).bind fun (p43 : fw_M) =>
      some (((p43.1 2 3) - 1), p43)
    else
      some ((-3), μ)
set_option maxHeartbeats 4000000 in
set_option maxRecDepth 100000 in
theorem c_X_cast {a1 : Int32} {a2 : Int32} {a3 : Int32} {μ : fw_M} {r : Int32 × fw_M} (h : f_X_cast a1 a2 a3 μ = some r) : fw_Con Y_X_cast fw_X 3 [.ref 0, .int a1, .int a2, .int a3] (some r.1) μ r.2 := by
  refine fw_con (by decide) (Nat.le_of_ble_eq_true rfl) ?_
  rw [f_X_cast] at h
  show fw_R "FewTypes" prog_1_method_2_code 4 (some .int) fw_X 3 (some r.1) r.2 0 [(0, .ref 0), (1, .int a1), (2, .int a2), (3, .int a3)] [] μ
  refine fw_iload_n (pc := 0) d_X_cast_0 1 rfl rfl ?_
  refine fw_iload_n (pc := 1) d_X_cast_1 2 rfl rfl ?_
  refine fw_iload_n (pc := 2) d_X_cast_2 3 rfl rfl ?_
  obtain ⟨p3, e3, h⟩ := fw_be h
  refine fw_callSi (pc := 3) d_X_cast_3 ms_X_78 (c_Case_fits e3) (by decide) rfl rfl (Nat.le_of_ble_eq_true rfl) ?_
  refine fw_if_ne (pc := 6) (tgt := 11) d_X_cast_6 rfl (fun hc => ?_) (fun hc => ?_)
  · have h := fw_it hc h
    refine fw_iconst (pc := 9) d_X_cast_9 fw_icm1 ?_
    obtain rfl := Option.some.inj h
    exact fw_iret (pc := 10) d_X_cast_10 rfl
  · have h := fw_if hc h
    refine fw_aload_n (pc := 11) d_X_cast_11 0 rfl rfl ?_
    refine fw_getR (pc := 12) d_X_cast_12 fl_X_12 fw_X0 rfl ?_
    refine fw_getR (pc := 15) d_X_cast_15 fl_X_82 fw_X1 rfl ?_
    refine fw_getI (pc := 18) d_X_cast_18 fl_X_85 fw_X2 rfl ?_
    refine fw_bipush (pc := 21) d_X_cast_21 fw_bp10 ?_
    refine fw_icmp_lt (pc := 23) (tgt := 29) d_X_cast_23 rfl (fun hc => ?_) (fun hc => ?_)
    · have h := fw_it hc h
      refine fw_aload_n (pc := 29) d_X_cast_29 0 rfl rfl ?_
      refine fw_getR (pc := 30) d_X_cast_30 fl_X_12 fw_X0 rfl ?_
      refine fw_getR (pc := 33) d_X_cast_33 fl_X_82 fw_X1 rfl ?_
      refine fw_iload_n (pc := 36) d_X_cast_36 1 rfl rfl ?_
      refine fw_iload_n (pc := 37) d_X_cast_37 2 rfl rfl ?_
      refine fw_iload_n (pc := 38) d_X_cast_38 3 rfl rfl ?_
      obtain ⟨p39, e39, h⟩ := fw_be h
      refine fw_callVv (pc := 39) d_X_cast_39 mv_X_89 fw_X2 (c_Case_add_2 e39) (by decide) rfl rfl (Nat.le_of_ble_eq_true rfl) ?_
      refine fw_aload_n (pc := 42) d_X_cast_42 0 rfl rfl ?_
      obtain ⟨p43, e43, h⟩ := fw_be h
      refine fw_callVv (pc := 43) d_X_cast_43 mv_X_93 fw_X0 (c_X_forgetPulls e43) (by decide) rfl rfl (Nat.le_of_ble_eq_true rfl) ?_
      refine fw_aload_n (pc := 46) d_X_cast_46 0 rfl rfl ?_
      refine fw_getR (pc := 47) d_X_cast_47 fl_X_12 fw_X0 rfl ?_
      refine fw_getR (pc := 50) d_X_cast_50 fl_X_82 fw_X1 rfl ?_
      refine fw_getI (pc := 53) d_X_cast_53 fl_X_85 fw_X2 rfl ?_
      refine fw_iconst (pc := 56) d_X_cast_56 fw_ic1 ?_
      refine fw_isub (pc := 57) d_X_cast_57 ?_
      obtain rfl := Option.some.inj h
      exact fw_iret (pc := 58) d_X_cast_58 rfl
    · have h := fw_if hc h
      refine fw_bipush (pc := 26) d_X_cast_26 fw_bpm3 ?_
      obtain rfl := Option.some.inj h
      exact fw_iret (pc := 28) d_X_cast_28 rfl
def f_Case_has_2 (a1 : Int32) (μ : fw_M) : Option (Int32) :=
  fw_nm (
    if a1 < 0 then
      0
    else
      if (μ.1 2 3) ≤ a1 then
        0
      else
        1) fun (j1 : Int32) =>
  (fw_bz j1).bind fun b17 =>
  some b17
set_option maxHeartbeats 4000000 in
set_option maxRecDepth 100000 in
theorem c_Case_has_2 {a1 : Int32} {μ : fw_M} {r : Int32} (h : f_Case_has_2 a1 μ = some r) : fw_Con Y_Case_has fw_X 1 [.ref 2, .int a1] (some r) μ μ := by
  refine fw_con (by decide) (Nat.le_of_ble_eq_true rfl) ?_
  rw [f_Case_has_2] at h
  show fw_R "FewTypes$Case" prog_2_method_3_code 2 (some .boolean) fw_X 1 (some r) μ 0 [(0, .ref 2), (1, .int a1)] [] μ
  refine fw_iload_n (pc := 0) d_Case_has_0 1 rfl rfl ?_
  obtain ⟨j1, w1, h⟩ := fw_ne h
  have hJ1 : fw_R "FewTypes$Case" prog_2_method_3_code 2 (some .boolean) fw_X 1 (some r) μ 17 [] [.int j1] μ := by
    obtain ⟨b17, e17, h⟩ := fw_be h
    obtain rfl := Option.some.inj h
    exact fw_zret (pc := 17) d_Case_has_17 rfl e17
  clear h
  have h := w1
  clear w1
  refine fw_if_lt (pc := 1) (tgt := 16) d_Case_has_1 rfl (fun hc => ?_) (fun hc => ?_)
  · have h := h.trans (if_pos hc)
    refine fw_iconst (pc := 16) d_Case_has_16 fw_ic0 ?_
    subst h
    exact fw_sub [] rfl hJ1
  · have h := h.trans (if_neg hc)
    refine fw_iload_n (pc := 4) d_Case_has_4 1 rfl rfl ?_
    refine fw_aload_n (pc := 5) d_Case_has_5 0 rfl rfl ?_
    refine fw_getI (pc := 6) d_Case_has_6 fl_Case_21 fw_X2 rfl ?_
    refine fw_icmp_ge (pc := 9) (tgt := 16) d_Case_has_9 rfl (fun hc => ?_) (fun hc => ?_)
    · have h := h.trans (if_pos hc)
      refine fw_iconst (pc := 16) d_Case_has_16 fw_ic0 ?_
      subst h
      exact fw_sub [] rfl hJ1
    · have h := h.trans (if_neg hc)
      refine fw_iconst (pc := 12) d_Case_has_12 fw_ic1 ?_
      refine fw_goto (pc := 13) (tgt := 17) d_Case_has_13 rfl ?_
      subst h
      exact fw_sub [] rfl hJ1
def f_X_told (a1 : Int32) (a2 : Int32) (μ : fw_M) : Option (Int32) :=
  (f_Case_has_2 a1 μ).bind fun (p8 : Int32) =>
  if p8 = 0 then
    some (-1)
  else
    if a2 = 0 then
      (fw_rd 10 (μ.1 3) a1).bind fun v55 =>
      some v55
    else
      if a2 = 1 then
        (fw_rd 10 (μ.1 4) a1).bind fun v68 =>
        some v68
      else
        if a2 = 2 then
          (fw_rd 10 (μ.1 5) a1).bind fun v81 =>
          some v81
        else
          some (-1)
set_option maxHeartbeats 4000000 in
set_option maxRecDepth 100000 in
theorem c_X_told {a1 : Int32} {a2 : Int32} {μ : fw_M} {r : Int32} (h : f_X_told a1 a2 μ = some r) : fw_Con Y_X_told fw_X 2 [.ref 0, .int a1, .int a2] (some r) μ μ := by
  refine fw_con (by decide) (Nat.le_of_ble_eq_true rfl) ?_
  rw [f_X_told] at h
  show fw_R "FewTypes" prog_1_method_3_code 3 (some .int) fw_X 2 (some r) μ 0 [(0, .ref 0), (1, .int a1), (2, .int a2)] [] μ
  refine fw_aload_n (pc := 0) d_X_told_0 0 rfl rfl ?_
  refine fw_getR (pc := 1) d_X_told_1 fl_X_12 fw_X0 rfl ?_
  refine fw_getR (pc := 4) d_X_told_4 fl_X_82 fw_X1 rfl ?_
  refine fw_iload_n (pc := 7) d_X_told_7 1 rfl rfl ?_
  obtain ⟨p8, e8, h⟩ := fw_be h
  refine fw_callVi (pc := 8) d_X_told_8 mv_X_96 fw_X2 (c_Case_has_2 e8) (by decide) rfl rfl (Nat.le_of_ble_eq_true rfl) ?_
  refine fw_if_ne (pc := 11) (tgt := 16) d_X_told_11 rfl (fun hc => ?_) (fun hc => ?_)
  · have h := fw_it hc h
    refine fw_iconst (pc := 14) d_X_told_14 fw_icm1 ?_
    obtain rfl := Option.some.inj h
    exact fw_iret (pc := 15) d_X_told_15 rfl
  · have h := fw_if hc h
    refine fw_iload_n (pc := 16) d_X_told_16 2 rfl rfl ?_
    by_cases hc0 : a2 = 0
    · have h := fw_it hc0 h
      refine fw_top hc0.symm ?_
      refine fw_tin (pc := 17) (off := 27) (tgt := 44) d_X_told_17 (by decide) (by decide) (by decide) rfl ?_
      refine fw_aload_n (pc := 44) d_X_told_44 0 rfl rfl ?_
      refine fw_getR (pc := 45) d_X_told_45 fl_X_12 fw_X0 rfl ?_
      refine fw_getR (pc := 48) d_X_told_48 fl_X_82 fw_X1 rfl ?_
      refine fw_getR (pc := 51) d_X_told_51 fl_X_100 fw_X2 rfl ?_
      refine fw_iload_n (pc := 54) d_X_told_54 1 rfl rfl ?_
      obtain ⟨v55, e55, h⟩ := fw_be h
      refine fw_iald (pc := 55) d_X_told_55 fw_X3 e55 ?_
      obtain rfl := Option.some.inj h
      exact fw_iret (pc := 56) d_X_told_56 rfl
    · have h := fw_if hc0 h
      by_cases hc1 : a2 = 1
      · have h := fw_it hc1 h
        refine fw_top hc1.symm ?_
        refine fw_tin (pc := 17) (off := 40) (tgt := 57) d_X_told_17 (by decide) (by decide) (by decide) rfl ?_
        refine fw_aload_n (pc := 57) d_X_told_57 0 rfl rfl ?_
        refine fw_getR (pc := 58) d_X_told_58 fl_X_12 fw_X0 rfl ?_
        refine fw_getR (pc := 61) d_X_told_61 fl_X_82 fw_X1 rfl ?_
        refine fw_getR (pc := 64) d_X_told_64 fl_X_103 fw_X2 rfl ?_
        refine fw_iload_n (pc := 67) d_X_told_67 1 rfl rfl ?_
        obtain ⟨v68, e68, h⟩ := fw_be h
        refine fw_iald (pc := 68) d_X_told_68 fw_X4 e68 ?_
        obtain rfl := Option.some.inj h
        exact fw_iret (pc := 69) d_X_told_69 rfl
      · have h := fw_if hc1 h
        by_cases hc2 : a2 = 2
        · have h := fw_it hc2 h
          refine fw_top hc2.symm ?_
          refine fw_tin (pc := 17) (off := 53) (tgt := 70) d_X_told_17 (by decide) (by decide) (by decide) rfl ?_
          refine fw_aload_n (pc := 70) d_X_told_70 0 rfl rfl ?_
          refine fw_getR (pc := 71) d_X_told_71 fl_X_12 fw_X0 rfl ?_
          refine fw_getR (pc := 74) d_X_told_74 fl_X_82 fw_X1 rfl ?_
          refine fw_getR (pc := 77) d_X_told_77 fl_X_106 fw_X2 rfl ?_
          refine fw_iload_n (pc := 80) d_X_told_80 1 rfl rfl ?_
          obtain ⟨v81, e81, h⟩ := fw_be h
          refine fw_iald (pc := 81) d_X_told_81 fw_X5 e81 ?_
          obtain rfl := Option.some.inj h
          exact fw_iret (pc := 82) d_X_told_82 rfl
        · have h := fw_if hc2 h
          refine fw_tout (pc := 17) (tgt := 83) d_X_told_17 ?_ rfl ?_
          · have g0 := fw_ti hc0
            have g1 := fw_ti hc1
            have g2 := fw_ti hc2
            revert g0 g1 g2
            exact fw_sw0_2
          · refine fw_iconst (pc := 83) d_X_told_83 fw_icm1 ?_
            obtain rfl := Option.some.inj h
            exact fw_iret (pc := 84) d_X_told_84 rfl
def f_Case_remove_2_L10  : Int32 × fw_M → Option ((Int32 × fw_M) ⊕ (fw_M))
  | (x2_10, μ10) =>
  if ((μ10.1 2 3) - 1) ≤ x2_10 then
    some (.inr μ10)
  else
    (fw_rd 10 (μ10.1 3) (x2_10 + 1)).bind fun v32 =>
    (fw_si 10 μ10 3 x2_10 v32).bind fun μ33 =>
    (fw_rd 10 (μ33.1 4) (x2_10 + 1)).bind fun v46 =>
    (fw_si 10 μ33 4 x2_10 v46).bind fun μ47 =>
    (fw_rd 10 (μ47.1 5) (x2_10 + 1)).bind fun v60 =>
    (fw_si 10 μ47 5 x2_10 v60).bind fun μ61 =>
    fw_nm (x2_10 + 1) fun (v62 : Int32) =>
    some (.inl (v62, μ61))
def f_Case_remove_2 (a1 : Int32) (μ : fw_M) : Option (fw_M) :=
  (f_Case_has_2 a1 μ).bind fun (p2 : Int32) =>
  Option.bind (
    if p2 = 0 then
      some μ
    else
      (fw_wh (f_Case_remove_2_L10) fw_N (a1, μ)).bind fun (e10x : fw_M) =>
      fw_nm (fw_wr e10x 2 3 ((e10x.1 2 3) - 1)) fun (μ75 : fw_M) =>
      some μ75) fun (j5 : fw_M) =>
  some j5
set_option maxHeartbeats 4000000 in
set_option maxRecDepth 100000 in
theorem c_Case_remove_2 {a1 : Int32} {μ : fw_M} {r : fw_M} (h : f_Case_remove_2 a1 μ = some r) : fw_Con Y_Case_remove fw_X 2 [.ref 2, .int a1] none μ r := by
  refine fw_con (by decide) (Nat.le_of_ble_eq_true rfl) ?_
  rw [f_Case_remove_2] at h
  show fw_R "FewTypes$Case" prog_2_method_5_code 3 none fw_X 2 none r 0 [(0, .ref 2), (1, .int a1)] [] μ
  refine fw_aload_n (pc := 0) d_Case_remove_0 0 rfl rfl ?_
  refine fw_iload_n (pc := 1) d_Case_remove_1 1 rfl rfl ?_
  obtain ⟨p2, e2, h⟩ := fw_be h
  refine fw_callVi (pc := 2) d_Case_remove_2 mv_Case_29 fw_X2 (c_Case_has_2 e2) (by decide) rfl rfl (Nat.le_of_ble_eq_true rfl) ?_
  obtain ⟨j5, w5, h⟩ := fw_be h
  have hJ5 : fw_R "FewTypes$Case" prog_2_method_5_code 3 none fw_X 2 none r 78 [] [] j5 := by
    obtain rfl := Option.some.inj h
    exact fw_vret (pc := 78) d_Case_remove_78 rfl
  clear h
  have h := w5
  clear w5
  refine fw_if_eq (pc := 5) (tgt := 78) d_Case_remove_5 rfl (fun hc => ?_) (fun hc => ?_)
  · have h := fw_it hc h
    obtain rfl := Option.some.inj h
    exact fw_sub [] rfl hJ5
  · have h := fw_if hc h
    refine fw_iload_n (pc := 8) d_Case_remove_8 1 rfl rfl ?_
    refine fw_istore_n (pc := 9) (lv1 := [(2, .int a1), (0, .ref 2), (1, .int a1)]) d_Case_remove_9 rfl (by decide) rfl ?_
    obtain ⟨e10x, w10, h⟩ := fw_be h
    have hE10 : fw_R "FewTypes$Case" prog_2_method_5_code 3 none fw_X 2 none r 68 [(0, .ref 2)] [] e10x := by
      refine fw_aload_n (pc := 68) d_Case_remove_68 0 rfl rfl ?_
      refine fw_dup (pc := 69) d_Case_remove_69 rfl ?_
      refine fw_getI (pc := 70) d_Case_remove_70 fl_Case_21 fw_X2 rfl ?_
      refine fw_iconst (pc := 73) d_Case_remove_73 fw_ic1 ?_
      refine fw_isub (pc := 74) d_Case_remove_74 ?_
      obtain ⟨μ75, e75, h⟩ := fw_ne h
      refine fw_putI (pc := 75) d_Case_remove_75 fp_Case_21 fw_X2 rfl (fw_mem e75 ?_)
      obtain rfl := Option.some.inj h
      exact fw_sub [] rfl hJ5
    clear h
    exact fw_sub [1, 0] rfl (fw_we (e := e10x) (fun (s : Int32 × fw_M) => fw_R "FewTypes$Case" prog_2_method_5_code 3 none fw_X 2 none r 10 [(0, .ref 2), (2, .int s.1)] [] s.2) (by
      intro s x h hl hr
      obtain ⟨x2_10, μ10⟩ := s
      rw [f_Case_remove_2_L10] at h
      show fw_R "FewTypes$Case" prog_2_method_5_code 3 none fw_X 2 none r 10 [(0, .ref 2), (2, .int x2_10)] [] μ10
      refine fw_iload_n (pc := 10) d_Case_remove_10 1 rfl rfl ?_
      refine fw_aload_n (pc := 11) d_Case_remove_11 0 rfl rfl ?_
      refine fw_getI (pc := 12) d_Case_remove_12 fl_Case_21 fw_X2 rfl ?_
      refine fw_iconst (pc := 15) d_Case_remove_15 fw_ic1 ?_
      refine fw_isub (pc := 16) d_Case_remove_16 ?_
      refine fw_icmp_ge (pc := 17) (tgt := 68) d_Case_remove_17 rfl (fun hc => ?_) (fun hc => ?_)
      · have h := fw_it hc h
        obtain rfl := Option.some.inj h
        have he := hr _ rfl
        subst he
        exact fw_sub [0] rfl hE10
      · have h := fw_if hc h
        refine fw_aload_n (pc := 20) d_Case_remove_20 0 rfl rfl ?_
        refine fw_getR (pc := 21) d_Case_remove_21 fl_Case_9 fw_X2 rfl ?_
        refine fw_iload_n (pc := 24) d_Case_remove_24 1 rfl rfl ?_
        refine fw_aload_n (pc := 25) d_Case_remove_25 0 rfl rfl ?_
        refine fw_getR (pc := 26) d_Case_remove_26 fl_Case_9 fw_X2 rfl ?_
        refine fw_iload_n (pc := 29) d_Case_remove_29 1 rfl rfl ?_
        refine fw_iconst (pc := 30) d_Case_remove_30 fw_ic1 ?_
        refine fw_iadd (pc := 31) d_Case_remove_31 ?_
        obtain ⟨v32, e32, h⟩ := fw_be h
        refine fw_iald (pc := 32) d_Case_remove_32 fw_X3 e32 ?_
        obtain ⟨μ33, e33, h⟩ := fw_be h
        refine fw_iast (pc := 33) d_Case_remove_33 fw_X3 e33 ?_
        refine fw_aload_n (pc := 34) d_Case_remove_34 0 rfl rfl ?_
        refine fw_getR (pc := 35) d_Case_remove_35 fl_Case_15 fw_X2 rfl ?_
        refine fw_iload_n (pc := 38) d_Case_remove_38 1 rfl rfl ?_
        refine fw_aload_n (pc := 39) d_Case_remove_39 0 rfl rfl ?_
        refine fw_getR (pc := 40) d_Case_remove_40 fl_Case_15 fw_X2 rfl ?_
        refine fw_iload_n (pc := 43) d_Case_remove_43 1 rfl rfl ?_
        refine fw_iconst (pc := 44) d_Case_remove_44 fw_ic1 ?_
        refine fw_iadd (pc := 45) d_Case_remove_45 ?_
        obtain ⟨v46, e46, h⟩ := fw_be h
        refine fw_iald (pc := 46) d_Case_remove_46 fw_X4 e46 ?_
        obtain ⟨μ47, e47, h⟩ := fw_be h
        refine fw_iast (pc := 47) d_Case_remove_47 fw_X4 e47 ?_
        refine fw_aload_n (pc := 48) d_Case_remove_48 0 rfl rfl ?_
        refine fw_getR (pc := 49) d_Case_remove_49 fl_Case_18 fw_X2 rfl ?_
        refine fw_iload_n (pc := 52) d_Case_remove_52 1 rfl rfl ?_
        refine fw_aload_n (pc := 53) d_Case_remove_53 0 rfl rfl ?_
        refine fw_getR (pc := 54) d_Case_remove_54 fl_Case_18 fw_X2 rfl ?_
        refine fw_iload_n (pc := 57) d_Case_remove_57 1 rfl rfl ?_
        refine fw_iconst (pc := 58) d_Case_remove_58 fw_ic1 ?_
        refine fw_iadd (pc := 59) d_Case_remove_59 ?_
        obtain ⟨v60, e60, h⟩ := fw_be h
        refine fw_iald (pc := 60) d_Case_remove_60 fw_X5 e60 ?_
        obtain ⟨μ61, e61, h⟩ := fw_be h
        refine fw_iast (pc := 61) d_Case_remove_61 fw_X5 e61 ?_
        obtain ⟨v62, e62, h⟩ := fw_ne h
        refine fw_iinc2 (pc := 62) (j := 1) (lv1 := [(2, .int v62), (0, .ref 2)]) d_Case_remove_62 rfl fw_ic1 e62 (by decide) rfl ?_
        refine fw_goto (pc := 65) (tgt := 10) d_Case_remove_65 rfl ?_
        obtain rfl := Option.some.inj h
        exact fw_sub [1, 0] rfl (hl _ rfl)
      ) _ _ w10)
def f_X_lose (a1 : Int32) (μ : fw_M) : Option (Int32 × fw_M) :=
  (f_Case_has_2 a1 μ).bind fun (p8 : Int32) =>
  if p8 = 0 then
    some ((-1), μ)
  else
    (f_Case_remove_2 a1 μ).bind fun (p24 : fw_M) =>
    (f_X_forgetPulls p24).bind fun (p28 : fw_M) =>
    some ((p28.1 2 3), p28)
set_option maxHeartbeats 4000000 in
set_option maxRecDepth 100000 in
theorem c_X_lose {a1 : Int32} {μ : fw_M} {r : Int32 × fw_M} (h : f_X_lose a1 μ = some r) : fw_Con Y_X_lose fw_X 3 [.ref 0, .int a1] (some r.1) μ r.2 := by
  refine fw_con (by decide) (Nat.le_of_ble_eq_true rfl) ?_
  rw [f_X_lose] at h
  show fw_R "FewTypes" prog_1_method_4_code 2 (some .int) fw_X 3 (some r.1) r.2 0 [(0, .ref 0), (1, .int a1)] [] μ
  refine fw_aload_n (pc := 0) d_X_lose_0 0 rfl rfl ?_
  refine fw_getR (pc := 1) d_X_lose_1 fl_X_12 fw_X0 rfl ?_
  refine fw_getR (pc := 4) d_X_lose_4 fl_X_82 fw_X1 rfl ?_
  refine fw_iload_n (pc := 7) d_X_lose_7 1 rfl rfl ?_
  obtain ⟨p8, e8, h⟩ := fw_be h
  refine fw_callVi (pc := 8) d_X_lose_8 mv_X_96 fw_X2 (c_Case_has_2 e8) (by decide) rfl rfl (Nat.le_of_ble_eq_true rfl) ?_
  refine fw_if_ne (pc := 11) (tgt := 16) d_X_lose_11 rfl (fun hc => ?_) (fun hc => ?_)
  · have h := fw_it hc h
    refine fw_iconst (pc := 14) d_X_lose_14 fw_icm1 ?_
    obtain rfl := Option.some.inj h
    exact fw_iret (pc := 15) d_X_lose_15 rfl
  · have h := fw_if hc h
    refine fw_aload_n (pc := 16) d_X_lose_16 0 rfl rfl ?_
    refine fw_getR (pc := 17) d_X_lose_17 fl_X_12 fw_X0 rfl ?_
    refine fw_getR (pc := 20) d_X_lose_20 fl_X_82 fw_X1 rfl ?_
    refine fw_iload_n (pc := 23) d_X_lose_23 1 rfl rfl ?_
    obtain ⟨p24, e24, h⟩ := fw_be h
    refine fw_callVv (pc := 24) d_X_lose_24 mv_X_109 fw_X2 (c_Case_remove_2 e24) (by decide) rfl rfl (Nat.le_of_ble_eq_true rfl) ?_
    refine fw_aload_n (pc := 27) d_X_lose_27 0 rfl rfl ?_
    obtain ⟨p28, e28, h⟩ := fw_be h
    refine fw_callVv (pc := 28) d_X_lose_28 mv_X_93 fw_X0 (c_X_forgetPulls e28) (by decide) rfl rfl (Nat.le_of_ble_eq_true rfl) ?_
    refine fw_aload_n (pc := 31) d_X_lose_31 0 rfl rfl ?_
    refine fw_getR (pc := 32) d_X_lose_32 fl_X_12 fw_X0 rfl ?_
    refine fw_getR (pc := 35) d_X_lose_35 fl_X_82 fw_X1 rfl ?_
    refine fw_getI (pc := 38) d_X_lose_38 fl_X_85 fw_X2 rfl ?_
    obtain rfl := Option.some.inj h
    exact fw_iret (pc := 41) d_X_lose_41 rfl
def f_X_width (a1 : Int32) (a2 : Int32) (μ : fw_M) : Option (Int32 × fw_M) :=
  (f_X_isLetter a1).bind fun (p1 : Int32) =>
  if p1 = 0 then
    some ((-1), μ)
  else
    if a2 < 1 then
      some ((-1), μ)
    else
      if a2 ≤ 4 then
        (fw_rd 12 (μ.1 8) a1).bind fun v27 =>
        (fw_si 12 μ 8 a1 a2).bind fun μ38 =>
        some (v27, μ38)
      else
        some ((-1), μ)
set_option maxHeartbeats 4000000 in
set_option maxRecDepth 100000 in
theorem c_X_width {a1 : Int32} {a2 : Int32} {μ : fw_M} {r : Int32 × fw_M} (h : f_X_width a1 a2 μ = some r) : fw_Con Y_X_width fw_X 2 [.ref 0, .int a1, .int a2] (some r.1) μ r.2 := by
  refine fw_con (by decide) (Nat.le_of_ble_eq_true rfl) ?_
  rw [f_X_width] at h
  show fw_R "FewTypes" prog_1_method_5_code 4 (some .int) fw_X 2 (some r.1) r.2 0 [(0, .ref 0), (1, .int a1), (2, .int a2)] [] μ
  refine fw_iload_n (pc := 0) d_X_width_0 1 rfl rfl ?_
  obtain ⟨p1, e1, h⟩ := fw_be h
  refine fw_callSi (pc := 1) d_X_width_1 ms_X_113 (c_X_isLetter e1) (by decide) rfl rfl (Nat.le_of_ble_eq_true rfl) ?_
  refine fw_if_eq (pc := 4) (tgt := 17) d_X_width_4 rfl (fun hc => ?_) (fun hc => ?_)
  · have h := fw_it hc h
    refine fw_iconst (pc := 17) d_X_width_17 fw_icm1 ?_
    obtain rfl := Option.some.inj h
    exact fw_iret (pc := 18) d_X_width_18 rfl
  · have h := fw_if hc h
    refine fw_iload_n (pc := 7) d_X_width_7 2 rfl rfl ?_
    refine fw_iconst (pc := 8) d_X_width_8 fw_ic1 ?_
    refine fw_icmp_lt (pc := 9) (tgt := 17) d_X_width_9 rfl (fun hc => ?_) (fun hc => ?_)
    · have h := fw_it hc h
      refine fw_iconst (pc := 17) d_X_width_17 fw_icm1 ?_
      obtain rfl := Option.some.inj h
      exact fw_iret (pc := 18) d_X_width_18 rfl
    · have h := fw_if hc h
      refine fw_iload_n (pc := 12) d_X_width_12 2 rfl rfl ?_
      refine fw_iconst (pc := 13) d_X_width_13 fw_ic4 ?_
      refine fw_icmp_le (pc := 14) (tgt := 19) d_X_width_14 rfl (fun hc => ?_) (fun hc => ?_)
      · have h := fw_it hc h
        refine fw_aload_n (pc := 19) d_X_width_19 0 rfl rfl ?_
        refine fw_getR (pc := 20) d_X_width_20 fl_X_12 fw_X0 rfl ?_
        refine fw_getR (pc := 23) d_X_width_23 fl_X_116 fw_X1 rfl ?_
        refine fw_iload_n (pc := 26) d_X_width_26 1 rfl rfl ?_
        obtain ⟨v27, e27, h⟩ := fw_be h
        refine fw_iald (pc := 27) d_X_width_27 fw_X8 e27 ?_
        refine fw_istore_n (pc := 28) (lv1 := [(3, .int v27), (0, .ref 0), (1, .int a1), (2, .int a2)]) d_X_width_28 rfl (by decide) rfl ?_
        refine fw_aload_n (pc := 29) d_X_width_29 1 rfl rfl ?_
        refine fw_getR (pc := 30) d_X_width_30 fl_X_12 fw_X0 rfl ?_
        refine fw_getR (pc := 33) d_X_width_33 fl_X_116 fw_X1 rfl ?_
        refine fw_iload_n (pc := 36) d_X_width_36 2 rfl rfl ?_
        refine fw_iload_n (pc := 37) d_X_width_37 3 rfl rfl ?_
        obtain ⟨μ38, e38, h⟩ := fw_be h
        refine fw_iast (pc := 38) d_X_width_38 fw_X8 e38 ?_
        refine fw_iload_n (pc := 39) d_X_width_39 0 rfl rfl ?_
        obtain rfl := Option.some.inj h
        exact fw_iret (pc := 40) d_X_width_40 rfl
      · have h := fw_if hc h
        refine fw_iconst (pc := 17) d_X_width_17 fw_icm1 ?_
        obtain rfl := Option.some.inj h
        exact fw_iret (pc := 18) d_X_width_18 rfl
def f_X_rule (a1 : Int32) (a2 : Int32) (μ : fw_M) : Option (Int32 × fw_M) :=
  if a1 < 0 then
    some ((-1), μ)
  else
    if 3 ≤ a1 then
      some ((-1), μ)
    else
      (fw_rd 3 fw_s0 a1).bind fun v14 =>
      if a2 < v14 then
        some ((-1), μ)
      else
        (fw_rd 3 fw_s1 a1).bind fun v23 =>
        if a2 ≤ v23 then
          (fw_rd 3 (μ.1 9) a1).bind fun v37 =>
          (fw_si 3 μ 9 a1 a2).bind fun μ48 =>
          (f_X_forgetPulls μ48).bind fun (p50 : fw_M) =>
          some (v37, p50)
        else
          some ((-1), μ)
set_option maxHeartbeats 4000000 in
set_option maxRecDepth 100000 in
theorem c_X_rule {a1 : Int32} {a2 : Int32} {μ : fw_M} {r : Int32 × fw_M} (h : f_X_rule a1 a2 μ = some r) : fw_Con Y_X_rule fw_X 3 [.ref 0, .int a1, .int a2] (some r.1) μ r.2 := by
  refine fw_con (by decide) (Nat.le_of_ble_eq_true rfl) ?_
  rw [f_X_rule] at h
  show fw_R "FewTypes" prog_1_method_6_code 4 (some .int) fw_X 3 (some r.1) r.2 0 [(0, .ref 0), (1, .int a1), (2, .int a2)] [] μ
  refine fw_iload_n (pc := 0) d_X_rule_0 1 rfl rfl ?_
  refine fw_if_lt (pc := 1) (tgt := 27) d_X_rule_1 rfl (fun hc => ?_) (fun hc => ?_)
  · have h := fw_it hc h
    refine fw_iconst (pc := 27) d_X_rule_27 fw_icm1 ?_
    obtain rfl := Option.some.inj h
    exact fw_iret (pc := 28) d_X_rule_28 rfl
  · have h := fw_if hc h
    refine fw_iload_n (pc := 4) d_X_rule_4 1 rfl rfl ?_
    refine fw_iconst (pc := 5) d_X_rule_5 fw_ic3 ?_
    refine fw_icmp_ge (pc := 6) (tgt := 27) d_X_rule_6 rfl (fun hc => ?_) (fun hc => ?_)
    · have h := fw_it hc h
      refine fw_iconst (pc := 27) d_X_rule_27 fw_icm1 ?_
      obtain rfl := Option.some.inj h
      exact fw_iret (pc := 28) d_X_rule_28 rfl
    · have h := fw_if hc h
      refine fw_iload_n (pc := 9) d_X_rule_9 2 rfl rfl ?_
      refine fw_gs0 (pc := 10) d_X_rule_10 gs_X_119 ?_
      refine fw_iload_n (pc := 13) d_X_rule_13 1 rfl rfl ?_
      obtain ⟨v14, e14, h⟩ := fw_be h
      refine fw_t0ld (pc := 14) d_X_rule_14 e14 ?_
      refine fw_icmp_lt (pc := 15) (tgt := 27) d_X_rule_15 rfl (fun hc => ?_) (fun hc => ?_)
      · have h := fw_it hc h
        refine fw_iconst (pc := 27) d_X_rule_27 fw_icm1 ?_
        obtain rfl := Option.some.inj h
        exact fw_iret (pc := 28) d_X_rule_28 rfl
      · have h := fw_if hc h
        refine fw_iload_n (pc := 18) d_X_rule_18 2 rfl rfl ?_
        refine fw_gs1 (pc := 19) d_X_rule_19 gs_X_122 ?_
        refine fw_iload_n (pc := 22) d_X_rule_22 1 rfl rfl ?_
        obtain ⟨v23, e23, h⟩ := fw_be h
        refine fw_t1ld (pc := 23) d_X_rule_23 e23 ?_
        refine fw_icmp_le (pc := 24) (tgt := 29) d_X_rule_24 rfl (fun hc => ?_) (fun hc => ?_)
        · have h := fw_it hc h
          refine fw_aload_n (pc := 29) d_X_rule_29 0 rfl rfl ?_
          refine fw_getR (pc := 30) d_X_rule_30 fl_X_12 fw_X0 rfl ?_
          refine fw_getR (pc := 33) d_X_rule_33 fl_X_125 fw_X1 rfl ?_
          refine fw_iload_n (pc := 36) d_X_rule_36 1 rfl rfl ?_
          obtain ⟨v37, e37, h⟩ := fw_be h
          refine fw_iald (pc := 37) d_X_rule_37 fw_X9 e37 ?_
          refine fw_istore_n (pc := 38) (lv1 := [(3, .int v37), (0, .ref 0), (1, .int a1), (2, .int a2)]) d_X_rule_38 rfl (by decide) rfl ?_
          refine fw_aload_n (pc := 39) d_X_rule_39 1 rfl rfl ?_
          refine fw_getR (pc := 40) d_X_rule_40 fl_X_12 fw_X0 rfl ?_
          refine fw_getR (pc := 43) d_X_rule_43 fl_X_125 fw_X1 rfl ?_
          refine fw_iload_n (pc := 46) d_X_rule_46 2 rfl rfl ?_
          refine fw_iload_n (pc := 47) d_X_rule_47 3 rfl rfl ?_
          obtain ⟨μ48, e48, h⟩ := fw_be h
          refine fw_iast (pc := 48) d_X_rule_48 fw_X9 e48 ?_
          refine fw_aload_n (pc := 49) d_X_rule_49 1 rfl rfl ?_
          obtain ⟨p50, e50, h⟩ := fw_be h
          refine fw_callVv (pc := 50) d_X_rule_50 mv_X_93 fw_X0 (c_X_forgetPulls e50) (by decide) rfl rfl (Nat.le_of_ble_eq_true rfl) ?_
          refine fw_iload_n (pc := 53) d_X_rule_53 0 rfl rfl ?_
          obtain rfl := Option.some.inj h
          exact fw_iret (pc := 54) d_X_rule_54 rfl
        · have h := fw_if hc h
          refine fw_iconst (pc := 27) d_X_rule_27 fw_icm1 ?_
          obtain rfl := Option.some.inj h
          exact fw_iret (pc := 28) d_X_rule_28 rfl
def f_Tape_byteOf (a0 : Int64) (a2 : Int32) : Option (Int32) :=
  some (Int64.toInt32 ((a0 >>> (Int32.toInt64 (8 * a2) &&& 63)) &&& 255))
set_option maxHeartbeats 4000000 in
set_option maxRecDepth 100000 in
theorem c_Tape_byteOf {a0 : Int64} {a2 : Int32} {μ : fw_M} {r : Int32} (h : f_Tape_byteOf a0 a2 = some r) : fw_Con Y_Tape_byteOf fw_X 1 [.long a0, .int a2] (some r) μ μ := by
  refine fw_con (by decide) (Nat.le_of_ble_eq_true rfl) ?_
  rw [f_Tape_byteOf] at h
  show fw_R "FewTypes$Tape" prog_9_method_3_code 3 (some .int) fw_X 1 (some r) μ 0 [(0, .long a0), (2, .int a2)] [] μ
  refine fw_lload_n (pc := 0) d_Tape_byteOf_0 0 rfl rfl ?_
  refine fw_bipush (pc := 1) d_Tape_byteOf_1 fw_bp8 ?_
  refine fw_iload_n (pc := 3) d_Tape_byteOf_3 1 rfl rfl ?_
  refine fw_imul (pc := 4) d_Tape_byteOf_4 ?_
  refine fw_lshr (pc := 5) d_Tape_byteOf_5 ?_
  refine fw_ldc2 (pc := 6) d_Tape_byteOf_6 cl_Tape_26 ?_
  refine fw_land (pc := 9) d_Tape_byteOf_9 ?_
  refine fw_l2i (pc := 10) d_Tape_byteOf_10 ?_
  obtain rfl := Option.some.inj h
  exact fw_iret (pc := 11) d_Tape_byteOf_11 rfl
def f_Tape_takes_L2 (a0 : Int64) (a2 : Int32) (x3_2 : Int32) : Option ((Int32) ⊕ ((Unit) ⊕ (Int32))) :=
  if a2 ≤ x3_2 then
    some (.inr (.inl ()))
  else
    (f_Tape_byteOf a0 x3_2).bind fun (p9 : Int32) =>
    if p9 < 32 then
      some (.inr (.inr 0))
    else
      if p9 ≤ 126 then
        fw_nm (x3_2 + 1) fun (v30 : Int32) =>
        some (.inl v30)
      else
        some (.inr (.inr 0))
def f_Tape_takes (a0 : Int64) (a2 : Int32) : Option (Int32) :=
  Option.bind (fw_wh (f_Tape_takes_L2 a0 a2) fw_N 0) fun (q2 : (Unit) ⊕ (Int32)) => match q2 with
  | .inl e2x =>
    some 1
  | .inr r2 => some r2
set_option maxHeartbeats 4000000 in
set_option maxRecDepth 100000 in
theorem c_Tape_takes {a0 : Int64} {a2 : Int32} {μ : fw_M} {r : Int32} (h : f_Tape_takes a0 a2 = some r) : fw_Con Y_Tape_takes fw_X 2 [.long a0, .int a2] (some r) μ μ := by
  refine fw_con (by decide) (Nat.le_of_ble_eq_true rfl) ?_
  rw [f_Tape_takes] at h
  show fw_R "FewTypes$Tape" prog_9_method_2_code 5 (some .boolean) fw_X 2 (some r) μ 0 [(0, .long a0), (2, .int a2)] [] μ
  refine fw_iconst (pc := 0) d_Tape_takes_0 fw_ic0 ?_
  refine fw_istore_n (pc := 1) (lv1 := [(3, .int 0), (0, .long a0), (2, .int a2)]) d_Tape_takes_1 rfl (by decide) rfl ?_
  obtain ⟨q2, w2, h⟩ := fw_be h
  have hE2 : ∀ e2x : Unit, q2 = .inl e2x → fw_R "FewTypes$Tape" prog_9_method_2_code 5 (some .boolean) fw_X 2 (some r) μ 36 [] [] μ := by
    intro e2x hq
    subst hq
    dsimp only at h
    refine fw_iconst (pc := 36) d_Tape_takes_36 fw_ic1 ?_
    obtain rfl := Option.some.inj h
    exact fw_zret (pc := 37) d_Tape_takes_37 rfl fw_bz1
  have hR2 : ∀ r2, q2 = .inr r2 → r2 = r := by
    intro r2 hq
    subst hq
    exact Option.some.inj h
  clear h
  exact fw_sub [1, 2, 0] rfl (fw_we (e := q2) (fun (s : Int32) => fw_R "FewTypes$Tape" prog_9_method_2_code 5 (some .boolean) fw_X 2 (some r) μ 2 [(0, .long a0), (2, .int a2), (3, .int s)] [] μ) (by
    intro s x h hl hr
    obtain ⟨x3_2, rfl⟩ : ∃ z, z = s := ⟨_, rfl⟩
    rw [f_Tape_takes_L2] at h
    show fw_R "FewTypes$Tape" prog_9_method_2_code 5 (some .boolean) fw_X 2 (some r) μ 2 [(0, .long a0), (2, .int a2), (3, .int x3_2)] [] μ
    refine fw_iload_n (pc := 2) d_Tape_takes_2 2 rfl rfl ?_
    refine fw_iload_n (pc := 3) d_Tape_takes_3 1 rfl rfl ?_
    refine fw_icmp_ge (pc := 4) (tgt := 36) d_Tape_takes_4 rfl (fun hc => ?_) (fun hc => ?_)
    · have h := fw_it hc h
      obtain rfl := Option.some.inj h
      exact fw_sub [] rfl (hE2 _ (hr _ rfl).symm)
    · have h := fw_if hc h
      refine fw_lload_n (pc := 7) d_Tape_takes_7 0 rfl rfl ?_
      refine fw_iload_n (pc := 8) d_Tape_takes_8 2 rfl rfl ?_
      obtain ⟨p9, e9, h⟩ := fw_be h
      refine fw_callSi (pc := 9) d_Tape_takes_9 ms_Tape_22 (c_Tape_byteOf e9) (by decide) rfl rfl (Nat.le_of_ble_eq_true rfl) ?_
      refine fw_istore (pc := 12) (lv1 := [(4, .int p9), (0, .long a0), (2, .int a2), (3, .int x3_2)]) d_Tape_takes_12 (by decide) rfl ?_
      refine fw_iload (pc := 14) d_Tape_takes_14 0 rfl ?_
      refine fw_bipush (pc := 16) d_Tape_takes_16 fw_bp32 ?_
      refine fw_icmp_lt (pc := 18) (tgt := 28) d_Tape_takes_18 rfl (fun hc => ?_) (fun hc => ?_)
      · have h := fw_it hc h
        refine fw_iconst (pc := 28) d_Tape_takes_28 fw_ic0 ?_
        obtain rfl := Option.some.inj h
        have he := hR2 _ (hr _ rfl).symm
        subst he
        exact fw_zret (pc := 29) d_Tape_takes_29 rfl fw_bz0
      · have h := fw_if hc h
        refine fw_iload (pc := 21) d_Tape_takes_21 0 rfl ?_
        refine fw_bipush (pc := 23) d_Tape_takes_23 fw_bp126 ?_
        refine fw_icmp_le (pc := 25) (tgt := 30) d_Tape_takes_25 rfl (fun hc => ?_) (fun hc => ?_)
        · have h := fw_it hc h
          obtain ⟨v30, e30, h⟩ := fw_ne h
          refine fw_iinc2 (pc := 30) (j := 3) (lv1 := [(3, .int v30), (4, .int p9), (0, .long a0), (2, .int a2)]) d_Tape_takes_30 rfl fw_ic1 e30 (by decide) rfl ?_
          refine fw_goto (pc := 33) (tgt := 2) d_Tape_takes_33 rfl ?_
          obtain rfl := Option.some.inj h
          exact fw_sub [2, 3, 0] rfl (hl _ rfl)
        · have h := fw_if hc h
          refine fw_iconst (pc := 28) d_Tape_takes_28 fw_ic0 ?_
          obtain rfl := Option.some.inj h
          have he := hR2 _ (hr _ rfl).symm
          subst he
          exact fw_zret (pc := 29) d_Tape_takes_29 rfl fw_bz0
    ) _ _ w2)
def f_Tape_add_L5 (a1 : Int64) : Int32 × fw_M → Option ((Int32 × fw_M) ⊕ (fw_M))
  | (x4_5, μ5) =>
  if x4_5 < 0 then
    some (.inr μ5)
  else
    Option.bind (
      if 60 ≤ (μ5.1 63 1) then
        some μ5
      else
        (f_Tape_byteOf a1 x4_5).bind fun (p30 : Int32) =>
        (fw_si 60 μ5 64 (μ5.1 63 1) p30).bind fun μ33 =>
        fw_nm (fw_wr μ33 63 1 ((μ33.1 63 1) + 1)) fun (μ41 : fw_M) =>
        some μ41) fun (j16 : fw_M) =>
    fw_nm (x4_5 + (-1)) fun (v44 : Int32) =>
    some (.inl (v44, j16))
def f_Tape_add (a1 : Int64) (a3 : Int32) (μ : fw_M) : Option (fw_M) :=
  fw_nm ((a3 - 1)) fun (v3 : Int32) =>
  (fw_wh (f_Tape_add_L5 a1) fw_N (v3, μ)).bind fun (e5x : fw_M) =>
  some e5x
set_option maxHeartbeats 4000000 in
set_option maxRecDepth 100000 in
theorem c_Tape_add {a1 : Int64} {a3 : Int32} {μ : fw_M} {r : fw_M} (h : f_Tape_add a1 a3 μ = some r) : fw_Con Y_Tape_add fw_X 2 [.ref 63, .long a1, .int a3] none μ r := by
  refine fw_con (by decide) (Nat.le_of_ble_eq_true rfl) ?_
  rw [f_Tape_add] at h
  show fw_R "FewTypes$Tape" prog_9_method_4_code 5 none fw_X 2 none r 0 [(0, .ref 63), (1, .long a1), (3, .int a3)] [] μ
  refine fw_iload_n (pc := 0) d_Tape_add_0 2 rfl rfl ?_
  refine fw_iconst (pc := 1) d_Tape_add_1 fw_ic1 ?_
  refine fw_isub (pc := 2) d_Tape_add_2 ?_
  obtain ⟨v3, e3, h⟩ := fw_ne h
  refine fw_top e3 ?_
  refine fw_istore (pc := 3) (lv1 := [(4, .int v3), (0, .ref 63), (1, .long a1), (3, .int a3)]) d_Tape_add_3 (by decide) rfl ?_
  obtain ⟨e5x, w5, h⟩ := fw_be h
  have hE5 : fw_R "FewTypes$Tape" prog_9_method_4_code 5 none fw_X 2 none r 50 [] [] e5x := by
    obtain rfl := Option.some.inj h
    exact fw_vret (pc := 50) d_Tape_add_50 rfl
  clear h
  exact fw_sub [1, 2, 0] rfl (fw_we (e := e5x) (fun (s : Int32 × fw_M) => fw_R "FewTypes$Tape" prog_9_method_4_code 5 none fw_X 2 none r 5 [(0, .ref 63), (1, .long a1), (4, .int s.1)] [] s.2) (by
    intro s x h hl hr
    obtain ⟨x4_5, μ5⟩ := s
    rw [f_Tape_add_L5] at h
    show fw_R "FewTypes$Tape" prog_9_method_4_code 5 none fw_X 2 none r 5 [(0, .ref 63), (1, .long a1), (4, .int x4_5)] [] μ5
    refine fw_iload (pc := 5) d_Tape_add_5 2 rfl ?_
    refine fw_if_lt (pc := 7) (tgt := 50) d_Tape_add_7 rfl (fun hc => ?_) (fun hc => ?_)
    · have h := fw_it hc h
      obtain rfl := Option.some.inj h
      have he := hr _ rfl
      subst he
      exact fw_sub [] rfl hE5
    · have h := fw_if hc h
      refine fw_aload_n (pc := 10) d_Tape_add_10 0 rfl rfl ?_
      refine fw_getI (pc := 11) d_Tape_add_11 fl_Tape_15 fw_X63 rfl ?_
      refine fw_bipush (pc := 14) d_Tape_add_14 fw_bp60 ?_
      obtain ⟨j16, w16, h⟩ := fw_be h
      have hJ16 : fw_R "FewTypes$Tape" prog_9_method_4_code 5 none fw_X 2 none r 44 [(0, .ref 63), (1, .long a1), (4, .int x4_5)] [] j16 := by
        obtain ⟨v44, e44, h⟩ := fw_ne h
        refine fw_iinc2 (pc := 44) (j := 2) (lv1 := [(4, .int v44), (0, .ref 63), (1, .long a1)]) d_Tape_add_44 rfl fw_icm1 e44 (by decide) rfl ?_
        refine fw_goto (pc := 47) (tgt := 5) d_Tape_add_47 rfl ?_
        obtain rfl := Option.some.inj h
        exact fw_sub [1, 2, 0] rfl (hl _ rfl)
      clear h
      have h := w16
      clear w16
      refine fw_icmp_ge (pc := 16) (tgt := 44) d_Tape_add_16 rfl (fun hc => ?_) (fun hc => ?_)
      · have h := fw_it hc h
        obtain rfl := Option.some.inj h
        exact fw_sub [0, 1, 2] rfl hJ16
      · have h := fw_if hc h
        refine fw_aload_n (pc := 19) d_Tape_add_19 0 rfl rfl ?_
        refine fw_getR (pc := 20) d_Tape_add_20 fl_Tape_9 fw_X63 rfl ?_
        refine fw_aload_n (pc := 23) d_Tape_add_23 0 rfl rfl ?_
        refine fw_getI (pc := 24) d_Tape_add_24 fl_Tape_15 fw_X63 rfl ?_
        refine fw_lload_n (pc := 27) d_Tape_add_27 1 rfl rfl ?_
        refine fw_iload (pc := 28) d_Tape_add_28 2 rfl ?_
        obtain ⟨p30, e30, h⟩ := fw_be h
        refine fw_callSi (pc := 30) d_Tape_add_30 ms_Tape_22 (c_Tape_byteOf e30) (by decide) rfl rfl (Nat.le_of_ble_eq_true rfl) ?_
        obtain ⟨μ33, e33, h⟩ := fw_be h
        refine fw_iast (pc := 33) d_Tape_add_33 fw_X64 e33 ?_
        refine fw_aload_n (pc := 34) d_Tape_add_34 0 rfl rfl ?_
        refine fw_dup (pc := 35) d_Tape_add_35 rfl ?_
        refine fw_getI (pc := 36) d_Tape_add_36 fl_Tape_15 fw_X63 rfl ?_
        refine fw_iconst (pc := 39) d_Tape_add_39 fw_ic1 ?_
        refine fw_iadd (pc := 40) d_Tape_add_40 ?_
        obtain ⟨μ41, e41, h⟩ := fw_ne h
        refine fw_putI (pc := 41) d_Tape_add_41 fp_Tape_15 fw_X63 rfl (fw_mem e41 ?_)
        obtain rfl := Option.some.inj h
        exact fw_sub [0, 1, 2] rfl hJ16
    ) _ _ w5)
def f_X_type (a1 : Int64) (a3 : Int32) (μ : fw_M) : Option (Int32 × fw_M) :=
  if a3 < 1 then
    some ((-1), μ)
  else
    if 8 < a3 then
      some ((-1), μ)
    else
      (f_Tape_takes a1 a3).bind fun (p13 : Int32) =>
      if p13 = 0 then
        some ((-1), μ)
      else
        if ((μ.1 63 1) + a3) ≤ 60 then
          (f_Tape_add a1 a3 μ).bind fun (p44 : fw_M) =>
          some ((p44.1 63 1), p44)
        else
          some ((-3), μ)
set_option maxHeartbeats 4000000 in
set_option maxRecDepth 100000 in
theorem c_X_type {a1 : Int64} {a3 : Int32} {μ : fw_M} {r : Int32 × fw_M} (h : f_X_type a1 a3 μ = some r) : fw_Con Y_X_type fw_X 3 [.ref 0, .long a1, .int a3] (some r.1) μ r.2 := by
  refine fw_con (by decide) (Nat.le_of_ble_eq_true rfl) ?_
  rw [f_X_type] at h
  show fw_R "FewTypes" prog_1_method_7_code 4 (some .int) fw_X 3 (some r.1) r.2 0 [(0, .ref 0), (1, .long a1), (3, .int a3)] [] μ
  refine fw_iload_n (pc := 0) d_X_type_0 2 rfl rfl ?_
  refine fw_iconst (pc := 1) d_X_type_1 fw_ic1 ?_
  refine fw_icmp_lt (pc := 2) (tgt := 19) d_X_type_2 rfl (fun hc => ?_) (fun hc => ?_)
  · have h := fw_it hc h
    refine fw_iconst (pc := 19) d_X_type_19 fw_icm1 ?_
    obtain rfl := Option.some.inj h
    exact fw_iret (pc := 20) d_X_type_20 rfl
  · have h := fw_if hc h
    refine fw_iload_n (pc := 5) d_X_type_5 2 rfl rfl ?_
    refine fw_bipush (pc := 6) d_X_type_6 fw_bp8 ?_
    refine fw_icmp_gt (pc := 8) (tgt := 19) d_X_type_8 rfl (fun hc => ?_) (fun hc => ?_)
    · have h := fw_it hc h
      refine fw_iconst (pc := 19) d_X_type_19 fw_icm1 ?_
      obtain rfl := Option.some.inj h
      exact fw_iret (pc := 20) d_X_type_20 rfl
    · have h := fw_if hc h
      refine fw_lload_n (pc := 11) d_X_type_11 1 rfl rfl ?_
      refine fw_iload_n (pc := 12) d_X_type_12 2 rfl rfl ?_
      obtain ⟨p13, e13, h⟩ := fw_be h
      refine fw_callSi (pc := 13) d_X_type_13 ms_X_128 (c_Tape_takes e13) (by decide) rfl rfl (Nat.le_of_ble_eq_true rfl) ?_
      refine fw_if_ne (pc := 16) (tgt := 21) d_X_type_16 rfl (fun hc => ?_) (fun hc => ?_)
      · have h := fw_it hc h
        refine fw_iconst (pc := 19) d_X_type_19 fw_icm1 ?_
        obtain rfl := Option.some.inj h
        exact fw_iret (pc := 20) d_X_type_20 rfl
      · have h := fw_if hc h
        refine fw_aload_n (pc := 21) d_X_type_21 0 rfl rfl ?_
        refine fw_getR (pc := 22) d_X_type_22 fl_X_26 fw_X0 rfl ?_
        refine fw_getI (pc := 25) d_X_type_25 fl_X_132 fw_X63 rfl ?_
        refine fw_iload_n (pc := 28) d_X_type_28 2 rfl rfl ?_
        refine fw_iadd (pc := 29) d_X_type_29 ?_
        refine fw_bipush (pc := 30) d_X_type_30 fw_bp60 ?_
        refine fw_icmp_le (pc := 32) (tgt := 38) d_X_type_32 rfl (fun hc => ?_) (fun hc => ?_)
        · have h := fw_it hc h
          refine fw_aload_n (pc := 38) d_X_type_38 0 rfl rfl ?_
          refine fw_getR (pc := 39) d_X_type_39 fl_X_26 fw_X0 rfl ?_
          refine fw_lload_n (pc := 42) d_X_type_42 1 rfl rfl ?_
          refine fw_iload_n (pc := 43) d_X_type_43 2 rfl rfl ?_
          obtain ⟨p44, e44, h⟩ := fw_be h
          refine fw_callVv (pc := 44) d_X_type_44 mv_X_133 fw_X63 (c_Tape_add e44) (by decide) rfl rfl (Nat.le_of_ble_eq_true rfl) ?_
          refine fw_aload_n (pc := 47) d_X_type_47 0 rfl rfl ?_
          refine fw_getR (pc := 48) d_X_type_48 fl_X_26 fw_X0 rfl ?_
          refine fw_getI (pc := 51) d_X_type_51 fl_X_132 fw_X63 rfl ?_
          obtain rfl := Option.some.inj h
          exact fw_iret (pc := 54) d_X_type_54 rfl
        · have h := fw_if hc h
          refine fw_bipush (pc := 35) d_X_type_35 fw_bpm3 ?_
          obtain rfl := Option.some.inj h
          exact fw_iret (pc := 37) d_X_type_37 rfl
def f_Line_empty (t0 : Nat) (μ : fw_M) : Option (fw_M) :=
  if fw_okL t0 then
    fw_nm (fw_wr μ t0 1 0) fun (μ2 : fw_M) =>
    fw_nm (fw_wr μ2 t0 2 0) fun (μ7 : fw_M) =>
    some μ7
  else none
set_option maxHeartbeats 4000000 in
set_option maxRecDepth 100000 in
theorem c_Line_empty {t0 : Nat} {μ : fw_M} {r : fw_M} (h : f_Line_empty t0 μ = some r) : fw_Con Y_Line_empty fw_X 1 [.ref t0] none μ r := by
  refine fw_con (by decide) (Nat.le_of_ble_eq_true rfl) ?_
  rw [f_Line_empty] at h
  show fw_R "FewTypes$Line" prog_4_method_3_code 1 none fw_X 1 none r 0 [(0, .ref t0)] [] μ
  obtain ⟨g0, h⟩ := fw_gu h
  refine fw_aload_n (pc := 0) d_Line_empty_0 0 rfl rfl ?_
  refine fw_iconst (pc := 1) d_Line_empty_1 fw_ic0 ?_
  obtain ⟨μ2, e2, h⟩ := fw_ne h
  refine fw_putI (pc := 2) d_Line_empty_2 fp_Line_15 g0.1 rfl (fw_mem e2 ?_)
  refine fw_aload_n (pc := 5) d_Line_empty_5 0 rfl rfl ?_
  refine fw_iconst (pc := 6) d_Line_empty_6 fw_ic0 ?_
  obtain ⟨μ7, e7, h⟩ := fw_ne h
  refine fw_putI (pc := 7) d_Line_empty_7 fp_Line_19 g0.1 rfl (fw_mem e7 ?_)
  obtain rfl := Option.some.inj h
  exact fw_vret (pc := 10) d_Line_empty_10 rfl
def f_Tape_nextSign_L0  (μ0 : fw_M) : Option ((fw_M) ⊕ (fw_M)) :=
  if (μ0.1 63 1) ≤ (μ0.1 63 2) then
    some (.inr μ0)
  else
    (fw_rd 60 (μ0.1 64) (μ0.1 63 2)).bind fun v19 =>
    if v19 = 32 then
      fw_nm (fw_wr μ0 63 2 ((μ0.1 63 2) + 1)) fun (μ32 : fw_M) =>
      some (.inl μ32)
    else
      some (.inr μ0)
def f_Tape_nextSign  (μ : fw_M) : Option (Int32 × fw_M) :=
  (fw_wh (f_Tape_nextSign_L0) fw_N μ).bind fun (e0x : fw_M) =>
  Option.bind (
    if (e0x.1 63 1) ≤ (e0x.1 63 2) then
      some (-1)
    else
      (fw_rd 60 (e0x.1 64) (e0x.1 63 2)).bind fun v57 =>
      some v57) fun (j46 : Int32) =>
  some (j46, e0x)
set_option maxHeartbeats 4000000 in
set_option maxRecDepth 100000 in
theorem c_Tape_nextSign  {μ : fw_M} {r : Int32 × fw_M} (h : f_Tape_nextSign  μ = some r) : fw_Con Y_Tape_nextSign fw_X 1 [.ref 63] (some r.1) μ r.2 := by
  refine fw_con (by decide) (Nat.le_of_ble_eq_true rfl) ?_
  rw [f_Tape_nextSign] at h
  show fw_R "FewTypes$Tape" prog_9_method_9_code 1 (some .int) fw_X 1 (some r.1) r.2 0 [(0, .ref 63)] [] μ
  obtain ⟨e0x, w0, h⟩ := fw_be h
  have hE0 : fw_R "FewTypes$Tape" prog_9_method_9_code 1 (some .int) fw_X 1 (some r.1) r.2 38 [(0, .ref 63)] [] e0x := by
    refine fw_aload_n (pc := 38) d_Tape_nextSign_38 0 rfl rfl ?_
    refine fw_getI (pc := 39) d_Tape_nextSign_39 fl_Tape_19 fw_X63 rfl ?_
    refine fw_aload_n (pc := 42) d_Tape_nextSign_42 0 rfl rfl ?_
    refine fw_getI (pc := 43) d_Tape_nextSign_43 fl_Tape_15 fw_X63 rfl ?_
    obtain ⟨j46, w46, h⟩ := fw_be h
    have hJ46 : fw_R "FewTypes$Tape" prog_9_method_9_code 1 (some .int) fw_X 1 (some r.1) r.2 62 [] [.int j46] e0x := by
      obtain rfl := Option.some.inj h
      exact fw_iret (pc := 62) d_Tape_nextSign_62 rfl
    clear h
    have h := w46
    clear w46
    refine fw_icmp_ge (pc := 46) (tgt := 61) d_Tape_nextSign_46 rfl (fun hc => ?_) (fun hc => ?_)
    · have h := fw_it hc h
      refine fw_iconst (pc := 61) d_Tape_nextSign_61 fw_icm1 ?_
      obtain rfl := Option.some.inj h
      exact fw_sub [] rfl hJ46
    · have h := fw_if hc h
      refine fw_aload_n (pc := 49) d_Tape_nextSign_49 0 rfl rfl ?_
      refine fw_getR (pc := 50) d_Tape_nextSign_50 fl_Tape_9 fw_X63 rfl ?_
      refine fw_aload_n (pc := 53) d_Tape_nextSign_53 0 rfl rfl ?_
      refine fw_getI (pc := 54) d_Tape_nextSign_54 fl_Tape_19 fw_X63 rfl ?_
      obtain ⟨v57, e57, h⟩ := fw_be h
      refine fw_iald (pc := 57) d_Tape_nextSign_57 fw_X64 e57 ?_
      refine fw_goto (pc := 58) (tgt := 62) d_Tape_nextSign_58 rfl ?_
      obtain rfl := Option.some.inj h
      exact fw_sub [] rfl hJ46
  clear h
  exact fw_sub [0] rfl (fw_we (e := e0x) (fun (s : fw_M) => fw_R "FewTypes$Tape" prog_9_method_9_code 1 (some .int) fw_X 1 (some r.1) r.2 0 [(0, .ref 63)] [] s) (by
    intro s x h hl hr
    obtain ⟨μ0, rfl⟩ : ∃ z, z = s := ⟨_, rfl⟩
    rw [f_Tape_nextSign_L0] at h
    show fw_R "FewTypes$Tape" prog_9_method_9_code 1 (some .int) fw_X 1 (some r.1) r.2 0 [(0, .ref 63)] [] μ0
    refine fw_aload_n (pc := 0) d_Tape_nextSign_0 0 rfl rfl ?_
    refine fw_getI (pc := 1) d_Tape_nextSign_1 fl_Tape_19 fw_X63 rfl ?_
    refine fw_aload_n (pc := 4) d_Tape_nextSign_4 0 rfl rfl ?_
    refine fw_getI (pc := 5) d_Tape_nextSign_5 fl_Tape_15 fw_X63 rfl ?_
    refine fw_icmp_ge (pc := 8) (tgt := 38) d_Tape_nextSign_8 rfl (fun hc => ?_) (fun hc => ?_)
    · have h := fw_it hc h
      obtain rfl := Option.some.inj h
      have he := hr _ rfl
      subst he
      exact fw_sub [0] rfl hE0
    · have h := fw_if hc h
      refine fw_aload_n (pc := 11) d_Tape_nextSign_11 0 rfl rfl ?_
      refine fw_getR (pc := 12) d_Tape_nextSign_12 fl_Tape_9 fw_X63 rfl ?_
      refine fw_aload_n (pc := 15) d_Tape_nextSign_15 0 rfl rfl ?_
      refine fw_getI (pc := 16) d_Tape_nextSign_16 fl_Tape_19 fw_X63 rfl ?_
      obtain ⟨v19, e19, h⟩ := fw_be h
      refine fw_iald (pc := 19) d_Tape_nextSign_19 fw_X64 e19 ?_
      refine fw_bipush (pc := 20) d_Tape_nextSign_20 fw_bp32 ?_
      refine fw_icmp_ne (pc := 22) (tgt := 38) d_Tape_nextSign_22 rfl (fun hc => ?_) (fun hc => ?_)
      · have h := fw_it hc h
        refine fw_aload_n (pc := 25) d_Tape_nextSign_25 0 rfl rfl ?_
        refine fw_dup (pc := 26) d_Tape_nextSign_26 rfl ?_
        refine fw_getI (pc := 27) d_Tape_nextSign_27 fl_Tape_19 fw_X63 rfl ?_
        refine fw_iconst (pc := 30) d_Tape_nextSign_30 fw_ic1 ?_
        refine fw_iadd (pc := 31) d_Tape_nextSign_31 ?_
        obtain ⟨μ32, e32, h⟩ := fw_ne h
        refine fw_putI (pc := 32) d_Tape_nextSign_32 fp_Tape_19 fw_X63 rfl (fw_mem e32 ?_)
        refine fw_goto (pc := 35) (tgt := 0) d_Tape_nextSign_35 rfl ?_
        obtain rfl := Option.some.inj h
        exact fw_sub [0] rfl (hl _ rfl)
      · have h := fw_if hc h
        obtain rfl := Option.some.inj h
        have he := hr _ rfl
        subst he
        exact fw_sub [0] rfl hE0
    ) _ _ w0)
def f_Tape_fault  (μ : fw_M) : Option (Int32) :=
  some ((-20) - (μ.1 63 2))
set_option maxHeartbeats 4000000 in
set_option maxRecDepth 100000 in
theorem c_Tape_fault  {μ : fw_M} {r : Int32} (h : f_Tape_fault  μ = some r) : fw_Con Y_Tape_fault fw_X 1 [.ref 63] (some r) μ μ := by
  refine fw_con (by decide) (Nat.le_of_ble_eq_true rfl) ?_
  rw [f_Tape_fault] at h
  show fw_R "FewTypes$Tape" prog_9_method_10_code 1 (some .int) fw_X 1 (some r) μ 0 [(0, .ref 63)] [] μ
  refine fw_bipush (pc := 0) d_Tape_fault_0 fw_bpm20 ?_
  refine fw_aload_n (pc := 2) d_Tape_fault_2 0 rfl rfl ?_
  refine fw_getI (pc := 3) d_Tape_fault_3 fl_Tape_19 fw_X63 rfl ?_
  refine fw_isub (pc := 6) d_Tape_fault_6 ?_
  obtain rfl := Option.some.inj h
  exact fw_iret (pc := 7) d_Tape_fault_7 rfl
def f_Line_add (t0 : Nat) (a1 : Int32) (a2 : Int32) (μ : fw_M) : Option (fw_M) :=
  if fw_okL t0 then
    Option.bind (
      if 10 ≤ (μ.1 t0 1) then
        some μ
      else
        Option.bind (
          if (μ.1 t0 1) ≤ 0 then
            some μ
          else
            if a2 = 0 then
              fw_nm (fw_wr μ t0 2 ((μ.1 t0 2) ||| ((1 : Int32) <<< (((μ.1 t0 1) - 1) &&& 31)))) fun (μ34 : fw_M) =>
              some μ34
            else
              some μ) fun (j13 : fw_M) =>
        (fw_si 10 j13 (t0 + 1) (j13.1 t0 1) a1).bind fun μ46 =>
        fw_nm (fw_wr μ46 t0 1 ((μ46.1 t0 1) + 1)) fun (μ54 : fw_M) =>
        some μ54) fun (j6 : fw_M) =>
    some j6
  else none
set_option maxHeartbeats 4000000 in
set_option maxRecDepth 100000 in
theorem c_Line_add {t0 : Nat} {a1 : Int32} {a2 : Int32} {μ : fw_M} {r : fw_M} (h : f_Line_add t0 a1 a2 μ = some r) : fw_Con Y_Line_add fw_X 1 [.ref t0, .int a1, .int a2] none μ r := by
  refine fw_con (by decide) (Nat.le_of_ble_eq_true rfl) ?_
  rw [f_Line_add] at h
  show fw_R "FewTypes$Line" prog_4_method_4_code 3 none fw_X 1 none r 0 [(0, .ref t0), (1, .int a1), (2, .int a2)] [] μ
  obtain ⟨g0, h⟩ := fw_gu h
  refine fw_aload_n (pc := 0) d_Line_add_0 0 rfl rfl ?_
  refine fw_getI (pc := 1) d_Line_add_1 fl_Line_15 g0.1 rfl ?_
  refine fw_bipush (pc := 4) d_Line_add_4 fw_bp10 ?_
  obtain ⟨j6, w6, h⟩ := fw_be h
  have hJ6 : fw_R "FewTypes$Line" prog_4_method_4_code 3 none fw_X 1 none r 57 [] [] j6 := by
    obtain rfl := Option.some.inj h
    exact fw_vret (pc := 57) d_Line_add_57 rfl
  clear h
  have h := w6
  clear w6
  refine fw_icmp_ge (pc := 6) (tgt := 57) d_Line_add_6 rfl (fun hc => ?_) (fun hc => ?_)
  · have h := fw_it hc h
    obtain rfl := Option.some.inj h
    exact fw_sub [] rfl hJ6
  · have h := fw_if hc h
    refine fw_aload_n (pc := 9) d_Line_add_9 0 rfl rfl ?_
    refine fw_getI (pc := 10) d_Line_add_10 fl_Line_15 g0.1 rfl ?_
    obtain ⟨j13, w13, h⟩ := fw_be h
    have hJ13 : fw_R "FewTypes$Line" prog_4_method_4_code 3 none fw_X 1 none r 37 [(0, .ref t0), (1, .int a1)] [] j13 := by
      refine fw_aload_n (pc := 37) d_Line_add_37 0 rfl rfl ?_
      refine fw_getR (pc := 38) d_Line_add_38 fl_Line_9 g0.1 rfl ?_
      refine fw_aload_n (pc := 41) d_Line_add_41 0 rfl rfl ?_
      refine fw_getI (pc := 42) d_Line_add_42 fl_Line_15 g0.1 rfl ?_
      refine fw_iload_n (pc := 45) d_Line_add_45 1 rfl rfl ?_
      obtain ⟨μ46, e46, h⟩ := fw_be h
      refine fw_iast (pc := 46) d_Line_add_46 g0.2 e46 ?_
      refine fw_aload_n (pc := 47) d_Line_add_47 0 rfl rfl ?_
      refine fw_dup (pc := 48) d_Line_add_48 rfl ?_
      refine fw_getI (pc := 49) d_Line_add_49 fl_Line_15 g0.1 rfl ?_
      refine fw_iconst (pc := 52) d_Line_add_52 fw_ic1 ?_
      refine fw_iadd (pc := 53) d_Line_add_53 ?_
      obtain ⟨μ54, e54, h⟩ := fw_ne h
      refine fw_putI (pc := 54) d_Line_add_54 fp_Line_15 g0.1 rfl (fw_mem e54 ?_)
      obtain rfl := Option.some.inj h
      exact fw_sub [] rfl hJ6
    clear h
    have h := w13
    clear w13
    refine fw_if_le (pc := 13) (tgt := 37) d_Line_add_13 rfl (fun hc => ?_) (fun hc => ?_)
    · have h := fw_it hc h
      obtain rfl := Option.some.inj h
      exact fw_sub [0, 1] rfl hJ13
    · have h := fw_if hc h
      refine fw_iload_n (pc := 16) d_Line_add_16 2 rfl rfl ?_
      refine fw_if_ne (pc := 17) (tgt := 37) d_Line_add_17 rfl (fun hc => ?_) (fun hc => ?_)
      · have h := fw_it hc h
        refine fw_aload_n (pc := 20) d_Line_add_20 0 rfl rfl ?_
        refine fw_dup (pc := 21) d_Line_add_21 rfl ?_
        refine fw_getI (pc := 22) d_Line_add_22 fl_Line_19 g0.1 rfl ?_
        refine fw_iconst (pc := 25) d_Line_add_25 fw_ic1 ?_
        refine fw_aload_n (pc := 26) d_Line_add_26 0 rfl rfl ?_
        refine fw_getI (pc := 27) d_Line_add_27 fl_Line_15 g0.1 rfl ?_
        refine fw_iconst (pc := 30) d_Line_add_30 fw_ic1 ?_
        refine fw_isub (pc := 31) d_Line_add_31 ?_
        refine fw_ishl (pc := 32) d_Line_add_32 ?_
        refine fw_ior (pc := 33) d_Line_add_33 ?_
        obtain ⟨μ34, e34, h⟩ := fw_ne h
        refine fw_putI (pc := 34) d_Line_add_34 fp_Line_19 g0.1 rfl (fw_mem e34 ?_)
        obtain rfl := Option.some.inj h
        exact fw_sub [0, 1] rfl hJ13
      · have h := fw_if hc h
        obtain rfl := Option.some.inj h
        exact fw_sub [0, 1] rfl hJ13
