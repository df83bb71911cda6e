abbrev Y_Tape_readLine : fw_Y := (⟨"FewTypes$Tape", "readLine", "(LFewTypes$Line;)I"⟩, prog_9_method_5_code, 5, (some .int))
abbrev Y_Line_take : fw_Y := (⟨"FewTypes$Line", "take", "(LFewTypes$Line;)V"⟩, prog_4_method_5_code, 2, none)
abbrev Y_X_line : fw_Y := (⟨"FewTypes", "line", "()I"⟩, prog_1_method_8_code, 2, (some .int))
abbrev Y_Tape_kindOf : fw_Y := (⟨"FewTypes$Tape", "kindOf", "(I)I"⟩, prog_9_method_8_code, 1, (some .int))
abbrev Y_Tape_readType : fw_Y := (⟨"FewTypes$Tape", "readType", "(LFewTypes$Case;)Z"⟩, prog_9_method_7_code, 6, (some .boolean))
abbrev Y_Tape_readCase : fw_Y := (⟨"FewTypes$Tape", "readCase", "(LFewTypes$Case;)I"⟩, prog_9_method_6_code, 4, (some .int))
abbrev Y_Case_take : fw_Y := (⟨"FewTypes$Case", "take", "(LFewTypes$Case;)V"⟩, prog_2_method_6_code, 2, none)
abbrev Y_X_types : fw_Y := (⟨"FewTypes", "types", "()I"⟩, prog_1_method_9_code, 2, (some .int))
abbrev Y_Line_has : fw_Y := (⟨"FewTypes$Line", "has", "(I)Z"⟩, prog_4_method_2_code, 2, (some .boolean))
abbrev Y_X_inSet : fw_Y := (⟨"FewTypes", "inSet", "(II)Z"⟩, prog_1_method_38_code, 2, (some .boolean))
abbrev Y_Line_besideNext : fw_Y := (⟨"FewTypes$Line", "besideNext", "(I)Z"⟩, prog_4_method_6_code, 2, (some .boolean))
abbrev Y_Line_left : fw_Y := (⟨"FewTypes$Line", "left", "(I[I)I"⟩, prog_4_method_7_code, 5, (some .int))
abbrev Y_X_place : fw_Y := (⟨"FewTypes", "place", "(II)I"⟩, prog_1_method_10_code, 3, (some .int))
abbrev Y_Line_hairs : fw_Y := (⟨"FewTypes$Line", "hairs", "([I)I"⟩, prog_4_method_8_code, 2, (some .int))
theorem fl_X_47 : fw_FL "FewTypes" 47 8 6 := ⟨_, _, _, rfl, fw_i8, by decide, fw_m 319 (by decide +kernel) (by decide +kernel)⟩
theorem mv_X_136 : fw_MV "FewTypes" 136 Y_Tape_readLine 7 1 := ⟨fw_m 421 (by decide +kernel) (by decide +kernel), fw_m 422 (by decide +kernel) (by decide +kernel), fw_m 423 (by decide +kernel) (by decide +kernel), fw_m 66 (by decide +kernel) (by decide +kernel), fw_m 424 (by decide +kernel) (by decide +kernel), ⟨by decide +kernel, by decide +kernel, by decide +kernel⟩, by decide, _, _, rfl⟩
theorem mv_Tape_28 : fw_MV "FewTypes$Tape" 28 Y_Line_empty 2 0 := ⟨fw_m 425 (by decide +kernel) (by decide +kernel), fw_m 426 (by decide +kernel) (by decide +kernel), fw_m 427 (by decide +kernel) (by decide +kernel), fw_m 62 (by decide +kernel) (by decide +kernel), fw_m 428 (by decide +kernel) (by decide +kernel), ⟨by decide +kernel, by decide +kernel, by decide +kernel⟩, by decide, _, _, rfl⟩
theorem mv_Tape_33 : fw_MV "FewTypes$Tape" 33 Y_Tape_nextSign 7 0 := ⟨fw_m 429 (by decide +kernel) (by decide +kernel), fw_m 431 (by decide +kernel) (by decide +kernel), fw_m 1 (by decide +kernel) (by decide +kernel), fw_m 66 (by decide +kernel) (by decide +kernel), fw_m 432 (by decide +kernel) (by decide +kernel), ⟨by decide +kernel, by decide +kernel, by decide +kernel⟩, by decide, _, _, rfl⟩
theorem fl_Tape_40 : fw_FL "FewTypes$Tape" 40 2 1 := ⟨_, _, _, rfl, fw_i2, by decide, fw_m 127 (by decide +kernel) (by decide +kernel)⟩
theorem mv_Tape_37 : fw_MV "FewTypes$Tape" 37 Y_Tape_fault 7 0 := ⟨fw_m 433 (by decide +kernel) (by decide +kernel), fw_m 435 (by decide +kernel) (by decide +kernel), fw_m 2 (by decide +kernel) (by decide +kernel), fw_m 66 (by decide +kernel) (by decide +kernel), fw_m 436 (by decide +kernel) (by decide +kernel), ⟨by decide +kernel, by decide +kernel, by decide +kernel⟩, by decide, _, _, rfl⟩
theorem ms_Tape_41 : fw_MN "FewTypes$Tape" 41 Y_X_isLetter 1 := ⟨by decide +kernel, fw_m 361 (by decide +kernel) (by decide +kernel), fw_m 59 (by decide +kernel) (by decide +kernel), fw_m 362 (by decide +kernel) (by decide +kernel), ⟨by decide +kernel, by decide +kernel, by decide +kernel⟩, by decide⟩
theorem mv_Tape_45 : fw_MV "FewTypes$Tape" 45 Y_Line_add 2 2 := ⟨fw_m 438 (by decide +kernel) (by decide +kernel), fw_m 439 (by decide +kernel) (by decide +kernel), fw_m 440 (by decide +kernel) (by decide +kernel), fw_m 62 (by decide +kernel) (by decide +kernel), fw_m 441 (by decide +kernel) (by decide +kernel), ⟨by decide +kernel, by decide +kernel, by decide +kernel⟩, by decide, _, _, rfl⟩
theorem fp_X_132 : fw_FP "FewTypes" 132 7 1 .int := ⟨_, _, _, fw_t7, rfl, fw_i7, by decide, fw_m 211 (by decide +kernel) (by decide +kernel), fw_k7, fw_n7, rfl, by decide +kernel⟩
theorem fl_X_139 : fw_FL "FewTypes" 139 6 1 := ⟨_, _, _, rfl, fw_i6, by decide, fw_m 171 (by decide +kernel) (by decide +kernel)⟩
theorem mv_X_142 : fw_MV "FewTypes" 142 Y_Line_take 2 1 := ⟨fw_m 442 (by decide +kernel) (by decide +kernel), fw_m 443 (by decide +kernel) (by decide +kernel), fw_m 444 (by decide +kernel) (by decide +kernel), fw_m 62 (by decide +kernel) (by decide +kernel), fw_m 445 (by decide +kernel) (by decide +kernel), ⟨by decide +kernel, by decide +kernel, by decide +kernel⟩, by decide, _, _, rfl⟩
theorem ma_Line_22 : Cond.methodLink "FewTypes$Line" 22 arraycopyName ∈ fw_tb := fw_m 446 (by decide +kernel) (by decide +kernel)
theorem fl_X_54 : fw_FL "FewTypes" 54 8 7 := ⟨_, _, _, rfl, fw_i8, by decide, fw_m 320 (by decide +kernel) (by decide +kernel)⟩
theorem mv_X_146 : fw_MV "FewTypes" 146 Y_Tape_readCase 7 1 := ⟨fw_m 451 (by decide +kernel) (by decide +kernel), fw_m 452 (by decide +kernel) (by decide +kernel), fw_m 453 (by decide +kernel) (by decide +kernel), fw_m 66 (by decide +kernel) (by decide +kernel), fw_m 454 (by decide +kernel) (by decide +kernel), ⟨by decide +kernel, by decide +kernel, by decide +kernel⟩, by decide, _, _, rfl⟩
theorem fp_Tape_49 : fw_FP "FewTypes$Tape" 49 0 3 .int := ⟨_, _, _, fw_t0, rfl, fw_i0, by decide, fw_m 103 (by decide +kernel) (by decide +kernel), fw_k0, fw_n0, rfl, by decide +kernel⟩
theorem mv_Tape_52 : fw_MV "FewTypes$Tape" 52 Y_Tape_readType 7 1 := ⟨fw_m 455 (by decide +kernel) (by decide +kernel), fw_m 457 (by decide +kernel) (by decide +kernel), fw_m 3 (by decide +kernel) (by decide +kernel), fw_m 66 (by decide +kernel) (by decide +kernel), fw_m 458 (by decide +kernel) (by decide +kernel), ⟨by decide +kernel, by decide +kernel, by decide +kernel⟩, by decide, _, _, rfl⟩
theorem ms_Tape_56 : fw_MS "FewTypes$Tape" 56 Y_Tape_kindOf 1 := ⟨fw_m 459 (by decide +kernel) (by decide +kernel), fw_m 460 (by decide +kernel) (by decide +kernel), fw_m 66 (by decide +kernel) (by decide +kernel), fw_m 461 (by decide +kernel) (by decide +kernel), ⟨by decide +kernel, by decide +kernel, by decide +kernel⟩, by decide⟩
theorem mv_Tape_60 : fw_MV "FewTypes$Tape" 60 Y_Case_add 0 3 := ⟨fw_m 462 (by decide +kernel) (by decide +kernel), fw_m 364 (by decide +kernel) (by decide +kernel), fw_m 365 (by decide +kernel) (by decide +kernel), fw_m 61 (by decide +kernel) (by decide +kernel), fw_m 366 (by decide +kernel) (by decide +kernel), ⟨by decide +kernel, by decide +kernel, by decide +kernel⟩, by decide, _, _, rfl⟩
theorem ms_Tape_63 : fw_MS "FewTypes$Tape" 63 Y_Case_fits 3 := ⟨fw_m 463 (by decide +kernel) (by decide +kernel), fw_m 358 (by decide +kernel) (by decide +kernel), fw_m 61 (by decide +kernel) (by decide +kernel), fw_m 359 (by decide +kernel) (by decide +kernel), ⟨by decide +kernel, by decide +kernel, by decide +kernel⟩, by decide⟩
theorem fl_Tape_49 : fw_FL "FewTypes$Tape" 49 0 3 := ⟨_, _, _, rfl, fw_i0, by decide, fw_m 103 (by decide +kernel) (by decide +kernel)⟩
theorem mv_X_149 : fw_MV "FewTypes" 149 Y_Case_take 0 1 := ⟨fw_m 464 (by decide +kernel) (by decide +kernel), fw_m 465 (by decide +kernel) (by decide +kernel), fw_m 466 (by decide +kernel) (by decide +kernel), fw_m 61 (by decide +kernel) (by decide +kernel), fw_m 467 (by decide +kernel) (by decide +kernel), ⟨by decide +kernel, by decide +kernel, by decide +kernel⟩, by decide, _, _, rfl⟩
theorem ma_Case_32 : Cond.methodLink "FewTypes$Case" 32 arraycopyName ∈ fw_tb := fw_m 468 (by decide +kernel) (by decide +kernel)
theorem mv_X_152 : fw_MV "FewTypes" 152 Y_Line_has 2 1 := ⟨fw_m 473 (by decide +kernel) (by decide +kernel), fw_m 474 (by decide +kernel) (by decide +kernel), fw_m 475 (by decide +kernel) (by decide +kernel), fw_m 62 (by decide +kernel) (by decide +kernel), fw_m 476 (by decide +kernel) (by decide +kernel), ⟨by decide +kernel, by decide +kernel, by decide +kernel⟩, by decide, _, _, rfl⟩
theorem fl_X_153 : fw_FL "FewTypes" 153 2 0 := ⟨_, _, _, rfl, fw_i2, by decide, fw_m 123 (by decide +kernel) (by decide +kernel)⟩
theorem mv_X_154 : fw_MV "FewTypes" 154 Y_Line_left 2 2 := ⟨fw_m 477 (by decide +kernel) (by decide +kernel), fw_m 478 (by decide +kernel) (by decide +kernel), fw_m 479 (by decide +kernel) (by decide +kernel), fw_m 62 (by decide +kernel) (by decide +kernel), fw_m 480 (by decide +kernel) (by decide +kernel), ⟨by decide +kernel, by decide +kernel, by decide +kernel⟩, by decide, _, _, rfl⟩
theorem mv_Line_32 : fw_MV "FewTypes$Line" 32 Y_Line_besideNext 2 1 := ⟨fw_m 481 (by decide +kernel) (by decide +kernel), fw_m 482 (by decide +kernel) (by decide +kernel), fw_m 483 (by decide +kernel) (by decide +kernel), fw_m 62 (by decide +kernel) (by decide +kernel), fw_m 484 (by decide +kernel) (by decide +kernel), ⟨by decide +kernel, by decide +kernel, by decide +kernel⟩, by decide, _, _, rfl⟩
theorem ms_Line_28 : fw_MN "FewTypes$Line" 28 Y_X_inSet 2 := ⟨by decide +kernel, fw_m 486 (by decide +kernel) (by decide +kernel), fw_m 59 (by decide +kernel) (by decide +kernel), fw_m 487 (by decide +kernel) (by decide +kernel), ⟨by decide +kernel, by decide +kernel, by decide +kernel⟩, by decide⟩
theorem mv_X_158 : fw_MV "FewTypes" 158 Y_Line_besideNext 2 1 := ⟨fw_m 488 (by decide +kernel) (by decide +kernel), fw_m 482 (by decide +kernel) (by decide +kernel), fw_m 483 (by decide +kernel) (by decide +kernel), fw_m 62 (by decide +kernel) (by decide +kernel), fw_m 484 (by decide +kernel) (by decide +kernel), ⟨by decide +kernel, by decide +kernel, by decide +kernel⟩, by decide, _, _, rfl⟩
theorem mv_Line_36 : fw_MV "FewTypes$Line" 36 Y_Line_left 2 2 := ⟨fw_m 497 (by decide +kernel) (by decide +kernel), fw_m 478 (by decide +kernel) (by decide +kernel), fw_m 479 (by decide +kernel) (by decide +kernel), fw_m 62 (by decide +kernel) (by decide +kernel), fw_m 480 (by decide +kernel) (by decide +kernel), ⟨by decide +kernel, by decide +kernel, by decide +kernel⟩, by decide, _, _, rfl⟩
theorem d_Tape_readLine_0 : decode prog_9_method_5_code 0 = .ok (.aload_n 0, 1) := by decide +kernel
theorem d_Tape_readLine_1 : decode prog_9_method_5_code 1 = .ok (.iconst 0, 1) := by decide +kernel
theorem d_Tape_readLine_2 : decode prog_9_method_5_code 2 = .ok (.putfield 19, 3) := by decide +kernel
theorem d_Tape_readLine_5 : decode prog_9_method_5_code 5 = .ok (.aload_n 1, 1) := by decide +kernel
theorem d_Tape_readLine_6 : decode prog_9_method_5_code 6 = .ok (.invokevirtual 28, 3) := by decide +kernel
theorem d_Tape_readLine_9 : decode prog_9_method_5_code 9 = .ok (.iconst 1, 1) := by decide +kernel
theorem d_Tape_readLine_10 : decode prog_9_method_5_code 10 = .ok (.istore_n 2, 1) := by decide +kernel
theorem d_Tape_readLine_11 : decode prog_9_method_5_code 11 = .ok (.iconst 0, 1) := by decide +kernel
theorem d_Tape_readLine_12 : decode prog_9_method_5_code 12 = .ok (.istore_n 3, 1) := by decide +kernel
theorem d_Tape_readLine_13 : decode prog_9_method_5_code 13 = .ok (.iload_n 3, 1) := by decide +kernel
theorem d_Tape_readLine_14 : decode prog_9_method_5_code 14 = .ok (.aload_n 0, 1) := by decide +kernel
theorem d_Tape_readLine_15 : decode prog_9_method_5_code 15 = .ok (.getfield 15, 3) := by decide +kernel
theorem d_Tape_readLine_18 : decode prog_9_method_5_code 18 = .ok (.if_icmp .gt 108, 3) := by decide +kernel
theorem d_Tape_readLine_21 : decode prog_9_method_5_code 21 = .ok (.aload_n 0, 1) := by decide +kernel
theorem d_Tape_readLine_22 : decode prog_9_method_5_code 22 = .ok (.invokevirtual 33, 3) := by decide +kernel
theorem d_Tape_readLine_25 : decode prog_9_method_5_code 25 = .ok (.istore 4, 2) := by decide +kernel
theorem d_Tape_readLine_27 : decode prog_9_method_5_code 27 = .ok (.iload 4, 2) := by decide +kernel
theorem d_Tape_readLine_29 : decode prog_9_method_5_code 29 = .ok (.iconst (-1), 1) := by decide +kernel
theorem d_Tape_readLine_30 : decode prog_9_method_5_code 30 = .ok (.if_icmp .ne 19, 3) := by decide +kernel
theorem d_Tape_readLine_33 : decode prog_9_method_5_code 33 = .ok (.iload_n 2, 1) := by decide +kernel
theorem d_Tape_readLine_34 : decode prog_9_method_5_code 34 = .ok (.ifCond .eq 10, 3) := by decide +kernel
theorem d_Tape_readLine_37 : decode prog_9_method_5_code 37 = .ok (.aload_n 0, 1) := by decide +kernel
theorem d_Tape_readLine_38 : decode prog_9_method_5_code 38 = .ok (.invokevirtual 37, 3) := by decide +kernel
theorem d_Tape_readLine_41 : decode prog_9_method_5_code 41 = .ok (.goto 7, 3) := by decide +kernel
theorem d_Tape_readLine_44 : decode prog_9_method_5_code 44 = .ok (.aload_n 1, 1) := by decide +kernel
theorem d_Tape_readLine_45 : decode prog_9_method_5_code 45 = .ok (.getfield 40, 3) := by decide +kernel
theorem d_Tape_readLine_48 : decode prog_9_method_5_code 48 = .ok (.ireturn, 1) := by decide +kernel
theorem d_Tape_readLine_49 : decode prog_9_method_5_code 49 = .ok (.aload_n 1, 1) := by decide +kernel
theorem d_Tape_readLine_50 : decode prog_9_method_5_code 50 = .ok (.getfield 40, 3) := by decide +kernel
theorem d_Tape_readLine_53 : decode prog_9_method_5_code 53 = .ok (.bipush 10, 2) := by decide +kernel
theorem d_Tape_readLine_55 : decode prog_9_method_5_code 55 = .ok (.if_icmp .lt 8, 3) := by decide +kernel
theorem d_Tape_readLine_58 : decode prog_9_method_5_code 58 = .ok (.aload_n 0, 1) := by decide +kernel
theorem d_Tape_readLine_59 : decode prog_9_method_5_code 59 = .ok (.invokevirtual 37, 3) := by decide +kernel
theorem d_Tape_readLine_62 : decode prog_9_method_5_code 62 = .ok (.ireturn, 1) := by decide +kernel
theorem d_Tape_readLine_63 : decode prog_9_method_5_code 63 = .ok (.iload 4, 2) := by decide +kernel
theorem d_Tape_readLine_65 : decode prog_9_method_5_code 65 = .ok (.bipush 97, 2) := by decide +kernel
theorem d_Tape_readLine_67 : decode prog_9_method_5_code 67 = .ok (.isub, 1) := by decide +kernel
theorem d_Tape_readLine_68 : decode prog_9_method_5_code 68 = .ok (.invokestatic 41, 3) := by decide +kernel
theorem d_Tape_readLine_71 : decode prog_9_method_5_code 71 = .ok (.ifCond .eq 18, 3) := by decide +kernel
theorem d_Tape_readLine_74 : decode prog_9_method_5_code 74 = .ok (.aload_n 1, 1) := by decide +kernel
theorem d_Tape_readLine_75 : decode prog_9_method_5_code 75 = .ok (.iload 4, 2) := by decide +kernel
theorem d_Tape_readLine_77 : decode prog_9_method_5_code 77 = .ok (.bipush 97, 2) := by decide +kernel
theorem d_Tape_readLine_79 : decode prog_9_method_5_code 79 = .ok (.isub, 1) := by decide +kernel
theorem d_Tape_readLine_80 : decode prog_9_method_5_code 80 = .ok (.iload_n 2, 1) := by decide +kernel
theorem d_Tape_readLine_81 : decode prog_9_method_5_code 81 = .ok (.invokevirtual 45, 3) := by decide +kernel
theorem d_Tape_readLine_84 : decode prog_9_method_5_code 84 = .ok (.iconst 0, 1) := by decide +kernel
theorem d_Tape_readLine_85 : decode prog_9_method_5_code 85 = .ok (.istore_n 2, 1) := by decide +kernel
theorem d_Tape_readLine_86 : decode prog_9_method_5_code 86 = .ok (.goto 24, 3) := by decide +kernel
theorem d_Tape_readLine_89 : decode prog_9_method_5_code 89 = .ok (.iload 4, 2) := by decide +kernel
theorem d_Tape_readLine_91 : decode prog_9_method_5_code 91 = .ok (.bipush 95, 2) := by decide +kernel
theorem d_Tape_readLine_93 : decode prog_9_method_5_code 93 = .ok (.if_icmp .ne 12, 3) := by decide +kernel
theorem d_Tape_readLine_96 : decode prog_9_method_5_code 96 = .ok (.iload_n 2, 1) := by decide +kernel
theorem d_Tape_readLine_97 : decode prog_9_method_5_code 97 = .ok (.ifCond .ne 8, 3) := by decide +kernel
theorem d_Tape_readLine_100 : decode prog_9_method_5_code 100 = .ok (.iconst 1, 1) := by decide +kernel
theorem d_Tape_readLine_101 : decode prog_9_method_5_code 101 = .ok (.istore_n 2, 1) := by decide +kernel
theorem d_Tape_readLine_102 : decode prog_9_method_5_code 102 = .ok (.goto 8, 3) := by decide +kernel
theorem d_Tape_readLine_105 : decode prog_9_method_5_code 105 = .ok (.aload_n 0, 1) := by decide +kernel
theorem d_Tape_readLine_106 : decode prog_9_method_5_code 106 = .ok (.invokevirtual 37, 3) := by decide +kernel
theorem d_Tape_readLine_109 : decode prog_9_method_5_code 109 = .ok (.ireturn, 1) := by decide +kernel
theorem d_Tape_readLine_110 : decode prog_9_method_5_code 110 = .ok (.aload_n 0, 1) := by decide +kernel
theorem d_Tape_readLine_111 : decode prog_9_method_5_code 111 = .ok (.dup, 1) := by decide +kernel
theorem d_Tape_readLine_112 : decode prog_9_method_5_code 112 = .ok (.getfield 19, 3) := by decide +kernel
theorem d_Tape_readLine_115 : decode prog_9_method_5_code 115 = .ok (.iconst 1, 1) := by decide +kernel
theorem d_Tape_readLine_116 : decode prog_9_method_5_code 116 = .ok (.iadd, 1) := by decide +kernel
theorem d_Tape_readLine_117 : decode prog_9_method_5_code 117 = .ok (.putfield 19, 3) := by decide +kernel
theorem d_Tape_readLine_120 : decode prog_9_method_5_code 120 = .ok (.iinc 3 1, 3) := by decide +kernel
theorem d_Tape_readLine_123 : decode prog_9_method_5_code 123 = .ok (.goto (-110), 3) := by decide +kernel
theorem d_Tape_readLine_126 : decode prog_9_method_5_code 126 = .ok (.aload_n 0, 1) := by decide +kernel
theorem d_Tape_readLine_127 : decode prog_9_method_5_code 127 = .ok (.invokevirtual 37, 3) := by decide +kernel
theorem d_Tape_readLine_130 : decode prog_9_method_5_code 130 = .ok (.ireturn, 1) := by decide +kernel
theorem d_Line_take_0 : decode prog_4_method_5_code 0 = .ok (.aload_n 1, 1) := by decide +kernel
theorem d_Line_take_1 : decode prog_4_method_5_code 1 = .ok (.getfield 9, 3) := by decide +kernel
theorem d_Line_take_4 : decode prog_4_method_5_code 4 = .ok (.iconst 0, 1) := by decide +kernel
theorem d_Line_take_5 : decode prog_4_method_5_code 5 = .ok (.aload_n 0, 1) := by decide +kernel
theorem d_Line_take_6 : decode prog_4_method_5_code 6 = .ok (.getfield 9, 3) := by decide +kernel
theorem d_Line_take_9 : decode prog_4_method_5_code 9 = .ok (.iconst 0, 1) := by decide +kernel
theorem d_Line_take_10 : decode prog_4_method_5_code 10 = .ok (.bipush 10, 2) := by decide +kernel
theorem d_Line_take_12 : decode prog_4_method_5_code 12 = .ok (.invokestatic 22, 3) := by decide +kernel
theorem d_Line_take_15 : decode prog_4_method_5_code 15 = .ok (.aload_n 0, 1) := by decide +kernel
theorem d_Line_take_16 : decode prog_4_method_5_code 16 = .ok (.aload_n 1, 1) := by decide +kernel
theorem d_Line_take_17 : decode prog_4_method_5_code 17 = .ok (.getfield 15, 3) := by decide +kernel
theorem d_Line_take_20 : decode prog_4_method_5_code 20 = .ok (.putfield 15, 3) := by decide +kernel
theorem d_Line_take_23 : decode prog_4_method_5_code 23 = .ok (.aload_n 0, 1) := by decide +kernel
theorem d_Line_take_24 : decode prog_4_method_5_code 24 = .ok (.aload_n 1, 1) := by decide +kernel
theorem d_Line_take_25 : decode prog_4_method_5_code 25 = .ok (.getfield 19, 3) := by decide +kernel
theorem d_Line_take_28 : decode prog_4_method_5_code 28 = .ok (.putfield 19, 3) := by decide +kernel
theorem d_Line_take_31 : decode prog_4_method_5_code 31 = .ok (.return_, 1) := by decide +kernel
theorem d_X_line_0 : decode prog_1_method_8_code 0 = .ok (.aload_n 0, 1) := by decide +kernel
theorem d_X_line_1 : decode prog_1_method_8_code 1 = .ok (.getfield 26, 3) := by decide +kernel
theorem d_X_line_4 : decode prog_1_method_8_code 4 = .ok (.aload_n 0, 1) := by decide +kernel
theorem d_X_line_5 : decode prog_1_method_8_code 5 = .ok (.getfield 47, 3) := by decide +kernel
theorem d_X_line_8 : decode prog_1_method_8_code 8 = .ok (.invokevirtual 136, 3) := by decide +kernel
theorem d_X_line_11 : decode prog_1_method_8_code 11 = .ok (.istore_n 1, 1) := by decide +kernel
theorem d_X_line_12 : decode prog_1_method_8_code 12 = .ok (.aload_n 0, 1) := by decide +kernel
theorem d_X_line_13 : decode prog_1_method_8_code 13 = .ok (.getfield 26, 3) := by decide +kernel
theorem d_X_line_16 : decode prog_1_method_8_code 16 = .ok (.iconst 0, 1) := by decide +kernel
theorem d_X_line_17 : decode prog_1_method_8_code 17 = .ok (.putfield 132, 3) := by decide +kernel
theorem d_X_line_20 : decode prog_1_method_8_code 20 = .ok (.iload_n 1, 1) := by decide +kernel
theorem d_X_line_21 : decode prog_1_method_8_code 21 = .ok (.ifCond .le 25, 3) := by decide +kernel
theorem d_X_line_24 : decode prog_1_method_8_code 24 = .ok (.aload_n 0, 1) := by decide +kernel
theorem d_X_line_25 : decode prog_1_method_8_code 25 = .ok (.getfield 12, 3) := by decide +kernel
theorem d_X_line_28 : decode prog_1_method_8_code 28 = .ok (.getfield 139, 3) := by decide +kernel
theorem d_X_line_31 : decode prog_1_method_8_code 31 = .ok (.aload_n 0, 1) := by decide +kernel
theorem d_X_line_32 : decode prog_1_method_8_code 32 = .ok (.getfield 47, 3) := by decide +kernel
theorem d_X_line_35 : decode prog_1_method_8_code 35 = .ok (.invokevirtual 142, 3) := by decide +kernel
theorem d_X_line_38 : decode prog_1_method_8_code 38 = .ok (.aload_n 0, 1) := by decide +kernel
theorem d_X_line_39 : decode prog_1_method_8_code 39 = .ok (.getfield 58, 3) := by decide +kernel
theorem d_X_line_42 : decode prog_1_method_8_code 42 = .ok (.bipush 8, 2) := by decide +kernel
theorem d_X_line_44 : decode prog_1_method_8_code 44 = .ok (.iconst 0, 1) := by decide +kernel
theorem d_X_line_45 : decode prog_1_method_8_code 45 = .ok (.iastore, 1) := by decide +kernel
theorem d_X_line_46 : decode prog_1_method_8_code 46 = .ok (.iload_n 1, 1) := by decide +kernel
theorem d_X_line_47 : decode prog_1_method_8_code 47 = .ok (.ireturn, 1) := by decide +kernel
theorem d_Tape_kindOf_0 : decode prog_9_method_8_code 0 = .ok (.iload_n 0, 1) := by decide +kernel
theorem d_Tape_kindOf_1 : decode prog_9_method_8_code 1 = .ok (.lookupswitch 41 #[(109, 39), (110, 37), (116, 35)], 35) := by decide +kernel
theorem d_Tape_kindOf_36 : decode prog_9_method_8_code 36 = .ok (.iconst 1, 1) := by decide +kernel
theorem d_Tape_kindOf_37 : decode prog_9_method_8_code 37 = .ok (.ireturn, 1) := by decide +kernel
theorem d_Tape_kindOf_38 : decode prog_9_method_8_code 38 = .ok (.iconst 2, 1) := by decide +kernel
theorem d_Tape_kindOf_39 : decode prog_9_method_8_code 39 = .ok (.ireturn, 1) := by decide +kernel
theorem d_Tape_kindOf_40 : decode prog_9_method_8_code 40 = .ok (.iconst 3, 1) := by decide +kernel
theorem d_Tape_kindOf_41 : decode prog_9_method_8_code 41 = .ok (.ireturn, 1) := by decide +kernel
theorem d_Tape_kindOf_42 : decode prog_9_method_8_code 42 = .ok (.iload_n 0, 1) := by decide +kernel
theorem d_Tape_kindOf_43 : decode prog_9_method_8_code 43 = .ok (.bipush 97, 2) := by decide +kernel
theorem d_Tape_kindOf_45 : decode prog_9_method_8_code 45 = .ok (.isub, 1) := by decide +kernel
theorem d_Tape_kindOf_46 : decode prog_9_method_8_code 46 = .ok (.invokestatic 41, 3) := by decide +kernel
theorem d_Tape_kindOf_49 : decode prog_9_method_8_code 49 = .ok (.ifCond .eq 7, 3) := by decide +kernel
theorem d_Tape_kindOf_52 : decode prog_9_method_8_code 52 = .ok (.iconst 0, 1) := by decide +kernel
theorem d_Tape_kindOf_53 : decode prog_9_method_8_code 53 = .ok (.goto 4, 3) := by decide +kernel
theorem d_Tape_kindOf_56 : decode prog_9_method_8_code 56 = .ok (.iconst (-1), 1) := by decide +kernel
theorem d_Tape_kindOf_57 : decode prog_9_method_8_code 57 = .ok (.ireturn, 1) := by decide +kernel
theorem d_Tape_readType_0 : decode prog_9_method_7_code 0 = .ok (.aload_n 0, 1) := by decide +kernel
theorem d_Tape_readType_1 : decode prog_9_method_7_code 1 = .ok (.invokevirtual 33, 3) := by decide +kernel
theorem d_Tape_readType_4 : decode prog_9_method_7_code 4 = .ok (.istore_n 2, 1) := by decide +kernel
theorem d_Tape_readType_5 : decode prog_9_method_7_code 5 = .ok (.iload_n 2, 1) := by decide +kernel
theorem d_Tape_readType_6 : decode prog_9_method_7_code 6 = .ok (.invokestatic 56, 3) := by decide +kernel
theorem d_Tape_readType_9 : decode prog_9_method_7_code 9 = .ok (.istore_n 3, 1) := by decide +kernel
theorem d_Tape_readType_10 : decode prog_9_method_7_code 10 = .ok (.iload_n 3, 1) := by decide +kernel
theorem d_Tape_readType_11 : decode prog_9_method_7_code 11 = .ok (.iconst (-1), 1) := by decide +kernel
theorem d_Tape_readType_12 : decode prog_9_method_7_code 12 = .ok (.if_icmp .ne 5, 3) := by decide +kernel
theorem d_Tape_readType_15 : decode prog_9_method_7_code 15 = .ok (.iconst 0, 1) := by decide +kernel
theorem d_Tape_readType_16 : decode prog_9_method_7_code 16 = .ok (.ireturn, 1) := by decide +kernel
theorem d_Tape_readType_17 : decode prog_9_method_7_code 17 = .ok (.aload_n 0, 1) := by decide +kernel
theorem d_Tape_readType_18 : decode prog_9_method_7_code 18 = .ok (.dup, 1) := by decide +kernel
theorem d_Tape_readType_19 : decode prog_9_method_7_code 19 = .ok (.getfield 19, 3) := by decide +kernel
theorem d_Tape_readType_22 : decode prog_9_method_7_code 22 = .ok (.iconst 1, 1) := by decide +kernel
theorem d_Tape_readType_23 : decode prog_9_method_7_code 23 = .ok (.iadd, 1) := by decide +kernel
theorem d_Tape_readType_24 : decode prog_9_method_7_code 24 = .ok (.putfield 19, 3) := by decide +kernel
theorem d_Tape_readType_27 : decode prog_9_method_7_code 27 = .ok (.iload_n 3, 1) := by decide +kernel
theorem d_Tape_readType_28 : decode prog_9_method_7_code 28 = .ok (.ifCond .ne 15, 3) := by decide +kernel
theorem d_Tape_readType_31 : decode prog_9_method_7_code 31 = .ok (.aload_n 1, 1) := by decide +kernel
theorem d_Tape_readType_32 : decode prog_9_method_7_code 32 = .ok (.iconst 0, 1) := by decide +kernel
theorem d_Tape_readType_33 : decode prog_9_method_7_code 33 = .ok (.iload_n 2, 1) := by decide +kernel
theorem d_Tape_readType_34 : decode prog_9_method_7_code 34 = .ok (.bipush 97, 2) := by decide +kernel
theorem d_Tape_readType_36 : decode prog_9_method_7_code 36 = .ok (.isub, 1) := by decide +kernel
theorem d_Tape_readType_37 : decode prog_9_method_7_code 37 = .ok (.iconst 0, 1) := by decide +kernel
theorem d_Tape_readType_38 : decode prog_9_method_7_code 38 = .ok (.invokevirtual 60, 3) := by decide +kernel
theorem d_Tape_readType_41 : decode prog_9_method_7_code 41 = .ok (.iconst 1, 1) := by decide +kernel
theorem d_Tape_readType_42 : decode prog_9_method_7_code 42 = .ok (.ireturn, 1) := by decide +kernel
theorem d_Tape_readType_43 : decode prog_9_method_7_code 43 = .ok (.aload_n 0, 1) := by decide +kernel
theorem d_Tape_readType_44 : decode prog_9_method_7_code 44 = .ok (.invokevirtual 33, 3) := by decide +kernel
theorem d_Tape_readType_47 : decode prog_9_method_7_code 47 = .ok (.bipush 97, 2) := by decide +kernel
theorem d_Tape_readType_49 : decode prog_9_method_7_code 49 = .ok (.isub, 1) := by decide +kernel
theorem d_Tape_readType_50 : decode prog_9_method_7_code 50 = .ok (.istore 4, 2) := by decide +kernel
theorem d_Tape_readType_52 : decode prog_9_method_7_code 52 = .ok (.iload 4, 2) := by decide +kernel
theorem d_Tape_readType_54 : decode prog_9_method_7_code 54 = .ok (.invokestatic 41, 3) := by decide +kernel
theorem d_Tape_readType_57 : decode prog_9_method_7_code 57 = .ok (.ifCond .ne 5, 3) := by decide +kernel
theorem d_Tape_readType_60 : decode prog_9_method_7_code 60 = .ok (.iconst 0, 1) := by decide +kernel
theorem d_Tape_readType_61 : decode prog_9_method_7_code 61 = .ok (.ireturn, 1) := by decide +kernel
theorem d_Tape_readType_62 : decode prog_9_method_7_code 62 = .ok (.aload_n 0, 1) := by decide +kernel
theorem d_Tape_readType_63 : decode prog_9_method_7_code 63 = .ok (.dup, 1) := by decide +kernel
theorem d_Tape_readType_64 : decode prog_9_method_7_code 64 = .ok (.getfield 19, 3) := by decide +kernel
theorem d_Tape_readType_67 : decode prog_9_method_7_code 67 = .ok (.iconst 1, 1) := by decide +kernel
theorem d_Tape_readType_68 : decode prog_9_method_7_code 68 = .ok (.iadd, 1) := by decide +kernel
theorem d_Tape_readType_69 : decode prog_9_method_7_code 69 = .ok (.putfield 19, 3) := by decide +kernel
theorem d_Tape_readType_72 : decode prog_9_method_7_code 72 = .ok (.aload_n 0, 1) := by decide +kernel
theorem d_Tape_readType_73 : decode prog_9_method_7_code 73 = .ok (.invokevirtual 33, 3) := by decide +kernel
theorem d_Tape_readType_76 : decode prog_9_method_7_code 76 = .ok (.iload_n 3, 1) := by decide +kernel
theorem d_Tape_readType_77 : decode prog_9_method_7_code 77 = .ok (.iconst 3, 1) := by decide +kernel
theorem d_Tape_readType_78 : decode prog_9_method_7_code 78 = .ok (.if_icmp .ne 8, 3) := by decide +kernel
theorem d_Tape_readType_81 : decode prog_9_method_7_code 81 = .ok (.bipush 48, 2) := by decide +kernel
theorem d_Tape_readType_83 : decode prog_9_method_7_code 83 = .ok (.goto 5, 3) := by decide +kernel
theorem d_Tape_readType_86 : decode prog_9_method_7_code 86 = .ok (.bipush 97, 2) := by decide +kernel
theorem d_Tape_readType_88 : decode prog_9_method_7_code 88 = .ok (.isub, 1) := by decide +kernel
theorem d_Tape_readType_89 : decode prog_9_method_7_code 89 = .ok (.istore 5, 2) := by decide +kernel
theorem d_Tape_readType_91 : decode prog_9_method_7_code 91 = .ok (.iload_n 3, 1) := by decide +kernel
theorem d_Tape_readType_92 : decode prog_9_method_7_code 92 = .ok (.iload 4, 2) := by decide +kernel
theorem d_Tape_readType_94 : decode prog_9_method_7_code 94 = .ok (.iload 5, 2) := by decide +kernel
theorem d_Tape_readType_96 : decode prog_9_method_7_code 96 = .ok (.invokestatic 63, 3) := by decide +kernel
theorem d_Tape_readType_99 : decode prog_9_method_7_code 99 = .ok (.ifCond .ne 5, 3) := by decide +kernel
theorem d_Tape_readType_102 : decode prog_9_method_7_code 102 = .ok (.iconst 0, 1) := by decide +kernel
theorem d_Tape_readType_103 : decode prog_9_method_7_code 103 = .ok (.ireturn, 1) := by decide +kernel
theorem d_Tape_readType_104 : decode prog_9_method_7_code 104 = .ok (.aload_n 0, 1) := by decide +kernel
theorem d_Tape_readType_105 : decode prog_9_method_7_code 105 = .ok (.dup, 1) := by decide +kernel
theorem d_Tape_readType_106 : decode prog_9_method_7_code 106 = .ok (.getfield 19, 3) := by decide +kernel
theorem d_Tape_readType_109 : decode prog_9_method_7_code 109 = .ok (.iconst 1, 1) := by decide +kernel
theorem d_Tape_readType_110 : decode prog_9_method_7_code 110 = .ok (.iadd, 1) := by decide +kernel
theorem d_Tape_readType_111 : decode prog_9_method_7_code 111 = .ok (.putfield 19, 3) := by decide +kernel
theorem d_Tape_readType_114 : decode prog_9_method_7_code 114 = .ok (.aload_n 1, 1) := by decide +kernel
theorem d_Tape_readType_115 : decode prog_9_method_7_code 115 = .ok (.iload_n 3, 1) := by decide +kernel
theorem d_Tape_readType_116 : decode prog_9_method_7_code 116 = .ok (.iload 4, 2) := by decide +kernel
theorem d_Tape_readType_118 : decode prog_9_method_7_code 118 = .ok (.iload 5, 2) := by decide +kernel
theorem d_Tape_readType_120 : decode prog_9_method_7_code 120 = .ok (.invokevirtual 60, 3) := by decide +kernel
theorem d_Tape_readType_123 : decode prog_9_method_7_code 123 = .ok (.iconst 1, 1) := by decide +kernel
theorem d_Tape_readType_124 : decode prog_9_method_7_code 124 = .ok (.ireturn, 1) := by decide +kernel
theorem d_Tape_readCase_0 : decode prog_9_method_6_code 0 = .ok (.aload_n 0, 1) := by decide +kernel
theorem d_Tape_readCase_1 : decode prog_9_method_6_code 1 = .ok (.iconst 0, 1) := by decide +kernel
theorem d_Tape_readCase_2 : decode prog_9_method_6_code 2 = .ok (.putfield 19, 3) := by decide +kernel
theorem d_Tape_readCase_5 : decode prog_9_method_6_code 5 = .ok (.aload_n 1, 1) := by decide +kernel
theorem d_Tape_readCase_6 : decode prog_9_method_6_code 6 = .ok (.iconst 0, 1) := by decide +kernel
theorem d_Tape_readCase_7 : decode prog_9_method_6_code 7 = .ok (.putfield 49, 3) := by decide +kernel
theorem d_Tape_readCase_10 : decode prog_9_method_6_code 10 = .ok (.iconst 0, 1) := by decide +kernel
theorem d_Tape_readCase_11 : decode prog_9_method_6_code 11 = .ok (.istore_n 2, 1) := by decide +kernel
theorem d_Tape_readCase_12 : decode prog_9_method_6_code 12 = .ok (.iload_n 2, 1) := by decide +kernel
theorem d_Tape_readCase_13 : decode prog_9_method_6_code 13 = .ok (.aload_n 0, 1) := by decide +kernel
theorem d_Tape_readCase_14 : decode prog_9_method_6_code 14 = .ok (.getfield 15, 3) := by decide +kernel
theorem d_Tape_readCase_17 : decode prog_9_method_6_code 17 = .ok (.if_icmp .gt 67, 3) := by decide +kernel
theorem d_Tape_readCase_20 : decode prog_9_method_6_code 20 = .ok (.aload_n 0, 1) := by decide +kernel
theorem d_Tape_readCase_21 : decode prog_9_method_6_code 21 = .ok (.aload_n 1, 1) := by decide +kernel
theorem d_Tape_readCase_22 : decode prog_9_method_6_code 22 = .ok (.invokevirtual 52, 3) := by decide +kernel
theorem d_Tape_readCase_25 : decode prog_9_method_6_code 25 = .ok (.ifCond .ne 8, 3) := by decide +kernel
theorem d_Tape_readCase_28 : decode prog_9_method_6_code 28 = .ok (.aload_n 0, 1) := by decide +kernel
theorem d_Tape_readCase_29 : decode prog_9_method_6_code 29 = .ok (.invokevirtual 37, 3) := by decide +kernel
theorem d_Tape_readCase_32 : decode prog_9_method_6_code 32 = .ok (.ireturn, 1) := by decide +kernel
theorem d_Tape_readCase_33 : decode prog_9_method_6_code 33 = .ok (.aload_n 0, 1) := by decide +kernel
theorem d_Tape_readCase_34 : decode prog_9_method_6_code 34 = .ok (.invokevirtual 33, 3) := by decide +kernel
theorem d_Tape_readCase_37 : decode prog_9_method_6_code 37 = .ok (.istore_n 3, 1) := by decide +kernel
theorem d_Tape_readCase_38 : decode prog_9_method_6_code 38 = .ok (.iload_n 3, 1) := by decide +kernel
theorem d_Tape_readCase_39 : decode prog_9_method_6_code 39 = .ok (.iconst (-1), 1) := by decide +kernel
theorem d_Tape_readCase_40 : decode prog_9_method_6_code 40 = .ok (.if_icmp .ne 8, 3) := by decide +kernel
theorem d_Tape_readCase_43 : decode prog_9_method_6_code 43 = .ok (.aload_n 1, 1) := by decide +kernel
theorem d_Tape_readCase_44 : decode prog_9_method_6_code 44 = .ok (.getfield 49, 3) := by decide +kernel
theorem d_Tape_readCase_47 : decode prog_9_method_6_code 47 = .ok (.ireturn, 1) := by decide +kernel
theorem d_Tape_readCase_48 : decode prog_9_method_6_code 48 = .ok (.iload_n 3, 1) := by decide +kernel
theorem d_Tape_readCase_49 : decode prog_9_method_6_code 49 = .ok (.bipush 44, 2) := by decide +kernel
theorem d_Tape_readCase_51 : decode prog_9_method_6_code 51 = .ok (.if_icmp .ne 12, 3) := by decide +kernel
theorem d_Tape_readCase_54 : decode prog_9_method_6_code 54 = .ok (.aload_n 1, 1) := by decide +kernel
theorem d_Tape_readCase_55 : decode prog_9_method_6_code 55 = .ok (.getfield 49, 3) := by decide +kernel
theorem d_Tape_readCase_58 : decode prog_9_method_6_code 58 = .ok (.bipush 10, 2) := by decide +kernel
theorem d_Tape_readCase_60 : decode prog_9_method_6_code 60 = .ok (.if_icmp .lt 8, 3) := by decide +kernel
theorem d_Tape_readCase_63 : decode prog_9_method_6_code 63 = .ok (.aload_n 0, 1) := by decide +kernel
theorem d_Tape_readCase_64 : decode prog_9_method_6_code 64 = .ok (.invokevirtual 37, 3) := by decide +kernel
theorem d_Tape_readCase_67 : decode prog_9_method_6_code 67 = .ok (.ireturn, 1) := by decide +kernel
theorem d_Tape_readCase_68 : decode prog_9_method_6_code 68 = .ok (.aload_n 0, 1) := by decide +kernel
theorem d_Tape_readCase_69 : decode prog_9_method_6_code 69 = .ok (.dup, 1) := by decide +kernel
theorem d_Tape_readCase_70 : decode prog_9_method_6_code 70 = .ok (.getfield 19, 3) := by decide +kernel
theorem d_Tape_readCase_73 : decode prog_9_method_6_code 73 = .ok (.iconst 1, 1) := by decide +kernel
theorem d_Tape_readCase_74 : decode prog_9_method_6_code 74 = .ok (.iadd, 1) := by decide +kernel
theorem d_Tape_readCase_75 : decode prog_9_method_6_code 75 = .ok (.putfield 19, 3) := by decide +kernel
theorem d_Tape_readCase_78 : decode prog_9_method_6_code 78 = .ok (.iinc 2 1, 3) := by decide +kernel
theorem d_Tape_readCase_81 : decode prog_9_method_6_code 81 = .ok (.goto (-69), 3) := by decide +kernel
theorem d_Tape_readCase_84 : decode prog_9_method_6_code 84 = .ok (.aload_n 0, 1) := by decide +kernel
theorem d_Tape_readCase_85 : decode prog_9_method_6_code 85 = .ok (.invokevirtual 37, 3) := by decide +kernel
theorem d_Tape_readCase_88 : decode prog_9_method_6_code 88 = .ok (.ireturn, 1) := by decide +kernel
theorem d_Case_take_0 : decode prog_2_method_6_code 0 = .ok (.aload_n 1, 1) := by decide +kernel
theorem d_Case_take_1 : decode prog_2_method_6_code 1 = .ok (.getfield 9, 3) := by decide +kernel
theorem d_Case_take_4 : decode prog_2_method_6_code 4 = .ok (.iconst 0, 1) := by decide +kernel
theorem d_Case_take_5 : decode prog_2_method_6_code 5 = .ok (.aload_n 0, 1) := by decide +kernel
theorem d_Case_take_6 : decode prog_2_method_6_code 6 = .ok (.getfield 9, 3) := by decide +kernel
theorem d_Case_take_9 : decode prog_2_method_6_code 9 = .ok (.iconst 0, 1) := by decide +kernel
theorem d_Case_take_10 : decode prog_2_method_6_code 10 = .ok (.bipush 10, 2) := by decide +kernel
theorem d_Case_take_12 : decode prog_2_method_6_code 12 = .ok (.invokestatic 32, 3) := by decide +kernel
theorem d_Case_take_15 : decode prog_2_method_6_code 15 = .ok (.aload_n 1, 1) := by decide +kernel
theorem d_Case_take_16 : decode prog_2_method_6_code 16 = .ok (.getfield 15, 3) := by decide +kernel
theorem d_Case_take_19 : decode prog_2_method_6_code 19 = .ok (.iconst 0, 1) := by decide +kernel
theorem d_Case_take_20 : decode prog_2_method_6_code 20 = .ok (.aload_n 0, 1) := by decide +kernel
theorem d_Case_take_21 : decode prog_2_method_6_code 21 = .ok (.getfield 15, 3) := by decide +kernel
theorem d_Case_take_24 : decode prog_2_method_6_code 24 = .ok (.iconst 0, 1) := by decide +kernel
theorem d_Case_take_25 : decode prog_2_method_6_code 25 = .ok (.bipush 10, 2) := by decide +kernel
theorem d_Case_take_27 : decode prog_2_method_6_code 27 = .ok (.invokestatic 32, 3) := by decide +kernel
theorem d_Case_take_30 : decode prog_2_method_6_code 30 = .ok (.aload_n 1, 1) := by decide +kernel
theorem d_Case_take_31 : decode prog_2_method_6_code 31 = .ok (.getfield 18, 3) := by decide +kernel
theorem d_Case_take_34 : decode prog_2_method_6_code 34 = .ok (.iconst 0, 1) := by decide +kernel
theorem d_Case_take_35 : decode prog_2_method_6_code 35 = .ok (.aload_n 0, 1) := by decide +kernel
theorem d_Case_take_36 : decode prog_2_method_6_code 36 = .ok (.getfield 18, 3) := by decide +kernel
theorem d_Case_take_39 : decode prog_2_method_6_code 39 = .ok (.iconst 0, 1) := by decide +kernel
theorem d_Case_take_40 : decode prog_2_method_6_code 40 = .ok (.bipush 10, 2) := by decide +kernel
theorem d_Case_take_42 : decode prog_2_method_6_code 42 = .ok (.invokestatic 32, 3) := by decide +kernel
theorem d_Case_take_45 : decode prog_2_method_6_code 45 = .ok (.aload_n 0, 1) := by decide +kernel
theorem d_Case_take_46 : decode prog_2_method_6_code 46 = .ok (.aload_n 1, 1) := by decide +kernel
theorem d_Case_take_47 : decode prog_2_method_6_code 47 = .ok (.getfield 21, 3) := by decide +kernel
theorem d_Case_take_50 : decode prog_2_method_6_code 50 = .ok (.putfield 21, 3) := by decide +kernel
theorem d_Case_take_53 : decode prog_2_method_6_code 53 = .ok (.return_, 1) := by decide +kernel
theorem d_X_types_0 : decode prog_1_method_9_code 0 = .ok (.aload_n 0, 1) := by decide +kernel
theorem d_X_types_1 : decode prog_1_method_9_code 1 = .ok (.getfield 26, 3) := by decide +kernel
theorem d_X_types_4 : decode prog_1_method_9_code 4 = .ok (.aload_n 0, 1) := by decide +kernel
theorem d_X_types_5 : decode prog_1_method_9_code 5 = .ok (.getfield 54, 3) := by decide +kernel
theorem d_X_types_8 : decode prog_1_method_9_code 8 = .ok (.invokevirtual 146, 3) := by decide +kernel
theorem d_X_types_11 : decode prog_1_method_9_code 11 = .ok (.istore_n 1, 1) := by decide +kernel
theorem d_X_types_12 : decode prog_1_method_9_code 12 = .ok (.aload_n 0, 1) := by decide +kernel
theorem d_X_types_13 : decode prog_1_method_9_code 13 = .ok (.getfield 26, 3) := by decide +kernel
theorem d_X_types_16 : decode prog_1_method_9_code 16 = .ok (.iconst 0, 1) := by decide +kernel
theorem d_X_types_17 : decode prog_1_method_9_code 17 = .ok (.putfield 132, 3) := by decide +kernel
theorem d_X_types_20 : decode prog_1_method_9_code 20 = .ok (.iload_n 1, 1) := by decide +kernel
theorem d_X_types_21 : decode prog_1_method_9_code 21 = .ok (.ifCond .le 21, 3) := by decide +kernel
theorem d_X_types_24 : decode prog_1_method_9_code 24 = .ok (.aload_n 0, 1) := by decide +kernel
theorem d_X_types_25 : decode prog_1_method_9_code 25 = .ok (.getfield 12, 3) := by decide +kernel
theorem d_X_types_28 : decode prog_1_method_9_code 28 = .ok (.getfield 82, 3) := by decide +kernel
theorem d_X_types_31 : decode prog_1_method_9_code 31 = .ok (.aload_n 0, 1) := by decide +kernel
theorem d_X_types_32 : decode prog_1_method_9_code 32 = .ok (.getfield 54, 3) := by decide +kernel
theorem d_X_types_35 : decode prog_1_method_9_code 35 = .ok (.invokevirtual 149, 3) := by decide +kernel
theorem d_X_types_38 : decode prog_1_method_9_code 38 = .ok (.aload_n 0, 1) := by decide +kernel
theorem d_X_types_39 : decode prog_1_method_9_code 39 = .ok (.invokevirtual 93, 3) := by decide +kernel
theorem d_X_types_42 : decode prog_1_method_9_code 42 = .ok (.iload_n 1, 1) := by decide +kernel
theorem d_X_types_43 : decode prog_1_method_9_code 43 = .ok (.ireturn, 1) := by decide +kernel
theorem d_Line_has_0 : decode prog_4_method_2_code 0 = .ok (.iload_n 1, 1) := by decide +kernel
theorem d_Line_has_1 : decode prog_4_method_2_code 1 = .ok (.ifCond .lt 15, 3) := by decide +kernel
theorem d_Line_has_4 : decode prog_4_method_2_code 4 = .ok (.iload_n 1, 1) := by decide +kernel
theorem d_Line_has_5 : decode prog_4_method_2_code 5 = .ok (.aload_n 0, 1) := by decide +kernel
theorem d_Line_has_6 : decode prog_4_method_2_code 6 = .ok (.getfield 15, 3) := by decide +kernel
theorem d_Line_has_9 : decode prog_4_method_2_code 9 = .ok (.if_icmp .ge 7, 3) := by decide +kernel
theorem d_Line_has_12 : decode prog_4_method_2_code 12 = .ok (.iconst 1, 1) := by decide +kernel
theorem d_Line_has_13 : decode prog_4_method_2_code 13 = .ok (.goto 4, 3) := by decide +kernel
theorem d_Line_has_16 : decode prog_4_method_2_code 16 = .ok (.iconst 0, 1) := by decide +kernel
theorem d_Line_has_17 : decode prog_4_method_2_code 17 = .ok (.ireturn, 1) := by decide +kernel
theorem d_X_inSet_0 : decode prog_1_method_38_code 0 = .ok (.iload_n 0, 1) := by decide +kernel
theorem d_X_inSet_1 : decode prog_1_method_38_code 1 = .ok (.iload_n 1, 1) := by decide +kernel
theorem d_X_inSet_2 : decode prog_1_method_38_code 2 = .ok (.ishr, 1) := by decide +kernel
theorem d_X_inSet_3 : decode prog_1_method_38_code 3 = .ok (.iconst 1, 1) := by decide +kernel
theorem d_X_inSet_4 : decode prog_1_method_38_code 4 = .ok (.iand, 1) := by decide +kernel
theorem d_X_inSet_5 : decode prog_1_method_38_code 5 = .ok (.ifCond .eq 7, 3) := by decide +kernel
theorem d_X_inSet_8 : decode prog_1_method_38_code 8 = .ok (.iconst 1, 1) := by decide +kernel
theorem d_X_inSet_9 : decode prog_1_method_38_code 9 = .ok (.goto 4, 3) := by decide +kernel
theorem d_X_inSet_12 : decode prog_1_method_38_code 12 = .ok (.iconst 0, 1) := by decide +kernel
theorem d_X_inSet_13 : decode prog_1_method_38_code 13 = .ok (.ireturn, 1) := by decide +kernel
theorem d_Line_besideNext_0 : decode prog_4_method_6_code 0 = .ok (.aload_n 0, 1) := by decide +kernel
theorem d_Line_besideNext_1 : decode prog_4_method_6_code 1 = .ok (.getfield 19, 3) := by decide +kernel
theorem d_Line_besideNext_4 : decode prog_4_method_6_code 4 = .ok (.iload_n 1, 1) := by decide +kernel
theorem d_Line_besideNext_5 : decode prog_4_method_6_code 5 = .ok (.invokestatic 28, 3) := by decide +kernel
theorem d_Line_besideNext_8 : decode prog_4_method_6_code 8 = .ok (.ireturn, 1) := by decide +kernel
theorem d_Line_left_0 : decode prog_4_method_7_code 0 = .ok (.iconst 0, 1) := by decide +kernel
theorem d_Line_left_1 : decode prog_4_method_7_code 1 = .ok (.istore_n 3, 1) := by decide +kernel
theorem d_Line_left_2 : decode prog_4_method_7_code 2 = .ok (.iconst 0, 1) := by decide +kernel
theorem d_Line_left_3 : decode prog_4_method_7_code 3 = .ok (.istore 4, 2) := by decide +kernel
theorem d_Line_left_5 : decode prog_4_method_7_code 5 = .ok (.iload 4, 2) := by decide +kernel
theorem d_Line_left_7 : decode prog_4_method_7_code 7 = .ok (.iload_n 1, 1) := by decide +kernel
theorem d_Line_left_8 : decode prog_4_method_7_code 8 = .ok (.if_icmp .ge 45, 3) := by decide +kernel
theorem d_Line_left_11 : decode prog_4_method_7_code 11 = .ok (.iload 4, 2) := by decide +kernel
theorem d_Line_left_13 : decode prog_4_method_7_code 13 = .ok (.aload_n 0, 1) := by decide +kernel
theorem d_Line_left_14 : decode prog_4_method_7_code 14 = .ok (.getfield 15, 3) := by decide +kernel
theorem d_Line_left_17 : decode prog_4_method_7_code 17 = .ok (.if_icmp .ge 36, 3) := by decide +kernel
theorem d_Line_left_20 : decode prog_4_method_7_code 20 = .ok (.iload_n 3, 1) := by decide +kernel
theorem d_Line_left_21 : decode prog_4_method_7_code 21 = .ok (.aload_n 2, 1) := by decide +kernel
theorem d_Line_left_22 : decode prog_4_method_7_code 22 = .ok (.aload_n 0, 1) := by decide +kernel
theorem d_Line_left_23 : decode prog_4_method_7_code 23 = .ok (.getfield 9, 3) := by decide +kernel
theorem d_Line_left_26 : decode prog_4_method_7_code 26 = .ok (.iload 4, 2) := by decide +kernel
theorem d_Line_left_28 : decode prog_4_method_7_code 28 = .ok (.iaload, 1) := by decide +kernel
theorem d_Line_left_29 : decode prog_4_method_7_code 29 = .ok (.iaload, 1) := by decide +kernel
theorem d_Line_left_30 : decode prog_4_method_7_code 30 = .ok (.aload_n 0, 1) := by decide +kernel
theorem d_Line_left_31 : decode prog_4_method_7_code 31 = .ok (.iload 4, 2) := by decide +kernel
theorem d_Line_left_33 : decode prog_4_method_7_code 33 = .ok (.invokevirtual 32, 3) := by decide +kernel
theorem d_Line_left_36 : decode prog_4_method_7_code 36 = .ok (.ifCond .eq 7, 3) := by decide +kernel
theorem d_Line_left_39 : decode prog_4_method_7_code 39 = .ok (.iconst 0, 1) := by decide +kernel
theorem d_Line_left_40 : decode prog_4_method_7_code 40 = .ok (.goto 4, 3) := by decide +kernel
theorem d_Line_left_43 : decode prog_4_method_7_code 43 = .ok (.iconst 2, 1) := by decide +kernel
theorem d_Line_left_44 : decode prog_4_method_7_code 44 = .ok (.iadd, 1) := by decide +kernel
theorem d_Line_left_45 : decode prog_4_method_7_code 45 = .ok (.iadd, 1) := by decide +kernel
theorem d_Line_left_46 : decode prog_4_method_7_code 46 = .ok (.istore_n 3, 1) := by decide +kernel
theorem d_Line_left_47 : decode prog_4_method_7_code 47 = .ok (.iinc 4 1, 3) := by decide +kernel
theorem d_Line_left_50 : decode prog_4_method_7_code 50 = .ok (.goto (-45), 3) := by decide +kernel
theorem d_Line_left_53 : decode prog_4_method_7_code 53 = .ok (.iload_n 3, 1) := by decide +kernel
theorem d_Line_left_54 : decode prog_4_method_7_code 54 = .ok (.ireturn, 1) := by decide +kernel
theorem d_X_place_0 : decode prog_1_method_10_code 0 = .ok (.aload_n 0, 1) := by decide +kernel
theorem d_X_place_1 : decode prog_1_method_10_code 1 = .ok (.getfield 12, 3) := by decide +kernel
theorem d_X_place_4 : decode prog_1_method_10_code 4 = .ok (.getfield 139, 3) := by decide +kernel
theorem d_X_place_7 : decode prog_1_method_10_code 7 = .ok (.iload_n 1, 1) := by decide +kernel
theorem d_X_place_8 : decode prog_1_method_10_code 8 = .ok (.invokevirtual 152, 3) := by decide +kernel
theorem d_X_place_11 : decode prog_1_method_10_code 11 = .ok (.ifCond .ne 5, 3) := by decide +kernel
theorem d_X_place_14 : decode prog_1_method_10_code 14 = .ok (.iconst (-1), 1) := by decide +kernel
theorem d_X_place_15 : decode prog_1_method_10_code 15 = .ok (.ireturn, 1) := by decide +kernel
theorem d_X_place_16 : decode prog_1_method_10_code 16 = .ok (.iload_n 2, 1) := by decide +kernel
theorem d_X_place_17 : decode prog_1_method_10_code 17 = .ok (.tableswitch 79 0 2 #[27, 40, 59], 27) := by decide +kernel
theorem d_X_place_44 : decode prog_1_method_10_code 44 = .ok (.aload_n 0, 1) := by decide +kernel
theorem d_X_place_45 : decode prog_1_method_10_code 45 = .ok (.getfield 12, 3) := by decide +kernel
theorem d_X_place_48 : decode prog_1_method_10_code 48 = .ok (.getfield 139, 3) := by decide +kernel
theorem d_X_place_51 : decode prog_1_method_10_code 51 = .ok (.getfield 153, 3) := by decide +kernel
theorem d_X_place_54 : decode prog_1_method_10_code 54 = .ok (.iload_n 1, 1) := by decide +kernel
theorem d_X_place_55 : decode prog_1_method_10_code 55 = .ok (.iaload, 1) := by decide +kernel
theorem d_X_place_56 : decode prog_1_method_10_code 56 = .ok (.ireturn, 1) := by decide +kernel
theorem d_X_place_57 : decode prog_1_method_10_code 57 = .ok (.aload_n 0, 1) := by decide +kernel
theorem d_X_place_58 : decode prog_1_method_10_code 58 = .ok (.getfield 12, 3) := by decide +kernel
theorem d_X_place_61 : decode prog_1_method_10_code 61 = .ok (.getfield 139, 3) := by decide +kernel
theorem d_X_place_64 : decode prog_1_method_10_code 64 = .ok (.iload_n 1, 1) := by decide +kernel
theorem d_X_place_65 : decode prog_1_method_10_code 65 = .ok (.aload_n 0, 1) := by decide +kernel
theorem d_X_place_66 : decode prog_1_method_10_code 66 = .ok (.getfield 12, 3) := by decide +kernel
theorem d_X_place_69 : decode prog_1_method_10_code 69 = .ok (.getfield 116, 3) := by decide +kernel
theorem d_X_place_72 : decode prog_1_method_10_code 72 = .ok (.invokevirtual 154, 3) := by decide +kernel
theorem d_X_place_75 : decode prog_1_method_10_code 75 = .ok (.ireturn, 1) := by decide +kernel
theorem d_X_place_76 : decode prog_1_method_10_code 76 = .ok (.aload_n 0, 1) := by decide +kernel
theorem d_X_place_77 : decode prog_1_method_10_code 77 = .ok (.getfield 12, 3) := by decide +kernel
theorem d_X_place_80 : decode prog_1_method_10_code 80 = .ok (.getfield 139, 3) := by decide +kernel
theorem d_X_place_83 : decode prog_1_method_10_code 83 = .ok (.iload_n 1, 1) := by decide +kernel
theorem d_X_place_84 : decode prog_1_method_10_code 84 = .ok (.invokevirtual 158, 3) := by decide +kernel
theorem d_X_place_87 : decode prog_1_method_10_code 87 = .ok (.ifCond .eq 7, 3) := by decide +kernel
theorem d_X_place_90 : decode prog_1_method_10_code 90 = .ok (.iconst 1, 1) := by decide +kernel
theorem d_X_place_91 : decode prog_1_method_10_code 91 = .ok (.goto 4, 3) := by decide +kernel
theorem d_X_place_94 : decode prog_1_method_10_code 94 = .ok (.iconst 0, 1) := by decide +kernel
theorem d_X_place_95 : decode prog_1_method_10_code 95 = .ok (.ireturn, 1) := by decide +kernel
theorem d_X_place_96 : decode prog_1_method_10_code 96 = .ok (.iconst (-1), 1) := by decide +kernel
theorem d_X_place_97 : decode prog_1_method_10_code 97 = .ok (.ireturn, 1) := by decide +kernel
theorem d_Line_hairs_0 : decode prog_4_method_8_code 0 = .ok (.aload_n 0, 1) := by decide +kernel
theorem d_Line_hairs_1 : decode prog_4_method_8_code 1 = .ok (.getfield 15, 3) := by decide +kernel
theorem d_Line_hairs_4 : decode prog_4_method_8_code 4 = .ok (.ifCond .ne 7, 3) := by decide +kernel
theorem d_Line_hairs_7 : decode prog_4_method_8_code 7 = .ok (.iconst 0, 1) := by decide +kernel
theorem d_Line_hairs_8 : decode prog_4_method_8_code 8 = .ok (.goto 28, 3) := by decide +kernel
theorem d_Line_hairs_11 : decode prog_4_method_8_code 11 = .ok (.aload_n 0, 1) := by decide +kernel
theorem d_Line_hairs_12 : decode prog_4_method_8_code 12 = .ok (.aload_n 0, 1) := by decide +kernel
theorem d_Line_hairs_13 : decode prog_4_method_8_code 13 = .ok (.getfield 15, 3) := by decide +kernel
theorem d_Line_hairs_16 : decode prog_4_method_8_code 16 = .ok (.iconst 1, 1) := by decide +kernel
theorem d_Line_hairs_17 : decode prog_4_method_8_code 17 = .ok (.isub, 1) := by decide +kernel
theorem d_Line_hairs_18 : decode prog_4_method_8_code 18 = .ok (.aload_n 1, 1) := by decide +kernel
theorem d_Line_hairs_19 : decode prog_4_method_8_code 19 = .ok (.invokevirtual 36, 3) := by decide +kernel
theorem d_Line_hairs_22 : decode prog_4_method_8_code 22 = .ok (.aload_n 1, 1) := by decide +kernel
theorem d_Line_hairs_23 : decode prog_4_method_8_code 23 = .ok (.aload_n 0, 1) := by decide +kernel
theorem d_Line_hairs_24 : decode prog_4_method_8_code 24 = .ok (.getfield 9, 3) := by decide +kernel
theorem d_Line_hairs_27 : decode prog_4_method_8_code 27 = .ok (.aload_n 0, 1) := by decide +kernel
theorem d_Line_hairs_28 : decode prog_4_method_8_code 28 = .ok (.getfield 15, 3) := by decide +kernel
theorem d_Line_hairs_31 : decode prog_4_method_8_code 31 = .ok (.iconst 1, 1) := by decide +kernel
theorem d_Line_hairs_32 : decode prog_4_method_8_code 32 = .ok (.isub, 1) := by decide +kernel
theorem d_Line_hairs_33 : decode prog_4_method_8_code 33 = .ok (.iaload, 1) := by decide +kernel
theorem d_Line_hairs_34 : decode prog_4_method_8_code 34 = .ok (.iaload, 1) := by decide +kernel
theorem d_Line_hairs_35 : decode prog_4_method_8_code 35 = .ok (.iadd, 1) := by decide +kernel
theorem d_Line_hairs_36 : decode prog_4_method_8_code 36 = .ok (.ireturn, 1) := by decide +kernel
def f_Tape_readLine_L13 (t1 : Nat) : Int32 × Int32 × fw_M → Option ((Int32 × Int32 × fw_M) ⊕ ((fw_M) ⊕ (Int32 × fw_M)))
  | (x2_13, x3_13, μ13) =>
  if (μ13.1 63 1) < x3_13 then
    some (.inr (.inl μ13))
  else
    (f_Tape_nextSign μ13).bind fun (p22 : Int32 × fw_M) =>
    if p22.1 = (-1) then
      if x2_13 = 0 then
        some (.inr (.inr ((p22.2.1 t1 1), p22.2)))
      else
        (f_Tape_fault p22.2).bind fun (p38 : Int32) =>
        some (.inr (.inr (p38, p22.2)))
    else
      if (p22.2.1 t1 1) < 10 then
        (f_X_isLetter (p22.1 - 97)).bind fun (p68 : Int32) =>
        if p68 = 0 then
          if p22.1 = 95 then
            if x2_13 = 0 then
              fw_nm (fw_wr p22.2 63 2 ((p22.2.1 63 2) + 1)) fun (μ117 : fw_M) =>
              fw_nm (x3_13 + 1) fun (v120 : Int32) =>
              some (.inl (1, v120, μ117))
            else
              (f_Tape_fault p22.2).bind fun (p106 : Int32) =>
              some (.inr (.inr (p106, p22.2)))
          else
            (f_Tape_fault p22.2).bind fun (p106 : Int32) =>
            some (.inr (.inr (p106, p22.2)))
        else
          (f_Line_add t1 (p22.1 - 97) x2_13 p22.2).bind fun (p81 : fw_M) =>
          fw_nm (fw_wr p81 63 2 ((p81.1 63 2) + 1)) fun (μ117 : fw_M) =>
          fw_nm (x3_13 + 1) fun (v120 : Int32) =>
          some (.inl (0, v120, μ117))
      else
        (f_Tape_fault p22.2).bind fun (p59 : Int32) =>
        some (.inr (.inr (p59, p22.2)))
def f_Tape_readLine (t1 : Nat) (μ : fw_M) : Option (Int32 × fw_M) :=
  if fw_okL t1 then
    fw_nm (fw_wr μ 63 2 0) fun (μ2 : fw_M) =>
    (f_Line_empty t1 μ2).bind fun (p6 : fw_M) =>
    Option.bind (fw_wh (f_Tape_readLine_L13 t1) fw_N (1, 0, p6)) fun (q13 : (fw_M) ⊕ (Int32 × fw_M)) => match q13 with
    | .inl e13x =>
      (f_Tape_fault e13x).bind fun (p127 : Int32) =>
      some (p127, e13x)
    | .inr r13 => some r13
  else none
set_option maxHeartbeats 4000000 in
set_option maxRecDepth 100000 in
theorem c_Tape_readLine {t1 : Nat} {μ : fw_M} {r : Int32 × fw_M} (h : f_Tape_readLine t1 μ = some r) : fw_Con Y_Tape_readLine fw_X 2 [.ref 63, .ref t1] (some r.1) μ r.2 := by
  refine fw_con (by decide) (Nat.le_of_ble_eq_true rfl) ?_
  rw [f_Tape_readLine] at h
  show fw_R "FewTypes$Tape" prog_9_method_5_code 5 (some .int) fw_X 2 (some r.1) r.2 0 [(0, .ref 63), (1, .ref t1)] [] μ
  obtain ⟨g1, h⟩ := fw_gu h
  refine fw_aload_n (pc := 0) d_Tape_readLine_0 0 rfl rfl ?_
  refine fw_iconst (pc := 1) d_Tape_readLine_1 fw_ic0 ?_
  obtain ⟨μ2, e2, h⟩ := fw_ne h
  refine fw_putI (pc := 2) d_Tape_readLine_2 fp_Tape_19 fw_X63 rfl (fw_mem e2 ?_)
  refine fw_aload_n (pc := 5) d_Tape_readLine_5 1 rfl rfl ?_
  obtain ⟨p6, e6, h⟩ := fw_be h
  refine fw_callVv (pc := 6) d_Tape_readLine_6 mv_Tape_28 g1.1 (c_Line_empty e6) (by decide) rfl rfl (Nat.le_of_ble_eq_true rfl) ?_
  refine fw_iconst (pc := 9) d_Tape_readLine_9 fw_ic1 ?_
  refine fw_istore_n (pc := 10) (lv1 := [(2, .int 1), (0, .ref 63), (1, .ref t1)]) d_Tape_readLine_10 rfl (by decide) rfl ?_
  refine fw_iconst (pc := 11) d_Tape_readLine_11 fw_ic0 ?_
  refine fw_istore_n (pc := 12) (lv1 := [(3, .int 0), (2, .int 1), (0, .ref 63), (1, .ref t1)]) d_Tape_readLine_12 rfl (by decide) rfl ?_
  obtain ⟨q13, w13, h⟩ := fw_be h
  have hE13 : ∀ e13x : fw_M, q13 = .inl e13x → fw_R "FewTypes$Tape" prog_9_method_5_code 5 (some .int) fw_X 2 (some r.1) r.2 126 [(0, .ref 63)] [] e13x := by
    intro e13x hq
    subst hq
    dsimp only at h
    refine fw_aload_n (pc := 126) d_Tape_readLine_126 0 rfl rfl ?_
    obtain ⟨p127, e127, h⟩ := fw_be h
    refine fw_callVi (pc := 127) d_Tape_readLine_127 mv_Tape_37 fw_X63 (c_Tape_fault e127) (by decide) rfl rfl (Nat.le_of_ble_eq_true rfl) ?_
    obtain rfl := Option.some.inj h
    exact fw_iret (pc := 130) d_Tape_readLine_130 rfl
  have hR13 : ∀ r13, q13 = .inr r13 → r13 = r := by
    intro r13 hq
    subst hq
    exact Option.some.inj h
  clear h
  exact fw_sub [2, 3, 1, 0] rfl (fw_we (e := q13) (fun (s : Int32 × Int32 × fw_M) => fw_R "FewTypes$Tape" prog_9_method_5_code 5 (some .int) fw_X 2 (some r.1) r.2 13 [(0, .ref 63), (1, .ref t1), (2, .int s.1), (3, .int s.2.1)] [] s.2.2) (by
    intro s x h hl hr
    obtain ⟨x2_13, x3_13, μ13⟩ := s
    rw [f_Tape_readLine_L13] at h
    show fw_R "FewTypes$Tape" prog_9_method_5_code 5 (some .int) fw_X 2 (some r.1) r.2 13 [(0, .ref 63), (1, .ref t1), (2, .int x2_13), (3, .int x3_13)] [] μ13
    refine fw_iload_n (pc := 13) d_Tape_readLine_13 3 rfl rfl ?_
    refine fw_aload_n (pc := 14) d_Tape_readLine_14 0 rfl rfl ?_
    refine fw_getI (pc := 15) d_Tape_readLine_15 fl_Tape_15 fw_X63 rfl ?_
    refine fw_icmp_gt (pc := 18) (tgt := 126) d_Tape_readLine_18 rfl (fun hc => ?_) (fun hc => ?_)
    · have h := fw_it hc h
      obtain rfl := Option.some.inj h
      exact fw_sub [0] rfl (hE13 _ (hr _ rfl).symm)
    · have h := fw_if hc h
      refine fw_aload_n (pc := 21) d_Tape_readLine_21 0 rfl rfl ?_
      obtain ⟨p22, e22, h⟩ := fw_be h
      refine fw_callVi (pc := 22) d_Tape_readLine_22 mv_Tape_33 fw_X63 (c_Tape_nextSign e22) (by decide) rfl rfl (Nat.le_of_ble_eq_true rfl) ?_
      refine fw_istore (pc := 25) (lv1 := [(4, .int p22.1), (0, .ref 63), (1, .ref t1), (2, .int x2_13), (3, .int x3_13)]) d_Tape_readLine_25 (by decide) rfl ?_
      refine fw_iload (pc := 27) d_Tape_readLine_27 0 rfl ?_
      refine fw_iconst (pc := 29) d_Tape_readLine_29 fw_icm1 ?_
      refine fw_icmp_ne (pc := 30) (tgt := 49) d_Tape_readLine_30 rfl (fun hc => ?_) (fun hc => ?_)
      · have h := fw_it hc h
        refine fw_iload_n (pc := 33) d_Tape_readLine_33 3 rfl rfl ?_
        refine fw_if_eq (pc := 34) (tgt := 44) d_Tape_readLine_34 rfl (fun hc => ?_) (fun hc => ?_)
        · have h := fw_it hc h
          refine fw_aload_n (pc := 44) d_Tape_readLine_44 2 rfl rfl ?_
          refine fw_getI (pc := 45) d_Tape_readLine_45 fl_Tape_40 g1.1 rfl ?_
          obtain rfl := Option.some.inj h
          have he := hR13 _ (hr _ rfl).symm
          subst he
          exact fw_iret (pc := 48) d_Tape_readLine_48 rfl
        · have h := fw_if hc h
          refine fw_aload_n (pc := 37) d_Tape_readLine_37 1 rfl rfl ?_
          obtain ⟨p38, e38, h⟩ := fw_be h
          refine fw_callVi (pc := 38) d_Tape_readLine_38 mv_Tape_37 fw_X63 (c_Tape_fault e38) (by decide) rfl rfl (Nat.le_of_ble_eq_true rfl) ?_
          refine fw_goto (pc := 41) (tgt := 48) d_Tape_readLine_41 rfl ?_
          obtain rfl := Option.some.inj h
          have he := hR13 _ (hr _ rfl).symm
          subst he
          exact fw_iret (pc := 48) d_Tape_readLine_48 rfl
      · have h := fw_if hc h
        refine fw_aload_n (pc := 49) d_Tape_readLine_49 2 rfl rfl ?_
        refine fw_getI (pc := 50) d_Tape_readLine_50 fl_Tape_40 g1.1 rfl ?_
        refine fw_bipush (pc := 53) d_Tape_readLine_53 fw_bp10 ?_
        refine fw_icmp_lt (pc := 55) (tgt := 63) d_Tape_readLine_55 rfl (fun hc => ?_) (fun hc => ?_)
        · have h := fw_it hc h
          refine fw_iload (pc := 63) d_Tape_readLine_63 0 rfl ?_
          refine fw_bipush (pc := 65) d_Tape_readLine_65 fw_bp97 ?_
          refine fw_isub (pc := 67) d_Tape_readLine_67 ?_
          obtain ⟨p68, e68, h⟩ := fw_be h
          refine fw_callNi (pc := 68) d_Tape_readLine_68 ms_Tape_41 (c_X_isLetter e68) (by decide) rfl rfl (Nat.le_of_ble_eq_true rfl) ?_
          refine fw_if_eq (pc := 71) (tgt := 89) d_Tape_readLine_71 rfl (fun hc => ?_) (fun hc => ?_)
          · have h := fw_it hc h
            refine fw_iload (pc := 89) d_Tape_readLine_89 0 rfl ?_
            refine fw_bipush (pc := 91) d_Tape_readLine_91 fw_bp95 ?_
            refine fw_icmp_ne (pc := 93) (tgt := 105) d_Tape_readLine_93 rfl (fun hc => ?_) (fun hc => ?_)
            · have h := fw_it hc h
              refine fw_iload_n (pc := 96) d_Tape_readLine_96 3 rfl rfl ?_
              refine fw_if_ne (pc := 97) (tgt := 105) d_Tape_readLine_97 rfl (fun hc => ?_) (fun hc => ?_)
              · have h := fw_it hc h
                refine fw_iconst (pc := 100) d_Tape_readLine_100 fw_ic1 ?_
                refine fw_istore_n (pc := 101) (lv1 := [(2, .int 1), (4, .int p22.1), (0, .ref 63), (1, .ref t1), (3, .int x3_13)]) d_Tape_readLine_101 rfl (by decide) rfl ?_
                refine fw_goto (pc := 102) (tgt := 110) d_Tape_readLine_102 rfl ?_
                refine fw_aload_n (pc := 110) d_Tape_readLine_110 2 rfl rfl ?_
                refine fw_dup (pc := 111) d_Tape_readLine_111 rfl ?_
                refine fw_getI (pc := 112) d_Tape_readLine_112 fl_Tape_19 fw_X63 rfl ?_
                refine fw_iconst (pc := 115) d_Tape_readLine_115 fw_ic1 ?_
                refine fw_iadd (pc := 116) d_Tape_readLine_116 ?_
                obtain ⟨μ117, e117, h⟩ := fw_ne h
                refine fw_putI (pc := 117) d_Tape_readLine_117 fp_Tape_19 fw_X63 rfl (fw_mem e117 ?_)
                obtain ⟨v120, e120, h⟩ := fw_ne h
                refine fw_iinc2 (pc := 120) (j := 4) (lv1 := [(3, .int v120), (2, .int 1), (4, .int p22.1), (0, .ref 63), (1, .ref t1)]) d_Tape_readLine_120 rfl fw_ic1 e120 (by decide) rfl ?_
                refine fw_goto (pc := 123) (tgt := 13) d_Tape_readLine_123 rfl ?_
                obtain rfl := Option.some.inj h
                exact fw_sub [3, 4, 1, 0] rfl (hl _ rfl)
              · have h := fw_if hc h
                refine fw_aload_n (pc := 105) d_Tape_readLine_105 1 rfl rfl ?_
                obtain ⟨p106, e106, h⟩ := fw_be h
                refine fw_callVi (pc := 106) d_Tape_readLine_106 mv_Tape_37 fw_X63 (c_Tape_fault e106) (by decide) rfl rfl (Nat.le_of_ble_eq_true rfl) ?_
                obtain rfl := Option.some.inj h
                have he := hR13 _ (hr _ rfl).symm
                subst he
                exact fw_iret (pc := 109) d_Tape_readLine_109 rfl
            · have h := fw_if hc h
              refine fw_aload_n (pc := 105) d_Tape_readLine_105 1 rfl rfl ?_
              obtain ⟨p106, e106, h⟩ := fw_be h
              refine fw_callVi (pc := 106) d_Tape_readLine_106 mv_Tape_37 fw_X63 (c_Tape_fault e106) (by decide) rfl rfl (Nat.le_of_ble_eq_true rfl) ?_
              obtain rfl := Option.some.inj h
              have he := hR13 _ (hr _ rfl).symm
              subst he
              exact fw_iret (pc := 109) d_Tape_readLine_109 rfl
          · have h := fw_if hc h
            refine fw_aload_n (pc := 74) d_Tape_readLine_74 2 rfl rfl ?_
            refine fw_iload (pc := 75) d_Tape_readLine_75 0 rfl ?_
            refine fw_bipush (pc := 77) d_Tape_readLine_77 fw_bp97 ?_
            refine fw_isub (pc := 79) d_Tape_readLine_79 ?_
            refine fw_iload_n (pc := 80) d_Tape_readLine_80 3 rfl rfl ?_
            obtain ⟨p81, e81, h⟩ := fw_be h
            refine fw_callVv (pc := 81) d_Tape_readLine_81 mv_Tape_45 g1.1 (c_Line_add e81) (by decide) rfl rfl (Nat.le_of_ble_eq_true rfl) ?_
            refine fw_iconst (pc := 84) d_Tape_readLine_84 fw_ic0 ?_
            refine fw_istore_n (pc := 85) (lv1 := [(2, .int 0), (4, .int p22.1), (0, .ref 63), (1, .ref t1), (3, .int x3_13)]) d_Tape_readLine_85 rfl (by decide) rfl ?_
            refine fw_goto (pc := 86) (tgt := 110) d_Tape_readLine_86 rfl ?_
            refine fw_aload_n (pc := 110) d_Tape_readLine_110 2 rfl rfl ?_
            refine fw_dup (pc := 111) d_Tape_readLine_111 rfl ?_
            refine fw_getI (pc := 112) d_Tape_readLine_112 fl_Tape_19 fw_X63 rfl ?_
            refine fw_iconst (pc := 115) d_Tape_readLine_115 fw_ic1 ?_
            refine fw_iadd (pc := 116) d_Tape_readLine_116 ?_
            obtain ⟨μ117, e117, h⟩ := fw_ne h
            refine fw_putI (pc := 117) d_Tape_readLine_117 fp_Tape_19 fw_X63 rfl (fw_mem e117 ?_)
            obtain ⟨v120, e120, h⟩ := fw_ne h
            refine fw_iinc2 (pc := 120) (j := 4) (lv1 := [(3, .int v120), (2, .int 0), (4, .int p22.1), (0, .ref 63), (1, .ref t1)]) d_Tape_readLine_120 rfl fw_ic1 e120 (by decide) rfl ?_
            refine fw_goto (pc := 123) (tgt := 13) d_Tape_readLine_123 rfl ?_
            obtain rfl := Option.some.inj h
            exact fw_sub [3, 4, 1, 0] rfl (hl _ rfl)
        · have h := fw_if hc h
          refine fw_aload_n (pc := 58) d_Tape_readLine_58 1 rfl rfl ?_
          obtain ⟨p59, e59, h⟩ := fw_be h
          refine fw_callVi (pc := 59) d_Tape_readLine_59 mv_Tape_37 fw_X63 (c_Tape_fault e59) (by decide) rfl rfl (Nat.le_of_ble_eq_true rfl) ?_
          obtain rfl := Option.some.inj h
          have he := hR13 _ (hr _ rfl).symm
          subst he
          exact fw_iret (pc := 62) d_Tape_readLine_62 rfl
    ) _ _ w13)
def f_Line_take (t0 : Nat) (t1 : Nat) (μ : fw_M) : Option (fw_M) :=
  if fw_okL t0 then
    if fw_okL t1 then
      (fw_cp 10 10 μ (t1 + 1) 0 (t0 + 1) 0 10).bind fun μ12 =>
      fw_nm (fw_wr μ12 t0 1 (μ12.1 t1 1)) fun (μ20 : fw_M) =>
      fw_nm (fw_wr μ20 t0 2 (μ20.1 t1 2)) fun (μ28 : fw_M) =>
      some μ28
    else none
  else none
set_option maxHeartbeats 4000000 in
set_option maxRecDepth 100000 in
theorem c_Line_take {t0 : Nat} {t1 : Nat} {μ : fw_M} {r : fw_M} (h : f_Line_take t0 t1 μ = some r) : fw_Con Y_Line_take fw_X 1 [.ref t0, .ref t1] none μ r := by
  refine fw_con (by decide) (Nat.le_of_ble_eq_true rfl) ?_
  rw [f_Line_take] at h
  show fw_R "FewTypes$Line" prog_4_method_5_code 2 none fw_X 1 none r 0 [(0, .ref t0), (1, .ref t1)] [] μ
  obtain ⟨g0, h⟩ := fw_gu h
  obtain ⟨g1, h⟩ := fw_gu h
  refine fw_aload_n (pc := 0) d_Line_take_0 1 rfl rfl ?_
  refine fw_getR (pc := 1) d_Line_take_1 fl_Line_9 g1.1 rfl ?_
  refine fw_iconst (pc := 4) d_Line_take_4 fw_ic0 ?_
  refine fw_aload_n (pc := 5) d_Line_take_5 0 rfl rfl ?_
  refine fw_getR (pc := 6) d_Line_take_6 fl_Line_9 g0.1 rfl ?_
  refine fw_iconst (pc := 9) d_Line_take_9 fw_ic0 ?_
  refine fw_bipush (pc := 10) d_Line_take_10 fw_bp10 ?_
  obtain ⟨μ12, e12, h⟩ := fw_be h
  refine fw_acpI (pc := 12) d_Line_take_12 ma_Line_22 g1.2 g0.2 e12 (by decide) (Nat.le_of_ble_eq_true rfl) ?_
  refine fw_aload_n (pc := 15) d_Line_take_15 0 rfl rfl ?_
  refine fw_aload_n (pc := 16) d_Line_take_16 1 rfl rfl ?_
  refine fw_getI (pc := 17) d_Line_take_17 fl_Line_15 g1.1 rfl ?_
  obtain ⟨μ20, e20, h⟩ := fw_ne h
  refine fw_putI (pc := 20) d_Line_take_20 fp_Line_15 g0.1 rfl (fw_mem e20 ?_)
  refine fw_aload_n (pc := 23) d_Line_take_23 0 rfl rfl ?_
  refine fw_aload_n (pc := 24) d_Line_take_24 1 rfl rfl ?_
  refine fw_getI (pc := 25) d_Line_take_25 fl_Line_19 g1.1 rfl ?_
  obtain ⟨μ28, e28, h⟩ := fw_ne h
  refine fw_putI (pc := 28) d_Line_take_28 fp_Line_19 g0.1 rfl (fw_mem e28 ?_)
  obtain rfl := Option.some.inj h
  exact fw_vret (pc := 31) d_Line_take_31 rfl
def f_X_line  (μ : fw_M) : Option (Int32 × fw_M) :=
  (f_Tape_readLine 75 μ).bind fun (p8 : Int32 × fw_M) =>
  fw_nm (fw_wr p8.2 63 1 0) fun (μ17 : fw_M) =>
  Option.bind (
    if p8.1 ≤ 0 then
      some μ17
    else
      (f_Line_take 6 75 μ17).bind fun (p35 : fw_M) =>
      (fw_si 9 p35 81 8 0).bind fun μ45 =>
      some μ45) fun (j21 : fw_M) =>
  some (p8.1, j21)
set_option maxHeartbeats 4000000 in
set_option maxRecDepth 100000 in
theorem c_X_line  {μ : fw_M} {r : Int32 × fw_M} (h : f_X_line  μ = some r) : fw_Con Y_X_line fw_X 3 [.ref 0] (some r.1) μ r.2 := by
  refine fw_con (by decide) (Nat.le_of_ble_eq_true rfl) ?_
  rw [f_X_line] at h
  show fw_R "FewTypes" prog_1_method_8_code 2 (some .int) fw_X 3 (some r.1) r.2 0 [(0, .ref 0)] [] μ
  refine fw_aload_n (pc := 0) d_X_line_0 0 rfl rfl ?_
  refine fw_getR (pc := 1) d_X_line_1 fl_X_26 fw_X0 rfl ?_
  refine fw_aload_n (pc := 4) d_X_line_4 0 rfl rfl ?_
  refine fw_getR (pc := 5) d_X_line_5 fl_X_47 fw_X0 rfl ?_
  obtain ⟨p8, e8, h⟩ := fw_be h
  refine fw_callVi (pc := 8) d_X_line_8 mv_X_136 fw_X63 (c_Tape_readLine e8) (by decide) rfl rfl (Nat.le_of_ble_eq_true rfl) ?_
  refine fw_istore_n (pc := 11) (lv1 := [(1, .int p8.1), (0, .ref 0)]) d_X_line_11 rfl (by decide) rfl ?_
  refine fw_aload_n (pc := 12) d_X_line_12 1 rfl rfl ?_
  refine fw_getR (pc := 13) d_X_line_13 fl_X_26 fw_X0 rfl ?_
  refine fw_iconst (pc := 16) d_X_line_16 fw_ic0 ?_
  obtain ⟨μ17, e17, h⟩ := fw_ne h
  refine fw_putI (pc := 17) d_X_line_17 fp_X_132 fw_X63 rfl (fw_mem e17 ?_)
  refine fw_iload_n (pc := 20) d_X_line_20 0 rfl rfl ?_
  obtain ⟨j21, w21, h⟩ := fw_be h
  have hJ21 : fw_R "FewTypes" prog_1_method_8_code 2 (some .int) fw_X 3 (some r.1) r.2 46 [(1, .int p8.1)] [] j21 := by
    refine fw_iload_n (pc := 46) d_X_line_46 0 rfl rfl ?_
    obtain rfl := Option.some.inj h
    exact fw_iret (pc := 47) d_X_line_47 rfl
  clear h
  have h := w21
  clear w21
  refine fw_if_le (pc := 21) (tgt := 46) d_X_line_21 rfl (fun hc => ?_) (fun hc => ?_)
  · have h := fw_it hc h
    obtain rfl := Option.some.inj h
    exact fw_sub [0] rfl hJ21
  · have h := fw_if hc h
    refine fw_aload_n (pc := 24) d_X_line_24 1 rfl rfl ?_
    refine fw_getR (pc := 25) d_X_line_25 fl_X_12 fw_X0 rfl ?_
    refine fw_getR (pc := 28) d_X_line_28 fl_X_139 fw_X1 rfl ?_
    refine fw_aload_n (pc := 31) d_X_line_31 1 rfl rfl ?_
    refine fw_getR (pc := 32) d_X_line_32 fl_X_47 fw_X0 rfl ?_
    obtain ⟨p35, e35, h⟩ := fw_be h
    refine fw_callVv (pc := 35) d_X_line_35 mv_X_142 fw_X6 (c_Line_take e35) (by decide) rfl rfl (Nat.le_of_ble_eq_true rfl) ?_
    refine fw_aload_n (pc := 38) d_X_line_38 1 rfl rfl ?_
    refine fw_getR (pc := 39) d_X_line_39 fl_X_58 fw_X0 rfl ?_
    refine fw_bipush (pc := 42) d_X_line_42 fw_bp8 ?_
    refine fw_iconst (pc := 44) d_X_line_44 fw_ic0 ?_
    obtain ⟨μ45, e45, h⟩ := fw_be h
    refine fw_iast (pc := 45) d_X_line_45 fw_X81 e45 ?_
    obtain rfl := Option.some.inj h
    exact fw_sub [0] rfl hJ21
def f_Tape_kindOf (a0 : Int32) : Option (Int32) :=
  if a0 = 109 then
    some 3
  else
    if a0 = 110 then
      some 2
    else
      if a0 = 116 then
        some 1
      else
        (f_X_isLetter (a0 - 97)).bind fun (p46 : Int32) =>
        fw_nm (
          if p46 = 0 then
            (-1)
          else
            0) fun (j49 : Int32) =>
        some j49
set_option maxHeartbeats 4000000 in
set_option maxRecDepth 100000 in
theorem c_Tape_kindOf {a0 : Int32} {μ : fw_M} {r : Int32} (h : f_Tape_kindOf a0 = some r) : fw_Con Y_Tape_kindOf fw_X 2 [.int a0] (some r) μ μ := by
  refine fw_con (by decide) (Nat.le_of_ble_eq_true rfl) ?_
  rw [f_Tape_kindOf] at h
  show fw_R "FewTypes$Tape" prog_9_method_8_code 1 (some .int) fw_X 2 (some r) μ 0 [(0, .int a0)] [] μ
  refine fw_iload_n (pc := 0) d_Tape_kindOf_0 0 rfl rfl ?_
  by_cases hc0 : a0 = 109
  · have h := fw_it hc0 h
    refine fw_top hc0.symm ?_
    refine fw_lsw (pc := 1) (off := 39) (tgt := 40) d_Tape_kindOf_1 (by decide) (by decide) rfl ?_
    refine fw_iconst (pc := 40) d_Tape_kindOf_40 fw_ic3 ?_
    obtain rfl := Option.some.inj h
    exact fw_iret (pc := 41) d_Tape_kindOf_41 rfl
  · have h := fw_if hc0 h
    by_cases hc1 : a0 = 110
    · have h := fw_it hc1 h
      refine fw_top hc1.symm ?_
      refine fw_lsw (pc := 1) (off := 37) (tgt := 38) d_Tape_kindOf_1 (by decide) (by decide) rfl ?_
      refine fw_iconst (pc := 38) d_Tape_kindOf_38 fw_ic2 ?_
      obtain rfl := Option.some.inj h
      exact fw_iret (pc := 39) d_Tape_kindOf_39 rfl
    · have h := fw_if hc1 h
      by_cases hc2 : a0 = 116
      · have h := fw_it hc2 h
        refine fw_top hc2.symm ?_
        refine fw_lsw (pc := 1) (off := 35) (tgt := 36) d_Tape_kindOf_1 (by decide) (by decide) rfl ?_
        refine fw_iconst (pc := 36) d_Tape_kindOf_36 fw_ic1 ?_
        obtain rfl := Option.some.inj h
        exact fw_iret (pc := 37) d_Tape_kindOf_37 rfl
      · have h := fw_if hc2 h
        refine fw_lsw (pc := 1) (off := 41) (tgt := 42) d_Tape_kindOf_1 (by decide) ?_ rfl ?_
        · have g0 := fw_ti hc0
          have g1 := fw_ti hc1
          have g2 := fw_ti hc2
          revert g0 g1 g2
          exact fw_lk_kindOf_1
        · refine fw_iload_n (pc := 42) d_Tape_kindOf_42 0 rfl rfl ?_
          refine fw_bipush (pc := 43) d_Tape_kindOf_43 fw_bp97 ?_
          refine fw_isub (pc := 45) d_Tape_kindOf_45 ?_
          obtain ⟨p46, e46, h⟩ := fw_be h
          refine fw_callNi (pc := 46) d_Tape_kindOf_46 ms_Tape_41 (c_X_isLetter e46) (by decide) rfl rfl (Nat.le_of_ble_eq_true rfl) ?_
          obtain ⟨j49, w49, h⟩ := fw_ne h
          have hJ49 : fw_R "FewTypes$Tape" prog_9_method_8_code 1 (some .int) fw_X 2 (some r) μ 57 [] [.int j49] μ := by
            obtain rfl := Option.some.inj h
            exact fw_iret (pc := 57) d_Tape_kindOf_57 rfl
          clear h
          have h := w49
          clear w49
          refine fw_if_eq (pc := 49) (tgt := 56) d_Tape_kindOf_49 rfl (fun hc => ?_) (fun hc => ?_)
          · have h := h.trans (if_pos hc)
            refine fw_iconst (pc := 56) d_Tape_kindOf_56 fw_icm1 ?_
            subst h
            exact fw_sub [] rfl hJ49
          · have h := h.trans (if_neg hc)
            refine fw_iconst (pc := 52) d_Tape_kindOf_52 fw_ic0 ?_
            refine fw_goto (pc := 53) (tgt := 57) d_Tape_kindOf_53 rfl ?_
            subst h
            exact fw_sub [] rfl hJ49
def f_Case_add_77 (a1 : Int32) (a2 : Int32) (a3 : Int32) (μ : fw_M) : Option (fw_M) :=
  Option.bind (
    if 10 ≤ (μ.1 77 3) then
      some μ
    else
      (fw_si 10 μ 78 (μ.1 77 3) a1).bind fun μ18 =>
      (fw_si 10 μ18 79 (μ18.1 77 3) a2).bind fun μ28 =>
      (fw_si 10 μ28 80 (μ28.1 77 3) a3).bind fun μ38 =>
      fw_nm (fw_wr μ38 77 3 ((μ38.1 77 3) + 1)) fun (μ46 : fw_M) =>
      some μ46) fun (j6 : fw_M) =>
  some j6
set_option maxHeartbeats 4000000 in
set_option maxRecDepth 100000 in
theorem c_Case_add_77 {a1 : Int32} {a2 : Int32} {a3 : Int32} {μ : fw_M} {r : fw_M} (h : f_Case_add_77 a1 a2 a3 μ = some r) : fw_Con Y_Case_add fw_X 1 [.ref 77, .int a1, .int a2, .int a3] none μ r := by
  refine fw_con (by decide) (Nat.le_of_ble_eq_true rfl) ?_
  rw [f_Case_add_77] at h
  show fw_R "FewTypes$Case" prog_2_method_4_code 4 none fw_X 1 none r 0 [(0, .ref 77), (1, .int a1), (2, .int a2), (3, .int a3)] [] μ
  refine fw_aload_n (pc := 0) d_Case_add_0 0 rfl rfl ?_
  refine fw_getI (pc := 1) d_Case_add_1 fl_Case_21 fw_X77 rfl ?_
  refine fw_bipush (pc := 4) d_Case_add_4 fw_bp10 ?_
  obtain ⟨j6, w6, h⟩ := fw_be h
  have hJ6 : fw_R "FewTypes$Case" prog_2_method_4_code 4 none fw_X 1 none r 49 [] [] j6 := by
    obtain rfl := Option.some.inj h
    exact fw_vret (pc := 49) d_Case_add_49 rfl
  clear h
  have h := w6
  clear w6
  refine fw_icmp_ge (pc := 6) (tgt := 49) d_Case_add_6 rfl (fun hc => ?_) (fun hc => ?_)
  · have h := fw_it hc h
    obtain rfl := Option.some.inj h
    exact fw_sub [] rfl hJ6
  · have h := fw_if hc h
    refine fw_aload_n (pc := 9) d_Case_add_9 0 rfl rfl ?_
    refine fw_getR (pc := 10) d_Case_add_10 fl_Case_9 fw_X77 rfl ?_
    refine fw_aload_n (pc := 13) d_Case_add_13 0 rfl rfl ?_
    refine fw_getI (pc := 14) d_Case_add_14 fl_Case_21 fw_X77 rfl ?_
    refine fw_iload_n (pc := 17) d_Case_add_17 1 rfl rfl ?_
    obtain ⟨μ18, e18, h⟩ := fw_be h
    refine fw_iast (pc := 18) d_Case_add_18 fw_X78 e18 ?_
    refine fw_aload_n (pc := 19) d_Case_add_19 0 rfl rfl ?_
    refine fw_getR (pc := 20) d_Case_add_20 fl_Case_15 fw_X77 rfl ?_
    refine fw_aload_n (pc := 23) d_Case_add_23 0 rfl rfl ?_
    refine fw_getI (pc := 24) d_Case_add_24 fl_Case_21 fw_X77 rfl ?_
    refine fw_iload_n (pc := 27) d_Case_add_27 2 rfl rfl ?_
    obtain ⟨μ28, e28, h⟩ := fw_be h
    refine fw_iast (pc := 28) d_Case_add_28 fw_X79 e28 ?_
    refine fw_aload_n (pc := 29) d_Case_add_29 0 rfl rfl ?_
    refine fw_getR (pc := 30) d_Case_add_30 fl_Case_18 fw_X77 rfl ?_
    refine fw_aload_n (pc := 33) d_Case_add_33 0 rfl rfl ?_
    refine fw_getI (pc := 34) d_Case_add_34 fl_Case_21 fw_X77 rfl ?_
    refine fw_iload_n (pc := 37) d_Case_add_37 3 rfl rfl ?_
    obtain ⟨μ38, e38, h⟩ := fw_be h
    refine fw_iast (pc := 38) d_Case_add_38 fw_X80 e38 ?_
    refine fw_aload_n (pc := 39) d_Case_add_39 0 rfl rfl ?_
    refine fw_dup (pc := 40) d_Case_add_40 rfl ?_
    refine fw_getI (pc := 41) d_Case_add_41 fl_Case_21 fw_X77 rfl ?_
    refine fw_iconst (pc := 44) d_Case_add_44 fw_ic1 ?_
    refine fw_iadd (pc := 45) d_Case_add_45 ?_
    obtain ⟨μ46, e46, h⟩ := fw_ne h
    refine fw_putI (pc := 46) d_Case_add_46 fp_Case_21 fw_X77 rfl (fw_mem e46 ?_)
    obtain rfl := Option.some.inj h
    exact fw_sub [] rfl hJ6
def f_Tape_readType  (μ : fw_M) : Option (Int32 × fw_M) :=
  (f_Tape_nextSign μ).bind fun (p1 : Int32 × fw_M) =>
  (f_Tape_kindOf p1.1).bind fun (p6 : Int32) =>
  if p6 = (-1) then
    some (0, p1.2)
  else
    fw_nm (fw_wr p1.2 63 2 ((p1.2.1 63 2) + 1)) fun (μ24 : fw_M) =>
    if p6 = 0 then
      (f_Case_add_77 0 (p1.1 - 97) 0 μ24).bind fun (p38 : fw_M) =>
      some (1, p38)
    else
      (f_Tape_nextSign μ24).bind fun (p44 : Int32 × fw_M) =>
      fw_nm ((p44.1 - 97)) fun (v50 : Int32) =>
      (f_X_isLetter v50).bind fun (p54 : Int32) =>
      if p54 = 0 then
        some (0, p44.2)
      else
        fw_nm (fw_wr p44.2 63 2 ((p44.2.1 63 2) + 1)) fun (μ69 : fw_M) =>
        (f_Tape_nextSign μ69).bind fun (p73 : Int32 × fw_M) =>
        fw_nm (
          if p6 = 3 then
            48
          else
            97) fun (j78 : Int32) =>
        fw_nm ((p73.1 - j78)) fun (v89 : Int32) =>
        (f_Case_fits p6 v50 v89).bind fun (p96 : Int32) =>
        if p96 = 0 then
          some (0, p73.2)
        else
          fw_nm (fw_wr p73.2 63 2 ((p73.2.1 63 2) + 1)) fun (μ111 : fw_M) =>
          (f_Case_add_77 p6 v50 v89 μ111).bind fun (p120 : fw_M) =>
          some (1, p120)
set_option maxHeartbeats 4000000 in
set_option maxRecDepth 100000 in
theorem c_Tape_readType  {μ : fw_M} {r : Int32 × fw_M} (h : f_Tape_readType  μ = some r) : fw_Con Y_Tape_readType fw_X 3 [.ref 63, .ref 77] (some r.1) μ r.2 := by
  refine fw_con (by decide) (Nat.le_of_ble_eq_true rfl) ?_
  rw [f_Tape_readType] at h
  show fw_R "FewTypes$Tape" prog_9_method_7_code 6 (some .boolean) fw_X 3 (some r.1) r.2 0 [(0, .ref 63), (1, .ref 77)] [] μ
  refine fw_aload_n (pc := 0) d_Tape_readType_0 0 rfl rfl ?_
  obtain ⟨p1, e1, h⟩ := fw_be h
  refine fw_callVi (pc := 1) d_Tape_readType_1 mv_Tape_33 fw_X63 (c_Tape_nextSign e1) (by decide) rfl rfl (Nat.le_of_ble_eq_true rfl) ?_
  refine fw_istore_n (pc := 4) (lv1 := [(2, .int p1.1), (0, .ref 63), (1, .ref 77)]) d_Tape_readType_4 rfl (by decide) rfl ?_
  refine fw_iload_n (pc := 5) d_Tape_readType_5 0 rfl rfl ?_
  obtain ⟨p6, e6, h⟩ := fw_be h
  refine fw_callSi (pc := 6) d_Tape_readType_6 ms_Tape_56 (c_Tape_kindOf e6) (by decide) rfl rfl (Nat.le_of_ble_eq_true rfl) ?_
  refine fw_istore_n (pc := 9) (lv1 := [(3, .int p6), (2, .int p1.1), (0, .ref 63), (1, .ref 77)]) d_Tape_readType_9 rfl (by decide) rfl ?_
  refine fw_iload_n (pc := 10) d_Tape_readType_10 0 rfl rfl ?_
  refine fw_iconst (pc := 11) d_Tape_readType_11 fw_icm1 ?_
  refine fw_icmp_ne (pc := 12) (tgt := 17) d_Tape_readType_12 rfl (fun hc => ?_) (fun hc => ?_)
  · have h := fw_it hc h
    refine fw_iconst (pc := 15) d_Tape_readType_15 fw_ic0 ?_
    obtain rfl := Option.some.inj h
    exact fw_zret (pc := 16) d_Tape_readType_16 rfl fw_bz0
  · have h := fw_if hc h
    refine fw_aload_n (pc := 17) d_Tape_readType_17 2 rfl rfl ?_
    refine fw_dup (pc := 18) d_Tape_readType_18 rfl ?_
    refine fw_getI (pc := 19) d_Tape_readType_19 fl_Tape_19 fw_X63 rfl ?_
    refine fw_iconst (pc := 22) d_Tape_readType_22 fw_ic1 ?_
    refine fw_iadd (pc := 23) d_Tape_readType_23 ?_
    obtain ⟨μ24, e24, h⟩ := fw_ne h
    refine fw_putI (pc := 24) d_Tape_readType_24 fp_Tape_19 fw_X63 rfl (fw_mem e24 ?_)
    refine fw_iload_n (pc := 27) d_Tape_readType_27 0 rfl rfl ?_
    refine fw_if_ne (pc := 28) (tgt := 43) d_Tape_readType_28 rfl (fun hc => ?_) (fun hc => ?_)
    · have h := fw_it hc h
      refine fw_aload_n (pc := 31) d_Tape_readType_31 3 rfl rfl ?_
      refine fw_iconst (pc := 32) d_Tape_readType_32 fw_ic0 ?_
      refine fw_iload_n (pc := 33) d_Tape_readType_33 1 rfl rfl ?_
      refine fw_bipush (pc := 34) d_Tape_readType_34 fw_bp97 ?_
      refine fw_isub (pc := 36) d_Tape_readType_36 ?_
      refine fw_iconst (pc := 37) d_Tape_readType_37 fw_ic0 ?_
      obtain ⟨p38, e38, h⟩ := fw_be h
      refine fw_callVv (pc := 38) d_Tape_readType_38 mv_Tape_60 fw_X77 (c_Case_add_77 e38) (by decide) rfl rfl (Nat.le_of_ble_eq_true rfl) ?_
      refine fw_iconst (pc := 41) d_Tape_readType_41 fw_ic1 ?_
      obtain rfl := Option.some.inj h
      exact fw_zret (pc := 42) d_Tape_readType_42 rfl fw_bz1
    · have h := fw_if hc h
      refine fw_aload_n (pc := 43) d_Tape_readType_43 2 rfl rfl ?_
      obtain ⟨p44, e44, h⟩ := fw_be h
      refine fw_callVi (pc := 44) d_Tape_readType_44 mv_Tape_33 fw_X63 (c_Tape_nextSign e44) (by decide) rfl rfl (Nat.le_of_ble_eq_true rfl) ?_
      refine fw_bipush (pc := 47) d_Tape_readType_47 fw_bp97 ?_
      refine fw_isub (pc := 49) d_Tape_readType_49 ?_
      obtain ⟨v50, e50, h⟩ := fw_ne h
      refine fw_top e50 ?_
      refine fw_istore (pc := 50) (lv1 := [(4, .int v50), (3, .int p6), (2, .int p1.1), (0, .ref 63), (1, .ref 77)]) d_Tape_readType_50 (by decide) rfl ?_
      refine fw_iload (pc := 52) d_Tape_readType_52 0 rfl ?_
      obtain ⟨p54, e54, h⟩ := fw_be h
      refine fw_callNi (pc := 54) d_Tape_readType_54 ms_Tape_41 (c_X_isLetter e54) (by decide) rfl rfl (Nat.le_of_ble_eq_true rfl) ?_
      refine fw_if_ne (pc := 57) (tgt := 62) d_Tape_readType_57 rfl (fun hc => ?_) (fun hc => ?_)
      · have h := fw_it hc h
        refine fw_iconst (pc := 60) d_Tape_readType_60 fw_ic0 ?_
        obtain rfl := Option.some.inj h
        exact fw_zret (pc := 61) d_Tape_readType_61 rfl fw_bz0
      · have h := fw_if hc h
        refine fw_aload_n (pc := 62) d_Tape_readType_62 3 rfl rfl ?_
        refine fw_dup (pc := 63) d_Tape_readType_63 rfl ?_
        refine fw_getI (pc := 64) d_Tape_readType_64 fl_Tape_19 fw_X63 rfl ?_
        refine fw_iconst (pc := 67) d_Tape_readType_67 fw_ic1 ?_
        refine fw_iadd (pc := 68) d_Tape_readType_68 ?_
        obtain ⟨μ69, e69, h⟩ := fw_ne h
        refine fw_putI (pc := 69) d_Tape_readType_69 fp_Tape_19 fw_X63 rfl (fw_mem e69 ?_)
        refine fw_aload_n (pc := 72) d_Tape_readType_72 3 rfl rfl ?_
        obtain ⟨p73, e73, h⟩ := fw_be h
        refine fw_callVi (pc := 73) d_Tape_readType_73 mv_Tape_33 fw_X63 (c_Tape_nextSign e73) (by decide) rfl rfl (Nat.le_of_ble_eq_true rfl) ?_
        refine fw_iload_n (pc := 76) d_Tape_readType_76 1 rfl rfl ?_
        refine fw_iconst (pc := 77) d_Tape_readType_77 fw_ic3 ?_
        obtain ⟨j78, w78, h⟩ := fw_ne h
        have hJ78 : fw_R "FewTypes$Tape" prog_9_method_7_code 6 (some .boolean) fw_X 3 (some r.1) r.2 88 [(0, .ref 63), (1, .ref 77), (3, .int p6), (4, .int v50)] [.int j78, .int p73.1] p73.2 := by
          refine fw_isub (pc := 88) d_Tape_readType_88 ?_
          obtain ⟨v89, e89, h⟩ := fw_ne h
          refine fw_top e89 ?_
          refine fw_istore (pc := 89) (lv1 := [(5, .int v89), (0, .ref 63), (1, .ref 77), (3, .int p6), (4, .int v50)]) d_Tape_readType_89 (by decide) rfl ?_
          refine fw_iload_n (pc := 91) d_Tape_readType_91 3 rfl rfl ?_
          refine fw_iload (pc := 92) d_Tape_readType_92 4 rfl ?_
          refine fw_iload (pc := 94) d_Tape_readType_94 0 rfl ?_
          obtain ⟨p96, e96, h⟩ := fw_be h
          refine fw_callSi (pc := 96) d_Tape_readType_96 ms_Tape_63 (c_Case_fits e96) (by decide) rfl rfl (Nat.le_of_ble_eq_true rfl) ?_
          refine fw_if_ne (pc := 99) (tgt := 104) d_Tape_readType_99 rfl (fun hc => ?_) (fun hc => ?_)
          · have h := fw_it hc h
            refine fw_iconst (pc := 102) d_Tape_readType_102 fw_ic0 ?_
            obtain rfl := Option.some.inj h
            exact fw_zret (pc := 103) d_Tape_readType_103 rfl fw_bz0
          · have h := fw_if hc h
            refine fw_aload_n (pc := 104) d_Tape_readType_104 1 rfl rfl ?_
            refine fw_dup (pc := 105) d_Tape_readType_105 rfl ?_
            refine fw_getI (pc := 106) d_Tape_readType_106 fl_Tape_19 fw_X63 rfl ?_
            refine fw_iconst (pc := 109) d_Tape_readType_109 fw_ic1 ?_
            refine fw_iadd (pc := 110) d_Tape_readType_110 ?_
            obtain ⟨μ111, e111, h⟩ := fw_ne h
            refine fw_putI (pc := 111) d_Tape_readType_111 fp_Tape_19 fw_X63 rfl (fw_mem e111 ?_)
            refine fw_aload_n (pc := 114) d_Tape_readType_114 2 rfl rfl ?_
            refine fw_iload_n (pc := 115) d_Tape_readType_115 3 rfl rfl ?_
            refine fw_iload (pc := 116) d_Tape_readType_116 4 rfl ?_
            refine fw_iload (pc := 118) d_Tape_readType_118 0 rfl ?_
            obtain ⟨p120, e120, h⟩ := fw_be h
            refine fw_callVv (pc := 120) d_Tape_readType_120 mv_Tape_60 fw_X77 (c_Case_add_77 e120) (by decide) rfl rfl (Nat.le_of_ble_eq_true rfl) ?_
            refine fw_iconst (pc := 123) d_Tape_readType_123 fw_ic1 ?_
            obtain rfl := Option.some.inj h
            exact fw_zret (pc := 124) d_Tape_readType_124 rfl fw_bz1
        clear h
        have h := w78
        clear w78
        refine fw_icmp_ne (pc := 78) (tgt := 86) d_Tape_readType_78 rfl (fun hc => ?_) (fun hc => ?_)
        · have h := h.trans (if_pos hc)
          refine fw_bipush (pc := 81) d_Tape_readType_81 fw_bp48 ?_
          refine fw_goto (pc := 83) (tgt := 88) d_Tape_readType_83 rfl ?_
          subst h
          exact fw_sub [3, 4, 1, 0] rfl hJ78
        · have h := h.trans (if_neg hc)
          refine fw_bipush (pc := 86) d_Tape_readType_86 fw_bp97 ?_
          subst h
          exact fw_sub [3, 4, 1, 0] rfl hJ78
def f_Tape_readCase_L12  : Int32 × fw_M → Option ((Int32 × fw_M) ⊕ ((fw_M) ⊕ (Int32 × fw_M)))
  | (x2_12, μ12) =>
  if (μ12.1 63 1) < x2_12 then
    some (.inr (.inl μ12))
  else
    (f_Tape_readType μ12).bind fun (p22 : Int32 × fw_M) =>
    if p22.1 = 0 then
      (f_Tape_fault p22.2).bind fun (p29 : Int32) =>
      some (.inr (.inr (p29, p22.2)))
    else
      (f_Tape_nextSign p22.2).bind fun (p34 : Int32 × fw_M) =>
      if p34.1 = (-1) then
        some (.inr (.inr ((p34.2.1 77 3), p34.2)))
      else
        if p34.1 = 44 then
          if (p34.2.1 77 3) < 10 then
            fw_nm (fw_wr p34.2 63 2 ((p34.2.1 63 2) + 1)) fun (μ75 : fw_M) =>
            fw_nm (x2_12 + 1) fun (v78 : Int32) =>
            some (.inl (v78, μ75))
          else
            (f_Tape_fault p34.2).bind fun (p64 : Int32) =>
            some (.inr (.inr (p64, p34.2)))
        else
          (f_Tape_fault p34.2).bind fun (p64 : Int32) =>
          some (.inr (.inr (p64, p34.2)))
def f_Tape_readCase  (μ : fw_M) : Option (Int32 × fw_M) :=
  fw_nm (fw_wr μ 63 2 0) fun (μ2 : fw_M) =>
  fw_nm (fw_wr μ2 77 3 0) fun (μ7 : fw_M) =>
  Option.bind (fw_wh (f_Tape_readCase_L12) fw_N (0, μ7)) fun (q12 : (fw_M) ⊕ (Int32 × fw_M)) => match q12 with
  | .inl e12x =>
    (f_Tape_fault e12x).bind fun (p85 : Int32) =>
    some (p85, e12x)
  | .inr r12 => some r12
set_option maxHeartbeats 4000000 in
set_option maxRecDepth 100000 in
theorem c_Tape_readCase  {μ : fw_M} {r : Int32 × fw_M} (h : f_Tape_readCase  μ = some r) : fw_Con Y_Tape_readCase fw_X 4 [.ref 63, .ref 77] (some r.1) μ r.2 := by
  refine fw_con (by decide) (Nat.le_of_ble_eq_true rfl) ?_
  rw [f_Tape_readCase] at h
  show fw_R "FewTypes$Tape" prog_9_method_6_code 4 (some .int) fw_X 4 (some r.1) r.2 0 [(0, .ref 63), (1, .ref 77)] [] μ
  refine fw_aload_n (pc := 0) d_Tape_readCase_0 0 rfl rfl ?_
  refine fw_iconst (pc := 1) d_Tape_readCase_1 fw_ic0 ?_
  obtain ⟨μ2, e2, h⟩ := fw_ne h
  refine fw_putI (pc := 2) d_Tape_readCase_2 fp_Tape_19 fw_X63 rfl (fw_mem e2 ?_)
  refine fw_aload_n (pc := 5) d_Tape_readCase_5 1 rfl rfl ?_
  refine fw_iconst (pc := 6) d_Tape_readCase_6 fw_ic0 ?_
  obtain ⟨μ7, e7, h⟩ := fw_ne h
  refine fw_putI (pc := 7) d_Tape_readCase_7 fp_Tape_49 fw_X77 rfl (fw_mem e7 ?_)
  refine fw_iconst (pc := 10) d_Tape_readCase_10 fw_ic0 ?_
  refine fw_istore_n (pc := 11) (lv1 := [(2, .int 0), (0, .ref 63), (1, .ref 77)]) d_Tape_readCase_11 rfl (by decide) rfl ?_
  obtain ⟨q12, w12, h⟩ := fw_be h
  have hE12 : ∀ e12x : fw_M, q12 = .inl e12x → fw_R "FewTypes$Tape" prog_9_method_6_code 4 (some .int) fw_X 4 (some r.1) r.2 84 [(0, .ref 63)] [] e12x := by
    intro e12x hq
    subst hq
    dsimp only at h
    refine fw_aload_n (pc := 84) d_Tape_readCase_84 0 rfl rfl ?_
    obtain ⟨p85, e85, h⟩ := fw_be h
    refine fw_callVi (pc := 85) d_Tape_readCase_85 mv_Tape_37 fw_X63 (c_Tape_fault e85) (by decide) rfl rfl (Nat.le_of_ble_eq_true rfl) ?_
    obtain rfl := Option.some.inj h
    exact fw_iret (pc := 88) d_Tape_readCase_88 rfl
  have hR12 : ∀ r12, q12 = .inr r12 → r12 = r := by
    intro r12 hq
    subst hq
    exact Option.some.inj h
  clear h
  exact fw_sub [1, 2, 0] rfl (fw_we (e := q12) (fun (s : Int32 × fw_M) => fw_R "FewTypes$Tape" prog_9_method_6_code 4 (some .int) fw_X 4 (some r.1) r.2 12 [(0, .ref 63), (1, .ref 77), (2, .int s.1)] [] s.2) (by
    intro s x h hl hr
    obtain ⟨x2_12, μ12⟩ := s
    rw [f_Tape_readCase_L12] at h
    show fw_R "FewTypes$Tape" prog_9_method_6_code 4 (some .int) fw_X 4 (some r.1) r.2 12 [(0, .ref 63), (1, .ref 77), (2, .int x2_12)] [] μ12
    refine fw_iload_n (pc := 12) d_Tape_readCase_12 2 rfl rfl ?_
    refine fw_aload_n (pc := 13) d_Tape_readCase_13 0 rfl rfl ?_
    refine fw_getI (pc := 14) d_Tape_readCase_14 fl_Tape_15 fw_X63 rfl ?_
    refine fw_icmp_gt (pc := 17) (tgt := 84) d_Tape_readCase_17 rfl (fun hc => ?_) (fun hc => ?_)
    · have h := fw_it hc h
      obtain rfl := Option.some.inj h
      exact fw_sub [0] rfl (hE12 _ (hr _ rfl).symm)
    · have h := fw_if hc h
      refine fw_aload_n (pc := 20) d_Tape_readCase_20 0 rfl rfl ?_
      refine fw_aload_n (pc := 21) d_Tape_readCase_21 1 rfl rfl ?_
      obtain ⟨p22, e22, h⟩ := fw_be h
      refine fw_callVi (pc := 22) d_Tape_readCase_22 mv_Tape_52 fw_X63 (c_Tape_readType e22) (by decide) rfl rfl (Nat.le_of_ble_eq_true rfl) ?_
      refine fw_if_ne (pc := 25) (tgt := 33) d_Tape_readCase_25 rfl (fun hc => ?_) (fun hc => ?_)
      · have h := fw_it hc h
        refine fw_aload_n (pc := 28) d_Tape_readCase_28 0 rfl rfl ?_
        obtain ⟨p29, e29, h⟩ := fw_be h
        refine fw_callVi (pc := 29) d_Tape_readCase_29 mv_Tape_37 fw_X63 (c_Tape_fault e29) (by decide) rfl rfl (Nat.le_of_ble_eq_true rfl) ?_
        obtain rfl := Option.some.inj h
        have he := hR12 _ (hr _ rfl).symm
        subst he
        exact fw_iret (pc := 32) d_Tape_readCase_32 rfl
      · have h := fw_if hc h
        refine fw_aload_n (pc := 33) d_Tape_readCase_33 0 rfl rfl ?_
        obtain ⟨p34, e34, h⟩ := fw_be h
        refine fw_callVi (pc := 34) d_Tape_readCase_34 mv_Tape_33 fw_X63 (c_Tape_nextSign e34) (by decide) rfl rfl (Nat.le_of_ble_eq_true rfl) ?_
        refine fw_istore_n (pc := 37) (lv1 := [(3, .int p34.1), (0, .ref 63), (1, .ref 77), (2, .int x2_12)]) d_Tape_readCase_37 rfl (by decide) rfl ?_
        refine fw_iload_n (pc := 38) d_Tape_readCase_38 0 rfl rfl ?_
        refine fw_iconst (pc := 39) d_Tape_readCase_39 fw_icm1 ?_
        refine fw_icmp_ne (pc := 40) (tgt := 48) d_Tape_readCase_40 rfl (fun hc => ?_) (fun hc => ?_)
        · have h := fw_it hc h
          refine fw_aload_n (pc := 43) d_Tape_readCase_43 2 rfl rfl ?_
          refine fw_getI (pc := 44) d_Tape_readCase_44 fl_Tape_49 fw_X77 rfl ?_
          obtain rfl := Option.some.inj h
          have he := hR12 _ (hr _ rfl).symm
          subst he
          exact fw_iret (pc := 47) d_Tape_readCase_47 rfl
        · have h := fw_if hc h
          refine fw_iload_n (pc := 48) d_Tape_readCase_48 0 rfl rfl ?_
          refine fw_bipush (pc := 49) d_Tape_readCase_49 fw_bp44 ?_
          refine fw_icmp_ne (pc := 51) (tgt := 63) d_Tape_readCase_51 rfl (fun hc => ?_) (fun hc => ?_)
          · have h := fw_it hc h
            refine fw_aload_n (pc := 54) d_Tape_readCase_54 2 rfl rfl ?_
            refine fw_getI (pc := 55) d_Tape_readCase_55 fl_Tape_49 fw_X77 rfl ?_
            refine fw_bipush (pc := 58) d_Tape_readCase_58 fw_bp10 ?_
            refine fw_icmp_lt (pc := 60) (tgt := 68) d_Tape_readCase_60 rfl (fun hc => ?_) (fun hc => ?_)
            · have h := fw_it hc h
              refine fw_aload_n (pc := 68) d_Tape_readCase_68 1 rfl rfl ?_
              refine fw_dup (pc := 69) d_Tape_readCase_69 rfl ?_
              refine fw_getI (pc := 70) d_Tape_readCase_70 fl_Tape_19 fw_X63 rfl ?_
              refine fw_iconst (pc := 73) d_Tape_readCase_73 fw_ic1 ?_
              refine fw_iadd (pc := 74) d_Tape_readCase_74 ?_
              obtain ⟨μ75, e75, h⟩ := fw_ne h
              refine fw_putI (pc := 75) d_Tape_readCase_75 fp_Tape_19 fw_X63 rfl (fw_mem e75 ?_)
              obtain ⟨v78, e78, h⟩ := fw_ne h
              refine fw_iinc2 (pc := 78) (j := 3) (lv1 := [(2, .int v78), (3, .int p34.1), (0, .ref 63), (1, .ref 77)]) d_Tape_readCase_78 rfl fw_ic1 e78 (by decide) rfl ?_
              refine fw_goto (pc := 81) (tgt := 12) d_Tape_readCase_81 rfl ?_
              obtain rfl := Option.some.inj h
              exact fw_sub [2, 3, 0] rfl (hl _ rfl)
            · have h := fw_if hc h
              refine fw_aload_n (pc := 63) d_Tape_readCase_63 1 rfl rfl ?_
              obtain ⟨p64, e64, h⟩ := fw_be h
              refine fw_callVi (pc := 64) d_Tape_readCase_64 mv_Tape_37 fw_X63 (c_Tape_fault e64) (by decide) rfl rfl (Nat.le_of_ble_eq_true rfl) ?_
              obtain rfl := Option.some.inj h
              have he := hR12 _ (hr _ rfl).symm
              subst he
              exact fw_iret (pc := 67) d_Tape_readCase_67 rfl
          · have h := fw_if hc h
            refine fw_aload_n (pc := 63) d_Tape_readCase_63 1 rfl rfl ?_
            obtain ⟨p64, e64, h⟩ := fw_be h
            refine fw_callVi (pc := 64) d_Tape_readCase_64 mv_Tape_37 fw_X63 (c_Tape_fault e64) (by decide) rfl rfl (Nat.le_of_ble_eq_true rfl) ?_
            obtain rfl := Option.some.inj h
            have he := hR12 _ (hr _ rfl).symm
            subst he
            exact fw_iret (pc := 67) d_Tape_readCase_67 rfl
    ) _ _ w12)
def f_Case_take_2_77  (μ : fw_M) : Option (fw_M) :=
  (fw_cp 10 10 μ 78 0 3 0 10).bind fun μ12 =>
  (fw_cp 10 10 μ12 79 0 4 0 10).bind fun μ27 =>
  (fw_cp 10 10 μ27 80 0 5 0 10).bind fun μ42 =>
  fw_nm (fw_wr μ42 2 3 (μ42.1 77 3)) fun (μ50 : fw_M) =>
  some μ50
set_option maxHeartbeats 4000000 in
set_option maxRecDepth 100000 in
theorem c_Case_take_2_77  {μ : fw_M} {r : fw_M} (h : f_Case_take_2_77  μ = some r) : fw_Con Y_Case_take fw_X 1 [.ref 2, .ref 77] none μ r := by
  refine fw_con (by decide) (Nat.le_of_ble_eq_true rfl) ?_
  rw [f_Case_take_2_77] at h
  show fw_R "FewTypes$Case" prog_2_method_6_code 2 none fw_X 1 none r 0 [(0, .ref 2), (1, .ref 77)] [] μ
  refine fw_aload_n (pc := 0) d_Case_take_0 1 rfl rfl ?_
  refine fw_getR (pc := 1) d_Case_take_1 fl_Case_9 fw_X77 rfl ?_
  refine fw_iconst (pc := 4) d_Case_take_4 fw_ic0 ?_
  refine fw_aload_n (pc := 5) d_Case_take_5 0 rfl rfl ?_
  refine fw_getR (pc := 6) d_Case_take_6 fl_Case_9 fw_X2 rfl ?_
  refine fw_iconst (pc := 9) d_Case_take_9 fw_ic0 ?_
  refine fw_bipush (pc := 10) d_Case_take_10 fw_bp10 ?_
  obtain ⟨μ12, e12, h⟩ := fw_be h
  refine fw_acpI (pc := 12) d_Case_take_12 ma_Case_32 fw_X78 fw_X3 e12 (by decide) (Nat.le_of_ble_eq_true rfl) ?_
  refine fw_aload_n (pc := 15) d_Case_take_15 1 rfl rfl ?_
  refine fw_getR (pc := 16) d_Case_take_16 fl_Case_15 fw_X77 rfl ?_
  refine fw_iconst (pc := 19) d_Case_take_19 fw_ic0 ?_
  refine fw_aload_n (pc := 20) d_Case_take_20 0 rfl rfl ?_
  refine fw_getR (pc := 21) d_Case_take_21 fl_Case_15 fw_X2 rfl ?_
  refine fw_iconst (pc := 24) d_Case_take_24 fw_ic0 ?_
  refine fw_bipush (pc := 25) d_Case_take_25 fw_bp10 ?_
  obtain ⟨μ27, e27, h⟩ := fw_be h
  refine fw_acpI (pc := 27) d_Case_take_27 ma_Case_32 fw_X79 fw_X4 e27 (by decide) (Nat.le_of_ble_eq_true rfl) ?_
  refine fw_aload_n (pc := 30) d_Case_take_30 1 rfl rfl ?_
  refine fw_getR (pc := 31) d_Case_take_31 fl_Case_18 fw_X77 rfl ?_
  refine fw_iconst (pc := 34) d_Case_take_34 fw_ic0 ?_
  refine fw_aload_n (pc := 35) d_Case_take_35 0 rfl rfl ?_
  refine fw_getR (pc := 36) d_Case_take_36 fl_Case_18 fw_X2 rfl ?_
  refine fw_iconst (pc := 39) d_Case_take_39 fw_ic0 ?_
  refine fw_bipush (pc := 40) d_Case_take_40 fw_bp10 ?_
  obtain ⟨μ42, e42, h⟩ := fw_be h
  refine fw_acpI (pc := 42) d_Case_take_42 ma_Case_32 fw_X80 fw_X5 e42 (by decide) (Nat.le_of_ble_eq_true rfl) ?_
  refine fw_aload_n (pc := 45) d_Case_take_45 0 rfl rfl ?_
  refine fw_aload_n (pc := 46) d_Case_take_46 1 rfl rfl ?_
  refine fw_getI (pc := 47) d_Case_take_47 fl_Case_21 fw_X77 rfl ?_
  obtain ⟨μ50, e50, h⟩ := fw_ne h
  refine fw_putI (pc := 50) d_Case_take_50 fp_Case_21 fw_X2 rfl (fw_mem e50 ?_)
  obtain rfl := Option.some.inj h
  exact fw_vret (pc := 53) d_Case_take_53 rfl
def f_X_types  (μ : fw_M) : Option (Int32 × fw_M) :=
  (f_Tape_readCase μ).bind fun (p8 : Int32 × fw_M) =>
  fw_nm (fw_wr p8.2 63 1 0) fun (μ17 : fw_M) =>
  Option.bind (
    if p8.1 ≤ 0 then
      some μ17
    else
      (f_Case_take_2_77 μ17).bind fun (p35 : fw_M) =>
      (f_X_forgetPulls p35).bind fun (p39 : fw_M) =>
      some p39) fun (j21 : fw_M) =>
  some (p8.1, j21)
set_option maxHeartbeats 4000000 in
set_option maxRecDepth 100000 in
theorem c_X_types  {μ : fw_M} {r : Int32 × fw_M} (h : f_X_types  μ = some r) : fw_Con Y_X_types fw_X 5 [.ref 0] (some r.1) μ r.2 := by
  refine fw_con (by decide) (Nat.le_of_ble_eq_true rfl) ?_
  rw [f_X_types] at h
  show fw_R "FewTypes" prog_1_method_9_code 2 (some .int) fw_X 5 (some r.1) r.2 0 [(0, .ref 0)] [] μ
  refine fw_aload_n (pc := 0) d_X_types_0 0 rfl rfl ?_
  refine fw_getR (pc := 1) d_X_types_1 fl_X_26 fw_X0 rfl ?_
  refine fw_aload_n (pc := 4) d_X_types_4 0 rfl rfl ?_
  refine fw_getR (pc := 5) d_X_types_5 fl_X_54 fw_X0 rfl ?_
  obtain ⟨p8, e8, h⟩ := fw_be h
  refine fw_callVi (pc := 8) d_X_types_8 mv_X_146 fw_X63 (c_Tape_readCase e8) (by decide) rfl rfl (Nat.le_of_ble_eq_true rfl) ?_
  refine fw_istore_n (pc := 11) (lv1 := [(1, .int p8.1), (0, .ref 0)]) d_X_types_11 rfl (by decide) rfl ?_
  refine fw_aload_n (pc := 12) d_X_types_12 1 rfl rfl ?_
  refine fw_getR (pc := 13) d_X_types_13 fl_X_26 fw_X0 rfl ?_
  refine fw_iconst (pc := 16) d_X_types_16 fw_ic0 ?_
  obtain ⟨μ17, e17, h⟩ := fw_ne h
  refine fw_putI (pc := 17) d_X_types_17 fp_X_132 fw_X63 rfl (fw_mem e17 ?_)
  refine fw_iload_n (pc := 20) d_X_types_20 0 rfl rfl ?_
  obtain ⟨j21, w21, h⟩ := fw_be h
  have hJ21 : fw_R "FewTypes" prog_1_method_9_code 2 (some .int) fw_X 5 (some r.1) r.2 42 [(1, .int p8.1)] [] j21 := by
    refine fw_iload_n (pc := 42) d_X_types_42 0 rfl rfl ?_
    obtain rfl := Option.some.inj h
    exact fw_iret (pc := 43) d_X_types_43 rfl
  clear h
  have h := w21
  clear w21
  refine fw_if_le (pc := 21) (tgt := 42) d_X_types_21 rfl (fun hc => ?_) (fun hc => ?_)
  · have h := fw_it hc h
    obtain rfl := Option.some.inj h
    exact fw_sub [0] rfl hJ21
  · have h := fw_if hc h
    refine fw_aload_n (pc := 24) d_X_types_24 1 rfl rfl ?_
    refine fw_getR (pc := 25) d_X_types_25 fl_X_12 fw_X0 rfl ?_
    refine fw_getR (pc := 28) d_X_types_28 fl_X_82 fw_X1 rfl ?_
    refine fw_aload_n (pc := 31) d_X_types_31 1 rfl rfl ?_
    refine fw_getR (pc := 32) d_X_types_32 fl_X_54 fw_X0 rfl ?_
    obtain ⟨p35, e35, h⟩ := fw_be h
    refine fw_callVv (pc := 35) d_X_types_35 mv_X_149 fw_X2 (c_Case_take_2_77 e35) (by decide) rfl rfl (Nat.le_of_ble_eq_true rfl) ?_
    refine fw_aload_n (pc := 38) d_X_types_38 1 rfl rfl ?_
    obtain ⟨p39, e39, h⟩ := fw_be h
    refine fw_callVv (pc := 39) d_X_types_39 mv_X_93 fw_X0 (c_X_forgetPulls e39) (by decide) rfl rfl (Nat.le_of_ble_eq_true rfl) ?_
    obtain rfl := Option.some.inj h
    exact fw_sub [0] rfl hJ21
def f_Line_has (t0 : Nat) (a1 : Int32) (μ : fw_M) : Option (Int32) :=
  if fw_okL t0 then
    fw_nm (
      if a1 < 0 then
        0
      else
        if (μ.1 t0 1) ≤ a1 then
          0
        else
          1) fun (j1 : Int32) =>
    (fw_bz j1).bind fun b17 =>
    some b17
  else none
set_option maxHeartbeats 4000000 in
set_option maxRecDepth 100000 in
theorem c_Line_has {t0 : Nat} {a1 : Int32} {μ : fw_M} {r : Int32} (h : f_Line_has t0 a1 μ = some r) : fw_Con Y_Line_has fw_X 1 [.ref t0, .int a1] (some r) μ μ := by
  refine fw_con (by decide) (Nat.le_of_ble_eq_true rfl) ?_
  rw [f_Line_has] at h
  show fw_R "FewTypes$Line" prog_4_method_2_code 2 (some .boolean) fw_X 1 (some r) μ 0 [(0, .ref t0), (1, .int a1)] [] μ
  obtain ⟨g0, h⟩ := fw_gu h
  refine fw_iload_n (pc := 0) d_Line_has_0 1 rfl rfl ?_
  obtain ⟨j1, w1, h⟩ := fw_ne h
  have hJ1 : fw_R "FewTypes$Line" prog_4_method_2_code 2 (some .boolean) fw_X 1 (some r) μ 17 [] [.int j1] μ := by
    obtain ⟨b17, e17, h⟩ := fw_be h
    obtain rfl := Option.some.inj h
    exact fw_zret (pc := 17) d_Line_has_17 rfl e17
  clear h
  have h := w1
  clear w1
  refine fw_if_lt (pc := 1) (tgt := 16) d_Line_has_1 rfl (fun hc => ?_) (fun hc => ?_)
  · have h := h.trans (if_pos hc)
    refine fw_iconst (pc := 16) d_Line_has_16 fw_ic0 ?_
    subst h
    exact fw_sub [] rfl hJ1
  · have h := h.trans (if_neg hc)
    refine fw_iload_n (pc := 4) d_Line_has_4 1 rfl rfl ?_
    refine fw_aload_n (pc := 5) d_Line_has_5 0 rfl rfl ?_
    refine fw_getI (pc := 6) d_Line_has_6 fl_Line_15 g0.1 rfl ?_
    refine fw_icmp_ge (pc := 9) (tgt := 16) d_Line_has_9 rfl (fun hc => ?_) (fun hc => ?_)
    · have h := h.trans (if_pos hc)
      refine fw_iconst (pc := 16) d_Line_has_16 fw_ic0 ?_
      subst h
      exact fw_sub [] rfl hJ1
    · have h := h.trans (if_neg hc)
      refine fw_iconst (pc := 12) d_Line_has_12 fw_ic1 ?_
      refine fw_goto (pc := 13) (tgt := 17) d_Line_has_13 rfl ?_
      subst h
      exact fw_sub [] rfl hJ1
def f_X_inSet (a0 : Int32) (a1 : Int32) : Option (Int32) :=
  fw_nm (
    if ((a0 >>> (a1 &&& 31)) &&& 1) = 0 then
      0
    else
      1) fun (j5 : Int32) =>
  (fw_bz j5).bind fun b13 =>
  some b13
set_option maxHeartbeats 4000000 in
set_option maxRecDepth 100000 in
theorem c_X_inSet {a0 : Int32} {a1 : Int32} {μ : fw_M} {r : Int32} (h : f_X_inSet a0 a1 = some r) : fw_Con Y_X_inSet fw_X 1 [.int a0, .int a1] (some r) μ μ := by
  refine fw_con (by decide) (Nat.le_of_ble_eq_true rfl) ?_
  rw [f_X_inSet] at h
  show fw_R "FewTypes" prog_1_method_38_code 2 (some .boolean) fw_X 1 (some r) μ 0 [(0, .int a0), (1, .int a1)] [] μ
  refine fw_iload_n (pc := 0) d_X_inSet_0 0 rfl rfl ?_
  refine fw_iload_n (pc := 1) d_X_inSet_1 1 rfl rfl ?_
  refine fw_ishr (pc := 2) d_X_inSet_2 ?_
  refine fw_iconst (pc := 3) d_X_inSet_3 fw_ic1 ?_
  refine fw_iand (pc := 4) d_X_inSet_4 ?_
  obtain ⟨j5, w5, h⟩ := fw_ne h
  have hJ5 : fw_R "FewTypes" prog_1_method_38_code 2 (some .boolean) fw_X 1 (some r) μ 13 [] [.int j5] μ := by
    obtain ⟨b13, e13, h⟩ := fw_be h
    obtain rfl := Option.some.inj h
    exact fw_zret (pc := 13) d_X_inSet_13 rfl e13
  clear h
  have h := w5
  clear w5
  refine fw_if_eq (pc := 5) (tgt := 12) d_X_inSet_5 rfl (fun hc => ?_) (fun hc => ?_)
  · have h := h.trans (if_pos hc)
    refine fw_iconst (pc := 12) d_X_inSet_12 fw_ic0 ?_
    subst h
    exact fw_sub [] rfl hJ5
  · have h := h.trans (if_neg hc)
    refine fw_iconst (pc := 8) d_X_inSet_8 fw_ic1 ?_
    refine fw_goto (pc := 9) (tgt := 13) d_X_inSet_9 rfl ?_
    subst h
    exact fw_sub [] rfl hJ5
def f_Line_besideNext (t0 : Nat) (a1 : Int32) (μ : fw_M) : Option (Int32) :=
  if fw_okL t0 then
    (f_X_inSet (μ.1 t0 2) a1).bind fun (p5 : Int32) =>
    (fw_bz p5).bind fun b8 =>
    some b8
  else none
set_option maxHeartbeats 4000000 in
set_option maxRecDepth 100000 in
theorem c_Line_besideNext {t0 : Nat} {a1 : Int32} {μ : fw_M} {r : Int32} (h : f_Line_besideNext t0 a1 μ = some r) : fw_Con Y_Line_besideNext fw_X 2 [.ref t0, .int a1] (some r) μ μ := by
  refine fw_con (by decide) (Nat.le_of_ble_eq_true rfl) ?_
  rw [f_Line_besideNext] at h
  show fw_R "FewTypes$Line" prog_4_method_6_code 2 (some .boolean) fw_X 2 (some r) μ 0 [(0, .ref t0), (1, .int a1)] [] μ
  obtain ⟨g0, h⟩ := fw_gu h
  refine fw_aload_n (pc := 0) d_Line_besideNext_0 0 rfl rfl ?_
  refine fw_getI (pc := 1) d_Line_besideNext_1 fl_Line_19 g0.1 rfl ?_
  refine fw_iload_n (pc := 4) d_Line_besideNext_4 1 rfl rfl ?_
  obtain ⟨p5, e5, h⟩ := fw_be h
  refine fw_callNi (pc := 5) d_Line_besideNext_5 ms_Line_28 (c_X_inSet e5) (by decide) rfl rfl (Nat.le_of_ble_eq_true rfl) ?_
  obtain ⟨b8, e8, h⟩ := fw_be h
  obtain rfl := Option.some.inj h
  exact fw_zret (pc := 8) d_Line_besideNext_8 rfl e8
def f_Line_left_L5 (t0 : Nat) (a1 : Int32) (μ : fw_M) : Int32 × Int32 → Option ((Int32 × Int32) ⊕ (Int32))
  | (x3_5, x4_5) =>
  if a1 ≤ x4_5 then
    some (.inr x3_5)
  else
    if (μ.1 t0 1) ≤ x4_5 then
      some (.inr x3_5)
    else
      (fw_rd 10 (μ.1 (t0 + 1)) x4_5).bind fun v28 =>
      (fw_rd 12 (μ.1 8) v28).bind fun v29 =>
      (f_Line_besideNext t0 x4_5 μ).bind fun (p33 : Int32) =>
      fw_nm (
        if p33 = 0 then
          2
        else
          0) fun (j36 : Int32) =>
      fw_nm ((x3_5 + (v29 + j36))) fun (v46 : Int32) =>
      fw_nm (x4_5 + 1) fun (v47 : Int32) =>
      some (.inl (v46, v47))
def f_Line_left (t0 : Nat) (a1 : Int32) (μ : fw_M) : Option (Int32) :=
  if fw_okL t0 then
    (fw_wh (f_Line_left_L5 t0 a1 μ) fw_N (0, 0)).bind fun (e5x : Int32) =>
    some e5x
  else none
set_option maxHeartbeats 4000000 in
set_option maxRecDepth 100000 in
theorem c_Line_left {t0 : Nat} {a1 : Int32} {μ : fw_M} {r : Int32} (h : f_Line_left t0 a1 μ = some r) : fw_Con Y_Line_left fw_X 3 [.ref t0, .int a1, .ref 8] (some r) μ μ := by
  refine fw_con (by decide) (Nat.le_of_ble_eq_true rfl) ?_
  rw [f_Line_left] at h
  show fw_R "FewTypes$Line" prog_4_method_7_code 5 (some .int) fw_X 3 (some r) μ 0 [(0, .ref t0), (1, .int a1), (2, .ref 8)] [] μ
  obtain ⟨g0, h⟩ := fw_gu h
  refine fw_iconst (pc := 0) d_Line_left_0 fw_ic0 ?_
  refine fw_istore_n (pc := 1) (lv1 := [(3, .int 0), (0, .ref t0), (1, .int a1), (2, .ref 8)]) d_Line_left_1 rfl (by decide) rfl ?_
  refine fw_iconst (pc := 2) d_Line_left_2 fw_ic0 ?_
  refine fw_istore (pc := 3) (lv1 := [(4, .int 0), (3, .int 0), (0, .ref t0), (1, .int a1), (2, .ref 8)]) d_Line_left_3 (by decide) rfl ?_
  obtain ⟨e5x, w5, h⟩ := fw_be h
  have hE5 : fw_R "FewTypes$Line" prog_4_method_7_code 5 (some .int) fw_X 3 (some r) μ 53 [(3, .int e5x)] [] μ := by
    refine fw_iload_n (pc := 53) d_Line_left_53 0 rfl rfl ?_
    obtain rfl := Option.some.inj h
    exact fw_iret (pc := 54) d_Line_left_54 rfl
  clear h
  exact fw_sub [2, 3, 4, 1, 0] rfl (fw_we (e := e5x) (fun (s : Int32 × Int32) => fw_R "FewTypes$Line" prog_4_method_7_code 5 (some .int) fw_X 3 (some r) μ 5 [(0, .ref t0), (1, .int a1), (2, .ref 8), (3, .int s.1), (4, .int s.2)] [] μ) (by
    intro s x h hl hr
    obtain ⟨x3_5, x4_5⟩ := s
    rw [f_Line_left_L5] at h
    show fw_R "FewTypes$Line" prog_4_method_7_code 5 (some .int) fw_X 3 (some r) μ 5 [(0, .ref t0), (1, .int a1), (2, .ref 8), (3, .int x3_5), (4, .int x4_5)] [] μ
    refine fw_iload (pc := 5) d_Line_left_5 4 rfl ?_
    refine fw_iload_n (pc := 7) d_Line_left_7 1 rfl rfl ?_
    refine fw_icmp_ge (pc := 8) (tgt := 53) d_Line_left_8 rfl (fun hc => ?_) (fun hc => ?_)
    · have h := fw_it hc h
      obtain rfl := Option.some.inj h
      have he := hr _ rfl
      subst he
      exact fw_sub [3] rfl hE5
    · have h := fw_if hc h
      refine fw_iload (pc := 11) d_Line_left_11 4 rfl ?_
      refine fw_aload_n (pc := 13) d_Line_left_13 0 rfl rfl ?_
      refine fw_getI (pc := 14) d_Line_left_14 fl_Line_15 g0.1 rfl ?_
      refine fw_icmp_ge (pc := 17) (tgt := 53) d_Line_left_17 rfl (fun hc => ?_) (fun hc => ?_)
      · have h := fw_it hc h
        obtain rfl := Option.some.inj h
        have he := hr _ rfl
        subst he
        exact fw_sub [3] rfl hE5
      · have h := fw_if hc h
        refine fw_iload_n (pc := 20) d_Line_left_20 3 rfl rfl ?_
        refine fw_aload_n (pc := 21) d_Line_left_21 2 rfl rfl ?_
        refine fw_aload_n (pc := 22) d_Line_left_22 0 rfl rfl ?_
        refine fw_getR (pc := 23) d_Line_left_23 fl_Line_9 g0.1 rfl ?_
        refine fw_iload (pc := 26) d_Line_left_26 4 rfl ?_
        obtain ⟨v28, e28, h⟩ := fw_be h
        refine fw_iald (pc := 28) d_Line_left_28 g0.2 e28 ?_
        obtain ⟨v29, e29, h⟩ := fw_be h
        refine fw_iald (pc := 29) d_Line_left_29 fw_X8 e29 ?_
        refine fw_aload_n (pc := 30) d_Line_left_30 0 rfl rfl ?_
        refine fw_iload (pc := 31) d_Line_left_31 4 rfl ?_
        obtain ⟨p33, e33, h⟩ := fw_be h
        refine fw_callVi (pc := 33) d_Line_left_33 mv_Line_32 g0.1 (c_Line_besideNext e33) (by decide) rfl rfl (Nat.le_of_ble_eq_true rfl) ?_
        obtain ⟨j36, w36, h⟩ := fw_ne h
        have hJ36 : fw_R "FewTypes$Line" prog_4_method_7_code 5 (some .int) fw_X 3 (some r) μ 44 [(0, .ref t0), (1, .int a1), (2, .ref 8), (4, .int x4_5)] [.int j36, .int v29, .int x3_5] μ := by
          refine fw_iadd (pc := 44) d_Line_left_44 ?_
          refine fw_iadd (pc := 45) d_Line_left_45 ?_
          obtain ⟨v46, e46, h⟩ := fw_ne h
          refine fw_top e46 ?_
          refine fw_istore_n (pc := 46) (lv1 := [(3, .int v46), (0, .ref t0), (1, .int a1), (2, .ref 8), (4, .int x4_5)]) d_Line_left_46 rfl (by decide) rfl ?_
          obtain ⟨v47, e47, h⟩ := fw_ne h
          refine fw_iinc2 (pc := 47) (j := 4) (lv1 := [(4, .int v47), (3, .int v46), (0, .ref t0), (1, .int a1), (2, .ref 8)]) d_Line_left_47 rfl fw_ic1 e47 (by decide) rfl ?_
          refine fw_goto (pc := 50) (tgt := 5) d_Line_left_50 rfl ?_
          obtain rfl := Option.some.inj h
          exact fw_sub [2, 3, 4, 1, 0] rfl (hl _ rfl)
        clear h
        have h := w36
        clear w36
        refine fw_if_eq (pc := 36) (tgt := 43) d_Line_left_36 rfl (fun hc => ?_) (fun hc => ?_)
        · have h := h.trans (if_pos hc)
          refine fw_iconst (pc := 43) d_Line_left_43 fw_ic2 ?_
          subst h
          exact fw_sub [0, 1, 2, 4] rfl hJ36
        · have h := h.trans (if_neg hc)
          refine fw_iconst (pc := 39) d_Line_left_39 fw_ic0 ?_
          refine fw_goto (pc := 40) (tgt := 44) d_Line_left_40 rfl ?_
          subst h
          exact fw_sub [0, 1, 2, 4] rfl hJ36
    ) _ _ w5)
def f_X_place (a1 : Int32) (a2 : Int32) (μ : fw_M) : Option (Int32) :=
  (f_Line_has 6 a1 μ).bind fun (p8 : Int32) =>
  if p8 = 0 then
    some (-1)
  else
    if a2 = 0 then
      (fw_rd 10 (μ.1 7) a1).bind fun v55 =>
      some v55
    else
      if a2 = 1 then
        (f_Line_left 6 a1 μ).bind fun (p72 : Int32) =>
        some p72
      else
        if a2 = 2 then
          (f_Line_besideNext 6 a1 μ).bind fun (p84 : Int32) =>
          fw_nm (
            if p84 = 0 then
              0
            else
              1) fun (j87 : Int32) =>
          some j87
        else
          some (-1)
set_option maxHeartbeats 4000000 in
set_option maxRecDepth 100000 in
theorem c_X_place {a1 : Int32} {a2 : Int32} {μ : fw_M} {r : Int32} (h : f_X_place a1 a2 μ = some r) : fw_Con Y_X_place fw_X 4 [.ref 0, .int a1, .int a2] (some r) μ μ := by
  refine fw_con (by decide) (Nat.le_of_ble_eq_true rfl) ?_
  rw [f_X_place] at h
  show fw_R "FewTypes" prog_1_method_10_code 3 (some .int) fw_X 4 (some r) μ 0 [(0, .ref 0), (1, .int a1), (2, .int a2)] [] μ
  refine fw_aload_n (pc := 0) d_X_place_0 0 rfl rfl ?_
  refine fw_getR (pc := 1) d_X_place_1 fl_X_12 fw_X0 rfl ?_
  refine fw_getR (pc := 4) d_X_place_4 fl_X_139 fw_X1 rfl ?_
  refine fw_iload_n (pc := 7) d_X_place_7 1 rfl rfl ?_
  obtain ⟨p8, e8, h⟩ := fw_be h
  refine fw_callVi (pc := 8) d_X_place_8 mv_X_152 fw_X6 (c_Line_has e8) (by decide) rfl rfl (Nat.le_of_ble_eq_true rfl) ?_
  refine fw_if_ne (pc := 11) (tgt := 16) d_X_place_11 rfl (fun hc => ?_) (fun hc => ?_)
  · have h := fw_it hc h
    refine fw_iconst (pc := 14) d_X_place_14 fw_icm1 ?_
    obtain rfl := Option.some.inj h
    exact fw_iret (pc := 15) d_X_place_15 rfl
  · have h := fw_if hc h
    refine fw_iload_n (pc := 16) d_X_place_16 2 rfl rfl ?_
    by_cases hc0 : a2 = 0
    · have h := fw_it hc0 h
      refine fw_top hc0.symm ?_
      refine fw_tin (pc := 17) (off := 27) (tgt := 44) d_X_place_17 (by decide) (by decide) (by decide) rfl ?_
      refine fw_aload_n (pc := 44) d_X_place_44 0 rfl rfl ?_
      refine fw_getR (pc := 45) d_X_place_45 fl_X_12 fw_X0 rfl ?_
      refine fw_getR (pc := 48) d_X_place_48 fl_X_139 fw_X1 rfl ?_
      refine fw_getR (pc := 51) d_X_place_51 fl_X_153 fw_X6 rfl ?_
      refine fw_iload_n (pc := 54) d_X_place_54 1 rfl rfl ?_
      obtain ⟨v55, e55, h⟩ := fw_be h
      refine fw_iald (pc := 55) d_X_place_55 fw_X7 e55 ?_
      obtain rfl := Option.some.inj h
      exact fw_iret (pc := 56) d_X_place_56 rfl
    · have h := fw_if hc0 h
      by_cases hc1 : a2 = 1
      · have h := fw_it hc1 h
        refine fw_top hc1.symm ?_
        refine fw_tin (pc := 17) (off := 40) (tgt := 57) d_X_place_17 (by decide) (by decide) (by decide) rfl ?_
        refine fw_aload_n (pc := 57) d_X_place_57 0 rfl rfl ?_
        refine fw_getR (pc := 58) d_X_place_58 fl_X_12 fw_X0 rfl ?_
        refine fw_getR (pc := 61) d_X_place_61 fl_X_139 fw_X1 rfl ?_
        refine fw_iload_n (pc := 64) d_X_place_64 1 rfl rfl ?_
        refine fw_aload_n (pc := 65) d_X_place_65 0 rfl rfl ?_
        refine fw_getR (pc := 66) d_X_place_66 fl_X_12 fw_X0 rfl ?_
        refine fw_getR (pc := 69) d_X_place_69 fl_X_116 fw_X1 rfl ?_
        obtain ⟨p72, e72, h⟩ := fw_be h
        refine fw_callVi (pc := 72) d_X_place_72 mv_X_154 fw_X6 (c_Line_left e72) (by decide) rfl rfl (Nat.le_of_ble_eq_true rfl) ?_
        obtain rfl := Option.some.inj h
        exact fw_iret (pc := 75) d_X_place_75 rfl
      · have h := fw_if hc1 h
        by_cases hc2 : a2 = 2
        · have h := fw_it hc2 h
          refine fw_top hc2.symm ?_
          refine fw_tin (pc := 17) (off := 59) (tgt := 76) d_X_place_17 (by decide) (by decide) (by decide) rfl ?_
          refine fw_aload_n (pc := 76) d_X_place_76 0 rfl rfl ?_
          refine fw_getR (pc := 77) d_X_place_77 fl_X_12 fw_X0 rfl ?_
          refine fw_getR (pc := 80) d_X_place_80 fl_X_139 fw_X1 rfl ?_
          refine fw_iload_n (pc := 83) d_X_place_83 1 rfl rfl ?_
          obtain ⟨p84, e84, h⟩ := fw_be h
          refine fw_callVi (pc := 84) d_X_place_84 mv_X_158 fw_X6 (c_Line_besideNext e84) (by decide) rfl rfl (Nat.le_of_ble_eq_true rfl) ?_
          obtain ⟨j87, w87, h⟩ := fw_ne h
          have hJ87 : fw_R "FewTypes" prog_1_method_10_code 3 (some .int) fw_X 4 (some r) μ 95 [] [.int j87] μ := by
            obtain rfl := Option.some.inj h
            exact fw_iret (pc := 95) d_X_place_95 rfl
          clear h
          have h := w87
          clear w87
          refine fw_if_eq (pc := 87) (tgt := 94) d_X_place_87 rfl (fun hc => ?_) (fun hc => ?_)
          · have h := h.trans (if_pos hc)
            refine fw_iconst (pc := 94) d_X_place_94 fw_ic0 ?_
            subst h
            exact fw_sub [] rfl hJ87
          · have h := h.trans (if_neg hc)
            refine fw_iconst (pc := 90) d_X_place_90 fw_ic1 ?_
            refine fw_goto (pc := 91) (tgt := 95) d_X_place_91 rfl ?_
            subst h
            exact fw_sub [] rfl hJ87
        · have h := fw_if hc2 h
          refine fw_tout (pc := 17) (tgt := 96) d_X_place_17 ?_ rfl ?_
          · have g0 := fw_ti hc0
            have g1 := fw_ti hc1
            have g2 := fw_ti hc2
            revert g0 g1 g2
            exact fw_sw0_2
          · refine fw_iconst (pc := 96) d_X_place_96 fw_icm1 ?_
            obtain rfl := Option.some.inj h
            exact fw_iret (pc := 97) d_X_place_97 rfl
def f_Line_hairs (t0 : Nat) (μ : fw_M) : Option (Int32) :=
  if fw_okL t0 then
    Option.bind (
      if (μ.1 t0 1) = 0 then
        some 0
      else
        (f_Line_left t0 ((μ.1 t0 1) - 1) μ).bind fun (p19 : Int32) =>
        (fw_rd 10 (μ.1 (t0 + 1)) ((μ.1 t0 1) - 1)).bind fun v33 =>
        (fw_rd 12 (μ.1 8) v33).bind fun v34 =>
        some (p19 + v34)) fun (j4 : Int32) =>
    some j4
  else none
set_option maxHeartbeats 4000000 in
set_option maxRecDepth 100000 in
theorem c_Line_hairs {t0 : Nat} {μ : fw_M} {r : Int32} (h : f_Line_hairs t0 μ = some r) : fw_Con Y_Line_hairs fw_X 4 [.ref t0, .ref 8] (some r) μ μ := by
  refine fw_con (by decide) (Nat.le_of_ble_eq_true rfl) ?_
  rw [f_Line_hairs] at h
  show fw_R "FewTypes$Line" prog_4_method_8_code 2 (some .int) fw_X 4 (some r) μ 0 [(0, .ref t0), (1, .ref 8)] [] μ
  obtain ⟨g0, h⟩ := fw_gu h
  refine fw_aload_n (pc := 0) d_Line_hairs_0 0 rfl rfl ?_
  refine fw_getI (pc := 1) d_Line_hairs_1 fl_Line_15 g0.1 rfl ?_
  obtain ⟨j4, w4, h⟩ := fw_be h
  have hJ4 : fw_R "FewTypes$Line" prog_4_method_8_code 2 (some .int) fw_X 4 (some r) μ 36 [] [.int j4] μ := by
    obtain rfl := Option.some.inj h
    exact fw_iret (pc := 36) d_Line_hairs_36 rfl
  clear h
  have h := w4
  clear w4
  refine fw_if_ne (pc := 4) (tgt := 11) d_Line_hairs_4 rfl (fun hc => ?_) (fun hc => ?_)
  · have h := fw_it hc h
    refine fw_iconst (pc := 7) d_Line_hairs_7 fw_ic0 ?_
    refine fw_goto (pc := 8) (tgt := 36) d_Line_hairs_8 rfl ?_
    obtain rfl := Option.some.inj h
    exact fw_sub [] rfl hJ4
  · have h := fw_if hc h
    refine fw_aload_n (pc := 11) d_Line_hairs_11 0 rfl rfl ?_
    refine fw_aload_n (pc := 12) d_Line_hairs_12 0 rfl rfl ?_
    refine fw_getI (pc := 13) d_Line_hairs_13 fl_Line_15 g0.1 rfl ?_
    refine fw_iconst (pc := 16) d_Line_hairs_16 fw_ic1 ?_
    refine fw_isub (pc := 17) d_Line_hairs_17 ?_
    refine fw_aload_n (pc := 18) d_Line_hairs_18 1 rfl rfl ?_
    obtain ⟨p19, e19, h⟩ := fw_be h
    refine fw_callVi (pc := 19) d_Line_hairs_19 mv_Line_36 g0.1 (c_Line_left e19) (by decide) rfl rfl (Nat.le_of_ble_eq_true rfl) ?_
    refine fw_aload_n (pc := 22) d_Line_hairs_22 1 rfl rfl ?_
    refine fw_aload_n (pc := 23) d_Line_hairs_23 0 rfl rfl ?_
    refine fw_getR (pc := 24) d_Line_hairs_24 fl_Line_9 g0.1 rfl ?_
    refine fw_aload_n (pc := 27) d_Line_hairs_27 0 rfl rfl ?_
    refine fw_getI (pc := 28) d_Line_hairs_28 fl_Line_15 g0.1 rfl ?_
    refine fw_iconst (pc := 31) d_Line_hairs_31 fw_ic1 ?_
    refine fw_isub (pc := 32) d_Line_hairs_32 ?_
    obtain ⟨v33, e33, h⟩ := fw_be h
    refine fw_iald (pc := 33) d_Line_hairs_33 g0.2 e33 ?_
    obtain ⟨v34, e34, h⟩ := fw_be h
    refine fw_iald (pc := 34) d_Line_hairs_34 fw_X8 e34 ?_
    refine fw_iadd (pc := 35) d_Line_hairs_35 ?_
    obtain rfl := Option.some.inj h
    exact fw_sub [] rfl hJ4
