abbrev Y_X_commonDivisor : fw_Y := (⟨"FewTypes", "commonDivisor", "(II)I"⟩, prog_1_method_40_code, 3, (some .int))
abbrev Y_X_alike : fw_Y := (⟨"FewTypes", "alike", "(IIII)I"⟩, prog_1_method_29_code, 10, (some .int))
abbrev Y_Sheet_renew : fw_Y := (⟨"FewTypes$Sheet", "renew", "(II)V"⟩, prog_7_method_2_code, 3, none)
abbrev Y_X_sheet : fw_Y := (⟨"FewTypes", "sheet", "(III)I"⟩, prog_1_method_30_code, 4, (some .int))
abbrev Y_X_drop : fw_Y := (⟨"FewTypes", "drop", "(I)I"⟩, prog_1_method_31_code, 2, (some .int))
abbrev Y_Sheet_put : fw_Y := (⟨"FewTypes$Sheet", "put", "(II)V"⟩, prog_7_method_4_code, 3, none)
abbrev Y_X_item : fw_Y := (⟨"FewTypes", "item", "(IIII)I"⟩, prog_1_method_32_code, 6, (some .int))
abbrev Y_X_copy : fw_Y := (⟨"FewTypes", "copy", "(IIIII)I"⟩, prog_1_method_33_code, 9, (some .int))
theorem ms_X_272 : fw_MS "FewTypes" 272 Y_X_refusalOfTwo 2 := ⟨fw_m 815 (by decide +kernel) (by decide +kernel), fw_m 816 (by decide +kernel) (by decide +kernel), fw_m 59 (by decide +kernel) (by decide +kernel), fw_m 817 (by decide +kernel) (by decide +kernel), ⟨by decide +kernel, by decide +kernel, by decide +kernel⟩, by decide⟩
theorem ms_X_282 : fw_MS "FewTypes" 282 Y_X_commonDivisor 2 := ⟨fw_m 818 (by decide +kernel) (by decide +kernel), fw_m 819 (by decide +kernel) (by decide +kernel), fw_m 59 (by decide +kernel) (by decide +kernel), fw_m 820 (by decide +kernel) (by decide +kernel), ⟨by decide +kernel, by decide +kernel, by decide +kernel⟩, by decide⟩
theorem mv_X_288 : fw_MV "FewTypes" 288 Y_Sheet_renew 5 2 := ⟨fw_m 825 (by decide +kernel) (by decide +kernel), fw_m 826 (by decide +kernel) (by decide +kernel), fw_m 827 (by decide +kernel) (by decide +kernel), fw_m 69 (by decide +kernel) (by decide +kernel), fw_m 828 (by decide +kernel) (by decide +kernel), ⟨by decide +kernel, by decide +kernel, by decide +kernel⟩, by decide, _, _, rfl⟩
theorem fl_Sheet_9 : fw_FL "FewTypes$Sheet" 9 5 0 := ⟨_, _, _, rfl, fw_i5, by decide, fw_m 296 (by decide +kernel) (by decide +kernel)⟩
theorem ms_Sheet_26 : fw_MS "FewTypes$Sheet" 26 Y_Arrays_fill 2 := ⟨fw_m 829 (by decide +kernel) (by decide +kernel), fw_m 160 (by decide +kernel) (by decide +kernel), fw_m 64 (by decide +kernel) (by decide +kernel), fw_m 161 (by decide +kernel) (by decide +kernel), ⟨by decide +kernel, by decide +kernel, by decide +kernel⟩, by decide⟩
theorem fp_Sheet_15 : fw_FP "FewTypes$Sheet" 15 5 1 .int := ⟨_, _, _, fw_t5, rfl, fw_i5, by decide, fw_m 298 (by decide +kernel) (by decide +kernel), fw_k5, fw_n5, rfl, by decide +kernel⟩
theorem fp_Sheet_19 : fw_FP "FewTypes$Sheet" 19 5 2 .int := ⟨_, _, _, fw_t5, rfl, fw_i5, by decide, fw_m 300 (by decide +kernel) (by decide +kernel), fw_k5, fw_n5, rfl, by decide +kernel⟩
theorem fp_Sheet_22 : fw_FP "FewTypes$Sheet" 22 5 3 .boolean := ⟨_, _, _, fw_t5, rfl, fw_i5, by decide, fw_m 302 (by decide +kernel) (by decide +kernel), fw_k5, fw_n5, rfl, by decide +kernel⟩
theorem fp_X_291 : fw_FP "FewTypes" 291 5 3 .boolean := ⟨_, _, _, fw_t5, rfl, fw_i5, by decide, fw_m 303 (by decide +kernel) (by decide +kernel), fw_k5, fw_n5, rfl, by decide +kernel⟩
theorem fl_X_294 : fw_FL "FewTypes" 294 5 2 := ⟨_, _, _, rfl, fw_i5, by decide, fw_m 301 (by decide +kernel) (by decide +kernel)⟩
theorem mv_X_295 : fw_MV "FewTypes" 295 Y_Sheet_put 5 2 := ⟨fw_m 838 (by decide +kernel) (by decide +kernel), fw_m 839 (by decide +kernel) (by decide +kernel), fw_m 840 (by decide +kernel) (by decide +kernel), fw_m 69 (by decide +kernel) (by decide +kernel), fw_m 841 (by decide +kernel) (by decide +kernel), ⟨by decide +kernel, by decide +kernel, by decide +kernel⟩, by decide, _, _, rfl⟩
theorem fl_Sheet_15 : fw_FL "FewTypes$Sheet" 15 5 1 := ⟨_, _, _, rfl, fw_i5, by decide, fw_m 298 (by decide +kernel) (by decide +kernel)⟩
theorem ma_X_298 : Cond.methodLink "FewTypes" 298 arraycopyName ∈ fw_tb := fw_m 846 (by decide +kernel) (by decide +kernel)
theorem d_X_commonDivisor_0 : decode prog_1_method_40_code 0 = .ok (.iload_n 1, 1) := by decide +kernel
theorem d_X_commonDivisor_1 : decode prog_1_method_40_code 1 = .ok (.istore_n 2, 1) := by decide +kernel
theorem d_X_commonDivisor_2 : decode prog_1_method_40_code 2 = .ok (.iload_n 2, 1) := by decide +kernel
theorem d_X_commonDivisor_3 : decode prog_1_method_40_code 3 = .ok (.iconst 1, 1) := by decide +kernel
theorem d_X_commonDivisor_4 : decode prog_1_method_40_code 4 = .ok (.if_icmp .le 23, 3) := by decide +kernel
theorem d_X_commonDivisor_7 : decode prog_1_method_40_code 7 = .ok (.iload_n 0, 1) := by decide +kernel
theorem d_X_commonDivisor_8 : decode prog_1_method_40_code 8 = .ok (.iload_n 2, 1) := by decide +kernel
theorem d_X_commonDivisor_9 : decode prog_1_method_40_code 9 = .ok (.irem, 1) := by decide +kernel
theorem d_X_commonDivisor_10 : decode prog_1_method_40_code 10 = .ok (.ifCond .ne 11, 3) := by decide +kernel
theorem d_X_commonDivisor_13 : decode prog_1_method_40_code 13 = .ok (.iload_n 1, 1) := by decide +kernel
theorem d_X_commonDivisor_14 : decode prog_1_method_40_code 14 = .ok (.iload_n 2, 1) := by decide +kernel
theorem d_X_commonDivisor_15 : decode prog_1_method_40_code 15 = .ok (.irem, 1) := by decide +kernel
theorem d_X_commonDivisor_16 : decode prog_1_method_40_code 16 = .ok (.ifCond .ne 5, 3) := by decide +kernel
theorem d_X_commonDivisor_19 : decode prog_1_method_40_code 19 = .ok (.iload_n 2, 1) := by decide +kernel
theorem d_X_commonDivisor_20 : decode prog_1_method_40_code 20 = .ok (.ireturn, 1) := by decide +kernel
theorem d_X_commonDivisor_21 : decode prog_1_method_40_code 21 = .ok (.iinc 2 (-1), 3) := by decide +kernel
theorem d_X_commonDivisor_24 : decode prog_1_method_40_code 24 = .ok (.goto (-22), 3) := by decide +kernel
theorem d_X_commonDivisor_27 : decode prog_1_method_40_code 27 = .ok (.iconst 1, 1) := by decide +kernel
theorem d_X_commonDivisor_28 : decode prog_1_method_40_code 28 = .ok (.ireturn, 1) := by decide +kernel
theorem d_X_alike_0 : decode prog_1_method_29_code 0 = .ok (.iload_n 1, 1) := by decide +kernel
theorem d_X_alike_1 : decode prog_1_method_29_code 1 = .ok (.invokestatic 269, 3) := by decide +kernel
theorem d_X_alike_4 : decode prog_1_method_29_code 4 = .ok (.ifCond .eq 32, 3) := by decide +kernel
theorem d_X_alike_7 : decode prog_1_method_29_code 7 = .ok (.iload_n 2, 1) := by decide +kernel
theorem d_X_alike_8 : decode prog_1_method_29_code 8 = .ok (.invokestatic 269, 3) := by decide +kernel
theorem d_X_alike_11 : decode prog_1_method_29_code 11 = .ok (.ifCond .eq 25, 3) := by decide +kernel
theorem d_X_alike_14 : decode prog_1_method_29_code 14 = .ok (.iload_n 3, 1) := by decide +kernel
theorem d_X_alike_15 : decode prog_1_method_29_code 15 = .ok (.iconst 1, 1) := by decide +kernel
theorem d_X_alike_16 : decode prog_1_method_29_code 16 = .ok (.if_icmp .lt 20, 3) := by decide +kernel
theorem d_X_alike_19 : decode prog_1_method_29_code 19 = .ok (.iload_n 3, 1) := by decide +kernel
theorem d_X_alike_20 : decode prog_1_method_29_code 20 = .ok (.bipush 24, 2) := by decide +kernel
theorem d_X_alike_22 : decode prog_1_method_29_code 22 = .ok (.if_icmp .gt 14, 3) := by decide +kernel
theorem d_X_alike_25 : decode prog_1_method_29_code 25 = .ok (.iload 4, 2) := by decide +kernel
theorem d_X_alike_27 : decode prog_1_method_29_code 27 = .ok (.ifCond .lt 9, 3) := by decide +kernel
theorem d_X_alike_30 : decode prog_1_method_29_code 30 = .ok (.iload 4, 2) := by decide +kernel
theorem d_X_alike_32 : decode prog_1_method_29_code 32 = .ok (.iconst 1, 1) := by decide +kernel
theorem d_X_alike_33 : decode prog_1_method_29_code 33 = .ok (.if_icmp .le 5, 3) := by decide +kernel
theorem d_X_alike_36 : decode prog_1_method_29_code 36 = .ok (.iconst (-1), 1) := by decide +kernel
theorem d_X_alike_37 : decode prog_1_method_29_code 37 = .ok (.ireturn, 1) := by decide +kernel
theorem d_X_alike_38 : decode prog_1_method_29_code 38 = .ok (.aload_n 0, 1) := by decide +kernel
theorem d_X_alike_39 : decode prog_1_method_29_code 39 = .ok (.getfield 73, 3) := by decide +kernel
theorem d_X_alike_42 : decode prog_1_method_29_code 42 = .ok (.iload_n 1, 1) := by decide +kernel
theorem d_X_alike_43 : decode prog_1_method_29_code 43 = .ok (.aaload, 1) := by decide +kernel
theorem d_X_alike_44 : decode prog_1_method_29_code 44 = .ok (.astore 5, 2) := by decide +kernel
theorem d_X_alike_46 : decode prog_1_method_29_code 46 = .ok (.aload_n 0, 1) := by decide +kernel
theorem d_X_alike_47 : decode prog_1_method_29_code 47 = .ok (.getfield 73, 3) := by decide +kernel
theorem d_X_alike_50 : decode prog_1_method_29_code 50 = .ok (.iload_n 2, 1) := by decide +kernel
theorem d_X_alike_51 : decode prog_1_method_29_code 51 = .ok (.aaload, 1) := by decide +kernel
theorem d_X_alike_52 : decode prog_1_method_29_code 52 = .ok (.astore 6, 2) := by decide +kernel
theorem d_X_alike_54 : decode prog_1_method_29_code 54 = .ok (.aload 5, 2) := by decide +kernel
theorem d_X_alike_56 : decode prog_1_method_29_code 56 = .ok (.aload 6, 2) := by decide +kernel
theorem d_X_alike_58 : decode prog_1_method_29_code 58 = .ok (.invokestatic 272, 3) := by decide +kernel
theorem d_X_alike_61 : decode prog_1_method_29_code 61 = .ok (.istore 7, 2) := by decide +kernel
theorem d_X_alike_63 : decode prog_1_method_29_code 63 = .ok (.iload 7, 2) := by decide +kernel
theorem d_X_alike_65 : decode prog_1_method_29_code 65 = .ok (.ifCond .ge 6, 3) := by decide +kernel
theorem d_X_alike_68 : decode prog_1_method_29_code 68 = .ok (.iload 7, 2) := by decide +kernel
theorem d_X_alike_70 : decode prog_1_method_29_code 70 = .ok (.ireturn, 1) := by decide +kernel
theorem d_X_alike_71 : decode prog_1_method_29_code 71 = .ok (.aload 5, 2) := by decide +kernel
theorem d_X_alike_73 : decode prog_1_method_29_code 73 = .ok (.iconst 0, 1) := by decide +kernel
theorem d_X_alike_74 : decode prog_1_method_29_code 74 = .ok (.iload_n 3, 1) := by decide +kernel
theorem d_X_alike_75 : decode prog_1_method_29_code 75 = .ok (.invokevirtual 276, 3) := by decide +kernel
theorem d_X_alike_78 : decode prog_1_method_29_code 78 = .ok (.ifCond .eq 13, 3) := by decide +kernel
theorem d_X_alike_81 : decode prog_1_method_29_code 81 = .ok (.aload 6, 2) := by decide +kernel
theorem d_X_alike_83 : decode prog_1_method_29_code 83 = .ok (.iconst 0, 1) := by decide +kernel
theorem d_X_alike_84 : decode prog_1_method_29_code 84 = .ok (.iload_n 3, 1) := by decide +kernel
theorem d_X_alike_85 : decode prog_1_method_29_code 85 = .ok (.invokevirtual 276, 3) := by decide +kernel
theorem d_X_alike_88 : decode prog_1_method_29_code 88 = .ok (.ifCond .ne 6, 3) := by decide +kernel
theorem d_X_alike_91 : decode prog_1_method_29_code 91 = .ok (.bipush (-13), 2) := by decide +kernel
theorem d_X_alike_93 : decode prog_1_method_29_code 93 = .ok (.ireturn, 1) := by decide +kernel
theorem d_X_alike_94 : decode prog_1_method_29_code 94 = .ok (.iconst 0, 1) := by decide +kernel
theorem d_X_alike_95 : decode prog_1_method_29_code 95 = .ok (.istore 8, 2) := by decide +kernel
theorem d_X_alike_97 : decode prog_1_method_29_code 97 = .ok (.iconst 0, 1) := by decide +kernel
theorem d_X_alike_98 : decode prog_1_method_29_code 98 = .ok (.istore 9, 2) := by decide +kernel
theorem d_X_alike_100 : decode prog_1_method_29_code 100 = .ok (.iload 9, 2) := by decide +kernel
theorem d_X_alike_102 : decode prog_1_method_29_code 102 = .ok (.iload_n 3, 1) := by decide +kernel
theorem d_X_alike_103 : decode prog_1_method_29_code 103 = .ok (.if_icmp .ge 31, 3) := by decide +kernel
theorem d_X_alike_106 : decode prog_1_method_29_code 106 = .ok (.aload 5, 2) := by decide +kernel
theorem d_X_alike_108 : decode prog_1_method_29_code 108 = .ok (.getfield 279, 3) := by decide +kernel
theorem d_X_alike_111 : decode prog_1_method_29_code 111 = .ok (.iload 9, 2) := by decide +kernel
theorem d_X_alike_113 : decode prog_1_method_29_code 113 = .ok (.iaload, 1) := by decide +kernel
theorem d_X_alike_114 : decode prog_1_method_29_code 114 = .ok (.aload 6, 2) := by decide +kernel
theorem d_X_alike_116 : decode prog_1_method_29_code 116 = .ok (.getfield 279, 3) := by decide +kernel
theorem d_X_alike_119 : decode prog_1_method_29_code 119 = .ok (.iload 9, 2) := by decide +kernel
theorem d_X_alike_121 : decode prog_1_method_29_code 121 = .ok (.iaload, 1) := by decide +kernel
theorem d_X_alike_122 : decode prog_1_method_29_code 122 = .ok (.if_icmp .ne 6, 3) := by decide +kernel
theorem d_X_alike_125 : decode prog_1_method_29_code 125 = .ok (.iinc 8 1, 3) := by decide +kernel
theorem d_X_alike_128 : decode prog_1_method_29_code 128 = .ok (.iinc 9 1, 3) := by decide +kernel
theorem d_X_alike_131 : decode prog_1_method_29_code 131 = .ok (.goto (-31), 3) := by decide +kernel
theorem d_X_alike_134 : decode prog_1_method_29_code 134 = .ok (.iload 4, 2) := by decide +kernel
theorem d_X_alike_136 : decode prog_1_method_29_code 136 = .ok (.ifCond .ne 8, 3) := by decide +kernel
theorem d_X_alike_139 : decode prog_1_method_29_code 139 = .ok (.iload 8, 2) := by decide +kernel
theorem d_X_alike_141 : decode prog_1_method_29_code 141 = .ok (.goto 4, 3) := by decide +kernel
theorem d_X_alike_144 : decode prog_1_method_29_code 144 = .ok (.iload_n 3, 1) := by decide +kernel
theorem d_X_alike_145 : decode prog_1_method_29_code 145 = .ok (.iload 8, 2) := by decide +kernel
theorem d_X_alike_147 : decode prog_1_method_29_code 147 = .ok (.iload_n 3, 1) := by decide +kernel
theorem d_X_alike_148 : decode prog_1_method_29_code 148 = .ok (.invokestatic 282, 3) := by decide +kernel
theorem d_X_alike_151 : decode prog_1_method_29_code 151 = .ok (.idiv, 1) := by decide +kernel
theorem d_X_alike_152 : decode prog_1_method_29_code 152 = .ok (.ireturn, 1) := by decide +kernel
theorem d_Sheet_renew_0 : decode prog_7_method_2_code 0 = .ok (.aload_n 0, 1) := by decide +kernel
theorem d_Sheet_renew_1 : decode prog_7_method_2_code 1 = .ok (.getfield 9, 3) := by decide +kernel
theorem d_Sheet_renew_4 : decode prog_7_method_2_code 4 = .ok (.iconst 0, 1) := by decide +kernel
theorem d_Sheet_renew_5 : decode prog_7_method_2_code 5 = .ok (.invokestatic 26, 3) := by decide +kernel
theorem d_Sheet_renew_8 : decode prog_7_method_2_code 8 = .ok (.aload_n 0, 1) := by decide +kernel
theorem d_Sheet_renew_9 : decode prog_7_method_2_code 9 = .ok (.iload_n 1, 1) := by decide +kernel
theorem d_Sheet_renew_10 : decode prog_7_method_2_code 10 = .ok (.putfield 15, 3) := by decide +kernel
theorem d_Sheet_renew_13 : decode prog_7_method_2_code 13 = .ok (.aload_n 0, 1) := by decide +kernel
theorem d_Sheet_renew_14 : decode prog_7_method_2_code 14 = .ok (.iload_n 2, 1) := by decide +kernel
theorem d_Sheet_renew_15 : decode prog_7_method_2_code 15 = .ok (.putfield 19, 3) := by decide +kernel
theorem d_Sheet_renew_18 : decode prog_7_method_2_code 18 = .ok (.aload_n 0, 1) := by decide +kernel
theorem d_Sheet_renew_19 : decode prog_7_method_2_code 19 = .ok (.iconst 1, 1) := by decide +kernel
theorem d_Sheet_renew_20 : decode prog_7_method_2_code 20 = .ok (.putfield 22, 3) := by decide +kernel
theorem d_Sheet_renew_23 : decode prog_7_method_2_code 23 = .ok (.return_, 1) := by decide +kernel
theorem d_X_sheet_0 : decode prog_1_method_30_code 0 = .ok (.iload_n 1, 1) := by decide +kernel
theorem d_X_sheet_1 : decode prog_1_method_30_code 1 = .ok (.invokestatic 269, 3) := by decide +kernel
theorem d_X_sheet_4 : decode prog_1_method_30_code 4 = .ok (.ifCond .eq 16, 3) := by decide +kernel
theorem d_X_sheet_7 : decode prog_1_method_30_code 7 = .ok (.iload_n 2, 1) := by decide +kernel
theorem d_X_sheet_8 : decode prog_1_method_30_code 8 = .ok (.invokestatic 285, 3) := by decide +kernel
theorem d_X_sheet_11 : decode prog_1_method_30_code 11 = .ok (.ifCond .eq 9, 3) := by decide +kernel
theorem d_X_sheet_14 : decode prog_1_method_30_code 14 = .ok (.iload_n 3, 1) := by decide +kernel
theorem d_X_sheet_15 : decode prog_1_method_30_code 15 = .ok (.bipush 24, 2) := by decide +kernel
theorem d_X_sheet_17 : decode prog_1_method_30_code 17 = .ok (.if_icmp .le 5, 3) := by decide +kernel
theorem d_X_sheet_20 : decode prog_1_method_30_code 20 = .ok (.iconst (-1), 1) := by decide +kernel
theorem d_X_sheet_21 : decode prog_1_method_30_code 21 = .ok (.ireturn, 1) := by decide +kernel
theorem d_X_sheet_22 : decode prog_1_method_30_code 22 = .ok (.iload_n 3, 1) := by decide +kernel
theorem d_X_sheet_23 : decode prog_1_method_30_code 23 = .ok (.ifCond .ge 6, 3) := by decide +kernel
theorem d_X_sheet_26 : decode prog_1_method_30_code 26 = .ok (.bipush (-14), 2) := by decide +kernel
theorem d_X_sheet_28 : decode prog_1_method_30_code 28 = .ok (.ireturn, 1) := by decide +kernel
theorem d_X_sheet_29 : decode prog_1_method_30_code 29 = .ok (.aload_n 0, 1) := by decide +kernel
theorem d_X_sheet_30 : decode prog_1_method_30_code 30 = .ok (.getfield 73, 3) := by decide +kernel
theorem d_X_sheet_33 : decode prog_1_method_30_code 33 = .ok (.iload_n 1, 1) := by decide +kernel
theorem d_X_sheet_34 : decode prog_1_method_30_code 34 = .ok (.aaload, 1) := by decide +kernel
theorem d_X_sheet_35 : decode prog_1_method_30_code 35 = .ok (.iload_n 2, 1) := by decide +kernel
theorem d_X_sheet_36 : decode prog_1_method_30_code 36 = .ok (.iload_n 3, 1) := by decide +kernel
theorem d_X_sheet_37 : decode prog_1_method_30_code 37 = .ok (.invokevirtual 288, 3) := by decide +kernel
theorem d_X_sheet_40 : decode prog_1_method_30_code 40 = .ok (.iload_n 3, 1) := by decide +kernel
theorem d_X_sheet_41 : decode prog_1_method_30_code 41 = .ok (.ireturn, 1) := by decide +kernel
theorem d_X_drop_0 : decode prog_1_method_31_code 0 = .ok (.iload_n 1, 1) := by decide +kernel
theorem d_X_drop_1 : decode prog_1_method_31_code 1 = .ok (.invokestatic 269, 3) := by decide +kernel
theorem d_X_drop_4 : decode prog_1_method_31_code 4 = .ok (.ifCond .ne 5, 3) := by decide +kernel
theorem d_X_drop_7 : decode prog_1_method_31_code 7 = .ok (.iconst (-1), 1) := by decide +kernel
theorem d_X_drop_8 : decode prog_1_method_31_code 8 = .ok (.ireturn, 1) := by decide +kernel
theorem d_X_drop_9 : decode prog_1_method_31_code 9 = .ok (.aload_n 0, 1) := by decide +kernel
theorem d_X_drop_10 : decode prog_1_method_31_code 10 = .ok (.getfield 73, 3) := by decide +kernel
theorem d_X_drop_13 : decode prog_1_method_31_code 13 = .ok (.iload_n 1, 1) := by decide +kernel
theorem d_X_drop_14 : decode prog_1_method_31_code 14 = .ok (.aaload, 1) := by decide +kernel
theorem d_X_drop_15 : decode prog_1_method_31_code 15 = .ok (.getfield 291, 3) := by decide +kernel
theorem d_X_drop_18 : decode prog_1_method_31_code 18 = .ok (.ifCond .ne 6, 3) := by decide +kernel
theorem d_X_drop_21 : decode prog_1_method_31_code 21 = .ok (.bipush (-11), 2) := by decide +kernel
theorem d_X_drop_23 : decode prog_1_method_31_code 23 = .ok (.ireturn, 1) := by decide +kernel
theorem d_X_drop_24 : decode prog_1_method_31_code 24 = .ok (.aload_n 0, 1) := by decide +kernel
theorem d_X_drop_25 : decode prog_1_method_31_code 25 = .ok (.getfield 73, 3) := by decide +kernel
theorem d_X_drop_28 : decode prog_1_method_31_code 28 = .ok (.iload_n 1, 1) := by decide +kernel
theorem d_X_drop_29 : decode prog_1_method_31_code 29 = .ok (.aaload, 1) := by decide +kernel
theorem d_X_drop_30 : decode prog_1_method_31_code 30 = .ok (.iconst 0, 1) := by decide +kernel
theorem d_X_drop_31 : decode prog_1_method_31_code 31 = .ok (.putfield 291, 3) := by decide +kernel
theorem d_X_drop_34 : decode prog_1_method_31_code 34 = .ok (.aload_n 0, 1) := by decide +kernel
theorem d_X_drop_35 : decode prog_1_method_31_code 35 = .ok (.getfield 73, 3) := by decide +kernel
theorem d_X_drop_38 : decode prog_1_method_31_code 38 = .ok (.iload_n 1, 1) := by decide +kernel
theorem d_X_drop_39 : decode prog_1_method_31_code 39 = .ok (.aaload, 1) := by decide +kernel
theorem d_X_drop_40 : decode prog_1_method_31_code 40 = .ok (.getfield 294, 3) := by decide +kernel
theorem d_X_drop_43 : decode prog_1_method_31_code 43 = .ok (.ireturn, 1) := by decide +kernel
theorem d_Sheet_put_0 : decode prog_7_method_4_code 0 = .ok (.aload_n 0, 1) := by decide +kernel
theorem d_Sheet_put_1 : decode prog_7_method_4_code 1 = .ok (.getfield 15, 3) := by decide +kernel
theorem d_Sheet_put_4 : decode prog_7_method_4_code 4 = .ok (.ifCond .ne 14, 3) := by decide +kernel
theorem d_Sheet_put_7 : decode prog_7_method_4_code 7 = .ok (.aload_n 0, 1) := by decide +kernel
theorem d_Sheet_put_8 : decode prog_7_method_4_code 8 = .ok (.getfield 9, 3) := by decide +kernel
theorem d_Sheet_put_11 : decode prog_7_method_4_code 11 = .ok (.iload_n 1, 1) := by decide +kernel
theorem d_Sheet_put_12 : decode prog_7_method_4_code 12 = .ok (.iload_n 2, 1) := by decide +kernel
theorem d_Sheet_put_13 : decode prog_7_method_4_code 13 = .ok (.i2b, 1) := by decide +kernel
theorem d_Sheet_put_14 : decode prog_7_method_4_code 14 = .ok (.iastore, 1) := by decide +kernel
theorem d_Sheet_put_15 : decode prog_7_method_4_code 15 = .ok (.goto 29, 3) := by decide +kernel
theorem d_Sheet_put_18 : decode prog_7_method_4_code 18 = .ok (.aload_n 0, 1) := by decide +kernel
theorem d_Sheet_put_19 : decode prog_7_method_4_code 19 = .ok (.getfield 15, 3) := by decide +kernel
theorem d_Sheet_put_22 : decode prog_7_method_4_code 22 = .ok (.iconst 1, 1) := by decide +kernel
theorem d_Sheet_put_23 : decode prog_7_method_4_code 23 = .ok (.if_icmp .ne 14, 3) := by decide +kernel
theorem d_Sheet_put_26 : decode prog_7_method_4_code 26 = .ok (.aload_n 0, 1) := by decide +kernel
theorem d_Sheet_put_27 : decode prog_7_method_4_code 27 = .ok (.getfield 9, 3) := by decide +kernel
theorem d_Sheet_put_30 : decode prog_7_method_4_code 30 = .ok (.iload_n 1, 1) := by decide +kernel
theorem d_Sheet_put_31 : decode prog_7_method_4_code 31 = .ok (.iload_n 2, 1) := by decide +kernel
theorem d_Sheet_put_32 : decode prog_7_method_4_code 32 = .ok (.i2s, 1) := by decide +kernel
theorem d_Sheet_put_33 : decode prog_7_method_4_code 33 = .ok (.iastore, 1) := by decide +kernel
theorem d_Sheet_put_34 : decode prog_7_method_4_code 34 = .ok (.goto 10, 3) := by decide +kernel
theorem d_Sheet_put_37 : decode prog_7_method_4_code 37 = .ok (.aload_n 0, 1) := by decide +kernel
theorem d_Sheet_put_38 : decode prog_7_method_4_code 38 = .ok (.getfield 9, 3) := by decide +kernel
theorem d_Sheet_put_41 : decode prog_7_method_4_code 41 = .ok (.iload_n 1, 1) := by decide +kernel
theorem d_Sheet_put_42 : decode prog_7_method_4_code 42 = .ok (.iload_n 2, 1) := by decide +kernel
theorem d_Sheet_put_43 : decode prog_7_method_4_code 43 = .ok (.iastore, 1) := by decide +kernel
theorem d_Sheet_put_44 : decode prog_7_method_4_code 44 = .ok (.return_, 1) := by decide +kernel
theorem d_X_item_0 : decode prog_1_method_32_code 0 = .ok (.aload_n 0, 1) := by decide +kernel
theorem d_X_item_1 : decode prog_1_method_32_code 1 = .ok (.iload_n 1, 1) := by decide +kernel
theorem d_X_item_2 : decode prog_1_method_32_code 2 = .ok (.iload_n 2, 1) := by decide +kernel
theorem d_X_item_3 : decode prog_1_method_32_code 3 = .ok (.iload_n 3, 1) := by decide +kernel
theorem d_X_item_4 : decode prog_1_method_32_code 4 = .ok (.iconst 1, 1) := by decide +kernel
theorem d_X_item_5 : decode prog_1_method_32_code 5 = .ok (.invokevirtual 258, 3) := by decide +kernel
theorem d_X_item_8 : decode prog_1_method_32_code 8 = .ok (.istore 5, 2) := by decide +kernel
theorem d_X_item_10 : decode prog_1_method_32_code 10 = .ok (.iload 5, 2) := by decide +kernel
theorem d_X_item_12 : decode prog_1_method_32_code 12 = .ok (.ifCond .ge 6, 3) := by decide +kernel
theorem d_X_item_15 : decode prog_1_method_32_code 15 = .ok (.iload 5, 2) := by decide +kernel
theorem d_X_item_17 : decode prog_1_method_32_code 17 = .ok (.ireturn, 1) := by decide +kernel
theorem d_X_item_18 : decode prog_1_method_32_code 18 = .ok (.aload_n 0, 1) := by decide +kernel
theorem d_X_item_19 : decode prog_1_method_32_code 19 = .ok (.getfield 73, 3) := by decide +kernel
theorem d_X_item_22 : decode prog_1_method_32_code 22 = .ok (.iload_n 1, 1) := by decide +kernel
theorem d_X_item_23 : decode prog_1_method_32_code 23 = .ok (.aaload, 1) := by decide +kernel
theorem d_X_item_24 : decode prog_1_method_32_code 24 = .ok (.iload_n 3, 1) := by decide +kernel
theorem d_X_item_25 : decode prog_1_method_32_code 25 = .ok (.iload 4, 2) := by decide +kernel
theorem d_X_item_27 : decode prog_1_method_32_code 27 = .ok (.invokevirtual 295, 3) := by decide +kernel
theorem d_X_item_30 : decode prog_1_method_32_code 30 = .ok (.iconst 1, 1) := by decide +kernel
theorem d_X_item_31 : decode prog_1_method_32_code 31 = .ok (.ireturn, 1) := by decide +kernel
theorem d_X_copy_0 : decode prog_1_method_33_code 0 = .ok (.iload_n 1, 1) := by decide +kernel
theorem d_X_copy_1 : decode prog_1_method_33_code 1 = .ok (.invokestatic 269, 3) := by decide +kernel
theorem d_X_copy_4 : decode prog_1_method_33_code 4 = .ok (.ifCond .eq 10, 3) := by decide +kernel
theorem d_X_copy_7 : decode prog_1_method_33_code 7 = .ok (.iload_n 3, 1) := by decide +kernel
theorem d_X_copy_8 : decode prog_1_method_33_code 8 = .ok (.invokestatic 269, 3) := by decide +kernel
theorem d_X_copy_11 : decode prog_1_method_33_code 11 = .ok (.ifCond .ne 5, 3) := by decide +kernel
theorem d_X_copy_14 : decode prog_1_method_33_code 14 = .ok (.iconst (-1), 1) := by decide +kernel
theorem d_X_copy_15 : decode prog_1_method_33_code 15 = .ok (.ireturn, 1) := by decide +kernel
theorem d_X_copy_16 : decode prog_1_method_33_code 16 = .ok (.aload_n 0, 1) := by decide +kernel
theorem d_X_copy_17 : decode prog_1_method_33_code 17 = .ok (.getfield 73, 3) := by decide +kernel
theorem d_X_copy_20 : decode prog_1_method_33_code 20 = .ok (.iload_n 1, 1) := by decide +kernel
theorem d_X_copy_21 : decode prog_1_method_33_code 21 = .ok (.aaload, 1) := by decide +kernel
theorem d_X_copy_22 : decode prog_1_method_33_code 22 = .ok (.astore 6, 2) := by decide +kernel
theorem d_X_copy_24 : decode prog_1_method_33_code 24 = .ok (.aload_n 0, 1) := by decide +kernel
theorem d_X_copy_25 : decode prog_1_method_33_code 25 = .ok (.getfield 73, 3) := by decide +kernel
theorem d_X_copy_28 : decode prog_1_method_33_code 28 = .ok (.iload_n 3, 1) := by decide +kernel
theorem d_X_copy_29 : decode prog_1_method_33_code 29 = .ok (.aaload, 1) := by decide +kernel
theorem d_X_copy_30 : decode prog_1_method_33_code 30 = .ok (.astore 7, 2) := by decide +kernel
theorem d_X_copy_32 : decode prog_1_method_33_code 32 = .ok (.aload 6, 2) := by decide +kernel
theorem d_X_copy_34 : decode prog_1_method_33_code 34 = .ok (.aload 7, 2) := by decide +kernel
theorem d_X_copy_36 : decode prog_1_method_33_code 36 = .ok (.invokestatic 272, 3) := by decide +kernel
theorem d_X_copy_39 : decode prog_1_method_33_code 39 = .ok (.istore 8, 2) := by decide +kernel
theorem d_X_copy_41 : decode prog_1_method_33_code 41 = .ok (.iload 8, 2) := by decide +kernel
theorem d_X_copy_43 : decode prog_1_method_33_code 43 = .ok (.ifCond .ge 6, 3) := by decide +kernel
theorem d_X_copy_46 : decode prog_1_method_33_code 46 = .ok (.iload 8, 2) := by decide +kernel
theorem d_X_copy_48 : decode prog_1_method_33_code 48 = .ok (.ireturn, 1) := by decide +kernel
theorem d_X_copy_49 : decode prog_1_method_33_code 49 = .ok (.aload 6, 2) := by decide +kernel
theorem d_X_copy_51 : decode prog_1_method_33_code 51 = .ok (.iload_n 2, 1) := by decide +kernel
theorem d_X_copy_52 : decode prog_1_method_33_code 52 = .ok (.iload 5, 2) := by decide +kernel
theorem d_X_copy_54 : decode prog_1_method_33_code 54 = .ok (.invokevirtual 276, 3) := by decide +kernel
theorem d_X_copy_57 : decode prog_1_method_33_code 57 = .ok (.ifCond .eq 15, 3) := by decide +kernel
theorem d_X_copy_60 : decode prog_1_method_33_code 60 = .ok (.aload 7, 2) := by decide +kernel
theorem d_X_copy_62 : decode prog_1_method_33_code 62 = .ok (.iload 4, 2) := by decide +kernel
theorem d_X_copy_64 : decode prog_1_method_33_code 64 = .ok (.iload 5, 2) := by decide +kernel
theorem d_X_copy_66 : decode prog_1_method_33_code 66 = .ok (.invokevirtual 276, 3) := by decide +kernel
theorem d_X_copy_69 : decode prog_1_method_33_code 69 = .ok (.ifCond .ne 6, 3) := by decide +kernel
theorem d_X_copy_72 : decode prog_1_method_33_code 72 = .ok (.bipush (-13), 2) := by decide +kernel
theorem d_X_copy_74 : decode prog_1_method_33_code 74 = .ok (.ireturn, 1) := by decide +kernel
theorem d_X_copy_75 : decode prog_1_method_33_code 75 = .ok (.aload 6, 2) := by decide +kernel
theorem d_X_copy_77 : decode prog_1_method_33_code 77 = .ok (.getfield 279, 3) := by decide +kernel
theorem d_X_copy_80 : decode prog_1_method_33_code 80 = .ok (.iload_n 2, 1) := by decide +kernel
theorem d_X_copy_81 : decode prog_1_method_33_code 81 = .ok (.aload 7, 2) := by decide +kernel
theorem d_X_copy_83 : decode prog_1_method_33_code 83 = .ok (.getfield 279, 3) := by decide +kernel
theorem d_X_copy_86 : decode prog_1_method_33_code 86 = .ok (.iload 4, 2) := by decide +kernel
theorem d_X_copy_88 : decode prog_1_method_33_code 88 = .ok (.iload 5, 2) := by decide +kernel
theorem d_X_copy_90 : decode prog_1_method_33_code 90 = .ok (.invokestatic 298, 3) := by decide +kernel
theorem d_X_copy_93 : decode prog_1_method_33_code 93 = .ok (.iload 5, 2) := by decide +kernel
theorem d_X_copy_95 : decode prog_1_method_33_code 95 = .ok (.ireturn, 1) := by decide +kernel
def f_X_commonDivisor_L2 (a0 : Int32) (a1 : Int32) (x2_2 : Int32) : Option ((Int32) ⊕ ((Unit) ⊕ (Int32))) :=
  if x2_2 ≤ 1 then
    some (.inr (.inl ()))
  else
    (fw_rm2 a0 x2_2).bind fun v9 =>
    if v9 = 0 then
      (fw_rm2 a1 x2_2).bind fun v15 =>
      if v15 = 0 then
        some (.inr (.inr x2_2))
      else
        fw_nm (x2_2 + (-1)) fun (v21 : Int32) =>
        some (.inl v21)
    else
      fw_nm (x2_2 + (-1)) fun (v21 : Int32) =>
      some (.inl v21)
def f_X_commonDivisor (a0 : Int32) (a1 : Int32) : Option (Int32) :=
  Option.bind (fw_wh (f_X_commonDivisor_L2 a0 a1) fw_N a1) fun (q2 : (Unit) ⊕ (Int32)) => match q2 with
  | .inl e2x =>
    some 1
  | .inr r2 => some r2
set_option maxHeartbeats 4000000 in
set_option maxRecDepth 100000 in
theorem c_X_commonDivisor {a0 : Int32} {a1 : Int32} {μ : fw_M} {r : Int32} (h : f_X_commonDivisor a0 a1 = some r) : fw_Con Y_X_commonDivisor fw_X 1 [.int a0, .int a1] (some r) μ μ := by
  refine fw_con (by decide) (Nat.le_of_ble_eq_true rfl) ?_
  rw [f_X_commonDivisor] at h
  show fw_R "FewTypes" prog_1_method_40_code 3 (some .int) fw_X 1 (some r) μ 0 [(0, .int a0), (1, .int a1)] [] μ
  refine fw_iload_n (pc := 0) d_X_commonDivisor_0 1 rfl rfl ?_
  refine fw_istore_n (pc := 1) (lv1 := [(2, .int a1), (0, .int a0), (1, .int a1)]) d_X_commonDivisor_1 rfl (by decide) rfl ?_
  obtain ⟨q2, w2, h⟩ := fw_be h
  have hE2 : ∀ e2x : Unit, q2 = .inl e2x → fw_R "FewTypes" prog_1_method_40_code 3 (some .int) fw_X 1 (some r) μ 27 [] [] μ := by
    intro e2x hq
    subst hq
    dsimp only at h
    refine fw_iconst (pc := 27) d_X_commonDivisor_27 fw_ic1 ?_
    obtain rfl := Option.some.inj h
    exact fw_iret (pc := 28) d_X_commonDivisor_28 rfl
  have hR2 : ∀ r2, q2 = .inr r2 → r2 = r := by
    intro r2 hq
    subst hq
    exact Option.some.inj h
  clear h
  exact fw_sub [1, 2, 0] rfl (fw_we (e := q2) (fun (s : Int32) => fw_R "FewTypes" prog_1_method_40_code 3 (some .int) fw_X 1 (some r) μ 2 [(0, .int a0), (1, .int a1), (2, .int s)] [] μ) (by
    intro s x h hl hr
    obtain ⟨x2_2, rfl⟩ : ∃ z, z = s := ⟨_, rfl⟩
    rw [f_X_commonDivisor_L2] at h
    show fw_R "FewTypes" prog_1_method_40_code 3 (some .int) fw_X 1 (some r) μ 2 [(0, .int a0), (1, .int a1), (2, .int x2_2)] [] μ
    refine fw_iload_n (pc := 2) d_X_commonDivisor_2 2 rfl rfl ?_
    refine fw_iconst (pc := 3) d_X_commonDivisor_3 fw_ic1 ?_
    refine fw_icmp_le (pc := 4) (tgt := 27) d_X_commonDivisor_4 rfl (fun hc => ?_) (fun hc => ?_)
    · have h := fw_it hc h
      obtain rfl := Option.some.inj h
      exact fw_sub [] rfl (hE2 _ (hr _ rfl).symm)
    · have h := fw_if hc h
      refine fw_iload_n (pc := 7) d_X_commonDivisor_7 0 rfl rfl ?_
      refine fw_iload_n (pc := 8) d_X_commonDivisor_8 2 rfl rfl ?_
      obtain ⟨v9, e9, h⟩ := fw_be h
      refine fw_irem (pc := 9) d_X_commonDivisor_9 e9 ?_
      refine fw_if_ne (pc := 10) (tgt := 21) d_X_commonDivisor_10 rfl (fun hc => ?_) (fun hc => ?_)
      · have h := fw_it hc h
        refine fw_iload_n (pc := 13) d_X_commonDivisor_13 1 rfl rfl ?_
        refine fw_iload_n (pc := 14) d_X_commonDivisor_14 2 rfl rfl ?_
        obtain ⟨v15, e15, h⟩ := fw_be h
        refine fw_irem (pc := 15) d_X_commonDivisor_15 e15 ?_
        refine fw_if_ne (pc := 16) (tgt := 21) d_X_commonDivisor_16 rfl (fun hc => ?_) (fun hc => ?_)
        · have h := fw_it hc h
          refine fw_iload_n (pc := 19) d_X_commonDivisor_19 2 rfl rfl ?_
          obtain rfl := Option.some.inj h
          have he := hR2 _ (hr _ rfl).symm
          subst he
          exact fw_iret (pc := 20) d_X_commonDivisor_20 rfl
        · have h := fw_if hc h
          obtain ⟨v21, e21, h⟩ := fw_ne h
          refine fw_iinc2 (pc := 21) (j := 2) (lv1 := [(2, .int v21), (0, .int a0), (1, .int a1)]) d_X_commonDivisor_21 rfl fw_icm1 e21 (by decide) rfl ?_
          refine fw_goto (pc := 24) (tgt := 2) d_X_commonDivisor_24 rfl ?_
          obtain rfl := Option.some.inj h
          exact fw_sub [1, 2, 0] rfl (hl _ rfl)
      · have h := fw_if hc h
        obtain ⟨v21, e21, h⟩ := fw_ne h
        refine fw_iinc2 (pc := 21) (j := 2) (lv1 := [(2, .int v21), (0, .int a0), (1, .int a1)]) d_X_commonDivisor_21 rfl fw_icm1 e21 (by decide) rfl ?_
        refine fw_goto (pc := 24) (tgt := 2) d_X_commonDivisor_24 rfl ?_
        obtain rfl := Option.some.inj h
        exact fw_sub [1, 2, 0] rfl (hl _ rfl)
    ) _ _ w2)
def f_X_alike_L100 (a3 : Int32) (μ : fw_M) (r43 : Nat) (r51 : Nat) : Int32 × Int32 → Option ((Int32 × Int32) ⊕ (Int32))
  | (x8_100, x9_100) =>
  if a3 ≤ x9_100 then
    some (.inr x8_100)
  else
    (fw_rd 24 (μ.1 (r43 + 1)) x9_100).bind fun v113 =>
    (fw_rd 24 (μ.1 (r51 + 1)) x9_100).bind fun v121 =>
    Option.bind (
      if v113 = v121 then
        fw_nm (x8_100 + 1) fun (v125 : Int32) =>
        some v125
      else
        some x8_100) fun (j122 : Int32) =>
    fw_nm (x9_100 + 1) fun (v128 : Int32) =>
    some (.inl (j122, v128))
def f_X_alike (a1 : Int32) (a2 : Int32) (a3 : Int32) (a4 : Int32) (μ : fw_M) : Option (Int32) :=
  (f_X_isSheet a1).bind fun (p1 : Int32) =>
  if p1 = 0 then
    some (-1)
  else
    (f_X_isSheet a2).bind fun (p8 : Int32) =>
    if p8 = 0 then
      some (-1)
    else
      if a3 < 1 then
        some (-1)
      else
        if 24 < a3 then
          some (-1)
        else
          if a4 < 0 then
            some (-1)
          else
            if a4 ≤ 1 then
              (fw_rq 4 [86, 88, 90, 92] a1).bind fun r43 =>
              if fw_okS r43 then
                (fw_rq 4 [86, 88, 90, 92] a2).bind fun r51 =>
                if fw_okS r51 then
                  (f_X_refusalOfTwo r43 r51 μ).bind fun (p58 : Int32) =>
                  if 0 ≤ p58 then
                    (f_Sheet_holds r43 0 a3 μ).bind fun (p75 : Int32) =>
                    if p75 = 0 then
                      some (-13)
                    else
                      (f_Sheet_holds r51 0 a3 μ).bind fun (p85 : Int32) =>
                      if p85 = 0 then
                        some (-13)
                      else
                        (fw_wh (f_X_alike_L100 a3 μ r43 r51) fw_N (0, 0)).bind fun (e100x : Int32) =>
                        fw_nm (
                          if a4 = 0 then
                            e100x
                          else
                            a3) fun (j136 : Int32) =>
                        (f_X_commonDivisor e100x a3).bind fun (p148 : Int32) =>
                        (fw_dv j136 p148).bind fun v151 =>
                        some v151
                  else
                    some p58
                else none
              else none
            else
              some (-1)
set_option maxHeartbeats 4000000 in
set_option maxRecDepth 100000 in
theorem c_X_alike {a1 : Int32} {a2 : Int32} {a3 : Int32} {a4 : Int32} {μ : fw_M} {r : Int32} (h : f_X_alike a1 a2 a3 a4 μ = some r) : fw_Con Y_X_alike fw_X 2 [.ref 0, .int a1, .int a2, .int a3, .int a4] (some r) μ μ := by
  refine fw_con (by decide) (Nat.le_of_ble_eq_true rfl) ?_
  rw [f_X_alike] at h
  show fw_R "FewTypes" prog_1_method_29_code 10 (some .int) fw_X 2 (some r) μ 0 [(0, .ref 0), (1, .int a1), (2, .int a2), (3, .int a3), (4, .int a4)] [] μ
  refine fw_iload_n (pc := 0) d_X_alike_0 1 rfl rfl ?_
  obtain ⟨p1, e1, h⟩ := fw_be h
  refine fw_callSi (pc := 1) d_X_alike_1 ms_X_269 (c_X_isSheet e1) (by decide) rfl rfl (Nat.le_of_ble_eq_true rfl) ?_
  refine fw_if_eq (pc := 4) (tgt := 36) d_X_alike_4 rfl (fun hc => ?_) (fun hc => ?_)
  · have h := fw_it hc h
    refine fw_iconst (pc := 36) d_X_alike_36 fw_icm1 ?_
    obtain rfl := Option.some.inj h
    exact fw_iret (pc := 37) d_X_alike_37 rfl
  · have h := fw_if hc h
    refine fw_iload_n (pc := 7) d_X_alike_7 2 rfl rfl ?_
    obtain ⟨p8, e8, h⟩ := fw_be h
    refine fw_callSi (pc := 8) d_X_alike_8 ms_X_269 (c_X_isSheet e8) (by decide) rfl rfl (Nat.le_of_ble_eq_true rfl) ?_
    refine fw_if_eq (pc := 11) (tgt := 36) d_X_alike_11 rfl (fun hc => ?_) (fun hc => ?_)
    · have h := fw_it hc h
      refine fw_iconst (pc := 36) d_X_alike_36 fw_icm1 ?_
      obtain rfl := Option.some.inj h
      exact fw_iret (pc := 37) d_X_alike_37 rfl
    · have h := fw_if hc h
      refine fw_iload_n (pc := 14) d_X_alike_14 3 rfl rfl ?_
      refine fw_iconst (pc := 15) d_X_alike_15 fw_ic1 ?_
      refine fw_icmp_lt (pc := 16) (tgt := 36) d_X_alike_16 rfl (fun hc => ?_) (fun hc => ?_)
      · have h := fw_it hc h
        refine fw_iconst (pc := 36) d_X_alike_36 fw_icm1 ?_
        obtain rfl := Option.some.inj h
        exact fw_iret (pc := 37) d_X_alike_37 rfl
      · have h := fw_if hc h
        refine fw_iload_n (pc := 19) d_X_alike_19 3 rfl rfl ?_
        refine fw_bipush (pc := 20) d_X_alike_20 fw_bp24 ?_
        refine fw_icmp_gt (pc := 22) (tgt := 36) d_X_alike_22 rfl (fun hc => ?_) (fun hc => ?_)
        · have h := fw_it hc h
          refine fw_iconst (pc := 36) d_X_alike_36 fw_icm1 ?_
          obtain rfl := Option.some.inj h
          exact fw_iret (pc := 37) d_X_alike_37 rfl
        · have h := fw_if hc h
          refine fw_iload (pc := 25) d_X_alike_25 4 rfl ?_
          refine fw_if_lt (pc := 27) (tgt := 36) d_X_alike_27 rfl (fun hc => ?_) (fun hc => ?_)
          · have h := fw_it hc h
            refine fw_iconst (pc := 36) d_X_alike_36 fw_icm1 ?_
            obtain rfl := Option.some.inj h
            exact fw_iret (pc := 37) d_X_alike_37 rfl
          · have h := fw_if hc h
            refine fw_iload (pc := 30) d_X_alike_30 4 rfl ?_
            refine fw_iconst (pc := 32) d_X_alike_32 fw_ic1 ?_
            refine fw_icmp_le (pc := 33) (tgt := 38) d_X_alike_33 rfl (fun hc => ?_) (fun hc => ?_)
            · have h := fw_it hc h
              refine fw_aload_n (pc := 38) d_X_alike_38 0 rfl rfl ?_
              refine fw_getR (pc := 39) d_X_alike_39 fl_X_73 fw_X0 rfl ?_
              refine fw_iload_n (pc := 42) d_X_alike_42 1 rfl rfl ?_
              obtain ⟨r43, e43, h⟩ := fw_be h
              obtain ⟨o43, h⟩ := fw_gu h
              refine fw_aald 1 (pc := 43) d_X_alike_43 (fun _ => rfl) fw_X85 e43 ?_
              refine fw_astore (pc := 44) (lv1 := [(5, .ref r43), (0, .ref 0), (1, .int a1), (2, .int a2), (3, .int a3), (4, .int a4)]) d_X_alike_44 (by decide) rfl ?_
              refine fw_aload_n (pc := 46) d_X_alike_46 1 rfl rfl ?_
              refine fw_getR (pc := 47) d_X_alike_47 fl_X_73 fw_X0 rfl ?_
              refine fw_iload_n (pc := 50) d_X_alike_50 3 rfl rfl ?_
              obtain ⟨r51, e51, h⟩ := fw_be h
              obtain ⟨o51, h⟩ := fw_gu h
              refine fw_aald 1 (pc := 51) d_X_alike_51 (fun _ => rfl) fw_X85 e51 ?_
              refine fw_astore (pc := 52) (lv1 := [(6, .ref r51), (5, .ref r43), (0, .ref 0), (1, .int a1), (2, .int a2), (3, .int a3), (4, .int a4)]) d_X_alike_52 (by decide) rfl ?_
              refine fw_aload (pc := 54) d_X_alike_54 1 rfl ?_
              refine fw_aload (pc := 56) d_X_alike_56 0 rfl ?_
              obtain ⟨p58, e58, h⟩ := fw_be h
              refine fw_callSi (pc := 58) d_X_alike_58 ms_X_272 (c_X_refusalOfTwo e58) (by decide) rfl rfl (Nat.le_of_ble_eq_true rfl) ?_
              refine fw_istore (pc := 61) (lv1 := [(7, .int p58), (6, .ref r51), (5, .ref r43), (0, .ref 0), (1, .int a1), (2, .int a2), (3, .int a3), (4, .int a4)]) d_X_alike_61 (by decide) rfl ?_
              refine fw_iload (pc := 63) d_X_alike_63 0 rfl ?_
              refine fw_if_ge (pc := 65) (tgt := 71) d_X_alike_65 rfl (fun hc => ?_) (fun hc => ?_)
              · have h := fw_it hc h
                refine fw_aload (pc := 71) d_X_alike_71 2 rfl ?_
                refine fw_iconst (pc := 73) d_X_alike_73 fw_ic0 ?_
                refine fw_iload_n (pc := 74) d_X_alike_74 6 rfl rfl ?_
                obtain ⟨p75, e75, h⟩ := fw_be h
                refine fw_callVi (pc := 75) d_X_alike_75 mv_X_276 o43.1 (c_Sheet_holds e75) (by decide) rfl rfl (Nat.le_of_ble_eq_true rfl) ?_
                refine fw_if_eq (pc := 78) (tgt := 91) d_X_alike_78 rfl (fun hc => ?_) (fun hc => ?_)
                · have h := fw_it hc h
                  refine fw_bipush (pc := 91) d_X_alike_91 fw_bpm13 ?_
                  obtain rfl := Option.some.inj h
                  exact fw_iret (pc := 93) d_X_alike_93 rfl
                · have h := fw_if hc h
                  refine fw_aload (pc := 81) d_X_alike_81 1 rfl ?_
                  refine fw_iconst (pc := 83) d_X_alike_83 fw_ic0 ?_
                  refine fw_iload_n (pc := 84) d_X_alike_84 6 rfl rfl ?_
                  obtain ⟨p85, e85, h⟩ := fw_be h
                  refine fw_callVi (pc := 85) d_X_alike_85 mv_X_276 o51.1 (c_Sheet_holds e85) (by decide) rfl rfl (Nat.le_of_ble_eq_true rfl) ?_
                  refine fw_if_ne (pc := 88) (tgt := 94) d_X_alike_88 rfl (fun hc => ?_) (fun hc => ?_)
                  · have h := fw_it hc h
                    refine fw_bipush (pc := 91) d_X_alike_91 fw_bpm13 ?_
                    obtain rfl := Option.some.inj h
                    exact fw_iret (pc := 93) d_X_alike_93 rfl
                  · have h := fw_if hc h
                    refine fw_iconst (pc := 94) d_X_alike_94 fw_ic0 ?_
                    refine fw_istore (pc := 95) (lv1 := [(8, .int 0), (7, .int p58), (6, .ref r51), (5, .ref r43), (0, .ref 0), (1, .int a1), (2, .int a2), (3, .int a3), (4, .int a4)]) d_X_alike_95 (by decide) rfl ?_
                    refine fw_iconst (pc := 97) d_X_alike_97 fw_ic0 ?_
                    refine fw_istore (pc := 98) (lv1 := [(9, .int 0), (8, .int 0), (7, .int p58), (6, .ref r51), (5, .ref r43), (0, .ref 0), (1, .int a1), (2, .int a2), (3, .int a3), (4, .int a4)]) d_X_alike_98 (by decide) rfl ?_
                    obtain ⟨e100x, w100, h⟩ := fw_be h
                    have hE100 : fw_R "FewTypes" prog_1_method_29_code 10 (some .int) fw_X 2 (some r) μ 134 [(3, .int a3), (4, .int a4), (8, .int e100x)] [] μ := by
                      refine fw_iload (pc := 134) d_X_alike_134 1 rfl ?_
                      obtain ⟨j136, w136, h⟩ := fw_ne h
                      have hJ136 : fw_R "FewTypes" prog_1_method_29_code 10 (some .int) fw_X 2 (some r) μ 145 [(3, .int a3), (8, .int e100x)] [.int j136] μ := by
                        refine fw_iload (pc := 145) d_X_alike_145 1 rfl ?_
                        refine fw_iload_n (pc := 147) d_X_alike_147 0 rfl rfl ?_
                        obtain ⟨p148, e148, h⟩ := fw_be h
                        refine fw_callSi (pc := 148) d_X_alike_148 ms_X_282 (c_X_commonDivisor e148) (by decide) rfl rfl (Nat.le_of_ble_eq_true rfl) ?_
                        obtain ⟨v151, e151, h⟩ := fw_be h
                        refine fw_idiv (pc := 151) d_X_alike_151 e151 ?_
                        obtain rfl := Option.some.inj h
                        exact fw_iret (pc := 152) d_X_alike_152 rfl
                      clear h
                      have h := w136
                      clear w136
                      refine fw_if_ne (pc := 136) (tgt := 144) d_X_alike_136 rfl (fun hc => ?_) (fun hc => ?_)
                      · have h := h.trans (if_pos hc)
                        refine fw_iload (pc := 139) d_X_alike_139 2 rfl ?_
                        refine fw_goto (pc := 141) (tgt := 145) d_X_alike_141 rfl ?_
                        subst h
                        exact fw_sub [0, 2] rfl hJ136
                      · have h := h.trans (if_neg hc)
                        refine fw_iload_n (pc := 144) d_X_alike_144 0 rfl rfl ?_
                        subst h
                        exact fw_sub [0, 2] rfl hJ136
                    clear h
                    exact fw_sub [8, 9, 4, 3, 1, 0] rfl (fw_we (e := e100x) (fun (s : Int32 × Int32) => fw_R "FewTypes" prog_1_method_29_code 10 (some .int) fw_X 2 (some r) μ 100 [(3, .int a3), (4, .int a4), (5, .ref r43), (6, .ref r51), (8, .int s.1), (9, .int s.2)] [] μ) (by
                      intro s x h hl hr
                      obtain ⟨x8_100, x9_100⟩ := s
                      rw [f_X_alike_L100] at h
                      show fw_R "FewTypes" prog_1_method_29_code 10 (some .int) fw_X 2 (some r) μ 100 [(3, .int a3), (4, .int a4), (5, .ref r43), (6, .ref r51), (8, .int x8_100), (9, .int x9_100)] [] μ
                      refine fw_iload (pc := 100) d_X_alike_100 5 rfl ?_
                      refine fw_iload_n (pc := 102) d_X_alike_102 0 rfl rfl ?_
                      refine fw_icmp_ge (pc := 103) (tgt := 134) d_X_alike_103 rfl (fun hc => ?_) (fun hc => ?_)
                      · have h := fw_it hc h
                        obtain rfl := Option.some.inj h
                        have he := hr _ rfl
                        subst he
                        exact fw_sub [0, 1, 4] rfl hE100
                      · have h := fw_if hc h
                        refine fw_aload (pc := 106) d_X_alike_106 2 rfl ?_
                        refine fw_getR (pc := 108) d_X_alike_108 fl_X_279 o43.1 rfl ?_
                        refine fw_iload (pc := 111) d_X_alike_111 5 rfl ?_
                        obtain ⟨v113, e113, h⟩ := fw_be h
                        refine fw_iald (pc := 113) d_X_alike_113 o43.2 e113 ?_
                        refine fw_aload (pc := 114) d_X_alike_114 3 rfl ?_
                        refine fw_getR (pc := 116) d_X_alike_116 fl_X_279 o51.1 rfl ?_
                        refine fw_iload (pc := 119) d_X_alike_119 5 rfl ?_
                        obtain ⟨v121, e121, h⟩ := fw_be h
                        refine fw_iald (pc := 121) d_X_alike_121 o51.2 e121 ?_
                        obtain ⟨j122, w122, h⟩ := fw_be h
                        have hJ122 : fw_R "FewTypes" prog_1_method_29_code 10 (some .int) fw_X 2 (some r) μ 128 [(3, .int a3), (4, .int a4), (5, .ref r43), (6, .ref r51), (8, .int j122), (9, .int x9_100)] [] μ := by
                          obtain ⟨v128, e128, h⟩ := fw_ne h
                          refine fw_iinc2 (pc := 128) (j := 5) (lv1 := [(9, .int v128), (3, .int a3), (4, .int a4), (5, .ref r43), (6, .ref r51), (8, .int j122)]) d_X_alike_128 rfl fw_ic1 e128 (by decide) rfl ?_
                          refine fw_goto (pc := 131) (tgt := 100) d_X_alike_131 rfl ?_
                          obtain rfl := Option.some.inj h
                          exact fw_sub [1, 2, 3, 4, 5, 0] rfl (hl _ rfl)
                        clear h
                        have h := w122
                        clear w122
                        refine fw_icmp_ne (pc := 122) (tgt := 128) d_X_alike_122 rfl (fun hc => ?_) (fun hc => ?_)
                        · have h := fw_it hc h
                          obtain ⟨v125, e125, h⟩ := fw_ne h
                          refine fw_iinc2 (pc := 125) (j := 4) (lv1 := [(8, .int v125), (3, .int a3), (4, .int a4), (5, .ref r43), (6, .ref r51), (9, .int x9_100)]) d_X_alike_125 rfl fw_ic1 e125 (by decide) rfl ?_
                          obtain rfl := Option.some.inj h
                          exact fw_sub [1, 2, 3, 4, 0, 5] rfl hJ122
                        · have h := fw_if hc h
                          obtain rfl := Option.some.inj h
                          exact fw_sub [0, 1, 2, 3, 4, 5] rfl hJ122
                      ) _ _ w100)
              · have h := fw_if hc h
                refine fw_iload (pc := 68) d_X_alike_68 0 rfl ?_
                obtain rfl := Option.some.inj h
                exact fw_iret (pc := 70) d_X_alike_70 rfl
            · have h := fw_if hc h
              refine fw_iconst (pc := 36) d_X_alike_36 fw_icm1 ?_
              obtain rfl := Option.some.inj h
              exact fw_iret (pc := 37) d_X_alike_37 rfl
def f_Sheet_renew (t0 : Nat) (a1 : Int32) (a2 : Int32) (μ : fw_M) : Option (fw_M) :=
  if fw_okS t0 then
    (f_Arrays_fill (t0 + 1) 24 0 μ).bind fun (p5 : fw_M) =>
    fw_nm (fw_wr p5 t0 1 a1) fun (μ10 : fw_M) =>
    fw_nm (fw_wr μ10 t0 2 a2) fun (μ15 : fw_M) =>
    fw_nm (fw_wr μ15 t0 3 1) fun (μ20 : fw_M) =>
    some μ20
  else none
set_option maxHeartbeats 4000000 in
set_option maxRecDepth 100000 in
theorem c_Sheet_renew {t0 : Nat} {a1 : Int32} {a2 : Int32} {μ : fw_M} {r : fw_M} (h : f_Sheet_renew t0 a1 a2 μ = some r) : fw_Con Y_Sheet_renew fw_X 2 [.ref t0, .int a1, .int a2] none μ r := by
  refine fw_con (by decide) (Nat.le_of_ble_eq_true rfl) ?_
  rw [f_Sheet_renew] at h
  show fw_R "FewTypes$Sheet" prog_7_method_2_code 3 none fw_X 2 none r 0 [(0, .ref t0), (1, .int a1), (2, .int a2)] [] μ
  obtain ⟨g0, h⟩ := fw_gu h
  refine fw_aload_n (pc := 0) d_Sheet_renew_0 0 rfl rfl ?_
  refine fw_getR (pc := 1) d_Sheet_renew_1 fl_Sheet_9 g0.1 rfl ?_
  refine fw_iconst (pc := 4) d_Sheet_renew_4 fw_ic0 ?_
  obtain ⟨p5, e5, h⟩ := fw_be h
  refine fw_callSv (pc := 5) d_Sheet_renew_5 ms_Sheet_26 (c_Arrays_fill e5) (by decide) rfl rfl (Nat.le_of_ble_eq_true rfl) ?_
  refine fw_aload_n (pc := 8) d_Sheet_renew_8 0 rfl rfl ?_
  refine fw_iload_n (pc := 9) d_Sheet_renew_9 1 rfl rfl ?_
  obtain ⟨μ10, e10, h⟩ := fw_ne h
  refine fw_putI (pc := 10) d_Sheet_renew_10 fp_Sheet_15 g0.1 rfl (fw_mem e10 ?_)
  refine fw_aload_n (pc := 13) d_Sheet_renew_13 0 rfl rfl ?_
  refine fw_iload_n (pc := 14) d_Sheet_renew_14 2 rfl rfl ?_
  obtain ⟨μ15, e15, h⟩ := fw_ne h
  refine fw_putI (pc := 15) d_Sheet_renew_15 fp_Sheet_19 g0.1 rfl (fw_mem e15 ?_)
  refine fw_aload_n (pc := 18) d_Sheet_renew_18 0 rfl rfl ?_
  refine fw_iconst (pc := 19) d_Sheet_renew_19 fw_ic1 ?_
  obtain ⟨μ20, e20, h⟩ := fw_ne h
  refine fw_putZ (pc := 20) d_Sheet_renew_20 fw_bz1 fp_Sheet_22 g0.1 rfl (fw_mem e20 ?_)
  obtain rfl := Option.some.inj h
  exact fw_vret (pc := 23) d_Sheet_renew_23 rfl
def f_X_sheet (a1 : Int32) (a2 : Int32) (a3 : Int32) (μ : fw_M) : Option (Int32 × fw_M) :=
  (f_X_isSheet a1).bind fun (p1 : Int32) =>
  if p1 = 0 then
    some ((-1), μ)
  else
    (f_X_isLane a2).bind fun (p8 : Int32) =>
    if p8 = 0 then
      some ((-1), μ)
    else
      if a3 ≤ 24 then
        if 0 ≤ a3 then
          (fw_rq 4 [86, 88, 90, 92] a1).bind fun r34 =>
          if fw_okS r34 then
            (f_Sheet_renew r34 a2 a3 μ).bind fun (p37 : fw_M) =>
            some (a3, p37)
          else none
        else
          some ((-14), μ)
      else
        some ((-1), μ)
set_option maxHeartbeats 4000000 in
set_option maxRecDepth 100000 in
theorem c_X_sheet {a1 : Int32} {a2 : Int32} {a3 : Int32} {μ : fw_M} {r : Int32 × fw_M} (h : f_X_sheet a1 a2 a3 μ = some r) : fw_Con Y_X_sheet fw_X 3 [.ref 0, .int a1, .int a2, .int a3] (some r.1) μ r.2 := by
  refine fw_con (by decide) (Nat.le_of_ble_eq_true rfl) ?_
  rw [f_X_sheet] at h
  show fw_R "FewTypes" prog_1_method_30_code 4 (some .int) fw_X 3 (some r.1) r.2 0 [(0, .ref 0), (1, .int a1), (2, .int a2), (3, .int a3)] [] μ
  refine fw_iload_n (pc := 0) d_X_sheet_0 1 rfl rfl ?_
  obtain ⟨p1, e1, h⟩ := fw_be h
  refine fw_callSi (pc := 1) d_X_sheet_1 ms_X_269 (c_X_isSheet e1) (by decide) rfl rfl (Nat.le_of_ble_eq_true rfl) ?_
  refine fw_if_eq (pc := 4) (tgt := 20) d_X_sheet_4 rfl (fun hc => ?_) (fun hc => ?_)
  · have h := fw_it hc h
    refine fw_iconst (pc := 20) d_X_sheet_20 fw_icm1 ?_
    obtain rfl := Option.some.inj h
    exact fw_iret (pc := 21) d_X_sheet_21 rfl
  · have h := fw_if hc h
    refine fw_iload_n (pc := 7) d_X_sheet_7 2 rfl rfl ?_
    obtain ⟨p8, e8, h⟩ := fw_be h
    refine fw_callSi (pc := 8) d_X_sheet_8 ms_X_285 (c_X_isLane e8) (by decide) rfl rfl (Nat.le_of_ble_eq_true rfl) ?_
    refine fw_if_eq (pc := 11) (tgt := 20) d_X_sheet_11 rfl (fun hc => ?_) (fun hc => ?_)
    · have h := fw_it hc h
      refine fw_iconst (pc := 20) d_X_sheet_20 fw_icm1 ?_
      obtain rfl := Option.some.inj h
      exact fw_iret (pc := 21) d_X_sheet_21 rfl
    · have h := fw_if hc h
      refine fw_iload_n (pc := 14) d_X_sheet_14 3 rfl rfl ?_
      refine fw_bipush (pc := 15) d_X_sheet_15 fw_bp24 ?_
      refine fw_icmp_le (pc := 17) (tgt := 22) d_X_sheet_17 rfl (fun hc => ?_) (fun hc => ?_)
      · have h := fw_it hc h
        refine fw_iload_n (pc := 22) d_X_sheet_22 3 rfl rfl ?_
        refine fw_if_ge (pc := 23) (tgt := 29) d_X_sheet_23 rfl (fun hc => ?_) (fun hc => ?_)
        · have h := fw_it hc h
          refine fw_aload_n (pc := 29) d_X_sheet_29 0 rfl rfl ?_
          refine fw_getR (pc := 30) d_X_sheet_30 fl_X_73 fw_X0 rfl ?_
          refine fw_iload_n (pc := 33) d_X_sheet_33 1 rfl rfl ?_
          obtain ⟨r34, e34, h⟩ := fw_be h
          obtain ⟨o34, h⟩ := fw_gu h
          refine fw_aald 1 (pc := 34) d_X_sheet_34 (fun _ => rfl) fw_X85 e34 ?_
          refine fw_iload_n (pc := 35) d_X_sheet_35 2 rfl rfl ?_
          refine fw_iload_n (pc := 36) d_X_sheet_36 3 rfl rfl ?_
          obtain ⟨p37, e37, h⟩ := fw_be h
          refine fw_callVv (pc := 37) d_X_sheet_37 mv_X_288 o34.1 (c_Sheet_renew e37) (by decide) rfl rfl (Nat.le_of_ble_eq_true rfl) ?_
          refine fw_iload_n (pc := 40) d_X_sheet_40 3 rfl rfl ?_
          obtain rfl := Option.some.inj h
          exact fw_iret (pc := 41) d_X_sheet_41 rfl
        · have h := fw_if hc h
          refine fw_bipush (pc := 26) d_X_sheet_26 fw_bpm14 ?_
          obtain rfl := Option.some.inj h
          exact fw_iret (pc := 28) d_X_sheet_28 rfl
      · have h := fw_if hc h
        refine fw_iconst (pc := 20) d_X_sheet_20 fw_icm1 ?_
        obtain rfl := Option.some.inj h
        exact fw_iret (pc := 21) d_X_sheet_21 rfl
def f_X_drop (a1 : Int32) (μ : fw_M) : Option (Int32 × fw_M) :=
  (f_X_isSheet a1).bind fun (p1 : Int32) =>
  if p1 = 0 then
    some ((-1), μ)
  else
    (fw_rq 4 [86, 88, 90, 92] a1).bind fun r14 =>
    if fw_okS r14 then
      if (μ.1 r14 3) = 0 then
        some ((-11), μ)
      else
        (fw_rq 4 [86, 88, 90, 92] a1).bind fun r29 =>
        if fw_okS r29 then
          fw_nm (fw_wr μ r29 3 0) fun (μ31 : fw_M) =>
          (fw_rq 4 [86, 88, 90, 92] a1).bind fun r39 =>
          if fw_okS r39 then
            some ((μ31.1 r39 2), μ31)
          else none
        else none
    else none
set_option maxHeartbeats 4000000 in
set_option maxRecDepth 100000 in
theorem c_X_drop {a1 : Int32} {μ : fw_M} {r : Int32 × fw_M} (h : f_X_drop a1 μ = some r) : fw_Con Y_X_drop fw_X 2 [.ref 0, .int a1] (some r.1) μ r.2 := by
  refine fw_con (by decide) (Nat.le_of_ble_eq_true rfl) ?_
  rw [f_X_drop] at h
  show fw_R "FewTypes" prog_1_method_31_code 2 (some .int) fw_X 2 (some r.1) r.2 0 [(0, .ref 0), (1, .int a1)] [] μ
  refine fw_iload_n (pc := 0) d_X_drop_0 1 rfl rfl ?_
  obtain ⟨p1, e1, h⟩ := fw_be h
  refine fw_callSi (pc := 1) d_X_drop_1 ms_X_269 (c_X_isSheet e1) (by decide) rfl rfl (Nat.le_of_ble_eq_true rfl) ?_
  refine fw_if_ne (pc := 4) (tgt := 9) d_X_drop_4 rfl (fun hc => ?_) (fun hc => ?_)
  · have h := fw_it hc h
    refine fw_iconst (pc := 7) d_X_drop_7 fw_icm1 ?_
    obtain rfl := Option.some.inj h
    exact fw_iret (pc := 8) d_X_drop_8 rfl
  · have h := fw_if hc h
    refine fw_aload_n (pc := 9) d_X_drop_9 0 rfl rfl ?_
    refine fw_getR (pc := 10) d_X_drop_10 fl_X_73 fw_X0 rfl ?_
    refine fw_iload_n (pc := 13) d_X_drop_13 1 rfl rfl ?_
    obtain ⟨r14, e14, h⟩ := fw_be h
    obtain ⟨o14, h⟩ := fw_gu h
    refine fw_aald 1 (pc := 14) d_X_drop_14 (fun _ => rfl) fw_X85 e14 ?_
    refine fw_getI (pc := 15) d_X_drop_15 fl_X_291 o14.1 rfl ?_
    refine fw_if_ne (pc := 18) (tgt := 24) d_X_drop_18 rfl (fun hc => ?_) (fun hc => ?_)
    · have h := fw_it hc h
      refine fw_bipush (pc := 21) d_X_drop_21 fw_bpm11 ?_
      obtain rfl := Option.some.inj h
      exact fw_iret (pc := 23) d_X_drop_23 rfl
    · have h := fw_if hc h
      refine fw_aload_n (pc := 24) d_X_drop_24 0 rfl rfl ?_
      refine fw_getR (pc := 25) d_X_drop_25 fl_X_73 fw_X0 rfl ?_
      refine fw_iload_n (pc := 28) d_X_drop_28 1 rfl rfl ?_
      obtain ⟨r29, e29, h⟩ := fw_be h
      obtain ⟨o29, h⟩ := fw_gu h
      refine fw_aald 1 (pc := 29) d_X_drop_29 (fun _ => rfl) fw_X85 e29 ?_
      refine fw_iconst (pc := 30) d_X_drop_30 fw_ic0 ?_
      obtain ⟨μ31, e31, h⟩ := fw_ne h
      refine fw_putZ (pc := 31) d_X_drop_31 fw_bz0 fp_X_291 o29.1 rfl (fw_mem e31 ?_)
      refine fw_aload_n (pc := 34) d_X_drop_34 0 rfl rfl ?_
      refine fw_getR (pc := 35) d_X_drop_35 fl_X_73 fw_X0 rfl ?_
      refine fw_iload_n (pc := 38) d_X_drop_38 1 rfl rfl ?_
      obtain ⟨r39, e39, h⟩ := fw_be h
      obtain ⟨o39, h⟩ := fw_gu h
      refine fw_aald 1 (pc := 39) d_X_drop_39 (fun _ => rfl) fw_X85 e39 ?_
      refine fw_getI (pc := 40) d_X_drop_40 fl_X_294 o39.1 rfl ?_
      obtain rfl := Option.some.inj h
      exact fw_iret (pc := 43) d_X_drop_43 rfl
def f_Sheet_put (t0 : Nat) (a1 : Int32) (a2 : Int32) (μ : fw_M) : Option (fw_M) :=
  if fw_okS t0 then
    Option.bind (
      if (μ.1 t0 1) = 0 then
        (fw_si 24 μ (t0 + 1) a1 (Int8.toInt32 (Int32.toInt8 a2))).bind fun μ14 =>
        some μ14
      else
        if (μ.1 t0 1) = 1 then
          (fw_si 24 μ (t0 + 1) a1 (Int16.toInt32 (Int32.toInt16 a2))).bind fun μ33 =>
          some μ33
        else
          (fw_si 24 μ (t0 + 1) a1 a2).bind fun μ43 =>
          some μ43) fun (j4 : fw_M) =>
    some j4
  else none
set_option maxHeartbeats 4000000 in
set_option maxRecDepth 100000 in
theorem c_Sheet_put {t0 : Nat} {a1 : Int32} {a2 : Int32} {μ : fw_M} {r : fw_M} (h : f_Sheet_put t0 a1 a2 μ = some r) : fw_Con Y_Sheet_put fw_X 1 [.ref t0, .int a1, .int a2] none μ r := by
  refine fw_con (by decide) (Nat.le_of_ble_eq_true rfl) ?_
  rw [f_Sheet_put] at h
  show fw_R "FewTypes$Sheet" prog_7_method_4_code 3 none fw_X 1 none r 0 [(0, .ref t0), (1, .int a1), (2, .int a2)] [] μ
  obtain ⟨g0, h⟩ := fw_gu h
  refine fw_aload_n (pc := 0) d_Sheet_put_0 0 rfl rfl ?_
  refine fw_getI (pc := 1) d_Sheet_put_1 fl_Sheet_15 g0.1 rfl ?_
  obtain ⟨j4, w4, h⟩ := fw_be h
  have hJ4 : fw_R "FewTypes$Sheet" prog_7_method_4_code 3 none fw_X 1 none r 44 [] [] j4 := by
    obtain rfl := Option.some.inj h
    exact fw_vret (pc := 44) d_Sheet_put_44 rfl
  clear h
  have h := w4
  clear w4
  refine fw_if_ne (pc := 4) (tgt := 18) d_Sheet_put_4 rfl (fun hc => ?_) (fun hc => ?_)
  · have h := fw_it hc h
    refine fw_aload_n (pc := 7) d_Sheet_put_7 0 rfl rfl ?_
    refine fw_getR (pc := 8) d_Sheet_put_8 fl_Sheet_9 g0.1 rfl ?_
    refine fw_iload_n (pc := 11) d_Sheet_put_11 1 rfl rfl ?_
    refine fw_iload_n (pc := 12) d_Sheet_put_12 2 rfl rfl ?_
    refine fw_i2b (pc := 13) d_Sheet_put_13 ?_
    obtain ⟨μ14, e14, h⟩ := fw_be h
    refine fw_iast (pc := 14) d_Sheet_put_14 g0.2 e14 ?_
    refine fw_goto (pc := 15) (tgt := 44) d_Sheet_put_15 rfl ?_
    obtain rfl := Option.some.inj h
    exact fw_sub [] rfl hJ4
  · have h := fw_if hc h
    refine fw_aload_n (pc := 18) d_Sheet_put_18 0 rfl rfl ?_
    refine fw_getI (pc := 19) d_Sheet_put_19 fl_Sheet_15 g0.1 rfl ?_
    refine fw_iconst (pc := 22) d_Sheet_put_22 fw_ic1 ?_
    refine fw_icmp_ne (pc := 23) (tgt := 37) d_Sheet_put_23 rfl (fun hc => ?_) (fun hc => ?_)
    · have h := fw_it hc h
      refine fw_aload_n (pc := 26) d_Sheet_put_26 0 rfl rfl ?_
      refine fw_getR (pc := 27) d_Sheet_put_27 fl_Sheet_9 g0.1 rfl ?_
      refine fw_iload_n (pc := 30) d_Sheet_put_30 1 rfl rfl ?_
      refine fw_iload_n (pc := 31) d_Sheet_put_31 2 rfl rfl ?_
      refine fw_i2s (pc := 32) d_Sheet_put_32 ?_
      obtain ⟨μ33, e33, h⟩ := fw_be h
      refine fw_iast (pc := 33) d_Sheet_put_33 g0.2 e33 ?_
      refine fw_goto (pc := 34) (tgt := 44) d_Sheet_put_34 rfl ?_
      obtain rfl := Option.some.inj h
      exact fw_sub [] rfl hJ4
    · have h := fw_if hc h
      refine fw_aload_n (pc := 37) d_Sheet_put_37 0 rfl rfl ?_
      refine fw_getR (pc := 38) d_Sheet_put_38 fl_Sheet_9 g0.1 rfl ?_
      refine fw_iload_n (pc := 41) d_Sheet_put_41 1 rfl rfl ?_
      refine fw_iload_n (pc := 42) d_Sheet_put_42 2 rfl rfl ?_
      obtain ⟨μ43, e43, h⟩ := fw_be h
      refine fw_iast (pc := 43) d_Sheet_put_43 g0.2 e43 ?_
      obtain rfl := Option.some.inj h
      exact fw_sub [] rfl hJ4
def f_X_item (a1 : Int32) (a2 : Int32) (a3 : Int32) (a4 : Int32) (μ : fw_M) : Option (Int32 × fw_M) :=
  (f_X_refusal a1 a2 a3 1 μ).bind fun (p5 : Int32) =>
  if 0 ≤ p5 then
    (fw_rq 4 [86, 88, 90, 92] a1).bind fun r23 =>
    if fw_okS r23 then
      (f_Sheet_put r23 a3 a4 μ).bind fun (p27 : fw_M) =>
      some (1, p27)
    else none
  else
    some (p5, μ)
set_option maxHeartbeats 4000000 in
set_option maxRecDepth 100000 in
theorem c_X_item {a1 : Int32} {a2 : Int32} {a3 : Int32} {a4 : Int32} {μ : fw_M} {r : Int32 × fw_M} (h : f_X_item a1 a2 a3 a4 μ = some r) : fw_Con Y_X_item fw_X 3 [.ref 0, .int a1, .int a2, .int a3, .int a4] (some r.1) μ r.2 := by
  refine fw_con (by decide) (Nat.le_of_ble_eq_true rfl) ?_
  rw [f_X_item] at h
  show fw_R "FewTypes" prog_1_method_32_code 6 (some .int) fw_X 3 (some r.1) r.2 0 [(0, .ref 0), (1, .int a1), (2, .int a2), (3, .int a3), (4, .int a4)] [] μ
  refine fw_aload_n (pc := 0) d_X_item_0 0 rfl rfl ?_
  refine fw_iload_n (pc := 1) d_X_item_1 1 rfl rfl ?_
  refine fw_iload_n (pc := 2) d_X_item_2 2 rfl rfl ?_
  refine fw_iload_n (pc := 3) d_X_item_3 3 rfl rfl ?_
  refine fw_iconst (pc := 4) d_X_item_4 fw_ic1 ?_
  obtain ⟨p5, e5, h⟩ := fw_be h
  refine fw_callVi (pc := 5) d_X_item_5 mv_X_258 fw_X0 (c_X_refusal e5) (by decide) rfl rfl (Nat.le_of_ble_eq_true rfl) ?_
  refine fw_istore (pc := 8) (lv1 := [(5, .int p5), (0, .ref 0), (1, .int a1), (2, .int a2), (3, .int a3), (4, .int a4)]) d_X_item_8 (by decide) rfl ?_
  refine fw_iload (pc := 10) d_X_item_10 0 rfl ?_
  refine fw_if_ge (pc := 12) (tgt := 18) d_X_item_12 rfl (fun hc => ?_) (fun hc => ?_)
  · have h := fw_it hc h
    refine fw_aload_n (pc := 18) d_X_item_18 1 rfl rfl ?_
    refine fw_getR (pc := 19) d_X_item_19 fl_X_73 fw_X0 rfl ?_
    refine fw_iload_n (pc := 22) d_X_item_22 2 rfl rfl ?_
    obtain ⟨r23, e23, h⟩ := fw_be h
    obtain ⟨o23, h⟩ := fw_gu h
    refine fw_aald 1 (pc := 23) d_X_item_23 (fun _ => rfl) fw_X85 e23 ?_
    refine fw_iload_n (pc := 24) d_X_item_24 4 rfl rfl ?_
    refine fw_iload (pc := 25) d_X_item_25 5 rfl ?_
    obtain ⟨p27, e27, h⟩ := fw_be h
    refine fw_callVv (pc := 27) d_X_item_27 mv_X_295 o23.1 (c_Sheet_put e27) (by decide) rfl rfl (Nat.le_of_ble_eq_true rfl) ?_
    refine fw_iconst (pc := 30) d_X_item_30 fw_ic1 ?_
    obtain rfl := Option.some.inj h
    exact fw_iret (pc := 31) d_X_item_31 rfl
  · have h := fw_if hc h
    refine fw_iload (pc := 15) d_X_item_15 0 rfl ?_
    obtain rfl := Option.some.inj h
    exact fw_iret (pc := 17) d_X_item_17 rfl
def f_X_copy (a1 : Int32) (a2 : Int32) (a3 : Int32) (a4 : Int32) (a5 : Int32) (μ : fw_M) : Option (Int32 × fw_M) :=
  (f_X_isSheet a1).bind fun (p1 : Int32) =>
  if p1 = 0 then
    some ((-1), μ)
  else
    (f_X_isSheet a3).bind fun (p8 : Int32) =>
    if p8 = 0 then
      some ((-1), μ)
    else
      (fw_rq 4 [86, 88, 90, 92] a1).bind fun r21 =>
      if fw_okS r21 then
        (fw_rq 4 [86, 88, 90, 92] a3).bind fun r29 =>
        if fw_okS r29 then
          (f_X_refusalOfTwo r21 r29 μ).bind fun (p36 : Int32) =>
          if 0 ≤ p36 then
            (f_Sheet_holds r21 a2 a5 μ).bind fun (p54 : Int32) =>
            if p54 = 0 then
              some ((-13), μ)
            else
              (f_Sheet_holds r29 a4 a5 μ).bind fun (p66 : Int32) =>
              if p66 = 0 then
                some ((-13), μ)
              else
                (fw_cp 24 24 μ (r21 + 1) a2 (r29 + 1) a4 a5).bind fun μ90 =>
                some (a5, μ90)
          else
            some (p36, μ)
        else none
      else none
set_option maxHeartbeats 4000000 in
set_option maxRecDepth 100000 in
theorem c_X_copy {a1 : Int32} {a2 : Int32} {a3 : Int32} {a4 : Int32} {a5 : Int32} {μ : fw_M} {r : Int32 × fw_M} (h : f_X_copy a1 a2 a3 a4 a5 μ = some r) : fw_Con Y_X_copy fw_X 2 [.ref 0, .int a1, .int a2, .int a3, .int a4, .int a5] (some r.1) μ r.2 := by
  refine fw_con (by decide) (Nat.le_of_ble_eq_true rfl) ?_
  rw [f_X_copy] at h
  show fw_R "FewTypes" prog_1_method_33_code 9 (some .int) fw_X 2 (some r.1) r.2 0 [(0, .ref 0), (1, .int a1), (2, .int a2), (3, .int a3), (4, .int a4), (5, .int a5)] [] μ
  refine fw_iload_n (pc := 0) d_X_copy_0 1 rfl rfl ?_
  obtain ⟨p1, e1, h⟩ := fw_be h
  refine fw_callSi (pc := 1) d_X_copy_1 ms_X_269 (c_X_isSheet e1) (by decide) rfl rfl (Nat.le_of_ble_eq_true rfl) ?_
  refine fw_if_eq (pc := 4) (tgt := 14) d_X_copy_4 rfl (fun hc => ?_) (fun hc => ?_)
  · have h := fw_it hc h
    refine fw_iconst (pc := 14) d_X_copy_14 fw_icm1 ?_
    obtain rfl := Option.some.inj h
    exact fw_iret (pc := 15) d_X_copy_15 rfl
  · have h := fw_if hc h
    refine fw_iload_n (pc := 7) d_X_copy_7 3 rfl rfl ?_
    obtain ⟨p8, e8, h⟩ := fw_be h
    refine fw_callSi (pc := 8) d_X_copy_8 ms_X_269 (c_X_isSheet e8) (by decide) rfl rfl (Nat.le_of_ble_eq_true rfl) ?_
    refine fw_if_ne (pc := 11) (tgt := 16) d_X_copy_11 rfl (fun hc => ?_) (fun hc => ?_)
    · have h := fw_it hc h
      refine fw_iconst (pc := 14) d_X_copy_14 fw_icm1 ?_
      obtain rfl := Option.some.inj h
      exact fw_iret (pc := 15) d_X_copy_15 rfl
    · have h := fw_if hc h
      refine fw_aload_n (pc := 16) d_X_copy_16 0 rfl rfl ?_
      refine fw_getR (pc := 17) d_X_copy_17 fl_X_73 fw_X0 rfl ?_
      refine fw_iload_n (pc := 20) d_X_copy_20 1 rfl rfl ?_
      obtain ⟨r21, e21, h⟩ := fw_be h
      obtain ⟨o21, h⟩ := fw_gu h
      refine fw_aald 1 (pc := 21) d_X_copy_21 (fun _ => rfl) fw_X85 e21 ?_
      refine fw_astore (pc := 22) (lv1 := [(6, .ref r21), (0, .ref 0), (1, .int a1), (2, .int a2), (3, .int a3), (4, .int a4), (5, .int a5)]) d_X_copy_22 (by decide) rfl ?_
      refine fw_aload_n (pc := 24) d_X_copy_24 1 rfl rfl ?_
      refine fw_getR (pc := 25) d_X_copy_25 fl_X_73 fw_X0 rfl ?_
      refine fw_iload_n (pc := 28) d_X_copy_28 4 rfl rfl ?_
      obtain ⟨r29, e29, h⟩ := fw_be h
      obtain ⟨o29, h⟩ := fw_gu h
      refine fw_aald 1 (pc := 29) d_X_copy_29 (fun _ => rfl) fw_X85 e29 ?_
      refine fw_astore (pc := 30) (lv1 := [(7, .ref r29), (6, .ref r21), (0, .ref 0), (1, .int a1), (2, .int a2), (3, .int a3), (4, .int a4), (5, .int a5)]) d_X_copy_30 (by decide) rfl ?_
      refine fw_aload (pc := 32) d_X_copy_32 1 rfl ?_
      refine fw_aload (pc := 34) d_X_copy_34 0 rfl ?_
      obtain ⟨p36, e36, h⟩ := fw_be h
      refine fw_callSi (pc := 36) d_X_copy_36 ms_X_272 (c_X_refusalOfTwo e36) (by decide) rfl rfl (Nat.le_of_ble_eq_true rfl) ?_
      refine fw_istore (pc := 39) (lv1 := [(8, .int p36), (7, .ref r29), (6, .ref r21), (0, .ref 0), (1, .int a1), (2, .int a2), (3, .int a3), (4, .int a4), (5, .int a5)]) d_X_copy_39 (by decide) rfl ?_
      refine fw_iload (pc := 41) d_X_copy_41 0 rfl ?_
      refine fw_if_ge (pc := 43) (tgt := 49) d_X_copy_43 rfl (fun hc => ?_) (fun hc => ?_)
      · have h := fw_it hc h
        refine fw_aload (pc := 49) d_X_copy_49 2 rfl ?_
        refine fw_iload_n (pc := 51) d_X_copy_51 5 rfl rfl ?_
        refine fw_iload (pc := 52) d_X_copy_52 8 rfl ?_
        obtain ⟨p54, e54, h⟩ := fw_be h
        refine fw_callVi (pc := 54) d_X_copy_54 mv_X_276 o21.1 (c_Sheet_holds e54) (by decide) rfl rfl (Nat.le_of_ble_eq_true rfl) ?_
        refine fw_if_eq (pc := 57) (tgt := 72) d_X_copy_57 rfl (fun hc => ?_) (fun hc => ?_)
        · have h := fw_it hc h
          refine fw_bipush (pc := 72) d_X_copy_72 fw_bpm13 ?_
          obtain rfl := Option.some.inj h
          exact fw_iret (pc := 74) d_X_copy_74 rfl
        · have h := fw_if hc h
          refine fw_aload (pc := 60) d_X_copy_60 1 rfl ?_
          refine fw_iload (pc := 62) d_X_copy_62 7 rfl ?_
          refine fw_iload (pc := 64) d_X_copy_64 8 rfl ?_
          obtain ⟨p66, e66, h⟩ := fw_be h
          refine fw_callVi (pc := 66) d_X_copy_66 mv_X_276 o29.1 (c_Sheet_holds e66) (by decide) rfl rfl (Nat.le_of_ble_eq_true rfl) ?_
          refine fw_if_ne (pc := 69) (tgt := 75) d_X_copy_69 rfl (fun hc => ?_) (fun hc => ?_)
          · have h := fw_it hc h
            refine fw_bipush (pc := 72) d_X_copy_72 fw_bpm13 ?_
            obtain rfl := Option.some.inj h
            exact fw_iret (pc := 74) d_X_copy_74 rfl
          · have h := fw_if hc h
            refine fw_aload (pc := 75) d_X_copy_75 2 rfl ?_
            refine fw_getR (pc := 77) d_X_copy_77 fl_X_279 o21.1 rfl ?_
            refine fw_iload_n (pc := 80) d_X_copy_80 5 rfl rfl ?_
            refine fw_aload (pc := 81) d_X_copy_81 1 rfl ?_
            refine fw_getR (pc := 83) d_X_copy_83 fl_X_279 o29.1 rfl ?_
            refine fw_iload (pc := 86) d_X_copy_86 7 rfl ?_
            refine fw_iload (pc := 88) d_X_copy_88 8 rfl ?_
            obtain ⟨μ90, e90, h⟩ := fw_be h
            refine fw_acpI (pc := 90) d_X_copy_90 ma_X_298 o21.2 o29.2 e90 (by decide) (Nat.le_of_ble_eq_true rfl) ?_
            refine fw_iload (pc := 93) d_X_copy_93 8 rfl ?_
            obtain rfl := Option.some.inj h
            exact fw_iret (pc := 95) d_X_copy_95 rfl
      · have h := fw_if hc h
        refine fw_iload (pc := 46) d_X_copy_46 0 rfl ?_
        obtain rfl := Option.some.inj h
        exact fw_iret (pc := 48) d_X_copy_48 rfl
