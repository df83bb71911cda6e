abbrev Y_M_in : fw_Y := (⟨"FewTypesModel", "in", "(JJJ)Z"⟩, prog_11_method_2_code, 6, (some .boolean))
abbrev Y_M_isLetter : fw_Y := (⟨"FewTypesModel", "isLetter", "(I)Z"⟩, prog_11_method_4_code, 1, (some .boolean))
abbrev Y_M_isType : fw_Y := (⟨"FewTypesModel", "isType", "(III)Z"⟩, prog_11_method_5_code, 4, (some .boolean))
abbrev Y_M_comes : fw_Y := (⟨"FewTypesModel", "comes", "(IIII)V"⟩, prog_11_method_6_code, 5, none)
abbrev Y_M_cast : fw_Y := (⟨"FewTypesModel", "cast", "(III)I"⟩, prog_11_method_7_code, 4, (some .int))
abbrev Y_M_isOne : fw_Y := (⟨"FewTypesModel", "isOne", "(I)Z"⟩, prog_11_method_8_code, 2, (some .boolean))
abbrev Y_M_told : fw_Y := (⟨"FewTypesModel", "told", "(II)I"⟩, prog_11_method_9_code, 3, (some .int))
abbrev Y_M_goes : fw_Y := (⟨"FewTypesModel", "goes", "(I)V"⟩, prog_11_method_10_code, 3, none)
abbrev Y_M_lose : fw_Y := (⟨"FewTypesModel", "lose", "(I)I"⟩, prog_11_method_11_code, 2, (some .int))
abbrev Y_M_width : fw_Y := (⟨"FewTypesModel", "width", "(II)I"⟩, prog_11_method_12_code, 4, (some .int))
abbrev Y_M_rule : fw_Y := (⟨"FewTypesModel", "rule", "(II)I"⟩, prog_11_method_13_code, 4, (some .int))
abbrev Y_M_type : fw_Y := (⟨"FewTypesModel", "type", "(JI)I"⟩, prog_11_method_14_code, 5, (some .int))
abbrev Y_M_here : fw_Y := (⟨"FewTypesModel", "here", "()I"⟩, prog_11_method_15_code, 1, (some .int))
abbrev Y_M_byteOf : fw_Y := (⟨"FewTypesModel", "byteOf", "(III)I"⟩, prog_11_method_17_code, 5, (some .int))
abbrev Y_M_has : fw_Y := (⟨"FewTypesModel", "has", "(I)Z"⟩, prog_11_method_16_code, 3, (some .boolean))
theorem ms_M_104 : fw_MS "FewTypesModel" 104 Y_M_isType 3 := ⟨fw_m 970 (by decide +kernel) (by decide +kernel), fw_m 971 (by decide +kernel) (by decide +kernel), fw_m 70 (by decide +kernel) (by decide +kernel), fw_m 972 (by decide +kernel) (by decide +kernel), ⟨by decide +kernel, by decide +kernel, by decide +kernel⟩, by decide⟩
theorem ms_M_98 : fw_MS "FewTypesModel" 98 Y_M_isLetter 1 := ⟨fw_m 973 (by decide +kernel) (by decide +kernel), fw_m 974 (by decide +kernel) (by decide +kernel), fw_m 70 (by decide +kernel) (by decide +kernel), fw_m 975 (by decide +kernel) (by decide +kernel), ⟨by decide +kernel, by decide +kernel, by decide +kernel⟩, by decide⟩
theorem cl_M_92 : Cond.constantLong "FewTypesModel" 92 11 ∈ fw_tb := fw_m 976 (by decide +kernel) (by decide +kernel)
theorem ms_M_94 : fw_MS "FewTypesModel" 94 Y_M_in 3 := ⟨fw_m 977 (by decide +kernel) (by decide +kernel), fw_m 978 (by decide +kernel) (by decide +kernel), fw_m 70 (by decide +kernel) (by decide +kernel), fw_m 979 (by decide +kernel) (by decide +kernel), ⟨by decide +kernel, by decide +kernel, by decide +kernel⟩, by decide⟩
theorem cl_M_102 : Cond.constantLong "FewTypesModel" 102 9 ∈ fw_tb := fw_m 980 (by decide +kernel) (by decide +kernel)
theorem fl_M_108 : fw_FL "FewTypesModel" 108 9 0 := ⟨_, _, _, rfl, fw_i9, by decide, fw_m 853 (by decide +kernel) (by decide +kernel)⟩
theorem mv_M_112 : fw_MV "FewTypesModel" 112 Y_M_comes 9 4 := ⟨fw_m 981 (by decide +kernel) (by decide +kernel), fw_m 983 (by decide +kernel) (by decide +kernel), fw_m 32 (by decide +kernel) (by decide +kernel), fw_m 70 (by decide +kernel) (by decide +kernel), fw_m 984 (by decide +kernel) (by decide +kernel), ⟨by decide +kernel, by decide +kernel, by decide +kernel⟩, by decide, _, _, rfl⟩
theorem fl_M_7 : fw_FL "FewTypesModel" 7 9 1 := ⟨_, _, _, rfl, fw_i9, by decide, fw_m 854 (by decide +kernel) (by decide +kernel)⟩
theorem fl_M_13 : fw_FL "FewTypesModel" 13 9 2 := ⟨_, _, _, rfl, fw_i9, by decide, fw_m 855 (by decide +kernel) (by decide +kernel)⟩
theorem fl_M_16 : fw_FL "FewTypesModel" 16 9 3 := ⟨_, _, _, rfl, fw_i9, by decide, fw_m 856 (by decide +kernel) (by decide +kernel)⟩
theorem fp_M_108 : fw_FP "FewTypesModel" 108 9 0 .int := ⟨_, _, _, fw_t9, rfl, fw_i9, by decide, fw_m 853 (by decide +kernel) (by decide +kernel), fw_k9, fw_n9, rfl, by decide +kernel⟩
theorem mv_M_116 : fw_MV "FewTypesModel" 116 Y_M_isOne 9 1 := ⟨fw_m 989 (by decide +kernel) (by decide +kernel), fw_m 991 (by decide +kernel) (by decide +kernel), fw_m 33 (by decide +kernel) (by decide +kernel), fw_m 70 (by decide +kernel) (by decide +kernel), fw_m 992 (by decide +kernel) (by decide +kernel), ⟨by decide +kernel, by decide +kernel, by decide +kernel⟩, by decide, _, _, rfl⟩
theorem cl_M_119 : Cond.constantLong "FewTypesModel" 119 2 ∈ fw_tb := fw_m 993 (by decide +kernel) (by decide +kernel)
theorem mv_M_121 : fw_MV "FewTypesModel" 121 Y_M_goes 9 1 := ⟨fw_m 998 (by decide +kernel) (by decide +kernel), fw_m 1000 (by decide +kernel) (by decide +kernel), fw_m 34 (by decide +kernel) (by decide +kernel), fw_m 70 (by decide +kernel) (by decide +kernel), fw_m 1001 (by decide +kernel) (by decide +kernel), ⟨by decide +kernel, by decide +kernel, by decide +kernel⟩, by decide, _, _, rfl⟩
theorem cl_M_125 : Cond.constantLong "FewTypesModel" 125 4 ∈ fw_tb := fw_m 1006 (by decide +kernel) (by decide +kernel)
theorem fl_M_19 : fw_FL "FewTypesModel" 19 9 4 := ⟨_, _, _, rfl, fw_i9, by decide, fw_m 857 (by decide +kernel) (by decide +kernel)⟩
theorem cl_M_127 : Cond.constantLong "FewTypesModel" 127 3 ∈ fw_tb := fw_m 1011 (by decide +kernel) (by decide +kernel)
theorem fl_M_22 : fw_FL "FewTypesModel" 22 9 5 := ⟨_, _, _, rfl, fw_i9, by decide, fw_m 858 (by decide +kernel) (by decide +kernel)⟩
theorem cl_M_129 : Cond.constantLong "FewTypesModel" 129 8 ∈ fw_tb := fw_m 1016 (by decide +kernel) (by decide +kernel)
theorem cl_M_131 : Cond.constantLong "FewTypesModel" 131 255 ∈ fw_tb := fw_m 1017 (by decide +kernel) (by decide +kernel)
theorem cl_M_133 : Cond.constantLong "FewTypesModel" 133 32 ∈ fw_tb := fw_m 1018 (by decide +kernel) (by decide +kernel)
theorem cl_M_135 : Cond.constantLong "FewTypesModel" 135 126 ∈ fw_tb := fw_m 1019 (by decide +kernel) (by decide +kernel)
theorem fl_M_137 : fw_FL "FewTypesModel" 137 9 15 := ⟨_, _, _, rfl, fw_i9, by decide, fw_m 868 (by decide +kernel) (by decide +kernel)⟩
theorem fl_M_37 : fw_FL "FewTypesModel" 37 9 14 := ⟨_, _, _, rfl, fw_i9, by decide, fw_m 867 (by decide +kernel) (by decide +kernel)⟩
theorem fp_M_137 : fw_FP "FewTypesModel" 137 9 15 .int := ⟨_, _, _, fw_t9, rfl, fw_i9, by decide, fw_m 868 (by decide +kernel) (by decide +kernel), fw_k9, fw_n9, rfl, by decide +kernel⟩
theorem fp_M_140 : fw_FP "FewTypesModel" 140 9 16 .int := ⟨_, _, _, fw_t9, rfl, fw_i9, by decide, fw_m 869 (by decide +kernel) (by decide +kernel), fw_k9, fw_n9, rfl, by decide +kernel⟩
theorem fp_M_143 : fw_FP "FewTypesModel" 143 9 17 .boolean := ⟨_, _, _, fw_t9, rfl, fw_i9, by decide, fw_m 870 (by decide +kernel) (by decide +kernel), fw_k9, fw_n9, rfl, by decide +kernel⟩
theorem fl_M_143 : fw_FL "FewTypesModel" 143 9 17 := ⟨_, _, _, rfl, fw_i9, by decide, fw_m 870 (by decide +kernel) (by decide +kernel)⟩
theorem mv_M_147 : fw_MV "FewTypesModel" 147 Y_M_here 9 0 := ⟨fw_m 1028 (by decide +kernel) (by decide +kernel), fw_m 1030 (by decide +kernel) (by decide +kernel), fw_m 36 (by decide +kernel) (by decide +kernel), fw_m 70 (by decide +kernel) (by decide +kernel), fw_m 1031 (by decide +kernel) (by decide +kernel), ⟨by decide +kernel, by decide +kernel, by decide +kernel⟩, by decide, _, _, rfl⟩
theorem fl_M_140 : fw_FL "FewTypesModel" 140 9 16 := ⟨_, _, _, rfl, fw_i9, by decide, fw_m 869 (by decide +kernel) (by decide +kernel)⟩
theorem d_M_in_0 : decode prog_11_method_2_code 0 = .ok (.lload_n 0, 1) := by decide +kernel
theorem d_M_in_1 : decode prog_11_method_2_code 1 = .ok (.lload_n 2, 1) := by decide +kernel
theorem d_M_in_2 : decode prog_11_method_2_code 2 = .ok (.lcmp, 1) := by decide +kernel
theorem d_M_in_3 : decode prog_11_method_2_code 3 = .ok (.ifCond .lt 14, 3) := by decide +kernel
theorem d_M_in_6 : decode prog_11_method_2_code 6 = .ok (.lload_n 0, 1) := by decide +kernel
theorem d_M_in_7 : decode prog_11_method_2_code 7 = .ok (.lload 4, 2) := by decide +kernel
theorem d_M_in_9 : decode prog_11_method_2_code 9 = .ok (.lcmp, 1) := by decide +kernel
theorem d_M_in_10 : decode prog_11_method_2_code 10 = .ok (.ifCond .gt 7, 3) := by decide +kernel
theorem d_M_in_13 : decode prog_11_method_2_code 13 = .ok (.iconst 1, 1) := by decide +kernel
theorem d_M_in_14 : decode prog_11_method_2_code 14 = .ok (.goto 4, 3) := by decide +kernel
theorem d_M_in_17 : decode prog_11_method_2_code 17 = .ok (.iconst 0, 1) := by decide +kernel
theorem d_M_in_18 : decode prog_11_method_2_code 18 = .ok (.ireturn, 1) := by decide +kernel
theorem d_M_isLetter_0 : decode prog_11_method_4_code 0 = .ok (.iload_n 0, 1) := by decide +kernel
theorem d_M_isLetter_1 : decode prog_11_method_4_code 1 = .ok (.i2l, 1) := by decide +kernel
theorem d_M_isLetter_2 : decode prog_11_method_4_code 2 = .ok (.lconst 0, 1) := by decide +kernel
theorem d_M_isLetter_3 : decode prog_11_method_4_code 3 = .ok (.ldc2_w 92, 3) := by decide +kernel
theorem d_M_isLetter_6 : decode prog_11_method_4_code 6 = .ok (.invokestatic 94, 3) := by decide +kernel
theorem d_M_isLetter_9 : decode prog_11_method_4_code 9 = .ok (.ireturn, 1) := by decide +kernel
theorem d_M_isType_0 : decode prog_11_method_5_code 0 = .ok (.iload_n 0, 1) := by decide +kernel
theorem d_M_isType_1 : decode prog_11_method_5_code 1 = .ok (.ifCond .ne 15, 3) := by decide +kernel
theorem d_M_isType_4 : decode prog_11_method_5_code 4 = .ok (.iload_n 2, 1) := by decide +kernel
theorem d_M_isType_5 : decode prog_11_method_5_code 5 = .ok (.ifCond .ne 7, 3) := by decide +kernel
theorem d_M_isType_8 : decode prog_11_method_5_code 8 = .ok (.iconst 1, 1) := by decide +kernel
theorem d_M_isType_9 : decode prog_11_method_5_code 9 = .ok (.goto 66, 3) := by decide +kernel
theorem d_M_isType_12 : decode prog_11_method_5_code 12 = .ok (.iconst 0, 1) := by decide +kernel
theorem d_M_isType_13 : decode prog_11_method_5_code 13 = .ok (.goto 62, 3) := by decide +kernel
theorem d_M_isType_16 : decode prog_11_method_5_code 16 = .ok (.iload_n 0, 1) := by decide +kernel
theorem d_M_isType_17 : decode prog_11_method_5_code 17 = .ok (.iconst 1, 1) := by decide +kernel
theorem d_M_isType_18 : decode prog_11_method_5_code 18 = .ok (.if_icmp .ne 23, 3) := by decide +kernel
theorem d_M_isType_21 : decode prog_11_method_5_code 21 = .ok (.iload_n 2, 1) := by decide +kernel
theorem d_M_isType_22 : decode prog_11_method_5_code 22 = .ok (.invokestatic 98, 3) := by decide +kernel
theorem d_M_isType_25 : decode prog_11_method_5_code 25 = .ok (.ifCond .eq 12, 3) := by decide +kernel
theorem d_M_isType_28 : decode prog_11_method_5_code 28 = .ok (.iload_n 2, 1) := by decide +kernel
theorem d_M_isType_29 : decode prog_11_method_5_code 29 = .ok (.iload_n 1, 1) := by decide +kernel
theorem d_M_isType_30 : decode prog_11_method_5_code 30 = .ok (.if_icmp .eq 7, 3) := by decide +kernel
theorem d_M_isType_33 : decode prog_11_method_5_code 33 = .ok (.iconst 1, 1) := by decide +kernel
theorem d_M_isType_34 : decode prog_11_method_5_code 34 = .ok (.goto 41, 3) := by decide +kernel
theorem d_M_isType_37 : decode prog_11_method_5_code 37 = .ok (.iconst 0, 1) := by decide +kernel
theorem d_M_isType_38 : decode prog_11_method_5_code 38 = .ok (.goto 37, 3) := by decide +kernel
theorem d_M_isType_41 : decode prog_11_method_5_code 41 = .ok (.iload_n 0, 1) := by decide +kernel
theorem d_M_isType_42 : decode prog_11_method_5_code 42 = .ok (.iconst 2, 1) := by decide +kernel
theorem d_M_isType_43 : decode prog_11_method_5_code 43 = .ok (.if_icmp .ne 10, 3) := by decide +kernel
theorem d_M_isType_46 : decode prog_11_method_5_code 46 = .ok (.iload_n 2, 1) := by decide +kernel
theorem d_M_isType_47 : decode prog_11_method_5_code 47 = .ok (.invokestatic 98, 3) := by decide +kernel
theorem d_M_isType_50 : decode prog_11_method_5_code 50 = .ok (.goto 25, 3) := by decide +kernel
theorem d_M_isType_53 : decode prog_11_method_5_code 53 = .ok (.iload_n 0, 1) := by decide +kernel
theorem d_M_isType_54 : decode prog_11_method_5_code 54 = .ok (.iconst 3, 1) := by decide +kernel
theorem d_M_isType_55 : decode prog_11_method_5_code 55 = .ok (.if_icmp .ne 19, 3) := by decide +kernel
theorem d_M_isType_58 : decode prog_11_method_5_code 58 = .ok (.iload_n 2, 1) := by decide +kernel
theorem d_M_isType_59 : decode prog_11_method_5_code 59 = .ok (.i2l, 1) := by decide +kernel
theorem d_M_isType_60 : decode prog_11_method_5_code 60 = .ok (.lconst 1, 1) := by decide +kernel
theorem d_M_isType_61 : decode prog_11_method_5_code 61 = .ok (.ldc2_w 102, 3) := by decide +kernel
theorem d_M_isType_64 : decode prog_11_method_5_code 64 = .ok (.invokestatic 94, 3) := by decide +kernel
theorem d_M_isType_67 : decode prog_11_method_5_code 67 = .ok (.ifCond .eq 7, 3) := by decide +kernel
theorem d_M_isType_70 : decode prog_11_method_5_code 70 = .ok (.iconst 1, 1) := by decide +kernel
theorem d_M_isType_71 : decode prog_11_method_5_code 71 = .ok (.goto 4, 3) := by decide +kernel
theorem d_M_isType_74 : decode prog_11_method_5_code 74 = .ok (.iconst 0, 1) := by decide +kernel
theorem d_M_isType_75 : decode prog_11_method_5_code 75 = .ok (.istore_n 3, 1) := by decide +kernel
theorem d_M_isType_76 : decode prog_11_method_5_code 76 = .ok (.iload_n 3, 1) := by decide +kernel
theorem d_M_isType_77 : decode prog_11_method_5_code 77 = .ok (.ifCond .eq 14, 3) := by decide +kernel
theorem d_M_isType_80 : decode prog_11_method_5_code 80 = .ok (.iload_n 1, 1) := by decide +kernel
theorem d_M_isType_81 : decode prog_11_method_5_code 81 = .ok (.invokestatic 98, 3) := by decide +kernel
theorem d_M_isType_84 : decode prog_11_method_5_code 84 = .ok (.ifCond .eq 7, 3) := by decide +kernel
theorem d_M_isType_87 : decode prog_11_method_5_code 87 = .ok (.iconst 1, 1) := by decide +kernel
theorem d_M_isType_88 : decode prog_11_method_5_code 88 = .ok (.goto 4, 3) := by decide +kernel
theorem d_M_isType_91 : decode prog_11_method_5_code 91 = .ok (.iconst 0, 1) := by decide +kernel
theorem d_M_isType_92 : decode prog_11_method_5_code 92 = .ok (.ireturn, 1) := by decide +kernel
theorem d_M_comes_0 : decode prog_11_method_6_code 0 = .ok (.aload_n 0, 1) := by decide +kernel
theorem d_M_comes_1 : decode prog_11_method_6_code 1 = .ok (.getfield 7, 3) := by decide +kernel
theorem d_M_comes_4 : decode prog_11_method_6_code 4 = .ok (.iload_n 1, 1) := by decide +kernel
theorem d_M_comes_5 : decode prog_11_method_6_code 5 = .ok (.iload_n 2, 1) := by decide +kernel
theorem d_M_comes_6 : decode prog_11_method_6_code 6 = .ok (.iastore, 1) := by decide +kernel
theorem d_M_comes_7 : decode prog_11_method_6_code 7 = .ok (.aload_n 0, 1) := by decide +kernel
theorem d_M_comes_8 : decode prog_11_method_6_code 8 = .ok (.getfield 13, 3) := by decide +kernel
theorem d_M_comes_11 : decode prog_11_method_6_code 11 = .ok (.iload_n 1, 1) := by decide +kernel
theorem d_M_comes_12 : decode prog_11_method_6_code 12 = .ok (.iload_n 3, 1) := by decide +kernel
theorem d_M_comes_13 : decode prog_11_method_6_code 13 = .ok (.iastore, 1) := by decide +kernel
theorem d_M_comes_14 : decode prog_11_method_6_code 14 = .ok (.aload_n 0, 1) := by decide +kernel
theorem d_M_comes_15 : decode prog_11_method_6_code 15 = .ok (.getfield 16, 3) := by decide +kernel
theorem d_M_comes_18 : decode prog_11_method_6_code 18 = .ok (.iload_n 1, 1) := by decide +kernel
theorem d_M_comes_19 : decode prog_11_method_6_code 19 = .ok (.iload 4, 2) := by decide +kernel
theorem d_M_comes_21 : decode prog_11_method_6_code 21 = .ok (.iastore, 1) := by decide +kernel
theorem d_M_comes_22 : decode prog_11_method_6_code 22 = .ok (.return_, 1) := by decide +kernel
theorem d_M_cast_0 : decode prog_11_method_7_code 0 = .ok (.iload_n 1, 1) := by decide +kernel
theorem d_M_cast_1 : decode prog_11_method_7_code 1 = .ok (.iload_n 2, 1) := by decide +kernel
theorem d_M_cast_2 : decode prog_11_method_7_code 2 = .ok (.iload_n 3, 1) := by decide +kernel
theorem d_M_cast_3 : decode prog_11_method_7_code 3 = .ok (.invokestatic 104, 3) := by decide +kernel
theorem d_M_cast_6 : decode prog_11_method_7_code 6 = .ok (.ifCond .ne 5, 3) := by decide +kernel
theorem d_M_cast_9 : decode prog_11_method_7_code 9 = .ok (.iconst (-1), 1) := by decide +kernel
theorem d_M_cast_10 : decode prog_11_method_7_code 10 = .ok (.ireturn, 1) := by decide +kernel
theorem d_M_cast_11 : decode prog_11_method_7_code 11 = .ok (.aload_n 0, 1) := by decide +kernel
theorem d_M_cast_12 : decode prog_11_method_7_code 12 = .ok (.getfield 108, 3) := by decide +kernel
theorem d_M_cast_15 : decode prog_11_method_7_code 15 = .ok (.bipush 10, 2) := by decide +kernel
theorem d_M_cast_17 : decode prog_11_method_7_code 17 = .ok (.if_icmp .ne 6, 3) := by decide +kernel
theorem d_M_cast_20 : decode prog_11_method_7_code 20 = .ok (.bipush (-3), 2) := by decide +kernel
theorem d_M_cast_22 : decode prog_11_method_7_code 22 = .ok (.ireturn, 1) := by decide +kernel
theorem d_M_cast_23 : decode prog_11_method_7_code 23 = .ok (.aload_n 0, 1) := by decide +kernel
theorem d_M_cast_24 : decode prog_11_method_7_code 24 = .ok (.aload_n 0, 1) := by decide +kernel
theorem d_M_cast_25 : decode prog_11_method_7_code 25 = .ok (.getfield 108, 3) := by decide +kernel
theorem d_M_cast_28 : decode prog_11_method_7_code 28 = .ok (.iload_n 1, 1) := by decide +kernel
theorem d_M_cast_29 : decode prog_11_method_7_code 29 = .ok (.iload_n 2, 1) := by decide +kernel
theorem d_M_cast_30 : decode prog_11_method_7_code 30 = .ok (.iload_n 3, 1) := by decide +kernel
theorem d_M_cast_31 : decode prog_11_method_7_code 31 = .ok (.invokevirtual 112, 3) := by decide +kernel
theorem d_M_cast_34 : decode prog_11_method_7_code 34 = .ok (.aload_n 0, 1) := by decide +kernel
theorem d_M_cast_35 : decode prog_11_method_7_code 35 = .ok (.dup, 1) := by decide +kernel
theorem d_M_cast_36 : decode prog_11_method_7_code 36 = .ok (.getfield 108, 3) := by decide +kernel
theorem d_M_cast_39 : decode prog_11_method_7_code 39 = .ok (.iconst 1, 1) := by decide +kernel
theorem d_M_cast_40 : decode prog_11_method_7_code 40 = .ok (.iadd, 1) := by decide +kernel
theorem d_M_cast_41 : decode prog_11_method_7_code 41 = .ok (.putfield 108, 3) := by decide +kernel
theorem d_M_cast_44 : decode prog_11_method_7_code 44 = .ok (.aload_n 0, 1) := by decide +kernel
theorem d_M_cast_45 : decode prog_11_method_7_code 45 = .ok (.getfield 108, 3) := by decide +kernel
theorem d_M_cast_48 : decode prog_11_method_7_code 48 = .ok (.iconst 1, 1) := by decide +kernel
theorem d_M_cast_49 : decode prog_11_method_7_code 49 = .ok (.isub, 1) := by decide +kernel
theorem d_M_cast_50 : decode prog_11_method_7_code 50 = .ok (.ireturn, 1) := by decide +kernel
theorem d_M_isOne_0 : decode prog_11_method_8_code 0 = .ok (.iload_n 1, 1) := by decide +kernel
theorem d_M_isOne_1 : decode prog_11_method_8_code 1 = .ok (.i2l, 1) := by decide +kernel
theorem d_M_isOne_2 : decode prog_11_method_8_code 2 = .ok (.lconst 0, 1) := by decide +kernel
theorem d_M_isOne_3 : decode prog_11_method_8_code 3 = .ok (.aload_n 0, 1) := by decide +kernel
theorem d_M_isOne_4 : decode prog_11_method_8_code 4 = .ok (.getfield 108, 3) := by decide +kernel
theorem d_M_isOne_7 : decode prog_11_method_8_code 7 = .ok (.iconst 1, 1) := by decide +kernel
theorem d_M_isOne_8 : decode prog_11_method_8_code 8 = .ok (.isub, 1) := by decide +kernel
theorem d_M_isOne_9 : decode prog_11_method_8_code 9 = .ok (.i2l, 1) := by decide +kernel
theorem d_M_isOne_10 : decode prog_11_method_8_code 10 = .ok (.invokestatic 94, 3) := by decide +kernel
theorem d_M_isOne_13 : decode prog_11_method_8_code 13 = .ok (.ireturn, 1) := by decide +kernel
theorem d_M_told_0 : decode prog_11_method_9_code 0 = .ok (.aload_n 0, 1) := by decide +kernel
theorem d_M_told_1 : decode prog_11_method_9_code 1 = .ok (.iload_n 1, 1) := by decide +kernel
theorem d_M_told_2 : decode prog_11_method_9_code 2 = .ok (.invokevirtual 116, 3) := by decide +kernel
theorem d_M_told_5 : decode prog_11_method_9_code 5 = .ok (.ifCond .eq 15, 3) := by decide +kernel
theorem d_M_told_8 : decode prog_11_method_9_code 8 = .ok (.iload_n 2, 1) := by decide +kernel
theorem d_M_told_9 : decode prog_11_method_9_code 9 = .ok (.i2l, 1) := by decide +kernel
theorem d_M_told_10 : decode prog_11_method_9_code 10 = .ok (.lconst 0, 1) := by decide +kernel
theorem d_M_told_11 : decode prog_11_method_9_code 11 = .ok (.ldc2_w 119, 3) := by decide +kernel
theorem d_M_told_14 : decode prog_11_method_9_code 14 = .ok (.invokestatic 94, 3) := by decide +kernel
theorem d_M_told_17 : decode prog_11_method_9_code 17 = .ok (.ifCond .ne 5, 3) := by decide +kernel
theorem d_M_told_20 : decode prog_11_method_9_code 20 = .ok (.iconst (-1), 1) := by decide +kernel
theorem d_M_told_21 : decode prog_11_method_9_code 21 = .ok (.ireturn, 1) := by decide +kernel
theorem d_M_told_22 : decode prog_11_method_9_code 22 = .ok (.iload_n 2, 1) := by decide +kernel
theorem d_M_told_23 : decode prog_11_method_9_code 23 = .ok (.ifCond .ne 12, 3) := by decide +kernel
theorem d_M_told_26 : decode prog_11_method_9_code 26 = .ok (.aload_n 0, 1) := by decide +kernel
theorem d_M_told_27 : decode prog_11_method_9_code 27 = .ok (.getfield 7, 3) := by decide +kernel
theorem d_M_told_30 : decode prog_11_method_9_code 30 = .ok (.iload_n 1, 1) := by decide +kernel
theorem d_M_told_31 : decode prog_11_method_9_code 31 = .ok (.iaload, 1) := by decide +kernel
theorem d_M_told_32 : decode prog_11_method_9_code 32 = .ok (.goto 23, 3) := by decide +kernel
theorem d_M_told_35 : decode prog_11_method_9_code 35 = .ok (.iload_n 2, 1) := by decide +kernel
theorem d_M_told_36 : decode prog_11_method_9_code 36 = .ok (.iconst 1, 1) := by decide +kernel
theorem d_M_told_37 : decode prog_11_method_9_code 37 = .ok (.if_icmp .ne 12, 3) := by decide +kernel
theorem d_M_told_40 : decode prog_11_method_9_code 40 = .ok (.aload_n 0, 1) := by decide +kernel
theorem d_M_told_41 : decode prog_11_method_9_code 41 = .ok (.getfield 13, 3) := by decide +kernel
theorem d_M_told_44 : decode prog_11_method_9_code 44 = .ok (.iload_n 1, 1) := by decide +kernel
theorem d_M_told_45 : decode prog_11_method_9_code 45 = .ok (.iaload, 1) := by decide +kernel
theorem d_M_told_46 : decode prog_11_method_9_code 46 = .ok (.goto 9, 3) := by decide +kernel
theorem d_M_told_49 : decode prog_11_method_9_code 49 = .ok (.aload_n 0, 1) := by decide +kernel
theorem d_M_told_50 : decode prog_11_method_9_code 50 = .ok (.getfield 16, 3) := by decide +kernel
theorem d_M_told_53 : decode prog_11_method_9_code 53 = .ok (.iload_n 1, 1) := by decide +kernel
theorem d_M_told_54 : decode prog_11_method_9_code 54 = .ok (.iaload, 1) := by decide +kernel
theorem d_M_told_55 : decode prog_11_method_9_code 55 = .ok (.ireturn, 1) := by decide +kernel
theorem d_M_goes_0 : decode prog_11_method_10_code 0 = .ok (.aload_n 0, 1) := by decide +kernel
theorem d_M_goes_1 : decode prog_11_method_10_code 1 = .ok (.dup, 1) := by decide +kernel
theorem d_M_goes_2 : decode prog_11_method_10_code 2 = .ok (.getfield 108, 3) := by decide +kernel
theorem d_M_goes_5 : decode prog_11_method_10_code 5 = .ok (.iconst 1, 1) := by decide +kernel
theorem d_M_goes_6 : decode prog_11_method_10_code 6 = .ok (.isub, 1) := by decide +kernel
theorem d_M_goes_7 : decode prog_11_method_10_code 7 = .ok (.putfield 108, 3) := by decide +kernel
theorem d_M_goes_10 : decode prog_11_method_10_code 10 = .ok (.iload_n 1, 1) := by decide +kernel
theorem d_M_goes_11 : decode prog_11_method_10_code 11 = .ok (.istore_n 2, 1) := by decide +kernel
theorem d_M_goes_12 : decode prog_11_method_10_code 12 = .ok (.iload_n 2, 1) := by decide +kernel
theorem d_M_goes_13 : decode prog_11_method_10_code 13 = .ok (.aload_n 0, 1) := by decide +kernel
theorem d_M_goes_14 : decode prog_11_method_10_code 14 = .ok (.getfield 108, 3) := by decide +kernel
theorem d_M_goes_17 : decode prog_11_method_10_code 17 = .ok (.if_icmp .ge 38, 3) := by decide +kernel
theorem d_M_goes_20 : decode prog_11_method_10_code 20 = .ok (.aload_n 0, 1) := by decide +kernel
theorem d_M_goes_21 : decode prog_11_method_10_code 21 = .ok (.iload_n 2, 1) := by decide +kernel
theorem d_M_goes_22 : decode prog_11_method_10_code 22 = .ok (.aload_n 0, 1) := by decide +kernel
theorem d_M_goes_23 : decode prog_11_method_10_code 23 = .ok (.getfield 7, 3) := by decide +kernel
theorem d_M_goes_26 : decode prog_11_method_10_code 26 = .ok (.iload_n 2, 1) := by decide +kernel
theorem d_M_goes_27 : decode prog_11_method_10_code 27 = .ok (.iconst 1, 1) := by decide +kernel
theorem d_M_goes_28 : decode prog_11_method_10_code 28 = .ok (.iadd, 1) := by decide +kernel
theorem d_M_goes_29 : decode prog_11_method_10_code 29 = .ok (.iaload, 1) := by decide +kernel
theorem d_M_goes_30 : decode prog_11_method_10_code 30 = .ok (.aload_n 0, 1) := by decide +kernel
theorem d_M_goes_31 : decode prog_11_method_10_code 31 = .ok (.getfield 13, 3) := by decide +kernel
theorem d_M_goes_34 : decode prog_11_method_10_code 34 = .ok (.iload_n 2, 1) := by decide +kernel
theorem d_M_goes_35 : decode prog_11_method_10_code 35 = .ok (.iconst 1, 1) := by decide +kernel
theorem d_M_goes_36 : decode prog_11_method_10_code 36 = .ok (.iadd, 1) := by decide +kernel
theorem d_M_goes_37 : decode prog_11_method_10_code 37 = .ok (.iaload, 1) := by decide +kernel
theorem d_M_goes_38 : decode prog_11_method_10_code 38 = .ok (.aload_n 0, 1) := by decide +kernel
theorem d_M_goes_39 : decode prog_11_method_10_code 39 = .ok (.getfield 16, 3) := by decide +kernel
theorem d_M_goes_42 : decode prog_11_method_10_code 42 = .ok (.iload_n 2, 1) := by decide +kernel
theorem d_M_goes_43 : decode prog_11_method_10_code 43 = .ok (.iconst 1, 1) := by decide +kernel
theorem d_M_goes_44 : decode prog_11_method_10_code 44 = .ok (.iadd, 1) := by decide +kernel
theorem d_M_goes_45 : decode prog_11_method_10_code 45 = .ok (.iaload, 1) := by decide +kernel
theorem d_M_goes_46 : decode prog_11_method_10_code 46 = .ok (.invokevirtual 112, 3) := by decide +kernel
theorem d_M_goes_49 : decode prog_11_method_10_code 49 = .ok (.iinc 2 1, 3) := by decide +kernel
theorem d_M_goes_52 : decode prog_11_method_10_code 52 = .ok (.goto (-40), 3) := by decide +kernel
theorem d_M_goes_55 : decode prog_11_method_10_code 55 = .ok (.return_, 1) := by decide +kernel
theorem d_M_lose_0 : decode prog_11_method_11_code 0 = .ok (.aload_n 0, 1) := by decide +kernel
theorem d_M_lose_1 : decode prog_11_method_11_code 1 = .ok (.iload_n 1, 1) := by decide +kernel
theorem d_M_lose_2 : decode prog_11_method_11_code 2 = .ok (.invokevirtual 116, 3) := by decide +kernel
theorem d_M_lose_5 : decode prog_11_method_11_code 5 = .ok (.ifCond .ne 5, 3) := by decide +kernel
theorem d_M_lose_8 : decode prog_11_method_11_code 8 = .ok (.iconst (-1), 1) := by decide +kernel
theorem d_M_lose_9 : decode prog_11_method_11_code 9 = .ok (.ireturn, 1) := by decide +kernel
theorem d_M_lose_10 : decode prog_11_method_11_code 10 = .ok (.aload_n 0, 1) := by decide +kernel
theorem d_M_lose_11 : decode prog_11_method_11_code 11 = .ok (.iload_n 1, 1) := by decide +kernel
theorem d_M_lose_12 : decode prog_11_method_11_code 12 = .ok (.invokevirtual 121, 3) := by decide +kernel
theorem d_M_lose_15 : decode prog_11_method_11_code 15 = .ok (.aload_n 0, 1) := by decide +kernel
theorem d_M_lose_16 : decode prog_11_method_11_code 16 = .ok (.getfield 108, 3) := by decide +kernel
theorem d_M_lose_19 : decode prog_11_method_11_code 19 = .ok (.ireturn, 1) := by decide +kernel
theorem d_M_width_0 : decode prog_11_method_12_code 0 = .ok (.iload_n 1, 1) := by decide +kernel
theorem d_M_width_1 : decode prog_11_method_12_code 1 = .ok (.invokestatic 98, 3) := by decide +kernel
theorem d_M_width_4 : decode prog_11_method_12_code 4 = .ok (.ifCond .eq 15, 3) := by decide +kernel
theorem d_M_width_7 : decode prog_11_method_12_code 7 = .ok (.iload_n 2, 1) := by decide +kernel
theorem d_M_width_8 : decode prog_11_method_12_code 8 = .ok (.i2l, 1) := by decide +kernel
theorem d_M_width_9 : decode prog_11_method_12_code 9 = .ok (.lconst 1, 1) := by decide +kernel
theorem d_M_width_10 : decode prog_11_method_12_code 10 = .ok (.ldc2_w 125, 3) := by decide +kernel
theorem d_M_width_13 : decode prog_11_method_12_code 13 = .ok (.invokestatic 94, 3) := by decide +kernel
theorem d_M_width_16 : decode prog_11_method_12_code 16 = .ok (.ifCond .ne 5, 3) := by decide +kernel
theorem d_M_width_19 : decode prog_11_method_12_code 19 = .ok (.iconst (-1), 1) := by decide +kernel
theorem d_M_width_20 : decode prog_11_method_12_code 20 = .ok (.ireturn, 1) := by decide +kernel
theorem d_M_width_21 : decode prog_11_method_12_code 21 = .ok (.aload_n 0, 1) := by decide +kernel
theorem d_M_width_22 : decode prog_11_method_12_code 22 = .ok (.getfield 19, 3) := by decide +kernel
theorem d_M_width_25 : decode prog_11_method_12_code 25 = .ok (.iload_n 1, 1) := by decide +kernel
theorem d_M_width_26 : decode prog_11_method_12_code 26 = .ok (.iaload, 1) := by decide +kernel
theorem d_M_width_27 : decode prog_11_method_12_code 27 = .ok (.istore_n 3, 1) := by decide +kernel
theorem d_M_width_28 : decode prog_11_method_12_code 28 = .ok (.aload_n 0, 1) := by decide +kernel
theorem d_M_width_29 : decode prog_11_method_12_code 29 = .ok (.getfield 19, 3) := by decide +kernel
theorem d_M_width_32 : decode prog_11_method_12_code 32 = .ok (.iload_n 1, 1) := by decide +kernel
theorem d_M_width_33 : decode prog_11_method_12_code 33 = .ok (.iload_n 2, 1) := by decide +kernel
theorem d_M_width_34 : decode prog_11_method_12_code 34 = .ok (.iastore, 1) := by decide +kernel
theorem d_M_width_35 : decode prog_11_method_12_code 35 = .ok (.iload_n 3, 1) := by decide +kernel
theorem d_M_width_36 : decode prog_11_method_12_code 36 = .ok (.ireturn, 1) := by decide +kernel
theorem d_M_rule_0 : decode prog_11_method_13_code 0 = .ok (.iload_n 1, 1) := by decide +kernel
theorem d_M_rule_1 : decode prog_11_method_13_code 1 = .ok (.i2l, 1) := by decide +kernel
theorem d_M_rule_2 : decode prog_11_method_13_code 2 = .ok (.lconst 0, 1) := by decide +kernel
theorem d_M_rule_3 : decode prog_11_method_13_code 3 = .ok (.ldc2_w 119, 3) := by decide +kernel
theorem d_M_rule_6 : decode prog_11_method_13_code 6 = .ok (.invokestatic 94, 3) := by decide +kernel
theorem d_M_rule_9 : decode prog_11_method_13_code 9 = .ok (.ifCond .eq 43, 3) := by decide +kernel
theorem d_M_rule_12 : decode prog_11_method_13_code 12 = .ok (.iload_n 2, 1) := by decide +kernel
theorem d_M_rule_13 : decode prog_11_method_13_code 13 = .ok (.i2l, 1) := by decide +kernel
theorem d_M_rule_14 : decode prog_11_method_13_code 14 = .ok (.iload_n 1, 1) := by decide +kernel
theorem d_M_rule_15 : decode prog_11_method_13_code 15 = .ok (.iconst 2, 1) := by decide +kernel
theorem d_M_rule_16 : decode prog_11_method_13_code 16 = .ok (.if_icmp .ne 7, 3) := by decide +kernel
theorem d_M_rule_19 : decode prog_11_method_13_code 19 = .ok (.lconst 1, 1) := by decide +kernel
theorem d_M_rule_20 : decode prog_11_method_13_code 20 = .ok (.goto 4, 3) := by decide +kernel
theorem d_M_rule_23 : decode prog_11_method_13_code 23 = .ok (.lconst 0, 1) := by decide +kernel
theorem d_M_rule_24 : decode prog_11_method_13_code 24 = .ok (.iload_n 1, 1) := by decide +kernel
theorem d_M_rule_25 : decode prog_11_method_13_code 25 = .ok (.ifCond .ne 7, 3) := by decide +kernel
theorem d_M_rule_28 : decode prog_11_method_13_code 28 = .ok (.lconst 1, 1) := by decide +kernel
theorem d_M_rule_29 : decode prog_11_method_13_code 29 = .ok (.goto 17, 3) := by decide +kernel
theorem d_M_rule_32 : decode prog_11_method_13_code 32 = .ok (.iload_n 1, 1) := by decide +kernel
theorem d_M_rule_33 : decode prog_11_method_13_code 33 = .ok (.iconst 1, 1) := by decide +kernel
theorem d_M_rule_34 : decode prog_11_method_13_code 34 = .ok (.if_icmp .ne 9, 3) := by decide +kernel
theorem d_M_rule_37 : decode prog_11_method_13_code 37 = .ok (.ldc2_w 127, 3) := by decide +kernel
theorem d_M_rule_40 : decode prog_11_method_13_code 40 = .ok (.goto 6, 3) := by decide +kernel
theorem d_M_rule_43 : decode prog_11_method_13_code 43 = .ok (.ldc2_w 102, 3) := by decide +kernel
theorem d_M_rule_46 : decode prog_11_method_13_code 46 = .ok (.invokestatic 94, 3) := by decide +kernel
theorem d_M_rule_49 : decode prog_11_method_13_code 49 = .ok (.ifCond .ne 5, 3) := by decide +kernel
theorem d_M_rule_52 : decode prog_11_method_13_code 52 = .ok (.iconst (-1), 1) := by decide +kernel
theorem d_M_rule_53 : decode prog_11_method_13_code 53 = .ok (.ireturn, 1) := by decide +kernel
theorem d_M_rule_54 : decode prog_11_method_13_code 54 = .ok (.aload_n 0, 1) := by decide +kernel
theorem d_M_rule_55 : decode prog_11_method_13_code 55 = .ok (.getfield 22, 3) := by decide +kernel
theorem d_M_rule_58 : decode prog_11_method_13_code 58 = .ok (.iload_n 1, 1) := by decide +kernel
theorem d_M_rule_59 : decode prog_11_method_13_code 59 = .ok (.iaload, 1) := by decide +kernel
theorem d_M_rule_60 : decode prog_11_method_13_code 60 = .ok (.istore_n 3, 1) := by decide +kernel
theorem d_M_rule_61 : decode prog_11_method_13_code 61 = .ok (.aload_n 0, 1) := by decide +kernel
theorem d_M_rule_62 : decode prog_11_method_13_code 62 = .ok (.getfield 22, 3) := by decide +kernel
theorem d_M_rule_65 : decode prog_11_method_13_code 65 = .ok (.iload_n 1, 1) := by decide +kernel
theorem d_M_rule_66 : decode prog_11_method_13_code 66 = .ok (.iload_n 2, 1) := by decide +kernel
theorem d_M_rule_67 : decode prog_11_method_13_code 67 = .ok (.iastore, 1) := by decide +kernel
theorem d_M_rule_68 : decode prog_11_method_13_code 68 = .ok (.iload_n 3, 1) := by decide +kernel
theorem d_M_rule_69 : decode prog_11_method_13_code 69 = .ok (.ireturn, 1) := by decide +kernel
theorem d_M_type_0 : decode prog_11_method_14_code 0 = .ok (.iload_n 3, 1) := by decide +kernel
theorem d_M_type_1 : decode prog_11_method_14_code 1 = .ok (.i2l, 1) := by decide +kernel
theorem d_M_type_2 : decode prog_11_method_14_code 2 = .ok (.lconst 1, 1) := by decide +kernel
theorem d_M_type_3 : decode prog_11_method_14_code 3 = .ok (.ldc2_w 129, 3) := by decide +kernel
theorem d_M_type_6 : decode prog_11_method_14_code 6 = .ok (.invokestatic 94, 3) := by decide +kernel
theorem d_M_type_9 : decode prog_11_method_14_code 9 = .ok (.ifCond .ne 5, 3) := by decide +kernel
theorem d_M_type_12 : decode prog_11_method_14_code 12 = .ok (.iconst (-1), 1) := by decide +kernel
theorem d_M_type_13 : decode prog_11_method_14_code 13 = .ok (.ireturn, 1) := by decide +kernel
theorem d_M_type_14 : decode prog_11_method_14_code 14 = .ok (.iconst 0, 1) := by decide +kernel
theorem d_M_type_15 : decode prog_11_method_14_code 15 = .ok (.istore 4, 2) := by decide +kernel
theorem d_M_type_17 : decode prog_11_method_14_code 17 = .ok (.iload 4, 2) := by decide +kernel
theorem d_M_type_19 : decode prog_11_method_14_code 19 = .ok (.iload_n 3, 1) := by decide +kernel
theorem d_M_type_20 : decode prog_11_method_14_code 20 = .ok (.if_icmp .ge 34, 3) := by decide +kernel
theorem d_M_type_23 : decode prog_11_method_14_code 23 = .ok (.lload_n 1, 1) := by decide +kernel
theorem d_M_type_24 : decode prog_11_method_14_code 24 = .ok (.bipush 8, 2) := by decide +kernel
theorem d_M_type_26 : decode prog_11_method_14_code 26 = .ok (.iload 4, 2) := by decide +kernel
theorem d_M_type_28 : decode prog_11_method_14_code 28 = .ok (.imul, 1) := by decide +kernel
theorem d_M_type_29 : decode prog_11_method_14_code 29 = .ok (.lshr, 1) := by decide +kernel
theorem d_M_type_30 : decode prog_11_method_14_code 30 = .ok (.ldc2_w 131, 3) := by decide +kernel
theorem d_M_type_33 : decode prog_11_method_14_code 33 = .ok (.land, 1) := by decide +kernel
theorem d_M_type_34 : decode prog_11_method_14_code 34 = .ok (.ldc2_w 133, 3) := by decide +kernel
theorem d_M_type_37 : decode prog_11_method_14_code 37 = .ok (.ldc2_w 135, 3) := by decide +kernel
theorem d_M_type_40 : decode prog_11_method_14_code 40 = .ok (.invokestatic 94, 3) := by decide +kernel
theorem d_M_type_43 : decode prog_11_method_14_code 43 = .ok (.ifCond .ne 5, 3) := by decide +kernel
theorem d_M_type_46 : decode prog_11_method_14_code 46 = .ok (.iconst (-1), 1) := by decide +kernel
theorem d_M_type_47 : decode prog_11_method_14_code 47 = .ok (.ireturn, 1) := by decide +kernel
theorem d_M_type_48 : decode prog_11_method_14_code 48 = .ok (.iinc 4 1, 3) := by decide +kernel
theorem d_M_type_51 : decode prog_11_method_14_code 51 = .ok (.goto (-34), 3) := by decide +kernel
theorem d_M_type_54 : decode prog_11_method_14_code 54 = .ok (.aload_n 0, 1) := by decide +kernel
theorem d_M_type_55 : decode prog_11_method_14_code 55 = .ok (.getfield 137, 3) := by decide +kernel
theorem d_M_type_58 : decode prog_11_method_14_code 58 = .ok (.iload_n 3, 1) := by decide +kernel
theorem d_M_type_59 : decode prog_11_method_14_code 59 = .ok (.iadd, 1) := by decide +kernel
theorem d_M_type_60 : decode prog_11_method_14_code 60 = .ok (.bipush 60, 2) := by decide +kernel
theorem d_M_type_62 : decode prog_11_method_14_code 62 = .ok (.if_icmp .le 6, 3) := by decide +kernel
theorem d_M_type_65 : decode prog_11_method_14_code 65 = .ok (.bipush (-3), 2) := by decide +kernel
theorem d_M_type_67 : decode prog_11_method_14_code 67 = .ok (.ireturn, 1) := by decide +kernel
theorem d_M_type_68 : decode prog_11_method_14_code 68 = .ok (.iload_n 3, 1) := by decide +kernel
theorem d_M_type_69 : decode prog_11_method_14_code 69 = .ok (.iconst 1, 1) := by decide +kernel
theorem d_M_type_70 : decode prog_11_method_14_code 70 = .ok (.isub, 1) := by decide +kernel
theorem d_M_type_71 : decode prog_11_method_14_code 71 = .ok (.istore 4, 2) := by decide +kernel
theorem d_M_type_73 : decode prog_11_method_14_code 73 = .ok (.iload 4, 2) := by decide +kernel
theorem d_M_type_75 : decode prog_11_method_14_code 75 = .ok (.ifCond .lt 40, 3) := by decide +kernel
theorem d_M_type_78 : decode prog_11_method_14_code 78 = .ok (.aload_n 0, 1) := by decide +kernel
theorem d_M_type_79 : decode prog_11_method_14_code 79 = .ok (.getfield 37, 3) := by decide +kernel
theorem d_M_type_82 : decode prog_11_method_14_code 82 = .ok (.aload_n 0, 1) := by decide +kernel
theorem d_M_type_83 : decode prog_11_method_14_code 83 = .ok (.getfield 137, 3) := by decide +kernel
theorem d_M_type_86 : decode prog_11_method_14_code 86 = .ok (.lload_n 1, 1) := by decide +kernel
theorem d_M_type_87 : decode prog_11_method_14_code 87 = .ok (.bipush 8, 2) := by decide +kernel
theorem d_M_type_89 : decode prog_11_method_14_code 89 = .ok (.iload 4, 2) := by decide +kernel
theorem d_M_type_91 : decode prog_11_method_14_code 91 = .ok (.imul, 1) := by decide +kernel
theorem d_M_type_92 : decode prog_11_method_14_code 92 = .ok (.lshr, 1) := by decide +kernel
theorem d_M_type_93 : decode prog_11_method_14_code 93 = .ok (.ldc2_w 131, 3) := by decide +kernel
theorem d_M_type_96 : decode prog_11_method_14_code 96 = .ok (.land, 1) := by decide +kernel
theorem d_M_type_97 : decode prog_11_method_14_code 97 = .ok (.l2i, 1) := by decide +kernel
theorem d_M_type_98 : decode prog_11_method_14_code 98 = .ok (.iastore, 1) := by decide +kernel
theorem d_M_type_99 : decode prog_11_method_14_code 99 = .ok (.aload_n 0, 1) := by decide +kernel
theorem d_M_type_100 : decode prog_11_method_14_code 100 = .ok (.dup, 1) := by decide +kernel
theorem d_M_type_101 : decode prog_11_method_14_code 101 = .ok (.getfield 137, 3) := by decide +kernel
theorem d_M_type_104 : decode prog_11_method_14_code 104 = .ok (.iconst 1, 1) := by decide +kernel
theorem d_M_type_105 : decode prog_11_method_14_code 105 = .ok (.iadd, 1) := by decide +kernel
theorem d_M_type_106 : decode prog_11_method_14_code 106 = .ok (.putfield 137, 3) := by decide +kernel
theorem d_M_type_109 : decode prog_11_method_14_code 109 = .ok (.iinc 4 (-1), 3) := by decide +kernel
theorem d_M_type_112 : decode prog_11_method_14_code 112 = .ok (.goto (-39), 3) := by decide +kernel
theorem d_M_type_115 : decode prog_11_method_14_code 115 = .ok (.aload_n 0, 1) := by decide +kernel
theorem d_M_type_116 : decode prog_11_method_14_code 116 = .ok (.getfield 137, 3) := by decide +kernel
theorem d_M_type_119 : decode prog_11_method_14_code 119 = .ok (.ireturn, 1) := by decide +kernel
theorem d_M_here_0 : decode prog_11_method_15_code 0 = .ok (.aload_n 0, 1) := by decide +kernel
theorem d_M_here_1 : decode prog_11_method_15_code 1 = .ok (.getfield 140, 3) := by decide +kernel
theorem d_M_here_4 : decode prog_11_method_15_code 4 = .ok (.aload_n 0, 1) := by decide +kernel
theorem d_M_here_5 : decode prog_11_method_15_code 5 = .ok (.getfield 137, 3) := by decide +kernel
theorem d_M_here_8 : decode prog_11_method_15_code 8 = .ok (.if_icmp .ge 30, 3) := by decide +kernel
theorem d_M_here_11 : decode prog_11_method_15_code 11 = .ok (.aload_n 0, 1) := by decide +kernel
theorem d_M_here_12 : decode prog_11_method_15_code 12 = .ok (.getfield 37, 3) := by decide +kernel
theorem d_M_here_15 : decode prog_11_method_15_code 15 = .ok (.aload_n 0, 1) := by decide +kernel
theorem d_M_here_16 : decode prog_11_method_15_code 16 = .ok (.getfield 140, 3) := by decide +kernel
theorem d_M_here_19 : decode prog_11_method_15_code 19 = .ok (.iaload, 1) := by decide +kernel
theorem d_M_here_20 : decode prog_11_method_15_code 20 = .ok (.bipush 32, 2) := by decide +kernel
theorem d_M_here_22 : decode prog_11_method_15_code 22 = .ok (.if_icmp .ne 16, 3) := by decide +kernel
theorem d_M_here_25 : decode prog_11_method_15_code 25 = .ok (.aload_n 0, 1) := by decide +kernel
theorem d_M_here_26 : decode prog_11_method_15_code 26 = .ok (.dup, 1) := by decide +kernel
theorem d_M_here_27 : decode prog_11_method_15_code 27 = .ok (.getfield 140, 3) := by decide +kernel
theorem d_M_here_30 : decode prog_11_method_15_code 30 = .ok (.iconst 1, 1) := by decide +kernel
theorem d_M_here_31 : decode prog_11_method_15_code 31 = .ok (.iadd, 1) := by decide +kernel
theorem d_M_here_32 : decode prog_11_method_15_code 32 = .ok (.putfield 140, 3) := by decide +kernel
theorem d_M_here_35 : decode prog_11_method_15_code 35 = .ok (.goto (-35), 3) := by decide +kernel
theorem d_M_here_38 : decode prog_11_method_15_code 38 = .ok (.aload_n 0, 1) := by decide +kernel
theorem d_M_here_39 : decode prog_11_method_15_code 39 = .ok (.getfield 140, 3) := by decide +kernel
theorem d_M_here_42 : decode prog_11_method_15_code 42 = .ok (.aload_n 0, 1) := by decide +kernel
theorem d_M_here_43 : decode prog_11_method_15_code 43 = .ok (.getfield 137, 3) := by decide +kernel
theorem d_M_here_46 : decode prog_11_method_15_code 46 = .ok (.if_icmp .ge 15, 3) := by decide +kernel
theorem d_M_here_49 : decode prog_11_method_15_code 49 = .ok (.aload_n 0, 1) := by decide +kernel
theorem d_M_here_50 : decode prog_11_method_15_code 50 = .ok (.getfield 37, 3) := by decide +kernel
theorem d_M_here_53 : decode prog_11_method_15_code 53 = .ok (.aload_n 0, 1) := by decide +kernel
theorem d_M_here_54 : decode prog_11_method_15_code 54 = .ok (.getfield 140, 3) := by decide +kernel
theorem d_M_here_57 : decode prog_11_method_15_code 57 = .ok (.iaload, 1) := by decide +kernel
theorem d_M_here_58 : decode prog_11_method_15_code 58 = .ok (.goto 4, 3) := by decide +kernel
theorem d_M_here_61 : decode prog_11_method_15_code 61 = .ok (.iconst 0, 1) := by decide +kernel
theorem d_M_here_62 : decode prog_11_method_15_code 62 = .ok (.ireturn, 1) := by decide +kernel
theorem d_M_byteOf_0 : decode prog_11_method_17_code 0 = .ok (.aload_n 0, 1) := by decide +kernel
theorem d_M_byteOf_1 : decode prog_11_method_17_code 1 = .ok (.getfield 143, 3) := by decide +kernel
theorem d_M_byteOf_4 : decode prog_11_method_17_code 4 = .ok (.ifCond .eq 7, 3) := by decide +kernel
theorem d_M_byteOf_7 : decode prog_11_method_17_code 7 = .ok (.iconst 0, 1) := by decide +kernel
theorem d_M_byteOf_8 : decode prog_11_method_17_code 8 = .ok (.goto 7, 3) := by decide +kernel
theorem d_M_byteOf_11 : decode prog_11_method_17_code 11 = .ok (.aload_n 0, 1) := by decide +kernel
theorem d_M_byteOf_12 : decode prog_11_method_17_code 12 = .ok (.invokevirtual 147, 3) := by decide +kernel
theorem d_M_byteOf_15 : decode prog_11_method_17_code 15 = .ok (.istore 4, 2) := by decide +kernel
theorem d_M_byteOf_17 : decode prog_11_method_17_code 17 = .ok (.aload_n 0, 1) := by decide +kernel
theorem d_M_byteOf_18 : decode prog_11_method_17_code 18 = .ok (.aload_n 0, 1) := by decide +kernel
theorem d_M_byteOf_19 : decode prog_11_method_17_code 19 = .ok (.getfield 143, 3) := by decide +kernel
theorem d_M_byteOf_22 : decode prog_11_method_17_code 22 = .ok (.ifCond .ne 24, 3) := by decide +kernel
theorem d_M_byteOf_25 : decode prog_11_method_17_code 25 = .ok (.iload 4, 2) := by decide +kernel
theorem d_M_byteOf_27 : decode prog_11_method_17_code 27 = .ok (.i2l, 1) := by decide +kernel
theorem d_M_byteOf_28 : decode prog_11_method_17_code 28 = .ok (.iload_n 1, 1) := by decide +kernel
theorem d_M_byteOf_29 : decode prog_11_method_17_code 29 = .ok (.i2l, 1) := by decide +kernel
theorem d_M_byteOf_30 : decode prog_11_method_17_code 30 = .ok (.iload_n 2, 1) := by decide +kernel
theorem d_M_byteOf_31 : decode prog_11_method_17_code 31 = .ok (.i2l, 1) := by decide +kernel
theorem d_M_byteOf_32 : decode prog_11_method_17_code 32 = .ok (.invokestatic 94, 3) := by decide +kernel
theorem d_M_byteOf_35 : decode prog_11_method_17_code 35 = .ok (.ifCond .eq 11, 3) := by decide +kernel
theorem d_M_byteOf_38 : decode prog_11_method_17_code 38 = .ok (.iload 4, 2) := by decide +kernel
theorem d_M_byteOf_40 : decode prog_11_method_17_code 40 = .ok (.iload_n 1, 1) := by decide +kernel
theorem d_M_byteOf_41 : decode prog_11_method_17_code 41 = .ok (.isub, 1) := by decide +kernel
theorem d_M_byteOf_42 : decode prog_11_method_17_code 42 = .ok (.iload_n 3, 1) := by decide +kernel
theorem d_M_byteOf_43 : decode prog_11_method_17_code 43 = .ok (.if_icmp .ne 7, 3) := by decide +kernel
theorem d_M_byteOf_46 : decode prog_11_method_17_code 46 = .ok (.iconst 1, 1) := by decide +kernel
theorem d_M_byteOf_47 : decode prog_11_method_17_code 47 = .ok (.goto 4, 3) := by decide +kernel
theorem d_M_byteOf_50 : decode prog_11_method_17_code 50 = .ok (.iconst 0, 1) := by decide +kernel
theorem d_M_byteOf_51 : decode prog_11_method_17_code 51 = .ok (.putfield 143, 3) := by decide +kernel
theorem d_M_byteOf_54 : decode prog_11_method_17_code 54 = .ok (.aload_n 0, 1) := by decide +kernel
theorem d_M_byteOf_55 : decode prog_11_method_17_code 55 = .ok (.dup, 1) := by decide +kernel
theorem d_M_byteOf_56 : decode prog_11_method_17_code 56 = .ok (.getfield 140, 3) := by decide +kernel
theorem d_M_byteOf_59 : decode prog_11_method_17_code 59 = .ok (.aload_n 0, 1) := by decide +kernel
theorem d_M_byteOf_60 : decode prog_11_method_17_code 60 = .ok (.getfield 143, 3) := by decide +kernel
theorem d_M_byteOf_63 : decode prog_11_method_17_code 63 = .ok (.ifCond .eq 7, 3) := by decide +kernel
theorem d_M_byteOf_66 : decode prog_11_method_17_code 66 = .ok (.iconst 0, 1) := by decide +kernel
theorem d_M_byteOf_67 : decode prog_11_method_17_code 67 = .ok (.goto 4, 3) := by decide +kernel
theorem d_M_byteOf_70 : decode prog_11_method_17_code 70 = .ok (.iconst 1, 1) := by decide +kernel
theorem d_M_byteOf_71 : decode prog_11_method_17_code 71 = .ok (.iadd, 1) := by decide +kernel
theorem d_M_byteOf_72 : decode prog_11_method_17_code 72 = .ok (.putfield 140, 3) := by decide +kernel
theorem d_M_byteOf_75 : decode prog_11_method_17_code 75 = .ok (.iload 4, 2) := by decide +kernel
theorem d_M_byteOf_77 : decode prog_11_method_17_code 77 = .ok (.iload_n 1, 1) := by decide +kernel
theorem d_M_byteOf_78 : decode prog_11_method_17_code 78 = .ok (.isub, 1) := by decide +kernel
theorem d_M_byteOf_79 : decode prog_11_method_17_code 79 = .ok (.ireturn, 1) := by decide +kernel
theorem d_M_has_0 : decode prog_11_method_16_code 0 = .ok (.aload_n 0, 1) := by decide +kernel
theorem d_M_has_1 : decode prog_11_method_16_code 1 = .ok (.getfield 143, 3) := by decide +kernel
theorem d_M_has_4 : decode prog_11_method_16_code 4 = .ok (.ifCond .ne 15, 3) := by decide +kernel
theorem d_M_has_7 : decode prog_11_method_16_code 7 = .ok (.aload_n 0, 1) := by decide +kernel
theorem d_M_has_8 : decode prog_11_method_16_code 8 = .ok (.invokevirtual 147, 3) := by decide +kernel
theorem d_M_has_11 : decode prog_11_method_16_code 11 = .ok (.iload_n 1, 1) := by decide +kernel
theorem d_M_has_12 : decode prog_11_method_16_code 12 = .ok (.if_icmp .ne 7, 3) := by decide +kernel
theorem d_M_has_15 : decode prog_11_method_16_code 15 = .ok (.iconst 1, 1) := by decide +kernel
theorem d_M_has_16 : decode prog_11_method_16_code 16 = .ok (.goto 4, 3) := by decide +kernel
theorem d_M_has_19 : decode prog_11_method_16_code 19 = .ok (.iconst 0, 1) := by decide +kernel
theorem d_M_has_20 : decode prog_11_method_16_code 20 = .ok (.istore_n 2, 1) := by decide +kernel
theorem d_M_has_21 : decode prog_11_method_16_code 21 = .ok (.aload_n 0, 1) := by decide +kernel
theorem d_M_has_22 : decode prog_11_method_16_code 22 = .ok (.dup, 1) := by decide +kernel
theorem d_M_has_23 : decode prog_11_method_16_code 23 = .ok (.getfield 140, 3) := by decide +kernel
theorem d_M_has_26 : decode prog_11_method_16_code 26 = .ok (.iload_n 2, 1) := by decide +kernel
theorem d_M_has_27 : decode prog_11_method_16_code 27 = .ok (.ifCond .eq 7, 3) := by decide +kernel
theorem d_M_has_30 : decode prog_11_method_16_code 30 = .ok (.iconst 1, 1) := by decide +kernel
theorem d_M_has_31 : decode prog_11_method_16_code 31 = .ok (.goto 4, 3) := by decide +kernel
theorem d_M_has_34 : decode prog_11_method_16_code 34 = .ok (.iconst 0, 1) := by decide +kernel
theorem d_M_has_35 : decode prog_11_method_16_code 35 = .ok (.iadd, 1) := by decide +kernel
theorem d_M_has_36 : decode prog_11_method_16_code 36 = .ok (.putfield 140, 3) := by decide +kernel
theorem d_M_has_39 : decode prog_11_method_16_code 39 = .ok (.iload_n 2, 1) := by decide +kernel
theorem d_M_has_40 : decode prog_11_method_16_code 40 = .ok (.ireturn, 1) := by decide +kernel
def f_M_in (a0 : Int64) (a2 : Int64) (a4 : Int64) : Option (Int32) :=
  fw_nm (
    if (lg_cmp a0 a2) < 0 then
      0
    else
      if 0 < (lg_cmp a0 a4) then
        0
      else
        1) fun (j3 : Int32) =>
  (fw_bz j3).bind fun b18 =>
  some b18
set_option maxHeartbeats 4000000 in
set_option maxRecDepth 100000 in
theorem c_M_in {a0 : Int64} {a2 : Int64} {a4 : Int64} {μ : fw_M} {r : Int32} (h : f_M_in a0 a2 a4 = some r) : fw_Con Y_M_in fw_Mo 1 [.long a0, .long a2, .long a4] (some r) μ μ := by
  refine fw_con (by decide) (Nat.le_of_ble_eq_true rfl) ?_
  rw [f_M_in] at h
  show fw_R "FewTypesModel" prog_11_method_2_code 6 (some .boolean) fw_Mo 1 (some r) μ 0 [(0, .long a0), (2, .long a2), (4, .long a4)] [] μ
  refine fw_lload_n (pc := 0) d_M_in_0 0 rfl rfl ?_
  refine fw_lload_n (pc := 1) d_M_in_1 1 rfl rfl ?_
  refine fw_lcmp (pc := 2) d_M_in_2 ?_
  obtain ⟨j3, w3, h⟩ := fw_ne h
  have hJ3 : fw_R "FewTypesModel" prog_11_method_2_code 6 (some .boolean) fw_Mo 1 (some r) μ 18 [] [.int j3] μ := by
    obtain ⟨b18, e18, h⟩ := fw_be h
    obtain rfl := Option.some.inj h
    exact fw_zret (pc := 18) d_M_in_18 rfl e18
  clear h
  have h := w3
  clear w3
  refine fw_if_lt (pc := 3) (tgt := 17) d_M_in_3 rfl (fun hc => ?_) (fun hc => ?_)
  · have h := h.trans (if_pos hc)
    refine fw_iconst (pc := 17) d_M_in_17 fw_ic0 ?_
    subst h
    exact fw_sub [] rfl hJ3
  · have h := h.trans (if_neg hc)
    refine fw_lload_n (pc := 6) d_M_in_6 0 rfl rfl ?_
    refine fw_lload (pc := 7) d_M_in_7 2 rfl ?_
    refine fw_lcmp (pc := 9) d_M_in_9 ?_
    refine fw_if_gt (pc := 10) (tgt := 17) d_M_in_10 rfl (fun hc => ?_) (fun hc => ?_)
    · have h := h.trans (if_pos hc)
      refine fw_iconst (pc := 17) d_M_in_17 fw_ic0 ?_
      subst h
      exact fw_sub [] rfl hJ3
    · have h := h.trans (if_neg hc)
      refine fw_iconst (pc := 13) d_M_in_13 fw_ic1 ?_
      refine fw_goto (pc := 14) (tgt := 18) d_M_in_14 rfl ?_
      subst h
      exact fw_sub [] rfl hJ3
def f_M_isLetter (a0 : Int32) : Option (Int32) :=
  (f_M_in (Int32.toInt64 a0) 0 11).bind fun (p6 : Int32) =>
  (fw_bz p6).bind fun b9 =>
  some b9
set_option maxHeartbeats 4000000 in
set_option maxRecDepth 100000 in
theorem c_M_isLetter {a0 : Int32} {μ : fw_M} {r : Int32} (h : f_M_isLetter a0 = some r) : fw_Con Y_M_isLetter fw_Mo 2 [.int a0] (some r) μ μ := by
  refine fw_con (by decide) (Nat.le_of_ble_eq_true rfl) ?_
  rw [f_M_isLetter] at h
  show fw_R "FewTypesModel" prog_11_method_4_code 1 (some .boolean) fw_Mo 2 (some r) μ 0 [(0, .int a0)] [] μ
  refine fw_iload_n (pc := 0) d_M_isLetter_0 0 rfl rfl ?_
  refine fw_i2l (pc := 1) d_M_isLetter_1 ?_
  refine fw_lconst (pc := 2) d_M_isLetter_2 (v := 0) (by decide) ?_
  refine fw_ldc2 (pc := 3) d_M_isLetter_3 cl_M_92 ?_
  obtain ⟨p6, e6, h⟩ := fw_be h
  refine fw_callSi (pc := 6) d_M_isLetter_6 ms_M_94 (c_M_in e6) (by decide) rfl rfl (Nat.le_of_ble_eq_true rfl) ?_
  obtain ⟨b9, e9, h⟩ := fw_be h
  obtain rfl := Option.some.inj h
  exact fw_zret (pc := 9) d_M_isLetter_9 rfl e9
def f_M_isType (a0 : Int32) (a1 : Int32) (a2 : Int32) : Option (Int32) :=
  Option.bind (
    if a0 = 0 then
      if a2 = 0 then
        some 1
      else
        some 0
    else
      if a0 = 1 then
        (f_M_isLetter a2).bind fun (p22 : Int32) =>
        if p22 = 0 then
          some 0
        else
          if a2 = a1 then
            some 0
          else
            some 1
      else
        if a0 = 2 then
          (f_M_isLetter a2).bind fun (p47 : Int32) =>
          some p47
        else
          if a0 = 3 then
            (f_M_in (Int32.toInt64 a2) 1 9).bind fun (p64 : Int32) =>
            if p64 = 0 then
              some 0
            else
              some 1
          else
            some 0) fun (j1 : Int32) =>
  Option.bind (
    if j1 = 0 then
      some 0
    else
      (f_M_isLetter a1).bind fun (p81 : Int32) =>
      if p81 = 0 then
        some 0
      else
        some 1) fun (j77 : Int32) =>
  (fw_bz j77).bind fun b92 =>
  some b92
set_option maxHeartbeats 4000000 in
set_option maxRecDepth 100000 in
theorem c_M_isType {a0 : Int32} {a1 : Int32} {a2 : Int32} {μ : fw_M} {r : Int32} (h : f_M_isType a0 a1 a2 = some r) : fw_Con Y_M_isType fw_Mo 3 [.int a0, .int a1, .int a2] (some r) μ μ := by
  refine fw_con (by decide) (Nat.le_of_ble_eq_true rfl) ?_
  rw [f_M_isType] at h
  show fw_R "FewTypesModel" prog_11_method_5_code 4 (some .boolean) fw_Mo 3 (some r) μ 0 [(0, .int a0), (1, .int a1), (2, .int a2)] [] μ
  refine fw_iload_n (pc := 0) d_M_isType_0 0 rfl rfl ?_
  obtain ⟨j1, w1, h⟩ := fw_be h
  have hJ1 : fw_R "FewTypesModel" prog_11_method_5_code 4 (some .boolean) fw_Mo 3 (some r) μ 75 [(1, .int a1)] [.int j1] μ := by
    refine fw_istore_n (pc := 75) (lv1 := [(3, .int j1), (1, .int a1)]) d_M_isType_75 rfl (by decide) rfl ?_
    refine fw_iload_n (pc := 76) d_M_isType_76 0 rfl rfl ?_
    obtain ⟨j77, w77, h⟩ := fw_be h
    have hJ77 : fw_R "FewTypesModel" prog_11_method_5_code 4 (some .boolean) fw_Mo 3 (some r) μ 92 [] [.int j77] μ := by
      obtain ⟨b92, e92, h⟩ := fw_be h
      obtain rfl := Option.some.inj h
      exact fw_zret (pc := 92) d_M_isType_92 rfl e92
    clear h
    have h := w77
    clear w77
    refine fw_if_eq (pc := 77) (tgt := 91) d_M_isType_77 rfl (fun hc => ?_) (fun hc => ?_)
    · have h := fw_it hc h
      refine fw_iconst (pc := 91) d_M_isType_91 fw_ic0 ?_
      obtain rfl := Option.some.inj h
      exact fw_sub [] rfl hJ77
    · have h := fw_if hc h
      refine fw_iload_n (pc := 80) d_M_isType_80 1 rfl rfl ?_
      obtain ⟨p81, e81, h⟩ := fw_be h
      refine fw_callSi (pc := 81) d_M_isType_81 ms_M_98 (c_M_isLetter e81) (by decide) rfl rfl (Nat.le_of_ble_eq_true rfl) ?_
      refine fw_if_eq (pc := 84) (tgt := 91) d_M_isType_84 rfl (fun hc => ?_) (fun hc => ?_)
      · have h := fw_it hc h
        refine fw_iconst (pc := 91) d_M_isType_91 fw_ic0 ?_
        obtain rfl := Option.some.inj h
        exact fw_sub [] rfl hJ77
      · have h := fw_if hc h
        refine fw_iconst (pc := 87) d_M_isType_87 fw_ic1 ?_
        refine fw_goto (pc := 88) (tgt := 92) d_M_isType_88 rfl ?_
        obtain rfl := Option.some.inj h
        exact fw_sub [] rfl hJ77
  clear h
  have h := w1
  clear w1
  refine fw_if_ne (pc := 1) (tgt := 16) d_M_isType_1 rfl (fun hc => ?_) (fun hc => ?_)
  · have h := fw_it hc h
    refine fw_iload_n (pc := 4) d_M_isType_4 2 rfl rfl ?_
    refine fw_if_ne (pc := 5) (tgt := 12) d_M_isType_5 rfl (fun hc => ?_) (fun hc => ?_)
    · have h := fw_it hc h
      refine fw_iconst (pc := 8) d_M_isType_8 fw_ic1 ?_
      refine fw_goto (pc := 9) (tgt := 75) d_M_isType_9 rfl ?_
      obtain rfl := Option.some.inj h
      exact fw_sub [1] rfl hJ1
    · have h := fw_if hc h
      refine fw_iconst (pc := 12) d_M_isType_12 fw_ic0 ?_
      refine fw_goto (pc := 13) (tgt := 75) d_M_isType_13 rfl ?_
      obtain rfl := Option.some.inj h
      exact fw_sub [1] rfl hJ1
  · have h := fw_if hc h
    refine fw_iload_n (pc := 16) d_M_isType_16 0 rfl rfl ?_
    refine fw_iconst (pc := 17) d_M_isType_17 fw_ic1 ?_
    refine fw_icmp_ne (pc := 18) (tgt := 41) d_M_isType_18 rfl (fun hc => ?_) (fun hc => ?_)
    · have h := fw_it hc h
      refine fw_iload_n (pc := 21) d_M_isType_21 2 rfl rfl ?_
      obtain ⟨p22, e22, h⟩ := fw_be h
      refine fw_callSi (pc := 22) d_M_isType_22 ms_M_98 (c_M_isLetter e22) (by decide) rfl rfl (Nat.le_of_ble_eq_true rfl) ?_
      refine fw_if_eq (pc := 25) (tgt := 37) d_M_isType_25 rfl (fun hc => ?_) (fun hc => ?_)
      · have h := fw_it hc h
        refine fw_iconst (pc := 37) d_M_isType_37 fw_ic0 ?_
        refine fw_goto (pc := 38) (tgt := 75) d_M_isType_38 rfl ?_
        obtain rfl := Option.some.inj h
        exact fw_sub [1] rfl hJ1
      · have h := fw_if hc h
        refine fw_iload_n (pc := 28) d_M_isType_28 2 rfl rfl ?_
        refine fw_iload_n (pc := 29) d_M_isType_29 1 rfl rfl ?_
        refine fw_icmp_eq (pc := 30) (tgt := 37) d_M_isType_30 rfl (fun hc => ?_) (fun hc => ?_)
        · have h := fw_it hc h
          refine fw_iconst (pc := 37) d_M_isType_37 fw_ic0 ?_
          refine fw_goto (pc := 38) (tgt := 75) d_M_isType_38 rfl ?_
          obtain rfl := Option.some.inj h
          exact fw_sub [1] rfl hJ1
        · have h := fw_if hc h
          refine fw_iconst (pc := 33) d_M_isType_33 fw_ic1 ?_
          refine fw_goto (pc := 34) (tgt := 75) d_M_isType_34 rfl ?_
          obtain rfl := Option.some.inj h
          exact fw_sub [1] rfl hJ1
    · have h := fw_if hc h
      refine fw_iload_n (pc := 41) d_M_isType_41 0 rfl rfl ?_
      refine fw_iconst (pc := 42) d_M_isType_42 fw_ic2 ?_
      refine fw_icmp_ne (pc := 43) (tgt := 53) d_M_isType_43 rfl (fun hc => ?_) (fun hc => ?_)
      · have h := fw_it hc h
        refine fw_iload_n (pc := 46) d_M_isType_46 2 rfl rfl ?_
        obtain ⟨p47, e47, h⟩ := fw_be h
        refine fw_callSi (pc := 47) d_M_isType_47 ms_M_98 (c_M_isLetter e47) (by decide) rfl rfl (Nat.le_of_ble_eq_true rfl) ?_
        refine fw_goto (pc := 50) (tgt := 75) d_M_isType_50 rfl ?_
        obtain rfl := Option.some.inj h
        exact fw_sub [1] rfl hJ1
      · have h := fw_if hc h
        refine fw_iload_n (pc := 53) d_M_isType_53 0 rfl rfl ?_
        refine fw_iconst (pc := 54) d_M_isType_54 fw_ic3 ?_
        refine fw_icmp_ne (pc := 55) (tgt := 74) d_M_isType_55 rfl (fun hc => ?_) (fun hc => ?_)
        · have h := fw_it hc h
          refine fw_iload_n (pc := 58) d_M_isType_58 2 rfl rfl ?_
          refine fw_i2l (pc := 59) d_M_isType_59 ?_
          refine fw_lconst (pc := 60) d_M_isType_60 (v := 1) (by decide) ?_
          refine fw_ldc2 (pc := 61) d_M_isType_61 cl_M_102 ?_
          obtain ⟨p64, e64, h⟩ := fw_be h
          refine fw_callSi (pc := 64) d_M_isType_64 ms_M_94 (c_M_in e64) (by decide) rfl rfl (Nat.le_of_ble_eq_true rfl) ?_
          refine fw_if_eq (pc := 67) (tgt := 74) d_M_isType_67 rfl (fun hc => ?_) (fun hc => ?_)
          · have h := fw_it hc h
            refine fw_iconst (pc := 74) d_M_isType_74 fw_ic0 ?_
            obtain rfl := Option.some.inj h
            exact fw_sub [1] rfl hJ1
          · have h := fw_if hc h
            refine fw_iconst (pc := 70) d_M_isType_70 fw_ic1 ?_
            refine fw_goto (pc := 71) (tgt := 75) d_M_isType_71 rfl ?_
            obtain rfl := Option.some.inj h
            exact fw_sub [1] rfl hJ1
        · have h := fw_if hc h
          refine fw_iconst (pc := 74) d_M_isType_74 fw_ic0 ?_
          obtain rfl := Option.some.inj h
          exact fw_sub [1] rfl hJ1
def f_M_comes (a1 : Int32) (a2 : Int32) (a3 : Int32) (a4 : Int32) (μ : fw_M) : Option (fw_M) :=
  (fw_si 10 μ 1 a1 a2).bind fun μ6 =>
  (fw_si 10 μ6 2 a1 a3).bind fun μ13 =>
  (fw_si 10 μ13 3 a1 a4).bind fun μ21 =>
  some μ21
set_option maxHeartbeats 4000000 in
set_option maxRecDepth 100000 in
theorem c_M_comes {a1 : Int32} {a2 : Int32} {a3 : Int32} {a4 : Int32} {μ : fw_M} {r : fw_M} (h : f_M_comes a1 a2 a3 a4 μ = some r) : fw_Con Y_M_comes fw_Mo 1 [.ref 0, .int a1, .int a2, .int a3, .int a4] none μ r := by
  refine fw_con (by decide) (Nat.le_of_ble_eq_true rfl) ?_
  rw [f_M_comes] at h
  show fw_R "FewTypesModel" prog_11_method_6_code 5 none fw_Mo 1 none r 0 [(0, .ref 0), (1, .int a1), (2, .int a2), (3, .int a3), (4, .int a4)] [] μ
  refine fw_aload_n (pc := 0) d_M_comes_0 0 rfl rfl ?_
  refine fw_getR (pc := 1) d_M_comes_1 fl_M_7 fw_Mo0 rfl ?_
  refine fw_iload_n (pc := 4) d_M_comes_4 1 rfl rfl ?_
  refine fw_iload_n (pc := 5) d_M_comes_5 2 rfl rfl ?_
  obtain ⟨μ6, e6, h⟩ := fw_be h
  refine fw_iast (pc := 6) d_M_comes_6 fw_Mo1 e6 ?_
  refine fw_aload_n (pc := 7) d_M_comes_7 0 rfl rfl ?_
  refine fw_getR (pc := 8) d_M_comes_8 fl_M_13 fw_Mo0 rfl ?_
  refine fw_iload_n (pc := 11) d_M_comes_11 1 rfl rfl ?_
  refine fw_iload_n (pc := 12) d_M_comes_12 3 rfl rfl ?_
  obtain ⟨μ13, e13, h⟩ := fw_be h
  refine fw_iast (pc := 13) d_M_comes_13 fw_Mo2 e13 ?_
  refine fw_aload_n (pc := 14) d_M_comes_14 0 rfl rfl ?_
  refine fw_getR (pc := 15) d_M_comes_15 fl_M_16 fw_Mo0 rfl ?_
  refine fw_iload_n (pc := 18) d_M_comes_18 1 rfl rfl ?_
  refine fw_iload (pc := 19) d_M_comes_19 4 rfl ?_
  obtain ⟨μ21, e21, h⟩ := fw_be h
  refine fw_iast (pc := 21) d_M_comes_21 fw_Mo3 e21 ?_
  obtain rfl := Option.some.inj h
  exact fw_vret (pc := 22) d_M_comes_22 rfl
def f_M_cast (a1 : Int32) (a2 : Int32) (a3 : Int32) (μ : fw_M) : Option (Int32 × fw_M) :=
  (f_M_isType a1 a2 a3).bind fun (p3 : Int32) =>
  if p3 = 0 then
    some ((-1), μ)
  else
    if (μ.1 0 0) = 10 then
      some ((-3), μ)
    else
      (f_M_comes (μ.1 0 0) a1 a2 a3 μ).bind fun (p31 : fw_M) =>
      fw_nm (fw_wr p31 0 0 ((p31.1 0 0) + 1)) fun (μ41 : fw_M) =>
      some (((μ41.1 0 0) - 1), μ41)
set_option maxHeartbeats 4000000 in
set_option maxRecDepth 100000 in
theorem c_M_cast {a1 : Int32} {a2 : Int32} {a3 : Int32} {μ : fw_M} {r : Int32 × fw_M} (h : f_M_cast a1 a2 a3 μ = some r) : fw_Con Y_M_cast fw_Mo 4 [.ref 0, .int a1, .int a2, .int a3] (some r.1) μ r.2 := by
  refine fw_con (by decide) (Nat.le_of_ble_eq_true rfl) ?_
  rw [f_M_cast] at h
  show fw_R "FewTypesModel" prog_11_method_7_code 4 (some .int) fw_Mo 4 (some r.1) r.2 0 [(0, .ref 0), (1, .int a1), (2, .int a2), (3, .int a3)] [] μ
  refine fw_iload_n (pc := 0) d_M_cast_0 1 rfl rfl ?_
  refine fw_iload_n (pc := 1) d_M_cast_1 2 rfl rfl ?_
  refine fw_iload_n (pc := 2) d_M_cast_2 3 rfl rfl ?_
  obtain ⟨p3, e3, h⟩ := fw_be h
  refine fw_callSi (pc := 3) d_M_cast_3 ms_M_104 (c_M_isType e3) (by decide) rfl rfl (Nat.le_of_ble_eq_true rfl) ?_
  refine fw_if_ne (pc := 6) (tgt := 11) d_M_cast_6 rfl (fun hc => ?_) (fun hc => ?_)
  · have h := fw_it hc h
    refine fw_iconst (pc := 9) d_M_cast_9 fw_icm1 ?_
    obtain rfl := Option.some.inj h
    exact fw_iret (pc := 10) d_M_cast_10 rfl
  · have h := fw_if hc h
    refine fw_aload_n (pc := 11) d_M_cast_11 0 rfl rfl ?_
    refine fw_getI (pc := 12) d_M_cast_12 fl_M_108 fw_Mo0 rfl ?_
    refine fw_bipush (pc := 15) d_M_cast_15 fw_bp10 ?_
    refine fw_icmp_ne (pc := 17) (tgt := 23) d_M_cast_17 rfl (fun hc => ?_) (fun hc => ?_)
    · have h := fw_it hc h
      refine fw_bipush (pc := 20) d_M_cast_20 fw_bpm3 ?_
      obtain rfl := Option.some.inj h
      exact fw_iret (pc := 22) d_M_cast_22 rfl
    · have h := fw_if hc h
      refine fw_aload_n (pc := 23) d_M_cast_23 0 rfl rfl ?_
      refine fw_aload_n (pc := 24) d_M_cast_24 0 rfl rfl ?_
      refine fw_getI (pc := 25) d_M_cast_25 fl_M_108 fw_Mo0 rfl ?_
      refine fw_iload_n (pc := 28) d_M_cast_28 1 rfl rfl ?_
      refine fw_iload_n (pc := 29) d_M_cast_29 2 rfl rfl ?_
      refine fw_iload_n (pc := 30) d_M_cast_30 3 rfl rfl ?_
      obtain ⟨p31, e31, h⟩ := fw_be h
      refine fw_callVv (pc := 31) d_M_cast_31 mv_M_112 fw_Mo0 (c_M_comes e31) (by decide) rfl rfl (Nat.le_of_ble_eq_true rfl) ?_
      refine fw_aload_n (pc := 34) d_M_cast_34 0 rfl rfl ?_
      refine fw_dup (pc := 35) d_M_cast_35 rfl ?_
      refine fw_getI (pc := 36) d_M_cast_36 fl_M_108 fw_Mo0 rfl ?_
      refine fw_iconst (pc := 39) d_M_cast_39 fw_ic1 ?_
      refine fw_iadd (pc := 40) d_M_cast_40 ?_
      obtain ⟨μ41, e41, h⟩ := fw_ne h
      refine fw_putI (pc := 41) d_M_cast_41 fp_M_108 fw_Mo0 rfl (fw_mem e41 ?_)
      refine fw_aload_n (pc := 44) d_M_cast_44 0 rfl rfl ?_
      refine fw_getI (pc := 45) d_M_cast_45 fl_M_108 fw_Mo0 rfl ?_
      refine fw_iconst (pc := 48) d_M_cast_48 fw_ic1 ?_
      refine fw_isub (pc := 49) d_M_cast_49 ?_
      obtain rfl := Option.some.inj h
      exact fw_iret (pc := 50) d_M_cast_50 rfl
def f_M_isOne (a1 : Int32) (μ : fw_M) : Option (Int32) :=
  (f_M_in (Int32.toInt64 a1) 0 (Int32.toInt64 ((μ.1 0 0) - 1))).bind fun (p10 : Int32) =>
  (fw_bz p10).bind fun b13 =>
  some b13
set_option maxHeartbeats 4000000 in
set_option maxRecDepth 100000 in
theorem c_M_isOne {a1 : Int32} {μ : fw_M} {r : Int32} (h : f_M_isOne a1 μ = some r) : fw_Con Y_M_isOne fw_Mo 2 [.ref 0, .int a1] (some r) μ μ := by
  refine fw_con (by decide) (Nat.le_of_ble_eq_true rfl) ?_
  rw [f_M_isOne] at h
  show fw_R "FewTypesModel" prog_11_method_8_code 2 (some .boolean) fw_Mo 2 (some r) μ 0 [(0, .ref 0), (1, .int a1)] [] μ
  refine fw_iload_n (pc := 0) d_M_isOne_0 1 rfl rfl ?_
  refine fw_i2l (pc := 1) d_M_isOne_1 ?_
  refine fw_lconst (pc := 2) d_M_isOne_2 (v := 0) (by decide) ?_
  refine fw_aload_n (pc := 3) d_M_isOne_3 0 rfl rfl ?_
  refine fw_getI (pc := 4) d_M_isOne_4 fl_M_108 fw_Mo0 rfl ?_
  refine fw_iconst (pc := 7) d_M_isOne_7 fw_ic1 ?_
  refine fw_isub (pc := 8) d_M_isOne_8 ?_
  refine fw_i2l (pc := 9) d_M_isOne_9 ?_
  obtain ⟨p10, e10, h⟩ := fw_be h
  refine fw_callSi (pc := 10) d_M_isOne_10 ms_M_94 (c_M_in e10) (by decide) rfl rfl (Nat.le_of_ble_eq_true rfl) ?_
  obtain ⟨b13, e13, h⟩ := fw_be h
  obtain rfl := Option.some.inj h
  exact fw_zret (pc := 13) d_M_isOne_13 rfl e13
def f_M_told (a1 : Int32) (a2 : Int32) (μ : fw_M) : Option (Int32) :=
  (f_M_isOne a1 μ).bind fun (p2 : Int32) =>
  if p2 = 0 then
    some (-1)
  else
    (f_M_in (Int32.toInt64 a2) 0 2).bind fun (p14 : Int32) =>
    if p14 = 0 then
      some (-1)
    else
      Option.bind (
        if a2 = 0 then
          (fw_rd 10 (μ.1 1) a1).bind fun v31 =>
          some v31
        else
          if a2 = 1 then
            (fw_rd 10 (μ.1 2) a1).bind fun v45 =>
            some v45
          else
            (fw_rd 10 (μ.1 3) a1).bind fun v54 =>
            some v54) fun (j23 : Int32) =>
      some j23
set_option maxHeartbeats 4000000 in
set_option maxRecDepth 100000 in
theorem c_M_told {a1 : Int32} {a2 : Int32} {μ : fw_M} {r : Int32} (h : f_M_told a1 a2 μ = some r) : fw_Con Y_M_told fw_Mo 3 [.ref 0, .int a1, .int a2] (some r) μ μ := by
  refine fw_con (by decide) (Nat.le_of_ble_eq_true rfl) ?_
  rw [f_M_told] at h
  show fw_R "FewTypesModel" prog_11_method_9_code 3 (some .int) fw_Mo 3 (some r) μ 0 [(0, .ref 0), (1, .int a1), (2, .int a2)] [] μ
  refine fw_aload_n (pc := 0) d_M_told_0 0 rfl rfl ?_
  refine fw_iload_n (pc := 1) d_M_told_1 1 rfl rfl ?_
  obtain ⟨p2, e2, h⟩ := fw_be h
  refine fw_callVi (pc := 2) d_M_told_2 mv_M_116 fw_Mo0 (c_M_isOne e2) (by decide) rfl rfl (Nat.le_of_ble_eq_true rfl) ?_
  refine fw_if_eq (pc := 5) (tgt := 20) d_M_told_5 rfl (fun hc => ?_) (fun hc => ?_)
  · have h := fw_it hc h
    refine fw_iconst (pc := 20) d_M_told_20 fw_icm1 ?_
    obtain rfl := Option.some.inj h
    exact fw_iret (pc := 21) d_M_told_21 rfl
  · have h := fw_if hc h
    refine fw_iload_n (pc := 8) d_M_told_8 2 rfl rfl ?_
    refine fw_i2l (pc := 9) d_M_told_9 ?_
    refine fw_lconst (pc := 10) d_M_told_10 (v := 0) (by decide) ?_
    refine fw_ldc2 (pc := 11) d_M_told_11 cl_M_119 ?_
    obtain ⟨p14, e14, h⟩ := fw_be h
    refine fw_callSi (pc := 14) d_M_told_14 ms_M_94 (c_M_in e14) (by decide) rfl rfl (Nat.le_of_ble_eq_true rfl) ?_
    refine fw_if_ne (pc := 17) (tgt := 22) d_M_told_17 rfl (fun hc => ?_) (fun hc => ?_)
    · have h := fw_it hc h
      refine fw_iconst (pc := 20) d_M_told_20 fw_icm1 ?_
      obtain rfl := Option.some.inj h
      exact fw_iret (pc := 21) d_M_told_21 rfl
    · have h := fw_if hc h
      refine fw_iload_n (pc := 22) d_M_told_22 2 rfl rfl ?_
      obtain ⟨j23, w23, h⟩ := fw_be h
      have hJ23 : fw_R "FewTypesModel" prog_11_method_9_code 3 (some .int) fw_Mo 3 (some r) μ 55 [] [.int j23] μ := by
        obtain rfl := Option.some.inj h
        exact fw_iret (pc := 55) d_M_told_55 rfl
      clear h
      have h := w23
      clear w23
      refine fw_if_ne (pc := 23) (tgt := 35) d_M_told_23 rfl (fun hc => ?_) (fun hc => ?_)
      · have h := fw_it hc h
        refine fw_aload_n (pc := 26) d_M_told_26 0 rfl rfl ?_
        refine fw_getR (pc := 27) d_M_told_27 fl_M_7 fw_Mo0 rfl ?_
        refine fw_iload_n (pc := 30) d_M_told_30 1 rfl rfl ?_
        obtain ⟨v31, e31, h⟩ := fw_be h
        refine fw_iald (pc := 31) d_M_told_31 fw_Mo1 e31 ?_
        refine fw_goto (pc := 32) (tgt := 55) d_M_told_32 rfl ?_
        obtain rfl := Option.some.inj h
        exact fw_sub [] rfl hJ23
      · have h := fw_if hc h
        refine fw_iload_n (pc := 35) d_M_told_35 2 rfl rfl ?_
        refine fw_iconst (pc := 36) d_M_told_36 fw_ic1 ?_
        refine fw_icmp_ne (pc := 37) (tgt := 49) d_M_told_37 rfl (fun hc => ?_) (fun hc => ?_)
        · have h := fw_it hc h
          refine fw_aload_n (pc := 40) d_M_told_40 0 rfl rfl ?_
          refine fw_getR (pc := 41) d_M_told_41 fl_M_13 fw_Mo0 rfl ?_
          refine fw_iload_n (pc := 44) d_M_told_44 1 rfl rfl ?_
          obtain ⟨v45, e45, h⟩ := fw_be h
          refine fw_iald (pc := 45) d_M_told_45 fw_Mo2 e45 ?_
          refine fw_goto (pc := 46) (tgt := 55) d_M_told_46 rfl ?_
          obtain rfl := Option.some.inj h
          exact fw_sub [] rfl hJ23
        · have h := fw_if hc h
          refine fw_aload_n (pc := 49) d_M_told_49 0 rfl rfl ?_
          refine fw_getR (pc := 50) d_M_told_50 fl_M_16 fw_Mo0 rfl ?_
          refine fw_iload_n (pc := 53) d_M_told_53 1 rfl rfl ?_
          obtain ⟨v54, e54, h⟩ := fw_be h
          refine fw_iald (pc := 54) d_M_told_54 fw_Mo3 e54 ?_
          obtain rfl := Option.some.inj h
          exact fw_sub [] rfl hJ23
def f_M_goes_L12  : Int32 × fw_M → Option ((Int32 × fw_M) ⊕ (fw_M))
  | (x2_12, μ12) =>
  if (μ12.1 0 0) ≤ x2_12 then
    some (.inr μ12)
  else
    (fw_rd 10 (μ12.1 1) (x2_12 + 1)).bind fun v29 =>
    (fw_rd 10 (μ12.1 2) (x2_12 + 1)).bind fun v37 =>
    (fw_rd 10 (μ12.1 3) (x2_12 + 1)).bind fun v45 =>
    (f_M_comes x2_12 v29 v37 v45 μ12).bind fun (p46 : fw_M) =>
    fw_nm (x2_12 + 1) fun (v49 : Int32) =>
    some (.inl (v49, p46))
def f_M_goes (a1 : Int32) (μ : fw_M) : Option (fw_M) :=
  fw_nm (fw_wr μ 0 0 ((μ.1 0 0) - 1)) fun (μ7 : fw_M) =>
  (fw_wh (f_M_goes_L12) fw_N (a1, μ7)).bind fun (e12x : fw_M) =>
  some e12x
set_option maxHeartbeats 4000000 in
set_option maxRecDepth 100000 in
theorem c_M_goes {a1 : Int32} {μ : fw_M} {r : fw_M} (h : f_M_goes a1 μ = some r) : fw_Con Y_M_goes fw_Mo 2 [.ref 0, .int a1] none μ r := by
  refine fw_con (by decide) (Nat.le_of_ble_eq_true rfl) ?_
  rw [f_M_goes] at h
  show fw_R "FewTypesModel" prog_11_method_10_code 3 none fw_Mo 2 none r 0 [(0, .ref 0), (1, .int a1)] [] μ
  refine fw_aload_n (pc := 0) d_M_goes_0 0 rfl rfl ?_
  refine fw_dup (pc := 1) d_M_goes_1 rfl ?_
  refine fw_getI (pc := 2) d_M_goes_2 fl_M_108 fw_Mo0 rfl ?_
  refine fw_iconst (pc := 5) d_M_goes_5 fw_ic1 ?_
  refine fw_isub (pc := 6) d_M_goes_6 ?_
  obtain ⟨μ7, e7, h⟩ := fw_ne h
  refine fw_putI (pc := 7) d_M_goes_7 fp_M_108 fw_Mo0 rfl (fw_mem e7 ?_)
  refine fw_iload_n (pc := 10) d_M_goes_10 1 rfl rfl ?_
  refine fw_istore_n (pc := 11) (lv1 := [(2, .int a1), (0, .ref 0), (1, .int a1)]) d_M_goes_11 rfl (by decide) rfl ?_
  obtain ⟨e12x, w12, h⟩ := fw_be h
  have hE12 : fw_R "FewTypesModel" prog_11_method_10_code 3 none fw_Mo 2 none r 55 [] [] e12x := by
    obtain rfl := Option.some.inj h
    exact fw_vret (pc := 55) d_M_goes_55 rfl
  clear h
  exact fw_sub [1, 0] rfl (fw_we (e := e12x) (fun (s : Int32 × fw_M) => fw_R "FewTypesModel" prog_11_method_10_code 3 none fw_Mo 2 none r 12 [(0, .ref 0), (2, .int s.1)] [] s.2) (by
    intro s x h hl hr
    obtain ⟨x2_12, μ12⟩ := s
    rw [f_M_goes_L12] at h
    show fw_R "FewTypesModel" prog_11_method_10_code 3 none fw_Mo 2 none r 12 [(0, .ref 0), (2, .int x2_12)] [] μ12
    refine fw_iload_n (pc := 12) d_M_goes_12 1 rfl rfl ?_
    refine fw_aload_n (pc := 13) d_M_goes_13 0 rfl rfl ?_
    refine fw_getI (pc := 14) d_M_goes_14 fl_M_108 fw_Mo0 rfl ?_
    refine fw_icmp_ge (pc := 17) (tgt := 55) d_M_goes_17 rfl (fun hc => ?_) (fun hc => ?_)
    · have h := fw_it hc h
      obtain rfl := Option.some.inj h
      have he := hr _ rfl
      subst he
      exact fw_sub [] rfl hE12
    · have h := fw_if hc h
      refine fw_aload_n (pc := 20) d_M_goes_20 0 rfl rfl ?_
      refine fw_iload_n (pc := 21) d_M_goes_21 1 rfl rfl ?_
      refine fw_aload_n (pc := 22) d_M_goes_22 0 rfl rfl ?_
      refine fw_getR (pc := 23) d_M_goes_23 fl_M_7 fw_Mo0 rfl ?_
      refine fw_iload_n (pc := 26) d_M_goes_26 1 rfl rfl ?_
      refine fw_iconst (pc := 27) d_M_goes_27 fw_ic1 ?_
      refine fw_iadd (pc := 28) d_M_goes_28 ?_
      obtain ⟨v29, e29, h⟩ := fw_be h
      refine fw_iald (pc := 29) d_M_goes_29 fw_Mo1 e29 ?_
      refine fw_aload_n (pc := 30) d_M_goes_30 0 rfl rfl ?_
      refine fw_getR (pc := 31) d_M_goes_31 fl_M_13 fw_Mo0 rfl ?_
      refine fw_iload_n (pc := 34) d_M_goes_34 1 rfl rfl ?_
      refine fw_iconst (pc := 35) d_M_goes_35 fw_ic1 ?_
      refine fw_iadd (pc := 36) d_M_goes_36 ?_
      obtain ⟨v37, e37, h⟩ := fw_be h
      refine fw_iald (pc := 37) d_M_goes_37 fw_Mo2 e37 ?_
      refine fw_aload_n (pc := 38) d_M_goes_38 0 rfl rfl ?_
      refine fw_getR (pc := 39) d_M_goes_39 fl_M_16 fw_Mo0 rfl ?_
      refine fw_iload_n (pc := 42) d_M_goes_42 1 rfl rfl ?_
      refine fw_iconst (pc := 43) d_M_goes_43 fw_ic1 ?_
      refine fw_iadd (pc := 44) d_M_goes_44 ?_
      obtain ⟨v45, e45, h⟩ := fw_be h
      refine fw_iald (pc := 45) d_M_goes_45 fw_Mo3 e45 ?_
      obtain ⟨p46, e46, h⟩ := fw_be h
      refine fw_callVv (pc := 46) d_M_goes_46 mv_M_112 fw_Mo0 (c_M_comes e46) (by decide) rfl rfl (Nat.le_of_ble_eq_true rfl) ?_
      obtain ⟨v49, e49, h⟩ := fw_ne h
      refine fw_iinc2 (pc := 49) (j := 1) (lv1 := [(2, .int v49), (0, .ref 0)]) d_M_goes_49 rfl fw_ic1 e49 (by decide) rfl ?_
      refine fw_goto (pc := 52) (tgt := 12) d_M_goes_52 rfl ?_
      obtain rfl := Option.some.inj h
      exact fw_sub [1, 0] rfl (hl _ rfl)
    ) _ _ w12)
def f_M_lose (a1 : Int32) (μ : fw_M) : Option (Int32 × fw_M) :=
  (f_M_isOne a1 μ).bind fun (p2 : Int32) =>
  if p2 = 0 then
    some ((-1), μ)
  else
    (f_M_goes a1 μ).bind fun (p12 : fw_M) =>
    some ((p12.1 0 0), p12)
set_option maxHeartbeats 4000000 in
set_option maxRecDepth 100000 in
theorem c_M_lose {a1 : Int32} {μ : fw_M} {r : Int32 × fw_M} (h : f_M_lose a1 μ = some r) : fw_Con Y_M_lose fw_Mo 3 [.ref 0, .int a1] (some r.1) μ r.2 := by
  refine fw_con (by decide) (Nat.le_of_ble_eq_true rfl) ?_
  rw [f_M_lose] at h
  show fw_R "FewTypesModel" prog_11_method_11_code 2 (some .int) fw_Mo 3 (some r.1) r.2 0 [(0, .ref 0), (1, .int a1)] [] μ
  refine fw_aload_n (pc := 0) d_M_lose_0 0 rfl rfl ?_
  refine fw_iload_n (pc := 1) d_M_lose_1 1 rfl rfl ?_
  obtain ⟨p2, e2, h⟩ := fw_be h
  refine fw_callVi (pc := 2) d_M_lose_2 mv_M_116 fw_Mo0 (c_M_isOne e2) (by decide) rfl rfl (Nat.le_of_ble_eq_true rfl) ?_
  refine fw_if_ne (pc := 5) (tgt := 10) d_M_lose_5 rfl (fun hc => ?_) (fun hc => ?_)
  · have h := fw_it hc h
    refine fw_iconst (pc := 8) d_M_lose_8 fw_icm1 ?_
    obtain rfl := Option.some.inj h
    exact fw_iret (pc := 9) d_M_lose_9 rfl
  · have h := fw_if hc h
    refine fw_aload_n (pc := 10) d_M_lose_10 0 rfl rfl ?_
    refine fw_iload_n (pc := 11) d_M_lose_11 1 rfl rfl ?_
    obtain ⟨p12, e12, h⟩ := fw_be h
    refine fw_callVv (pc := 12) d_M_lose_12 mv_M_121 fw_Mo0 (c_M_goes e12) (by decide) rfl rfl (Nat.le_of_ble_eq_true rfl) ?_
    refine fw_aload_n (pc := 15) d_M_lose_15 0 rfl rfl ?_
    refine fw_getI (pc := 16) d_M_lose_16 fl_M_108 fw_Mo0 rfl ?_
    obtain rfl := Option.some.inj h
    exact fw_iret (pc := 19) d_M_lose_19 rfl
def f_M_width (a1 : Int32) (a2 : Int32) (μ : fw_M) : Option (Int32 × fw_M) :=
  (f_M_isLetter a1).bind fun (p1 : Int32) =>
  if p1 = 0 then
    some ((-1), μ)
  else
    (f_M_in (Int32.toInt64 a2) 1 4).bind fun (p13 : Int32) =>
    if p13 = 0 then
      some ((-1), μ)
    else
      (fw_rd 12 (μ.1 4) a1).bind fun v26 =>
      (fw_si 12 μ 4 a1 a2).bind fun μ34 =>
      some (v26, μ34)
set_option maxHeartbeats 4000000 in
set_option maxRecDepth 100000 in
theorem c_M_width {a1 : Int32} {a2 : Int32} {μ : fw_M} {r : Int32 × fw_M} (h : f_M_width a1 a2 μ = some r) : fw_Con Y_M_width fw_Mo 3 [.ref 0, .int a1, .int a2] (some r.1) μ r.2 := by
  refine fw_con (by decide) (Nat.le_of_ble_eq_true rfl) ?_
  rw [f_M_width] at h
  show fw_R "FewTypesModel" prog_11_method_12_code 4 (some .int) fw_Mo 3 (some r.1) r.2 0 [(0, .ref 0), (1, .int a1), (2, .int a2)] [] μ
  refine fw_iload_n (pc := 0) d_M_width_0 1 rfl rfl ?_
  obtain ⟨p1, e1, h⟩ := fw_be h
  refine fw_callSi (pc := 1) d_M_width_1 ms_M_98 (c_M_isLetter e1) (by decide) rfl rfl (Nat.le_of_ble_eq_true rfl) ?_
  refine fw_if_eq (pc := 4) (tgt := 19) d_M_width_4 rfl (fun hc => ?_) (fun hc => ?_)
  · have h := fw_it hc h
    refine fw_iconst (pc := 19) d_M_width_19 fw_icm1 ?_
    obtain rfl := Option.some.inj h
    exact fw_iret (pc := 20) d_M_width_20 rfl
  · have h := fw_if hc h
    refine fw_iload_n (pc := 7) d_M_width_7 2 rfl rfl ?_
    refine fw_i2l (pc := 8) d_M_width_8 ?_
    refine fw_lconst (pc := 9) d_M_width_9 (v := 1) (by decide) ?_
    refine fw_ldc2 (pc := 10) d_M_width_10 cl_M_125 ?_
    obtain ⟨p13, e13, h⟩ := fw_be h
    refine fw_callSi (pc := 13) d_M_width_13 ms_M_94 (c_M_in e13) (by decide) rfl rfl (Nat.le_of_ble_eq_true rfl) ?_
    refine fw_if_ne (pc := 16) (tgt := 21) d_M_width_16 rfl (fun hc => ?_) (fun hc => ?_)
    · have h := fw_it hc h
      refine fw_iconst (pc := 19) d_M_width_19 fw_icm1 ?_
      obtain rfl := Option.some.inj h
      exact fw_iret (pc := 20) d_M_width_20 rfl
    · have h := fw_if hc h
      refine fw_aload_n (pc := 21) d_M_width_21 0 rfl rfl ?_
      refine fw_getR (pc := 22) d_M_width_22 fl_M_19 fw_Mo0 rfl ?_
      refine fw_iload_n (pc := 25) d_M_width_25 1 rfl rfl ?_
      obtain ⟨v26, e26, h⟩ := fw_be h
      refine fw_iald (pc := 26) d_M_width_26 fw_Mo4 e26 ?_
      refine fw_istore_n (pc := 27) (lv1 := [(3, .int v26), (0, .ref 0), (1, .int a1), (2, .int a2)]) d_M_width_27 rfl (by decide) rfl ?_
      refine fw_aload_n (pc := 28) d_M_width_28 1 rfl rfl ?_
      refine fw_getR (pc := 29) d_M_width_29 fl_M_19 fw_Mo0 rfl ?_
      refine fw_iload_n (pc := 32) d_M_width_32 2 rfl rfl ?_
      refine fw_iload_n (pc := 33) d_M_width_33 3 rfl rfl ?_
      obtain ⟨μ34, e34, h⟩ := fw_be h
      refine fw_iast (pc := 34) d_M_width_34 fw_Mo4 e34 ?_
      refine fw_iload_n (pc := 35) d_M_width_35 0 rfl rfl ?_
      obtain rfl := Option.some.inj h
      exact fw_iret (pc := 36) d_M_width_36 rfl
def f_M_rule (a1 : Int32) (a2 : Int32) (μ : fw_M) : Option (Int32 × fw_M) :=
  (f_M_in (Int32.toInt64 a1) 0 2).bind fun (p6 : Int32) =>
  if p6 = 0 then
    some ((-1), μ)
  else
    fw_nm (
      if a1 = 2 then
        1
      else
        0) fun (j16 : Int64) =>
    fw_nm (
      if a1 = 0 then
        1
      else
        if a1 = 1 then
          3
        else
          9) fun (j25 : Int64) =>
    (f_M_in (Int32.toInt64 a2) j16 j25).bind fun (p46 : Int32) =>
    if p46 = 0 then
      some ((-1), μ)
    else
      (fw_rd 3 (μ.1 5) a1).bind fun v59 =>
      (fw_si 3 μ 5 a1 a2).bind fun μ67 =>
      some (v59, μ67)
set_option maxHeartbeats 4000000 in
set_option maxRecDepth 100000 in
theorem c_M_rule {a1 : Int32} {a2 : Int32} {μ : fw_M} {r : Int32 × fw_M} (h : f_M_rule a1 a2 μ = some r) : fw_Con Y_M_rule fw_Mo 2 [.ref 0, .int a1, .int a2] (some r.1) μ r.2 := by
  refine fw_con (by decide) (Nat.le_of_ble_eq_true rfl) ?_
  rw [f_M_rule] at h
  show fw_R "FewTypesModel" prog_11_method_13_code 4 (some .int) fw_Mo 2 (some r.1) r.2 0 [(0, .ref 0), (1, .int a1), (2, .int a2)] [] μ
  refine fw_iload_n (pc := 0) d_M_rule_0 1 rfl rfl ?_
  refine fw_i2l (pc := 1) d_M_rule_1 ?_
  refine fw_lconst (pc := 2) d_M_rule_2 (v := 0) (by decide) ?_
  refine fw_ldc2 (pc := 3) d_M_rule_3 cl_M_119 ?_
  obtain ⟨p6, e6, h⟩ := fw_be h
  refine fw_callSi (pc := 6) d_M_rule_6 ms_M_94 (c_M_in e6) (by decide) rfl rfl (Nat.le_of_ble_eq_true rfl) ?_
  refine fw_if_eq (pc := 9) (tgt := 52) d_M_rule_9 rfl (fun hc => ?_) (fun hc => ?_)
  · have h := fw_it hc h
    refine fw_iconst (pc := 52) d_M_rule_52 fw_icm1 ?_
    obtain rfl := Option.some.inj h
    exact fw_iret (pc := 53) d_M_rule_53 rfl
  · have h := fw_if hc h
    refine fw_iload_n (pc := 12) d_M_rule_12 2 rfl rfl ?_
    refine fw_i2l (pc := 13) d_M_rule_13 ?_
    refine fw_iload_n (pc := 14) d_M_rule_14 1 rfl rfl ?_
    refine fw_iconst (pc := 15) d_M_rule_15 fw_ic2 ?_
    obtain ⟨j16, w16, h⟩ := fw_ne h
    have hJ16 : fw_R "FewTypesModel" prog_11_method_13_code 4 (some .int) fw_Mo 2 (some r.1) r.2 24 [(0, .ref 0), (1, .int a1), (2, .int a2)] [.long j16, .long (Int32.toInt64 a2)] μ := by
      refine fw_iload_n (pc := 24) d_M_rule_24 1 rfl rfl ?_
      obtain ⟨j25, w25, h⟩ := fw_ne h
      have hJ25 : fw_R "FewTypesModel" prog_11_method_13_code 4 (some .int) fw_Mo 2 (some r.1) r.2 46 [(0, .ref 0), (1, .int a1), (2, .int a2)] [.long j25, .long j16, .long (Int32.toInt64 a2)] μ := by
        obtain ⟨p46, e46, h⟩ := fw_be h
        refine fw_callSi (pc := 46) d_M_rule_46 ms_M_94 (c_M_in e46) (by decide) rfl rfl (Nat.le_of_ble_eq_true rfl) ?_
        refine fw_if_ne (pc := 49) (tgt := 54) d_M_rule_49 rfl (fun hc => ?_) (fun hc => ?_)
        · have h := fw_it hc h
          refine fw_iconst (pc := 52) d_M_rule_52 fw_icm1 ?_
          obtain rfl := Option.some.inj h
          exact fw_iret (pc := 53) d_M_rule_53 rfl
        · have h := fw_if hc h
          refine fw_aload_n (pc := 54) d_M_rule_54 0 rfl rfl ?_
          refine fw_getR (pc := 55) d_M_rule_55 fl_M_22 fw_Mo0 rfl ?_
          refine fw_iload_n (pc := 58) d_M_rule_58 1 rfl rfl ?_
          obtain ⟨v59, e59, h⟩ := fw_be h
          refine fw_iald (pc := 59) d_M_rule_59 fw_Mo5 e59 ?_
          refine fw_istore_n (pc := 60) (lv1 := [(3, .int v59), (0, .ref 0), (1, .int a1), (2, .int a2)]) d_M_rule_60 rfl (by decide) rfl ?_
          refine fw_aload_n (pc := 61) d_M_rule_61 1 rfl rfl ?_
          refine fw_getR (pc := 62) d_M_rule_62 fl_M_22 fw_Mo0 rfl ?_
          refine fw_iload_n (pc := 65) d_M_rule_65 2 rfl rfl ?_
          refine fw_iload_n (pc := 66) d_M_rule_66 3 rfl rfl ?_
          obtain ⟨μ67, e67, h⟩ := fw_be h
          refine fw_iast (pc := 67) d_M_rule_67 fw_Mo5 e67 ?_
          refine fw_iload_n (pc := 68) d_M_rule_68 0 rfl rfl ?_
          obtain rfl := Option.some.inj h
          exact fw_iret (pc := 69) d_M_rule_69 rfl
      clear h
      have h := w25
      clear w25
      refine fw_if_ne (pc := 25) (tgt := 32) d_M_rule_25 rfl (fun hc => ?_) (fun hc => ?_)
      · have h := h.trans (if_pos hc)
        refine fw_lconst (pc := 28) d_M_rule_28 (v := 1) (by decide) ?_
        refine fw_goto (pc := 29) (tgt := 46) d_M_rule_29 rfl ?_
        subst h
        exact fw_sub [0, 1, 2] rfl hJ25
      · have h := h.trans (if_neg hc)
        refine fw_iload_n (pc := 32) d_M_rule_32 1 rfl rfl ?_
        refine fw_iconst (pc := 33) d_M_rule_33 fw_ic1 ?_
        refine fw_icmp_ne (pc := 34) (tgt := 43) d_M_rule_34 rfl (fun hc => ?_) (fun hc => ?_)
        · have h := h.trans (if_pos hc)
          refine fw_ldc2 (pc := 37) d_M_rule_37 cl_M_127 ?_
          refine fw_goto (pc := 40) (tgt := 46) d_M_rule_40 rfl ?_
          subst h
          exact fw_sub [0, 1, 2] rfl hJ25
        · have h := h.trans (if_neg hc)
          refine fw_ldc2 (pc := 43) d_M_rule_43 cl_M_102 ?_
          subst h
          exact fw_sub [0, 1, 2] rfl hJ25
    clear h
    have h := w16
    clear w16
    refine fw_icmp_ne (pc := 16) (tgt := 23) d_M_rule_16 rfl (fun hc => ?_) (fun hc => ?_)
    · have h := h.trans (if_pos hc)
      refine fw_lconst (pc := 19) d_M_rule_19 (v := 1) (by decide) ?_
      refine fw_goto (pc := 20) (tgt := 24) d_M_rule_20 rfl ?_
      subst h
      exact fw_sub [0, 1, 2] rfl hJ16
    · have h := h.trans (if_neg hc)
      refine fw_lconst (pc := 23) d_M_rule_23 (v := 0) (by decide) ?_
      subst h
      exact fw_sub [0, 1, 2] rfl hJ16
def f_M_type_L17 (a1 : Int64) (a3 : Int32) (μ : fw_M) (x4_17 : Int32) : Option ((Int32) ⊕ ((Unit) ⊕ (Int32 × fw_M))) :=
  if a3 ≤ x4_17 then
    some (.inr (.inl ()))
  else
    (f_M_in ((a1 >>> (Int32.toInt64 (8 * x4_17) &&& 63)) &&& 255) 32 126).bind fun (p40 : Int32) =>
    if p40 = 0 then
      some (.inr (.inr ((-1), μ)))
    else
      fw_nm (x4_17 + 1) fun (v48 : Int32) =>
      some (.inl v48)
def f_M_type_L73 (a1 : Int64) : Int32 × fw_M → Option ((Int32 × fw_M) ⊕ (fw_M))
  | (x4_73, μ73) =>
  if x4_73 < 0 then
    some (.inr μ73)
  else
    (fw_si 60 μ73 10 (μ73.1 0 15) (Int64.toInt32 ((a1 >>> (Int32.toInt64 (8 * x4_73) &&& 63)) &&& 255))).bind fun μ98 =>
    fw_nm (fw_wr μ98 0 15 ((μ98.1 0 15) + 1)) fun (μ106 : fw_M) =>
    fw_nm (x4_73 + (-1)) fun (v109 : Int32) =>
    some (.inl (v109, μ106))
def f_M_type (a1 : Int64) (a3 : Int32) (μ : fw_M) : Option (Int32 × fw_M) :=
  (f_M_in (Int32.toInt64 a3) 1 8).bind fun (p6 : Int32) =>
  if p6 = 0 then
    some ((-1), μ)
  else
    Option.bind (fw_wh (f_M_type_L17 a1 a3 μ) fw_N 0) fun (q17 : (Unit) ⊕ (Int32 × fw_M)) => match q17 with
    | .inl e17x =>
      if ((μ.1 0 15) + a3) ≤ 60 then
        fw_nm ((a3 - 1)) fun (v71 : Int32) =>
        (fw_wh (f_M_type_L73 a1) fw_N (v71, μ)).bind fun (e73x : fw_M) =>
        some ((e73x.1 0 15), e73x)
      else
        some ((-3), μ)
    | .inr r17 => some r17
set_option maxHeartbeats 4000000 in
set_option maxRecDepth 100000 in
theorem c_M_type {a1 : Int64} {a3 : Int32} {μ : fw_M} {r : Int32 × fw_M} (h : f_M_type a1 a3 μ = some r) : fw_Con Y_M_type fw_Mo 2 [.ref 0, .long a1, .int a3] (some r.1) μ r.2 := by
  refine fw_con (by decide) (Nat.le_of_ble_eq_true rfl) ?_
  rw [f_M_type] at h
  show fw_R "FewTypesModel" prog_11_method_14_code 5 (some .int) fw_Mo 2 (some r.1) r.2 0 [(0, .ref 0), (1, .long a1), (3, .int a3)] [] μ
  refine fw_iload_n (pc := 0) d_M_type_0 2 rfl rfl ?_
  refine fw_i2l (pc := 1) d_M_type_1 ?_
  refine fw_lconst (pc := 2) d_M_type_2 (v := 1) (by decide) ?_
  refine fw_ldc2 (pc := 3) d_M_type_3 cl_M_129 ?_
  obtain ⟨p6, e6, h⟩ := fw_be h
  refine fw_callSi (pc := 6) d_M_type_6 ms_M_94 (c_M_in e6) (by decide) rfl rfl (Nat.le_of_ble_eq_true rfl) ?_
  refine fw_if_ne (pc := 9) (tgt := 14) d_M_type_9 rfl (fun hc => ?_) (fun hc => ?_)
  · have h := fw_it hc h
    refine fw_iconst (pc := 12) d_M_type_12 fw_icm1 ?_
    obtain rfl := Option.some.inj h
    exact fw_iret (pc := 13) d_M_type_13 rfl
  · have h := fw_if hc h
    refine fw_iconst (pc := 14) d_M_type_14 fw_ic0 ?_
    refine fw_istore (pc := 15) (lv1 := [(4, .int 0), (0, .ref 0), (1, .long a1), (3, .int a3)]) d_M_type_15 (by decide) rfl ?_
    obtain ⟨q17, w17, h⟩ := fw_be h
    have hE17 : ∀ e17x : Unit, q17 = .inl e17x → fw_R "FewTypesModel" prog_11_method_14_code 5 (some .int) fw_Mo 2 (some r.1) r.2 54 [(0, .ref 0), (1, .long a1), (3, .int a3)] [] μ := by
      intro e17x hq
      subst hq
      dsimp only at h
      refine fw_aload_n (pc := 54) d_M_type_54 0 rfl rfl ?_
      refine fw_getI (pc := 55) d_M_type_55 fl_M_137 fw_Mo0 rfl ?_
      refine fw_iload_n (pc := 58) d_M_type_58 2 rfl rfl ?_
      refine fw_iadd (pc := 59) d_M_type_59 ?_
      refine fw_bipush (pc := 60) d_M_type_60 fw_bp60 ?_
      refine fw_icmp_le (pc := 62) (tgt := 68) d_M_type_62 rfl (fun hc => ?_) (fun hc => ?_)
      · have h := fw_it hc h
        refine fw_iload_n (pc := 68) d_M_type_68 2 rfl rfl ?_
        refine fw_iconst (pc := 69) d_M_type_69 fw_ic1 ?_
        refine fw_isub (pc := 70) d_M_type_70 ?_
        obtain ⟨v71, e71, h⟩ := fw_ne h
        refine fw_top e71 ?_
        refine fw_istore (pc := 71) (lv1 := [(4, .int v71), (0, .ref 0), (1, .long a1), (3, .int a3)]) d_M_type_71 (by decide) rfl ?_
        obtain ⟨e73x, w73, h⟩ := fw_be h
        have hE73 : fw_R "FewTypesModel" prog_11_method_14_code 5 (some .int) fw_Mo 2 (some r.1) r.2 115 [(0, .ref 0)] [] e73x := by
          refine fw_aload_n (pc := 115) d_M_type_115 0 rfl rfl ?_
          refine fw_getI (pc := 116) d_M_type_116 fl_M_137 fw_Mo0 rfl ?_
          obtain rfl := Option.some.inj h
          exact fw_iret (pc := 119) d_M_type_119 rfl
        clear h
        exact fw_sub [1, 2, 0] rfl (fw_we (e := e73x) (fun (s : Int32 × fw_M) => fw_R "FewTypesModel" prog_11_method_14_code 5 (some .int) fw_Mo 2 (some r.1) r.2 73 [(0, .ref 0), (1, .long a1), (4, .int s.1)] [] s.2) (by
          intro s x h hl hr
          obtain ⟨x4_73, μ73⟩ := s
          rw [f_M_type_L73] at h
          show fw_R "FewTypesModel" prog_11_method_14_code 5 (some .int) fw_Mo 2 (some r.1) r.2 73 [(0, .ref 0), (1, .long a1), (4, .int x4_73)] [] μ73
          refine fw_iload (pc := 73) d_M_type_73 2 rfl ?_
          refine fw_if_lt (pc := 75) (tgt := 115) d_M_type_75 rfl (fun hc => ?_) (fun hc => ?_)
          · have h := fw_it hc h
            obtain rfl := Option.some.inj h
            have he := hr _ rfl
            subst he
            exact fw_sub [0] rfl hE73
          · have h := fw_if hc h
            refine fw_aload_n (pc := 78) d_M_type_78 0 rfl rfl ?_
            refine fw_getR (pc := 79) d_M_type_79 fl_M_37 fw_Mo0 rfl ?_
            refine fw_aload_n (pc := 82) d_M_type_82 0 rfl rfl ?_
            refine fw_getI (pc := 83) d_M_type_83 fl_M_137 fw_Mo0 rfl ?_
            refine fw_lload_n (pc := 86) d_M_type_86 1 rfl rfl ?_
            refine fw_bipush (pc := 87) d_M_type_87 fw_bp8 ?_
            refine fw_iload (pc := 89) d_M_type_89 2 rfl ?_
            refine fw_imul (pc := 91) d_M_type_91 ?_
            refine fw_lshr (pc := 92) d_M_type_92 ?_
            refine fw_ldc2 (pc := 93) d_M_type_93 cl_M_131 ?_
            refine fw_land (pc := 96) d_M_type_96 ?_
            refine fw_l2i (pc := 97) d_M_type_97 ?_
            obtain ⟨μ98, e98, h⟩ := fw_be h
            refine fw_iast (pc := 98) d_M_type_98 fw_Mo10 e98 ?_
            refine fw_aload_n (pc := 99) d_M_type_99 0 rfl rfl ?_
            refine fw_dup (pc := 100) d_M_type_100 rfl ?_
            refine fw_getI (pc := 101) d_M_type_101 fl_M_137 fw_Mo0 rfl ?_
            refine fw_iconst (pc := 104) d_M_type_104 fw_ic1 ?_
            refine fw_iadd (pc := 105) d_M_type_105 ?_
            obtain ⟨μ106, e106, h⟩ := fw_ne h
            refine fw_putI (pc := 106) d_M_type_106 fp_M_137 fw_Mo0 rfl (fw_mem e106 ?_)
            obtain ⟨v109, e109, h⟩ := fw_ne h
            refine fw_iinc2 (pc := 109) (j := 2) (lv1 := [(4, .int v109), (0, .ref 0), (1, .long a1)]) d_M_type_109 rfl fw_icm1 e109 (by decide) rfl ?_
            refine fw_goto (pc := 112) (tgt := 73) d_M_type_112 rfl ?_
            obtain rfl := Option.some.inj h
            exact fw_sub [1, 2, 0] rfl (hl _ rfl)
          ) _ _ w73)
      · have h := fw_if hc h
        refine fw_bipush (pc := 65) d_M_type_65 fw_bpm3 ?_
        obtain rfl := Option.some.inj h
        exact fw_iret (pc := 67) d_M_type_67 rfl
    have hR17 : ∀ r17, q17 = .inr r17 → r17 = r := by
      intro r17 hq
      subst hq
      exact Option.some.inj h
    clear h
    exact fw_sub [1, 2, 3, 0] rfl (fw_we (e := q17) (fun (s : Int32) => fw_R "FewTypesModel" prog_11_method_14_code 5 (some .int) fw_Mo 2 (some r.1) r.2 17 [(0, .ref 0), (1, .long a1), (3, .int a3), (4, .int s)] [] μ) (by
      intro s x h hl hr
      obtain ⟨x4_17, rfl⟩ : ∃ z, z = s := ⟨_, rfl⟩
      rw [f_M_type_L17] at h
      show fw_R "FewTypesModel" prog_11_method_14_code 5 (some .int) fw_Mo 2 (some r.1) r.2 17 [(0, .ref 0), (1, .long a1), (3, .int a3), (4, .int x4_17)] [] μ
      refine fw_iload (pc := 17) d_M_type_17 3 rfl ?_
      refine fw_iload_n (pc := 19) d_M_type_19 2 rfl rfl ?_
      refine fw_icmp_ge (pc := 20) (tgt := 54) d_M_type_20 rfl (fun hc => ?_) (fun hc => ?_)
      · have h := fw_it hc h
        obtain rfl := Option.some.inj h
        exact fw_sub [0, 1, 2] rfl (hE17 _ (hr _ rfl).symm)
      · have h := fw_if hc h
        refine fw_lload_n (pc := 23) d_M_type_23 1 rfl rfl ?_
        refine fw_bipush (pc := 24) d_M_type_24 fw_bp8 ?_
        refine fw_iload (pc := 26) d_M_type_26 3 rfl ?_
        refine fw_imul (pc := 28) d_M_type_28 ?_
        refine fw_lshr (pc := 29) d_M_type_29 ?_
        refine fw_ldc2 (pc := 30) d_M_type_30 cl_M_131 ?_
        refine fw_land (pc := 33) d_M_type_33 ?_
        refine fw_ldc2 (pc := 34) d_M_type_34 cl_M_133 ?_
        refine fw_ldc2 (pc := 37) d_M_type_37 cl_M_135 ?_
        obtain ⟨p40, e40, h⟩ := fw_be h
        refine fw_callSi (pc := 40) d_M_type_40 ms_M_94 (c_M_in e40) (by decide) rfl rfl (Nat.le_of_ble_eq_true rfl) ?_
        refine fw_if_ne (pc := 43) (tgt := 48) d_M_type_43 rfl (fun hc => ?_) (fun hc => ?_)
        · have h := fw_it hc h
          refine fw_iconst (pc := 46) d_M_type_46 fw_icm1 ?_
          obtain rfl := Option.some.inj h
          have he := hR17 _ (hr _ rfl).symm
          subst he
          exact fw_iret (pc := 47) d_M_type_47 rfl
        · have h := fw_if hc h
          obtain ⟨v48, e48, h⟩ := fw_ne h
          refine fw_iinc2 (pc := 48) (j := 3) (lv1 := [(4, .int v48), (0, .ref 0), (1, .long a1), (3, .int a3)]) d_M_type_48 rfl fw_ic1 e48 (by decide) rfl ?_
          refine fw_goto (pc := 51) (tgt := 17) d_M_type_51 rfl ?_
          obtain rfl := Option.some.inj h
          exact fw_sub [1, 2, 3, 0] rfl (hl _ rfl)
      ) _ _ w17)
def f_M_here_L0  (μ0 : fw_M) : Option ((fw_M) ⊕ (fw_M)) :=
  if (μ0.1 0 15) ≤ (μ0.1 0 16) then
    some (.inr μ0)
  else
    (fw_rd 60 (μ0.1 10) (μ0.1 0 16)).bind fun v19 =>
    if v19 = 32 then
      fw_nm (fw_wr μ0 0 16 ((μ0.1 0 16) + 1)) fun (μ32 : fw_M) =>
      some (.inl μ32)
    else
      some (.inr μ0)
def f_M_here  (μ : fw_M) : Option (Int32 × fw_M) :=
  (fw_wh (f_M_here_L0) fw_N μ).bind fun (e0x : fw_M) =>
  Option.bind (
    if (e0x.1 0 15) ≤ (e0x.1 0 16) then
      some 0
    else
      (fw_rd 60 (e0x.1 10) (e0x.1 0 16)).bind fun v57 =>
      some v57) fun (j46 : Int32) =>
  some (j46, e0x)
set_option maxHeartbeats 4000000 in
set_option maxRecDepth 100000 in
theorem c_M_here  {μ : fw_M} {r : Int32 × fw_M} (h : f_M_here  μ = some r) : fw_Con Y_M_here fw_Mo 1 [.ref 0] (some r.1) μ r.2 := by
  refine fw_con (by decide) (Nat.le_of_ble_eq_true rfl) ?_
  rw [f_M_here] at h
  show fw_R "FewTypesModel" prog_11_method_15_code 1 (some .int) fw_Mo 1 (some r.1) r.2 0 [(0, .ref 0)] [] μ
  obtain ⟨e0x, w0, h⟩ := fw_be h
  have hE0 : fw_R "FewTypesModel" prog_11_method_15_code 1 (some .int) fw_Mo 1 (some r.1) r.2 38 [(0, .ref 0)] [] e0x := by
    refine fw_aload_n (pc := 38) d_M_here_38 0 rfl rfl ?_
    refine fw_getI (pc := 39) d_M_here_39 fl_M_140 fw_Mo0 rfl ?_
    refine fw_aload_n (pc := 42) d_M_here_42 0 rfl rfl ?_
    refine fw_getI (pc := 43) d_M_here_43 fl_M_137 fw_Mo0 rfl ?_
    obtain ⟨j46, w46, h⟩ := fw_be h
    have hJ46 : fw_R "FewTypesModel" prog_11_method_15_code 1 (some .int) fw_Mo 1 (some r.1) r.2 62 [] [.int j46] e0x := by
      obtain rfl := Option.some.inj h
      exact fw_iret (pc := 62) d_M_here_62 rfl
    clear h
    have h := w46
    clear w46
    refine fw_icmp_ge (pc := 46) (tgt := 61) d_M_here_46 rfl (fun hc => ?_) (fun hc => ?_)
    · have h := fw_it hc h
      refine fw_iconst (pc := 61) d_M_here_61 fw_ic0 ?_
      obtain rfl := Option.some.inj h
      exact fw_sub [] rfl hJ46
    · have h := fw_if hc h
      refine fw_aload_n (pc := 49) d_M_here_49 0 rfl rfl ?_
      refine fw_getR (pc := 50) d_M_here_50 fl_M_37 fw_Mo0 rfl ?_
      refine fw_aload_n (pc := 53) d_M_here_53 0 rfl rfl ?_
      refine fw_getI (pc := 54) d_M_here_54 fl_M_140 fw_Mo0 rfl ?_
      obtain ⟨v57, e57, h⟩ := fw_be h
      refine fw_iald (pc := 57) d_M_here_57 fw_Mo10 e57 ?_
      refine fw_goto (pc := 58) (tgt := 62) d_M_here_58 rfl ?_
      obtain rfl := Option.some.inj h
      exact fw_sub [] rfl hJ46
  clear h
  exact fw_sub [0] rfl (fw_we (e := e0x) (fun (s : fw_M) => fw_R "FewTypesModel" prog_11_method_15_code 1 (some .int) fw_Mo 1 (some r.1) r.2 0 [(0, .ref 0)] [] s) (by
    intro s x h hl hr
    obtain ⟨μ0, rfl⟩ : ∃ z, z = s := ⟨_, rfl⟩
    rw [f_M_here_L0] at h
    show fw_R "FewTypesModel" prog_11_method_15_code 1 (some .int) fw_Mo 1 (some r.1) r.2 0 [(0, .ref 0)] [] μ0
    refine fw_aload_n (pc := 0) d_M_here_0 0 rfl rfl ?_
    refine fw_getI (pc := 1) d_M_here_1 fl_M_140 fw_Mo0 rfl ?_
    refine fw_aload_n (pc := 4) d_M_here_4 0 rfl rfl ?_
    refine fw_getI (pc := 5) d_M_here_5 fl_M_137 fw_Mo0 rfl ?_
    refine fw_icmp_ge (pc := 8) (tgt := 38) d_M_here_8 rfl (fun hc => ?_) (fun hc => ?_)
    · have h := fw_it hc h
      obtain rfl := Option.some.inj h
      have he := hr _ rfl
      subst he
      exact fw_sub [0] rfl hE0
    · have h := fw_if hc h
      refine fw_aload_n (pc := 11) d_M_here_11 0 rfl rfl ?_
      refine fw_getR (pc := 12) d_M_here_12 fl_M_37 fw_Mo0 rfl ?_
      refine fw_aload_n (pc := 15) d_M_here_15 0 rfl rfl ?_
      refine fw_getI (pc := 16) d_M_here_16 fl_M_140 fw_Mo0 rfl ?_
      obtain ⟨v19, e19, h⟩ := fw_be h
      refine fw_iald (pc := 19) d_M_here_19 fw_Mo10 e19 ?_
      refine fw_bipush (pc := 20) d_M_here_20 fw_bp32 ?_
      refine fw_icmp_ne (pc := 22) (tgt := 38) d_M_here_22 rfl (fun hc => ?_) (fun hc => ?_)
      · have h := fw_it hc h
        refine fw_aload_n (pc := 25) d_M_here_25 0 rfl rfl ?_
        refine fw_dup (pc := 26) d_M_here_26 rfl ?_
        refine fw_getI (pc := 27) d_M_here_27 fl_M_140 fw_Mo0 rfl ?_
        refine fw_iconst (pc := 30) d_M_here_30 fw_ic1 ?_
        refine fw_iadd (pc := 31) d_M_here_31 ?_
        obtain ⟨μ32, e32, h⟩ := fw_ne h
        refine fw_putI (pc := 32) d_M_here_32 fp_M_140 fw_Mo0 rfl (fw_mem e32 ?_)
        refine fw_goto (pc := 35) (tgt := 0) d_M_here_35 rfl ?_
        obtain rfl := Option.some.inj h
        exact fw_sub [0] rfl (hl _ rfl)
      · have h := fw_if hc h
        obtain rfl := Option.some.inj h
        have he := hr _ rfl
        subst he
        exact fw_sub [0] rfl hE0
    ) _ _ w0)
def f_M_byteOf (a1 : Int32) (a2 : Int32) (a3 : Int32) (μ : fw_M) : Option (Int32 × fw_M) :=
  Option.bind (
    if (μ.1 0 17) = 0 then
      (f_M_here μ).bind fun (p12 : Int32 × fw_M) =>
      some (p12.1, p12.2)
    else
      some (0, μ)) fun (j4 : Int32 × fw_M) =>
  Option.bind (
    if (j4.2.1 0 17) = 0 then
      (f_M_in (Int32.toInt64 j4.1) (Int32.toInt64 a1) (Int32.toInt64 a2)).bind fun (p32 : Int32) =>
      if p32 = 0 then
        some 1
      else
        if (j4.1 - a1) = a3 then
          some 1
        else
          some 0
    else
      some 1) fun (j22 : Int32) =>
  (fw_bz j22).bind fun b51 =>
  fw_nm (fw_wr j4.2 0 17 b51) fun (μ51 : fw_M) =>
  fw_nm (
    if (μ51.1 0 17) = 0 then
      1
    else
      0) fun (j63 : Int32) =>
  fw_nm (fw_wr μ51 0 16 ((μ51.1 0 16) + j63)) fun (μ72 : fw_M) =>
  some ((j4.1 - a1), μ72)
set_option maxHeartbeats 4000000 in
set_option maxRecDepth 100000 in
theorem c_M_byteOf {a1 : Int32} {a2 : Int32} {a3 : Int32} {μ : fw_M} {r : Int32 × fw_M} (h : f_M_byteOf a1 a2 a3 μ = some r) : fw_Con Y_M_byteOf fw_Mo 2 [.ref 0, .int a1, .int a2, .int a3] (some r.1) μ r.2 := by
  refine fw_con (by decide) (Nat.le_of_ble_eq_true rfl) ?_
  rw [f_M_byteOf] at h
  show fw_R "FewTypesModel" prog_11_method_17_code 5 (some .int) fw_Mo 2 (some r.1) r.2 0 [(0, .ref 0), (1, .int a1), (2, .int a2), (3, .int a3)] [] μ
  refine fw_aload_n (pc := 0) d_M_byteOf_0 0 rfl rfl ?_
  refine fw_getI (pc := 1) d_M_byteOf_1 fl_M_143 fw_Mo0 rfl ?_
  obtain ⟨j4, w4, h⟩ := fw_be h
  have hJ4 : fw_R "FewTypesModel" prog_11_method_17_code 5 (some .int) fw_Mo 2 (some r.1) r.2 15 [(0, .ref 0), (1, .int a1), (2, .int a2), (3, .int a3)] [.int j4.1] j4.2 := by
    refine fw_istore (pc := 15) (lv1 := [(4, .int j4.1), (0, .ref 0), (1, .int a1), (2, .int a2), (3, .int a3)]) d_M_byteOf_15 (by decide) rfl ?_
    refine fw_aload_n (pc := 17) d_M_byteOf_17 1 rfl rfl ?_
    refine fw_aload_n (pc := 18) d_M_byteOf_18 1 rfl rfl ?_
    refine fw_getI (pc := 19) d_M_byteOf_19 fl_M_143 fw_Mo0 rfl ?_
    obtain ⟨j22, w22, h⟩ := fw_be h
    have hJ22 : fw_R "FewTypesModel" prog_11_method_17_code 5 (some .int) fw_Mo 2 (some r.1) r.2 51 [(0, .ref 0), (1, .int a1), (4, .int j4.1)] [.int j22, .ref 0] j4.2 := by
      obtain ⟨b51, z51, h⟩ := fw_be h
      obtain ⟨μ51, e51, h⟩ := fw_ne h
      refine fw_putZ (pc := 51) d_M_byteOf_51 z51 fp_M_143 fw_Mo0 rfl (fw_mem e51 ?_)
      refine fw_aload_n (pc := 54) d_M_byteOf_54 0 rfl rfl ?_
      refine fw_dup (pc := 55) d_M_byteOf_55 rfl ?_
      refine fw_getI (pc := 56) d_M_byteOf_56 fl_M_140 fw_Mo0 rfl ?_
      refine fw_aload_n (pc := 59) d_M_byteOf_59 0 rfl rfl ?_
      refine fw_getI (pc := 60) d_M_byteOf_60 fl_M_143 fw_Mo0 rfl ?_
      obtain ⟨j63, w63, h⟩ := fw_ne h
      have hJ63 : fw_R "FewTypesModel" prog_11_method_17_code 5 (some .int) fw_Mo 2 (some r.1) r.2 71 [(1, .int a1), (4, .int j4.1)] [.int j63, .int (μ51.1 0 16), .ref 0] μ51 := by
        refine fw_iadd (pc := 71) d_M_byteOf_71 ?_
        obtain ⟨μ72, e72, h⟩ := fw_ne h
        refine fw_putI (pc := 72) d_M_byteOf_72 fp_M_140 fw_Mo0 rfl (fw_mem e72 ?_)
        refine fw_iload (pc := 75) d_M_byteOf_75 1 rfl ?_
        refine fw_iload_n (pc := 77) d_M_byteOf_77 0 rfl rfl ?_
        refine fw_isub (pc := 78) d_M_byteOf_78 ?_
        obtain rfl := Option.some.inj h
        exact fw_iret (pc := 79) d_M_byteOf_79 rfl
      clear h
      have h := w63
      clear w63
      refine fw_if_eq (pc := 63) (tgt := 70) d_M_byteOf_63 rfl (fun hc => ?_) (fun hc => ?_)
      · have h := h.trans (if_pos hc)
        refine fw_iconst (pc := 70) d_M_byteOf_70 fw_ic1 ?_
        subst h
        exact fw_sub [1, 2] rfl hJ63
      · have h := h.trans (if_neg hc)
        refine fw_iconst (pc := 66) d_M_byteOf_66 fw_ic0 ?_
        refine fw_goto (pc := 67) (tgt := 71) d_M_byteOf_67 rfl ?_
        subst h
        exact fw_sub [1, 2] rfl hJ63
    clear h
    have h := w22
    clear w22
    refine fw_if_ne (pc := 22) (tgt := 46) d_M_byteOf_22 rfl (fun hc => ?_) (fun hc => ?_)
    · have h := fw_it hc h
      refine fw_iload (pc := 25) d_M_byteOf_25 0 rfl ?_
      refine fw_i2l (pc := 27) d_M_byteOf_27 ?_
      refine fw_iload_n (pc := 28) d_M_byteOf_28 2 rfl rfl ?_
      refine fw_i2l (pc := 29) d_M_byteOf_29 ?_
      refine fw_iload_n (pc := 30) d_M_byteOf_30 3 rfl rfl ?_
      refine fw_i2l (pc := 31) d_M_byteOf_31 ?_
      obtain ⟨p32, e32, h⟩ := fw_be h
      refine fw_callSi (pc := 32) d_M_byteOf_32 ms_M_94 (c_M_in e32) (by decide) rfl rfl (Nat.le_of_ble_eq_true rfl) ?_
      refine fw_if_eq (pc := 35) (tgt := 46) d_M_byteOf_35 rfl (fun hc => ?_) (fun hc => ?_)
      · have h := fw_it hc h
        refine fw_iconst (pc := 46) d_M_byteOf_46 fw_ic1 ?_
        refine fw_goto (pc := 47) (tgt := 51) d_M_byteOf_47 rfl ?_
        obtain rfl := Option.some.inj h
        exact fw_sub [1, 2, 0] rfl hJ22
      · have h := fw_if hc h
        refine fw_iload (pc := 38) d_M_byteOf_38 0 rfl ?_
        refine fw_iload_n (pc := 40) d_M_byteOf_40 2 rfl rfl ?_
        refine fw_isub (pc := 41) d_M_byteOf_41 ?_
        refine fw_iload_n (pc := 42) d_M_byteOf_42 4 rfl rfl ?_
        refine fw_icmp_ne (pc := 43) (tgt := 50) d_M_byteOf_43 rfl (fun hc => ?_) (fun hc => ?_)
        · have h := fw_it hc h
          refine fw_iconst (pc := 46) d_M_byteOf_46 fw_ic1 ?_
          refine fw_goto (pc := 47) (tgt := 51) d_M_byteOf_47 rfl ?_
          obtain rfl := Option.some.inj h
          exact fw_sub [1, 2, 0] rfl hJ22
        · have h := fw_if hc h
          refine fw_iconst (pc := 50) d_M_byteOf_50 fw_ic0 ?_
          obtain rfl := Option.some.inj h
          exact fw_sub [1, 2, 0] rfl hJ22
    · have h := fw_if hc h
      refine fw_iconst (pc := 46) d_M_byteOf_46 fw_ic1 ?_
      refine fw_goto (pc := 47) (tgt := 51) d_M_byteOf_47 rfl ?_
      obtain rfl := Option.some.inj h
      exact fw_sub [1, 2, 0] rfl hJ22
  clear h
  have h := w4
  clear w4
  refine fw_if_eq (pc := 4) (tgt := 11) d_M_byteOf_4 rfl (fun hc => ?_) (fun hc => ?_)
  · have h := fw_it hc h
    refine fw_aload_n (pc := 11) d_M_byteOf_11 0 rfl rfl ?_
    obtain ⟨p12, e12, h⟩ := fw_be h
    refine fw_callVi (pc := 12) d_M_byteOf_12 mv_M_147 fw_Mo0 (c_M_here e12) (by decide) rfl rfl (Nat.le_of_ble_eq_true rfl) ?_
    obtain rfl := Option.some.inj h
    exact fw_sub [0, 1, 2, 3] rfl hJ4
  · have h := fw_if hc h
    refine fw_iconst (pc := 7) d_M_byteOf_7 fw_ic0 ?_
    refine fw_goto (pc := 8) (tgt := 15) d_M_byteOf_8 rfl ?_
    obtain rfl := Option.some.inj h
    exact fw_sub [0, 1, 2, 3] rfl hJ4
def f_M_has (a1 : Int32) (μ : fw_M) : Option (Int32 × fw_M) :=
  Option.bind (
    if (μ.1 0 17) = 0 then
      (f_M_here μ).bind fun (p8 : Int32 × fw_M) =>
      if p8.1 = a1 then
        some (1, p8.2)
      else
        some (0, p8.2)
    else
      some (0, μ)) fun (j4 : Int32 × fw_M) =>
  fw_nm (
    if j4.1 = 0 then
      0
    else
      1) fun (j27 : Int32) =>
  fw_nm (fw_wr j4.2 0 16 ((j4.2.1 0 16) + j27)) fun (μ36 : fw_M) =>
  (fw_bz j4.1).bind fun b40 =>
  some (b40, μ36)
set_option maxHeartbeats 4000000 in
set_option maxRecDepth 100000 in
theorem c_M_has {a1 : Int32} {μ : fw_M} {r : Int32 × fw_M} (h : f_M_has a1 μ = some r) : fw_Con Y_M_has fw_Mo 2 [.ref 0, .int a1] (some r.1) μ r.2 := by
  refine fw_con (by decide) (Nat.le_of_ble_eq_true rfl) ?_
  rw [f_M_has] at h
  show fw_R "FewTypesModel" prog_11_method_16_code 3 (some .boolean) fw_Mo 2 (some r.1) r.2 0 [(0, .ref 0), (1, .int a1)] [] μ
  refine fw_aload_n (pc := 0) d_M_has_0 0 rfl rfl ?_
  refine fw_getI (pc := 1) d_M_has_1 fl_M_143 fw_Mo0 rfl ?_
  obtain ⟨j4, w4, h⟩ := fw_be h
  have hJ4 : fw_R "FewTypesModel" prog_11_method_16_code 3 (some .boolean) fw_Mo 2 (some r.1) r.2 20 [(0, .ref 0)] [.int j4.1] j4.2 := by
    refine fw_istore_n (pc := 20) (lv1 := [(2, .int j4.1), (0, .ref 0)]) d_M_has_20 rfl (by decide) rfl ?_
    refine fw_aload_n (pc := 21) d_M_has_21 1 rfl rfl ?_
    refine fw_dup (pc := 22) d_M_has_22 rfl ?_
    refine fw_getI (pc := 23) d_M_has_23 fl_M_140 fw_Mo0 rfl ?_
    refine fw_iload_n (pc := 26) d_M_has_26 0 rfl rfl ?_
    obtain ⟨j27, w27, h⟩ := fw_ne h
    have hJ27 : fw_R "FewTypesModel" prog_11_method_16_code 3 (some .boolean) fw_Mo 2 (some r.1) r.2 35 [(2, .int j4.1)] [.int j27, .int (j4.2.1 0 16), .ref 0] j4.2 := by
      refine fw_iadd (pc := 35) d_M_has_35 ?_
      obtain ⟨μ36, e36, h⟩ := fw_ne h
      refine fw_putI (pc := 36) d_M_has_36 fp_M_140 fw_Mo0 rfl (fw_mem e36 ?_)
      refine fw_iload_n (pc := 39) d_M_has_39 0 rfl rfl ?_
      obtain ⟨b40, e40, h⟩ := fw_be h
      obtain rfl := Option.some.inj h
      exact fw_zret (pc := 40) d_M_has_40 rfl e40
    clear h
    have h := w27
    clear w27
    refine fw_if_eq (pc := 27) (tgt := 34) d_M_has_27 rfl (fun hc => ?_) (fun hc => ?_)
    · have h := h.trans (if_pos hc)
      refine fw_iconst (pc := 34) d_M_has_34 fw_ic0 ?_
      subst h
      exact fw_sub [0] rfl hJ27
    · have h := h.trans (if_neg hc)
      refine fw_iconst (pc := 30) d_M_has_30 fw_ic1 ?_
      refine fw_goto (pc := 31) (tgt := 35) d_M_has_31 rfl ?_
      subst h
      exact fw_sub [0] rfl hJ27
  clear h
  have h := w4
  clear w4
  refine fw_if_ne (pc := 4) (tgt := 19) d_M_has_4 rfl (fun hc => ?_) (fun hc => ?_)
  · have h := fw_it hc h
    refine fw_aload_n (pc := 7) d_M_has_7 0 rfl rfl ?_
    obtain ⟨p8, e8, h⟩ := fw_be h
    refine fw_callVi (pc := 8) d_M_has_8 mv_M_147 fw_Mo0 (c_M_here e8) (by decide) rfl rfl (Nat.le_of_ble_eq_true rfl) ?_
    refine fw_iload_n (pc := 11) d_M_has_11 1 rfl rfl ?_
    refine fw_icmp_ne (pc := 12) (tgt := 19) d_M_has_12 rfl (fun hc => ?_) (fun hc => ?_)
    · have h := fw_it hc h
      refine fw_iconst (pc := 15) d_M_has_15 fw_ic1 ?_
      refine fw_goto (pc := 16) (tgt := 20) d_M_has_16 rfl ?_
      obtain rfl := Option.some.inj h
      exact fw_sub [0] rfl hJ4
    · have h := fw_if hc h
      refine fw_iconst (pc := 19) d_M_has_19 fw_ic0 ?_
      obtain rfl := Option.some.inj h
      exact fw_sub [0] rfl hJ4
  · have h := fw_if hc h
    refine fw_iconst (pc := 19) d_M_has_19 fw_ic0 ?_
    obtain rfl := Option.some.inj h
    exact fw_sub [0] rfl hJ4
