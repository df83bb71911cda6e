abbrev Y_M_joins : fw_Y := (⟨"FewTypesModel", "joins", "(III)Z"⟩, prog_11_method_26_code, 4, (some .boolean))
abbrev Y_M_canBe : fw_Y := (⟨"FewTypesModel", "canBe", "(I)Z"⟩, prog_11_method_30_code, 6, (some .boolean))
abbrev Y_M_can : fw_Y := (⟨"FewTypesModel", "can", "(I)I"⟩, prog_11_method_32_code, 2, (some .int))
abbrev Y_M_mayBy : fw_Y := (⟨"FewTypesModel", "mayBy", "(IIII)Z"⟩, prog_11_method_28_code, 7, (some .boolean))
abbrev Y_M_looks : fw_Y := (⟨"FewTypesModel", "looks", "(I)V"⟩, prog_11_method_29_code, 7, none)
theorem mv_M_197 : fw_MV "FewTypesModel" 197 Y_M_isSet 9 1 := ⟨fw_m 1064 (by decide +kernel) (by decide +kernel), fw_m 1066 (by decide +kernel) (by decide +kernel), fw_m 41 (by decide +kernel) (by decide +kernel), fw_m 70 (by decide +kernel) (by decide +kernel), fw_m 1067 (by decide +kernel) (by decide +kernel), ⟨by decide +kernel, by decide +kernel, by decide +kernel⟩, by decide, _, _, rfl⟩
theorem mv_M_200 : fw_MV "FewTypesModel" 200 Y_M_canBe 9 1 := ⟨fw_m 1068 (by decide +kernel) (by decide +kernel), fw_m 1070 (by decide +kernel) (by decide +kernel), fw_m 42 (by decide +kernel) (by decide +kernel), fw_m 70 (by decide +kernel) (by decide +kernel), fw_m 1071 (by decide +kernel) (by decide +kernel), ⟨by decide +kernel, by decide +kernel, by decide +kernel⟩, by decide, _, _, rfl⟩
theorem fl_M_194 : fw_FL "FewTypesModel" 194 9 21 := ⟨_, _, _, rfl, fw_i9, by decide, fw_m 874 (by decide +kernel) (by decide +kernel)⟩
theorem fp_M_194 : fw_FP "FewTypesModel" 194 9 21 .int := ⟨_, _, _, fw_t9, rfl, fw_i9, by decide, fw_m 874 (by decide +kernel) (by decide +kernel), fw_k9, fw_n9, rfl, by decide +kernel⟩
theorem fl_M_47 : fw_FL "FewTypesModel" 47 9 20 := ⟨_, _, _, rfl, fw_i9, by decide, fw_m 873 (by decide +kernel) (by decide +kernel)⟩
theorem mv_M_180 : fw_MV "FewTypesModel" 180 Y_M_prints 9 2 := ⟨fw_m 1072 (by decide +kernel) (by decide +kernel), fw_m 1074 (by decide +kernel) (by decide +kernel), fw_m 43 (by decide +kernel) (by decide +kernel), fw_m 70 (by decide +kernel) (by decide +kernel), fw_m 1075 (by decide +kernel) (by decide +kernel), ⟨by decide +kernel, by decide +kernel, by decide +kernel⟩, by decide, _, _, rfl⟩
theorem mv_M_184 : fw_MV "FewTypesModel" 184 Y_M_isClose 9 2 := ⟨fw_m 1076 (by decide +kernel) (by decide +kernel), fw_m 1078 (by decide +kernel) (by decide +kernel), fw_m 44 (by decide +kernel) (by decide +kernel), fw_m 70 (by decide +kernel) (by decide +kernel), fw_m 1079 (by decide +kernel) (by decide +kernel), ⟨by decide +kernel, by decide +kernel, by decide +kernel⟩, by decide, _, _, rfl⟩
theorem mv_M_187 : fw_MV "FewTypesModel" 187 Y_M_joins 9 3 := ⟨fw_m 1080 (by decide +kernel) (by decide +kernel), fw_m 1082 (by decide +kernel) (by decide +kernel), fw_m 45 (by decide +kernel) (by decide +kernel), fw_m 70 (by decide +kernel) (by decide +kernel), fw_m 1083 (by decide +kernel) (by decide +kernel), ⟨by decide +kernel, by decide +kernel, by decide +kernel⟩, by decide, _, _, rfl⟩
theorem fl_M_43 : fw_FL "FewTypesModel" 43 9 19 := ⟨_, _, _, rfl, fw_i9, by decide, fw_m 872 (by decide +kernel) (by decide +kernel)⟩
theorem mv_M_190 : fw_MV "FewTypesModel" 190 Y_M_mayBy 9 4 := ⟨fw_m 1096 (by decide +kernel) (by decide +kernel), fw_m 1098 (by decide +kernel) (by decide +kernel), fw_m 48 (by decide +kernel) (by decide +kernel), fw_m 70 (by decide +kernel) (by decide +kernel), fw_m 1099 (by decide +kernel) (by decide +kernel), ⟨by decide +kernel, by decide +kernel, by decide +kernel⟩, by decide, _, _, rfl⟩
theorem d_M_joins_0 : decode prog_11_method_26_code 0 = .ok (.aload_n 0, 1) := by decide +kernel
theorem d_M_joins_1 : decode prog_11_method_26_code 1 = .ok (.getfield 7, 3) := by decide +kernel
theorem d_M_joins_4 : decode prog_11_method_26_code 4 = .ok (.iload_n 1, 1) := by decide +kernel
theorem d_M_joins_5 : decode prog_11_method_26_code 5 = .ok (.iaload, 1) := by decide +kernel
theorem d_M_joins_6 : decode prog_11_method_26_code 6 = .ok (.iconst 2, 1) := by decide +kernel
theorem d_M_joins_7 : decode prog_11_method_26_code 7 = .ok (.if_icmp .ne 58, 3) := by decide +kernel
theorem d_M_joins_10 : decode prog_11_method_26_code 10 = .ok (.aload_n 0, 1) := by decide +kernel
theorem d_M_joins_11 : decode prog_11_method_26_code 11 = .ok (.iload_n 2, 1) := by decide +kernel
theorem d_M_joins_12 : decode prog_11_method_26_code 12 = .ok (.invokevirtual 171, 3) := by decide +kernel
theorem d_M_joins_15 : decode prog_11_method_26_code 15 = .ok (.ifCond .eq 50, 3) := by decide +kernel
theorem d_M_joins_18 : decode prog_11_method_26_code 18 = .ok (.iload_n 3, 1) := by decide +kernel
theorem d_M_joins_19 : decode prog_11_method_26_code 19 = .ok (.iload_n 2, 1) := by decide +kernel
theorem d_M_joins_20 : decode prog_11_method_26_code 20 = .ok (.iconst 1, 1) := by decide +kernel
theorem d_M_joins_21 : decode prog_11_method_26_code 21 = .ok (.iadd, 1) := by decide +kernel
theorem d_M_joins_22 : decode prog_11_method_26_code 22 = .ok (.ishr, 1) := by decide +kernel
theorem d_M_joins_23 : decode prog_11_method_26_code 23 = .ok (.iconst 1, 1) := by decide +kernel
theorem d_M_joins_24 : decode prog_11_method_26_code 24 = .ok (.iand, 1) := by decide +kernel
theorem d_M_joins_25 : decode prog_11_method_26_code 25 = .ok (.iconst 1, 1) := by decide +kernel
theorem d_M_joins_26 : decode prog_11_method_26_code 26 = .ok (.if_icmp .ne 39, 3) := by decide +kernel
theorem d_M_joins_29 : decode prog_11_method_26_code 29 = .ok (.aload_n 0, 1) := by decide +kernel
theorem d_M_joins_30 : decode prog_11_method_26_code 30 = .ok (.getfield 13, 3) := by decide +kernel
theorem d_M_joins_33 : decode prog_11_method_26_code 33 = .ok (.iload_n 1, 1) := by decide +kernel
theorem d_M_joins_34 : decode prog_11_method_26_code 34 = .ok (.iaload, 1) := by decide +kernel
theorem d_M_joins_35 : decode prog_11_method_26_code 35 = .ok (.aload_n 0, 1) := by decide +kernel
theorem d_M_joins_36 : decode prog_11_method_26_code 36 = .ok (.getfield 25, 3) := by decide +kernel
theorem d_M_joins_39 : decode prog_11_method_26_code 39 = .ok (.iload_n 2, 1) := by decide +kernel
theorem d_M_joins_40 : decode prog_11_method_26_code 40 = .ok (.iaload, 1) := by decide +kernel
theorem d_M_joins_41 : decode prog_11_method_26_code 41 = .ok (.if_icmp .ne 24, 3) := by decide +kernel
theorem d_M_joins_44 : decode prog_11_method_26_code 44 = .ok (.aload_n 0, 1) := by decide +kernel
theorem d_M_joins_45 : decode prog_11_method_26_code 45 = .ok (.getfield 16, 3) := by decide +kernel
theorem d_M_joins_48 : decode prog_11_method_26_code 48 = .ok (.iload_n 1, 1) := by decide +kernel
theorem d_M_joins_49 : decode prog_11_method_26_code 49 = .ok (.iaload, 1) := by decide +kernel
theorem d_M_joins_50 : decode prog_11_method_26_code 50 = .ok (.aload_n 0, 1) := by decide +kernel
theorem d_M_joins_51 : decode prog_11_method_26_code 51 = .ok (.getfield 25, 3) := by decide +kernel
theorem d_M_joins_54 : decode prog_11_method_26_code 54 = .ok (.iload_n 2, 1) := by decide +kernel
theorem d_M_joins_55 : decode prog_11_method_26_code 55 = .ok (.iconst 1, 1) := by decide +kernel
theorem d_M_joins_56 : decode prog_11_method_26_code 56 = .ok (.iadd, 1) := by decide +kernel
theorem d_M_joins_57 : decode prog_11_method_26_code 57 = .ok (.iaload, 1) := by decide +kernel
theorem d_M_joins_58 : decode prog_11_method_26_code 58 = .ok (.if_icmp .ne 7, 3) := by decide +kernel
theorem d_M_joins_61 : decode prog_11_method_26_code 61 = .ok (.iconst 1, 1) := by decide +kernel
theorem d_M_joins_62 : decode prog_11_method_26_code 62 = .ok (.goto 4, 3) := by decide +kernel
theorem d_M_joins_65 : decode prog_11_method_26_code 65 = .ok (.iconst 0, 1) := by decide +kernel
theorem d_M_joins_66 : decode prog_11_method_26_code 66 = .ok (.ireturn, 1) := by decide +kernel
theorem d_M_canBe_0 : decode prog_11_method_30_code 0 = .ok (.aload_n 0, 1) := by decide +kernel
theorem d_M_canBe_1 : decode prog_11_method_30_code 1 = .ok (.dup, 1) := by decide +kernel
theorem d_M_canBe_2 : decode prog_11_method_30_code 2 = .ok (.getfield 194, 3) := by decide +kernel
theorem d_M_canBe_5 : decode prog_11_method_30_code 5 = .ok (.iconst 1, 1) := by decide +kernel
theorem d_M_canBe_6 : decode prog_11_method_30_code 6 = .ok (.iadd, 1) := by decide +kernel
theorem d_M_canBe_7 : decode prog_11_method_30_code 7 = .ok (.putfield 194, 3) := by decide +kernel
theorem d_M_canBe_10 : decode prog_11_method_30_code 10 = .ok (.aload_n 0, 1) := by decide +kernel
theorem d_M_canBe_11 : decode prog_11_method_30_code 11 = .ok (.getfield 47, 3) := by decide +kernel
theorem d_M_canBe_14 : decode prog_11_method_30_code 14 = .ok (.iconst 0, 1) := by decide +kernel
theorem d_M_canBe_15 : decode prog_11_method_30_code 15 = .ok (.aload_n 0, 1) := by decide +kernel
theorem d_M_canBe_16 : decode prog_11_method_30_code 16 = .ok (.getfield 194, 3) := by decide +kernel
theorem d_M_canBe_19 : decode prog_11_method_30_code 19 = .ok (.iastore, 1) := by decide +kernel
theorem d_M_canBe_20 : decode prog_11_method_30_code 20 = .ok (.iconst 0, 1) := by decide +kernel
theorem d_M_canBe_21 : decode prog_11_method_30_code 21 = .ok (.istore_n 2, 1) := by decide +kernel
theorem d_M_canBe_22 : decode prog_11_method_30_code 22 = .ok (.iload_n 2, 1) := by decide +kernel
theorem d_M_canBe_23 : decode prog_11_method_30_code 23 = .ok (.aload_n 0, 1) := by decide +kernel
theorem d_M_canBe_24 : decode prog_11_method_30_code 24 = .ok (.getfield 158, 3) := by decide +kernel
theorem d_M_canBe_27 : decode prog_11_method_30_code 27 = .ok (.if_icmp .ge 212, 3) := by decide +kernel
theorem d_M_canBe_30 : decode prog_11_method_30_code 30 = .ok (.iconst 0, 1) := by decide +kernel
theorem d_M_canBe_31 : decode prog_11_method_30_code 31 = .ok (.istore_n 3, 1) := by decide +kernel
theorem d_M_canBe_32 : decode prog_11_method_30_code 32 = .ok (.iload_n 3, 1) := by decide +kernel
theorem d_M_canBe_33 : decode prog_11_method_30_code 33 = .ok (.iconst 1, 1) := by decide +kernel
theorem d_M_canBe_34 : decode prog_11_method_30_code 34 = .ok (.aload_n 0, 1) := by decide +kernel
theorem d_M_canBe_35 : decode prog_11_method_30_code 35 = .ok (.getfield 108, 3) := by decide +kernel
theorem d_M_canBe_38 : decode prog_11_method_30_code 38 = .ok (.ishl, 1) := by decide +kernel
theorem d_M_canBe_39 : decode prog_11_method_30_code 39 = .ok (.if_icmp .ge 194, 3) := by decide +kernel
theorem d_M_canBe_42 : decode prog_11_method_30_code 42 = .ok (.aload_n 0, 1) := by decide +kernel
theorem d_M_canBe_43 : decode prog_11_method_30_code 43 = .ok (.getfield 47, 3) := by decide +kernel
theorem d_M_canBe_46 : decode prog_11_method_30_code 46 = .ok (.sipush 1024, 3) := by decide +kernel
theorem d_M_canBe_49 : decode prog_11_method_30_code 49 = .ok (.iload_n 2, 1) := by decide +kernel
theorem d_M_canBe_50 : decode prog_11_method_30_code 50 = .ok (.imul, 1) := by decide +kernel
theorem d_M_canBe_51 : decode prog_11_method_30_code 51 = .ok (.iload_n 3, 1) := by decide +kernel
theorem d_M_canBe_52 : decode prog_11_method_30_code 52 = .ok (.iadd, 1) := by decide +kernel
theorem d_M_canBe_53 : decode prog_11_method_30_code 53 = .ok (.iaload, 1) := by decide +kernel
theorem d_M_canBe_54 : decode prog_11_method_30_code 54 = .ok (.aload_n 0, 1) := by decide +kernel
theorem d_M_canBe_55 : decode prog_11_method_30_code 55 = .ok (.getfield 194, 3) := by decide +kernel
theorem d_M_canBe_58 : decode prog_11_method_30_code 58 = .ok (.if_icmp .ne 169, 3) := by decide +kernel
theorem d_M_canBe_61 : decode prog_11_method_30_code 61 = .ok (.iload_n 1, 1) := by decide +kernel
theorem d_M_canBe_62 : decode prog_11_method_30_code 62 = .ok (.iload_n 2, 1) := by decide +kernel
theorem d_M_canBe_63 : decode prog_11_method_30_code 63 = .ok (.ishr, 1) := by decide +kernel
theorem d_M_canBe_64 : decode prog_11_method_30_code 64 = .ok (.iconst 1, 1) := by decide +kernel
theorem d_M_canBe_65 : decode prog_11_method_30_code 65 = .ok (.iand, 1) := by decide +kernel
theorem d_M_canBe_66 : decode prog_11_method_30_code 66 = .ok (.ifCond .ne 21, 3) := by decide +kernel
theorem d_M_canBe_69 : decode prog_11_method_30_code 69 = .ok (.aload_n 0, 1) := by decide +kernel
theorem d_M_canBe_70 : decode prog_11_method_30_code 70 = .ok (.getfield 47, 3) := by decide +kernel
theorem d_M_canBe_73 : decode prog_11_method_30_code 73 = .ok (.sipush 1024, 3) := by decide +kernel
theorem d_M_canBe_76 : decode prog_11_method_30_code 76 = .ok (.iload_n 2, 1) := by decide +kernel
theorem d_M_canBe_77 : decode prog_11_method_30_code 77 = .ok (.iconst 1, 1) := by decide +kernel
theorem d_M_canBe_78 : decode prog_11_method_30_code 78 = .ok (.iadd, 1) := by decide +kernel
theorem d_M_canBe_79 : decode prog_11_method_30_code 79 = .ok (.imul, 1) := by decide +kernel
theorem d_M_canBe_80 : decode prog_11_method_30_code 80 = .ok (.iload_n 3, 1) := by decide +kernel
theorem d_M_canBe_81 : decode prog_11_method_30_code 81 = .ok (.iadd, 1) := by decide +kernel
theorem d_M_canBe_82 : decode prog_11_method_30_code 82 = .ok (.aload_n 0, 1) := by decide +kernel
theorem d_M_canBe_83 : decode prog_11_method_30_code 83 = .ok (.getfield 194, 3) := by decide +kernel
theorem d_M_canBe_86 : decode prog_11_method_30_code 86 = .ok (.iastore, 1) := by decide +kernel
theorem d_M_canBe_87 : decode prog_11_method_30_code 87 = .ok (.iconst 0, 1) := by decide +kernel
theorem d_M_canBe_88 : decode prog_11_method_30_code 88 = .ok (.istore 4, 2) := by decide +kernel
theorem d_M_canBe_90 : decode prog_11_method_30_code 90 = .ok (.iload 4, 2) := by decide +kernel
theorem d_M_canBe_92 : decode prog_11_method_30_code 92 = .ok (.aload_n 0, 1) := by decide +kernel
theorem d_M_canBe_93 : decode prog_11_method_30_code 93 = .ok (.getfield 108, 3) := by decide +kernel
theorem d_M_canBe_96 : decode prog_11_method_30_code 96 = .ok (.if_icmp .ge 131, 3) := by decide +kernel
theorem d_M_canBe_99 : decode prog_11_method_30_code 99 = .ok (.iload_n 1, 1) := by decide +kernel
theorem d_M_canBe_100 : decode prog_11_method_30_code 100 = .ok (.iload_n 2, 1) := by decide +kernel
theorem d_M_canBe_101 : decode prog_11_method_30_code 101 = .ok (.ishr, 1) := by decide +kernel
theorem d_M_canBe_102 : decode prog_11_method_30_code 102 = .ok (.iconst 1, 1) := by decide +kernel
theorem d_M_canBe_103 : decode prog_11_method_30_code 103 = .ok (.iand, 1) := by decide +kernel
theorem d_M_canBe_104 : decode prog_11_method_30_code 104 = .ok (.iconst 1, 1) := by decide +kernel
theorem d_M_canBe_105 : decode prog_11_method_30_code 105 = .ok (.if_icmp .ne 122, 3) := by decide +kernel
theorem d_M_canBe_108 : decode prog_11_method_30_code 108 = .ok (.iload_n 3, 1) := by decide +kernel
theorem d_M_canBe_109 : decode prog_11_method_30_code 109 = .ok (.iload 4, 2) := by decide +kernel
theorem d_M_canBe_111 : decode prog_11_method_30_code 111 = .ok (.ishr, 1) := by decide +kernel
theorem d_M_canBe_112 : decode prog_11_method_30_code 112 = .ok (.iconst 1, 1) := by decide +kernel
theorem d_M_canBe_113 : decode prog_11_method_30_code 113 = .ok (.iand, 1) := by decide +kernel
theorem d_M_canBe_114 : decode prog_11_method_30_code 114 = .ok (.ifCond .ne 7, 3) := by decide +kernel
theorem d_M_canBe_117 : decode prog_11_method_30_code 117 = .ok (.iconst 1, 1) := by decide +kernel
theorem d_M_canBe_118 : decode prog_11_method_30_code 118 = .ok (.goto 4, 3) := by decide +kernel
theorem d_M_canBe_121 : decode prog_11_method_30_code 121 = .ok (.iconst 0, 1) := by decide +kernel
theorem d_M_canBe_122 : decode prog_11_method_30_code 122 = .ok (.istore 5, 2) := by decide +kernel
theorem d_M_canBe_124 : decode prog_11_method_30_code 124 = .ok (.iload 5, 2) := by decide +kernel
theorem d_M_canBe_126 : decode prog_11_method_30_code 126 = .ok (.ifCond .eq 45, 3) := by decide +kernel
theorem d_M_canBe_129 : decode prog_11_method_30_code 129 = .ok (.aload_n 0, 1) := by decide +kernel
theorem d_M_canBe_130 : decode prog_11_method_30_code 130 = .ok (.iload 4, 2) := by decide +kernel
theorem d_M_canBe_132 : decode prog_11_method_30_code 132 = .ok (.iload_n 2, 1) := by decide +kernel
theorem d_M_canBe_133 : decode prog_11_method_30_code 133 = .ok (.invokevirtual 180, 3) := by decide +kernel
theorem d_M_canBe_136 : decode prog_11_method_30_code 136 = .ok (.ifCond .eq 35, 3) := by decide +kernel
theorem d_M_canBe_139 : decode prog_11_method_30_code 139 = .ok (.aload_n 0, 1) := by decide +kernel
theorem d_M_canBe_140 : decode prog_11_method_30_code 140 = .ok (.iload_n 2, 1) := by decide +kernel
theorem d_M_canBe_141 : decode prog_11_method_30_code 141 = .ok (.iload_n 1, 1) := by decide +kernel
theorem d_M_canBe_142 : decode prog_11_method_30_code 142 = .ok (.invokevirtual 184, 3) := by decide +kernel
theorem d_M_canBe_145 : decode prog_11_method_30_code 145 = .ok (.ifCond .ne 26, 3) := by decide +kernel
theorem d_M_canBe_148 : decode prog_11_method_30_code 148 = .ok (.aload_n 0, 1) := by decide +kernel
theorem d_M_canBe_149 : decode prog_11_method_30_code 149 = .ok (.getfield 47, 3) := by decide +kernel
theorem d_M_canBe_152 : decode prog_11_method_30_code 152 = .ok (.sipush 1024, 3) := by decide +kernel
theorem d_M_canBe_155 : decode prog_11_method_30_code 155 = .ok (.iload_n 2, 1) := by decide +kernel
theorem d_M_canBe_156 : decode prog_11_method_30_code 156 = .ok (.iconst 1, 1) := by decide +kernel
theorem d_M_canBe_157 : decode prog_11_method_30_code 157 = .ok (.iadd, 1) := by decide +kernel
theorem d_M_canBe_158 : decode prog_11_method_30_code 158 = .ok (.imul, 1) := by decide +kernel
theorem d_M_canBe_159 : decode prog_11_method_30_code 159 = .ok (.iload_n 3, 1) := by decide +kernel
theorem d_M_canBe_160 : decode prog_11_method_30_code 160 = .ok (.iconst 1, 1) := by decide +kernel
theorem d_M_canBe_161 : decode prog_11_method_30_code 161 = .ok (.iload 4, 2) := by decide +kernel
theorem d_M_canBe_163 : decode prog_11_method_30_code 163 = .ok (.ishl, 1) := by decide +kernel
theorem d_M_canBe_164 : decode prog_11_method_30_code 164 = .ok (.ior, 1) := by decide +kernel
theorem d_M_canBe_165 : decode prog_11_method_30_code 165 = .ok (.iadd, 1) := by decide +kernel
theorem d_M_canBe_166 : decode prog_11_method_30_code 166 = .ok (.aload_n 0, 1) := by decide +kernel
theorem d_M_canBe_167 : decode prog_11_method_30_code 167 = .ok (.getfield 194, 3) := by decide +kernel
theorem d_M_canBe_170 : decode prog_11_method_30_code 170 = .ok (.iastore, 1) := by decide +kernel
theorem d_M_canBe_171 : decode prog_11_method_30_code 171 = .ok (.iload 5, 2) := by decide +kernel
theorem d_M_canBe_173 : decode prog_11_method_30_code 173 = .ok (.ifCond .eq 48, 3) := by decide +kernel
theorem d_M_canBe_176 : decode prog_11_method_30_code 176 = .ok (.aload_n 0, 1) := by decide +kernel
theorem d_M_canBe_177 : decode prog_11_method_30_code 177 = .ok (.iload 4, 2) := by decide +kernel
theorem d_M_canBe_179 : decode prog_11_method_30_code 179 = .ok (.iload_n 2, 1) := by decide +kernel
theorem d_M_canBe_180 : decode prog_11_method_30_code 180 = .ok (.iload_n 1, 1) := by decide +kernel
theorem d_M_canBe_181 : decode prog_11_method_30_code 181 = .ok (.invokevirtual 187, 3) := by decide +kernel
theorem d_M_canBe_184 : decode prog_11_method_30_code 184 = .ok (.ifCond .eq 37, 3) := by decide +kernel
theorem d_M_canBe_187 : decode prog_11_method_30_code 187 = .ok (.aload_n 0, 1) := by decide +kernel
theorem d_M_canBe_188 : decode prog_11_method_30_code 188 = .ok (.iload_n 2, 1) := by decide +kernel
theorem d_M_canBe_189 : decode prog_11_method_30_code 189 = .ok (.iconst 1, 1) := by decide +kernel
theorem d_M_canBe_190 : decode prog_11_method_30_code 190 = .ok (.iadd, 1) := by decide +kernel
theorem d_M_canBe_191 : decode prog_11_method_30_code 191 = .ok (.iload_n 1, 1) := by decide +kernel
theorem d_M_canBe_192 : decode prog_11_method_30_code 192 = .ok (.invokevirtual 184, 3) := by decide +kernel
theorem d_M_canBe_195 : decode prog_11_method_30_code 195 = .ok (.ifCond .ne 26, 3) := by decide +kernel
theorem d_M_canBe_198 : decode prog_11_method_30_code 198 = .ok (.aload_n 0, 1) := by decide +kernel
theorem d_M_canBe_199 : decode prog_11_method_30_code 199 = .ok (.getfield 47, 3) := by decide +kernel
theorem d_M_canBe_202 : decode prog_11_method_30_code 202 = .ok (.sipush 1024, 3) := by decide +kernel
theorem d_M_canBe_205 : decode prog_11_method_30_code 205 = .ok (.iload_n 2, 1) := by decide +kernel
theorem d_M_canBe_206 : decode prog_11_method_30_code 206 = .ok (.iconst 2, 1) := by decide +kernel
theorem d_M_canBe_207 : decode prog_11_method_30_code 207 = .ok (.iadd, 1) := by decide +kernel
theorem d_M_canBe_208 : decode prog_11_method_30_code 208 = .ok (.imul, 1) := by decide +kernel
theorem d_M_canBe_209 : decode prog_11_method_30_code 209 = .ok (.iload_n 3, 1) := by decide +kernel
theorem d_M_canBe_210 : decode prog_11_method_30_code 210 = .ok (.iconst 1, 1) := by decide +kernel
theorem d_M_canBe_211 : decode prog_11_method_30_code 211 = .ok (.iload 4, 2) := by decide +kernel
theorem d_M_canBe_213 : decode prog_11_method_30_code 213 = .ok (.ishl, 1) := by decide +kernel
theorem d_M_canBe_214 : decode prog_11_method_30_code 214 = .ok (.ior, 1) := by decide +kernel
theorem d_M_canBe_215 : decode prog_11_method_30_code 215 = .ok (.iadd, 1) := by decide +kernel
theorem d_M_canBe_216 : decode prog_11_method_30_code 216 = .ok (.aload_n 0, 1) := by decide +kernel
theorem d_M_canBe_217 : decode prog_11_method_30_code 217 = .ok (.getfield 194, 3) := by decide +kernel
theorem d_M_canBe_220 : decode prog_11_method_30_code 220 = .ok (.iastore, 1) := by decide +kernel
theorem d_M_canBe_221 : decode prog_11_method_30_code 221 = .ok (.iinc 4 1, 3) := by decide +kernel
theorem d_M_canBe_224 : decode prog_11_method_30_code 224 = .ok (.goto (-134), 3) := by decide +kernel
theorem d_M_canBe_227 : decode prog_11_method_30_code 227 = .ok (.iinc 3 1, 3) := by decide +kernel
theorem d_M_canBe_230 : decode prog_11_method_30_code 230 = .ok (.goto (-198), 3) := by decide +kernel
theorem d_M_canBe_233 : decode prog_11_method_30_code 233 = .ok (.iinc 2 1, 3) := by decide +kernel
theorem d_M_canBe_236 : decode prog_11_method_30_code 236 = .ok (.goto (-214), 3) := by decide +kernel
theorem d_M_canBe_239 : decode prog_11_method_30_code 239 = .ok (.iconst 0, 1) := by decide +kernel
theorem d_M_canBe_240 : decode prog_11_method_30_code 240 = .ok (.istore_n 2, 1) := by decide +kernel
theorem d_M_canBe_241 : decode prog_11_method_30_code 241 = .ok (.iconst 0, 1) := by decide +kernel
theorem d_M_canBe_242 : decode prog_11_method_30_code 242 = .ok (.istore_n 3, 1) := by decide +kernel
theorem d_M_canBe_243 : decode prog_11_method_30_code 243 = .ok (.iload_n 3, 1) := by decide +kernel
theorem d_M_canBe_244 : decode prog_11_method_30_code 244 = .ok (.iconst 1, 1) := by decide +kernel
theorem d_M_canBe_245 : decode prog_11_method_30_code 245 = .ok (.aload_n 0, 1) := by decide +kernel
theorem d_M_canBe_246 : decode prog_11_method_30_code 246 = .ok (.getfield 108, 3) := by decide +kernel
theorem d_M_canBe_249 : decode prog_11_method_30_code 249 = .ok (.ishl, 1) := by decide +kernel
theorem d_M_canBe_250 : decode prog_11_method_30_code 250 = .ok (.if_icmp .ge 41, 3) := by decide +kernel
theorem d_M_canBe_253 : decode prog_11_method_30_code 253 = .ok (.iload_n 2, 1) := by decide +kernel
theorem d_M_canBe_254 : decode prog_11_method_30_code 254 = .ok (.ifCond .ne 25, 3) := by decide +kernel
theorem d_M_canBe_257 : decode prog_11_method_30_code 257 = .ok (.aload_n 0, 1) := by decide +kernel
theorem d_M_canBe_258 : decode prog_11_method_30_code 258 = .ok (.getfield 47, 3) := by decide +kernel
theorem d_M_canBe_261 : decode prog_11_method_30_code 261 = .ok (.sipush 1024, 3) := by decide +kernel
theorem d_M_canBe_264 : decode prog_11_method_30_code 264 = .ok (.aload_n 0, 1) := by decide +kernel
theorem d_M_canBe_265 : decode prog_11_method_30_code 265 = .ok (.getfield 158, 3) := by decide +kernel
theorem d_M_canBe_268 : decode prog_11_method_30_code 268 = .ok (.imul, 1) := by decide +kernel
theorem d_M_canBe_269 : decode prog_11_method_30_code 269 = .ok (.iload_n 3, 1) := by decide +kernel
theorem d_M_canBe_270 : decode prog_11_method_30_code 270 = .ok (.iadd, 1) := by decide +kernel
theorem d_M_canBe_271 : decode prog_11_method_30_code 271 = .ok (.iaload, 1) := by decide +kernel
theorem d_M_canBe_272 : decode prog_11_method_30_code 272 = .ok (.aload_n 0, 1) := by decide +kernel
theorem d_M_canBe_273 : decode prog_11_method_30_code 273 = .ok (.getfield 194, 3) := by decide +kernel
theorem d_M_canBe_276 : decode prog_11_method_30_code 276 = .ok (.if_icmp .ne 7, 3) := by decide +kernel
theorem d_M_canBe_279 : decode prog_11_method_30_code 279 = .ok (.iconst 1, 1) := by decide +kernel
theorem d_M_canBe_280 : decode prog_11_method_30_code 280 = .ok (.goto 4, 3) := by decide +kernel
theorem d_M_canBe_283 : decode prog_11_method_30_code 283 = .ok (.iconst 0, 1) := by decide +kernel
theorem d_M_canBe_284 : decode prog_11_method_30_code 284 = .ok (.istore_n 2, 1) := by decide +kernel
theorem d_M_canBe_285 : decode prog_11_method_30_code 285 = .ok (.iinc 3 1, 3) := by decide +kernel
theorem d_M_canBe_288 : decode prog_11_method_30_code 288 = .ok (.goto (-45), 3) := by decide +kernel
theorem d_M_canBe_291 : decode prog_11_method_30_code 291 = .ok (.iload_n 2, 1) := by decide +kernel
theorem d_M_canBe_292 : decode prog_11_method_30_code 292 = .ok (.ireturn, 1) := by decide +kernel
theorem d_M_can_0 : decode prog_11_method_32_code 0 = .ok (.aload_n 0, 1) := by decide +kernel
theorem d_M_can_1 : decode prog_11_method_32_code 1 = .ok (.iload_n 1, 1) := by decide +kernel
theorem d_M_can_2 : decode prog_11_method_32_code 2 = .ok (.invokevirtual 197, 3) := by decide +kernel
theorem d_M_can_5 : decode prog_11_method_32_code 5 = .ok (.ifCond .ne 7, 3) := by decide +kernel
theorem d_M_can_8 : decode prog_11_method_32_code 8 = .ok (.iconst (-1), 1) := by decide +kernel
theorem d_M_can_9 : decode prog_11_method_32_code 9 = .ok (.goto 16, 3) := by decide +kernel
theorem d_M_can_12 : decode prog_11_method_32_code 12 = .ok (.aload_n 0, 1) := by decide +kernel
theorem d_M_can_13 : decode prog_11_method_32_code 13 = .ok (.iload_n 1, 1) := by decide +kernel
theorem d_M_can_14 : decode prog_11_method_32_code 14 = .ok (.invokevirtual 200, 3) := by decide +kernel
theorem d_M_can_17 : decode prog_11_method_32_code 17 = .ok (.ifCond .eq 7, 3) := by decide +kernel
theorem d_M_can_20 : decode prog_11_method_32_code 20 = .ok (.iconst 1, 1) := by decide +kernel
theorem d_M_can_21 : decode prog_11_method_32_code 21 = .ok (.goto 4, 3) := by decide +kernel
theorem d_M_can_24 : decode prog_11_method_32_code 24 = .ok (.iconst 0, 1) := by decide +kernel
theorem d_M_can_25 : decode prog_11_method_32_code 25 = .ok (.ireturn, 1) := by decide +kernel
theorem d_M_mayBy_0 : decode prog_11_method_28_code 0 = .ok (.iload 4, 2) := by decide +kernel
theorem d_M_mayBy_2 : decode prog_11_method_28_code 2 = .ok (.iload_n 1, 1) := by decide +kernel
theorem d_M_mayBy_3 : decode prog_11_method_28_code 3 = .ok (.ishr, 1) := by decide +kernel
theorem d_M_mayBy_4 : decode prog_11_method_28_code 4 = .ok (.iconst 1, 1) := by decide +kernel
theorem d_M_mayBy_5 : decode prog_11_method_28_code 5 = .ok (.iand, 1) := by decide +kernel
theorem d_M_mayBy_6 : decode prog_11_method_28_code 6 = .ok (.iconst 1, 1) := by decide +kernel
theorem d_M_mayBy_7 : decode prog_11_method_28_code 7 = .ok (.if_icmp .ne 5, 3) := by decide +kernel
theorem d_M_mayBy_10 : decode prog_11_method_28_code 10 = .ok (.iconst 0, 1) := by decide +kernel
theorem d_M_mayBy_11 : decode prog_11_method_28_code 11 = .ok (.ireturn, 1) := by decide +kernel
theorem d_M_mayBy_12 : decode prog_11_method_28_code 12 = .ok (.iload 4, 2) := by decide +kernel
theorem d_M_mayBy_14 : decode prog_11_method_28_code 14 = .ok (.iconst 1, 1) := by decide +kernel
theorem d_M_mayBy_15 : decode prog_11_method_28_code 15 = .ok (.iload_n 1, 1) := by decide +kernel
theorem d_M_mayBy_16 : decode prog_11_method_28_code 16 = .ok (.ishl, 1) := by decide +kernel
theorem d_M_mayBy_17 : decode prog_11_method_28_code 17 = .ok (.ior, 1) := by decide +kernel
theorem d_M_mayBy_18 : decode prog_11_method_28_code 18 = .ok (.istore 5, 2) := by decide +kernel
theorem d_M_mayBy_20 : decode prog_11_method_28_code 20 = .ok (.aload_n 0, 1) := by decide +kernel
theorem d_M_mayBy_21 : decode prog_11_method_28_code 21 = .ok (.iload_n 1, 1) := by decide +kernel
theorem d_M_mayBy_22 : decode prog_11_method_28_code 22 = .ok (.iload_n 2, 1) := by decide +kernel
theorem d_M_mayBy_23 : decode prog_11_method_28_code 23 = .ok (.invokevirtual 180, 3) := by decide +kernel
theorem d_M_mayBy_26 : decode prog_11_method_28_code 26 = .ok (.ifCond .eq 34, 3) := by decide +kernel
theorem d_M_mayBy_29 : decode prog_11_method_28_code 29 = .ok (.aload_n 0, 1) := by decide +kernel
theorem d_M_mayBy_30 : decode prog_11_method_28_code 30 = .ok (.iload_n 2, 1) := by decide +kernel
theorem d_M_mayBy_31 : decode prog_11_method_28_code 31 = .ok (.iload_n 3, 1) := by decide +kernel
theorem d_M_mayBy_32 : decode prog_11_method_28_code 32 = .ok (.invokevirtual 184, 3) := by decide +kernel
theorem d_M_mayBy_35 : decode prog_11_method_28_code 35 = .ok (.ifCond .ne 25, 3) := by decide +kernel
theorem d_M_mayBy_38 : decode prog_11_method_28_code 38 = .ok (.aload_n 0, 1) := by decide +kernel
theorem d_M_mayBy_39 : decode prog_11_method_28_code 39 = .ok (.getfield 43, 3) := by decide +kernel
theorem d_M_mayBy_42 : decode prog_11_method_28_code 42 = .ok (.sipush 1024, 3) := by decide +kernel
theorem d_M_mayBy_45 : decode prog_11_method_28_code 45 = .ok (.iload_n 2, 1) := by decide +kernel
theorem d_M_mayBy_46 : decode prog_11_method_28_code 46 = .ok (.iconst 1, 1) := by decide +kernel
theorem d_M_mayBy_47 : decode prog_11_method_28_code 47 = .ok (.iadd, 1) := by decide +kernel
theorem d_M_mayBy_48 : decode prog_11_method_28_code 48 = .ok (.imul, 1) := by decide +kernel
theorem d_M_mayBy_49 : decode prog_11_method_28_code 49 = .ok (.iload 5, 2) := by decide +kernel
theorem d_M_mayBy_51 : decode prog_11_method_28_code 51 = .ok (.iadd, 1) := by decide +kernel
theorem d_M_mayBy_52 : decode prog_11_method_28_code 52 = .ok (.baload, 1) := by decide +kernel
theorem d_M_mayBy_53 : decode prog_11_method_28_code 53 = .ok (.ifCond .eq 7, 3) := by decide +kernel
theorem d_M_mayBy_56 : decode prog_11_method_28_code 56 = .ok (.iconst 1, 1) := by decide +kernel
theorem d_M_mayBy_57 : decode prog_11_method_28_code 57 = .ok (.goto 4, 3) := by decide +kernel
theorem d_M_mayBy_60 : decode prog_11_method_28_code 60 = .ok (.iconst 0, 1) := by decide +kernel
theorem d_M_mayBy_61 : decode prog_11_method_28_code 61 = .ok (.istore 6, 2) := by decide +kernel
theorem d_M_mayBy_63 : decode prog_11_method_28_code 63 = .ok (.iload 6, 2) := by decide +kernel
theorem d_M_mayBy_65 : decode prog_11_method_28_code 65 = .ok (.ifCond .ne 42, 3) := by decide +kernel
theorem d_M_mayBy_68 : decode prog_11_method_28_code 68 = .ok (.aload_n 0, 1) := by decide +kernel
theorem d_M_mayBy_69 : decode prog_11_method_28_code 69 = .ok (.iload_n 1, 1) := by decide +kernel
theorem d_M_mayBy_70 : decode prog_11_method_28_code 70 = .ok (.iload_n 2, 1) := by decide +kernel
theorem d_M_mayBy_71 : decode prog_11_method_28_code 71 = .ok (.iload_n 3, 1) := by decide +kernel
theorem d_M_mayBy_72 : decode prog_11_method_28_code 72 = .ok (.invokevirtual 187, 3) := by decide +kernel
theorem d_M_mayBy_75 : decode prog_11_method_28_code 75 = .ok (.ifCond .eq 36, 3) := by decide +kernel
theorem d_M_mayBy_78 : decode prog_11_method_28_code 78 = .ok (.aload_n 0, 1) := by decide +kernel
theorem d_M_mayBy_79 : decode prog_11_method_28_code 79 = .ok (.iload_n 2, 1) := by decide +kernel
theorem d_M_mayBy_80 : decode prog_11_method_28_code 80 = .ok (.iconst 1, 1) := by decide +kernel
theorem d_M_mayBy_81 : decode prog_11_method_28_code 81 = .ok (.iadd, 1) := by decide +kernel
theorem d_M_mayBy_82 : decode prog_11_method_28_code 82 = .ok (.iload_n 3, 1) := by decide +kernel
theorem d_M_mayBy_83 : decode prog_11_method_28_code 83 = .ok (.invokevirtual 184, 3) := by decide +kernel
theorem d_M_mayBy_86 : decode prog_11_method_28_code 86 = .ok (.ifCond .ne 25, 3) := by decide +kernel
theorem d_M_mayBy_89 : decode prog_11_method_28_code 89 = .ok (.aload_n 0, 1) := by decide +kernel
theorem d_M_mayBy_90 : decode prog_11_method_28_code 90 = .ok (.getfield 43, 3) := by decide +kernel
theorem d_M_mayBy_93 : decode prog_11_method_28_code 93 = .ok (.sipush 1024, 3) := by decide +kernel
theorem d_M_mayBy_96 : decode prog_11_method_28_code 96 = .ok (.iload_n 2, 1) := by decide +kernel
theorem d_M_mayBy_97 : decode prog_11_method_28_code 97 = .ok (.iconst 2, 1) := by decide +kernel
theorem d_M_mayBy_98 : decode prog_11_method_28_code 98 = .ok (.iadd, 1) := by decide +kernel
theorem d_M_mayBy_99 : decode prog_11_method_28_code 99 = .ok (.imul, 1) := by decide +kernel
theorem d_M_mayBy_100 : decode prog_11_method_28_code 100 = .ok (.iload 5, 2) := by decide +kernel
theorem d_M_mayBy_102 : decode prog_11_method_28_code 102 = .ok (.iadd, 1) := by decide +kernel
theorem d_M_mayBy_103 : decode prog_11_method_28_code 103 = .ok (.baload, 1) := by decide +kernel
theorem d_M_mayBy_104 : decode prog_11_method_28_code 104 = .ok (.ifCond .eq 7, 3) := by decide +kernel
theorem d_M_mayBy_107 : decode prog_11_method_28_code 107 = .ok (.iconst 1, 1) := by decide +kernel
theorem d_M_mayBy_108 : decode prog_11_method_28_code 108 = .ok (.goto 4, 3) := by decide +kernel
theorem d_M_mayBy_111 : decode prog_11_method_28_code 111 = .ok (.iconst 0, 1) := by decide +kernel
theorem d_M_mayBy_112 : decode prog_11_method_28_code 112 = .ok (.ireturn, 1) := by decide +kernel
theorem d_M_looks_0 : decode prog_11_method_29_code 0 = .ok (.iconst 1, 1) := by decide +kernel
theorem d_M_looks_1 : decode prog_11_method_29_code 1 = .ok (.aload_n 0, 1) := by decide +kernel
theorem d_M_looks_2 : decode prog_11_method_29_code 2 = .ok (.getfield 108, 3) := by decide +kernel
theorem d_M_looks_5 : decode prog_11_method_29_code 5 = .ok (.ishl, 1) := by decide +kernel
theorem d_M_looks_6 : decode prog_11_method_29_code 6 = .ok (.istore_n 2, 1) := by decide +kernel
theorem d_M_looks_7 : decode prog_11_method_29_code 7 = .ok (.iconst 0, 1) := by decide +kernel
theorem d_M_looks_8 : decode prog_11_method_29_code 8 = .ok (.istore_n 3, 1) := by decide +kernel
theorem d_M_looks_9 : decode prog_11_method_29_code 9 = .ok (.iload_n 3, 1) := by decide +kernel
theorem d_M_looks_10 : decode prog_11_method_29_code 10 = .ok (.iload_n 2, 1) := by decide +kernel
theorem d_M_looks_11 : decode prog_11_method_29_code 11 = .ok (.if_icmp .ge 25, 3) := by decide +kernel
theorem d_M_looks_14 : decode prog_11_method_29_code 14 = .ok (.aload_n 0, 1) := by decide +kernel
theorem d_M_looks_15 : decode prog_11_method_29_code 15 = .ok (.getfield 43, 3) := by decide +kernel
theorem d_M_looks_18 : decode prog_11_method_29_code 18 = .ok (.sipush 1024, 3) := by decide +kernel
theorem d_M_looks_21 : decode prog_11_method_29_code 21 = .ok (.aload_n 0, 1) := by decide +kernel
theorem d_M_looks_22 : decode prog_11_method_29_code 22 = .ok (.getfield 158, 3) := by decide +kernel
theorem d_M_looks_25 : decode prog_11_method_29_code 25 = .ok (.imul, 1) := by decide +kernel
theorem d_M_looks_26 : decode prog_11_method_29_code 26 = .ok (.iload_n 3, 1) := by decide +kernel
theorem d_M_looks_27 : decode prog_11_method_29_code 27 = .ok (.iadd, 1) := by decide +kernel
theorem d_M_looks_28 : decode prog_11_method_29_code 28 = .ok (.iconst 1, 1) := by decide +kernel
theorem d_M_looks_29 : decode prog_11_method_29_code 29 = .ok (.bastore, 1) := by decide +kernel
theorem d_M_looks_30 : decode prog_11_method_29_code 30 = .ok (.iinc 3 1, 3) := by decide +kernel
theorem d_M_looks_33 : decode prog_11_method_29_code 33 = .ok (.goto (-24), 3) := by decide +kernel
theorem d_M_looks_36 : decode prog_11_method_29_code 36 = .ok (.aload_n 0, 1) := by decide +kernel
theorem d_M_looks_37 : decode prog_11_method_29_code 37 = .ok (.getfield 158, 3) := by decide +kernel
theorem d_M_looks_40 : decode prog_11_method_29_code 40 = .ok (.iconst 1, 1) := by decide +kernel
theorem d_M_looks_41 : decode prog_11_method_29_code 41 = .ok (.isub, 1) := by decide +kernel
theorem d_M_looks_42 : decode prog_11_method_29_code 42 = .ok (.istore_n 3, 1) := by decide +kernel
theorem d_M_looks_43 : decode prog_11_method_29_code 43 = .ok (.iload_n 3, 1) := by decide +kernel
theorem d_M_looks_44 : decode prog_11_method_29_code 44 = .ok (.ifCond .lt 116, 3) := by decide +kernel
theorem d_M_looks_47 : decode prog_11_method_29_code 47 = .ok (.iconst 0, 1) := by decide +kernel
theorem d_M_looks_48 : decode prog_11_method_29_code 48 = .ok (.istore 4, 2) := by decide +kernel
theorem d_M_looks_50 : decode prog_11_method_29_code 50 = .ok (.iload 4, 2) := by decide +kernel
theorem d_M_looks_52 : decode prog_11_method_29_code 52 = .ok (.iload_n 2, 1) := by decide +kernel
theorem d_M_looks_53 : decode prog_11_method_29_code 53 = .ok (.if_icmp .ge 101, 3) := by decide +kernel
theorem d_M_looks_56 : decode prog_11_method_29_code 56 = .ok (.iload_n 1, 1) := by decide +kernel
theorem d_M_looks_57 : decode prog_11_method_29_code 57 = .ok (.iload_n 3, 1) := by decide +kernel
theorem d_M_looks_58 : decode prog_11_method_29_code 58 = .ok (.ishr, 1) := by decide +kernel
theorem d_M_looks_59 : decode prog_11_method_29_code 59 = .ok (.iconst 1, 1) := by decide +kernel
theorem d_M_looks_60 : decode prog_11_method_29_code 60 = .ok (.iand, 1) := by decide +kernel
theorem d_M_looks_61 : decode prog_11_method_29_code 61 = .ok (.ifCond .ne 25, 3) := by decide +kernel
theorem d_M_looks_64 : decode prog_11_method_29_code 64 = .ok (.aload_n 0, 1) := by decide +kernel
theorem d_M_looks_65 : decode prog_11_method_29_code 65 = .ok (.getfield 43, 3) := by decide +kernel
theorem d_M_looks_68 : decode prog_11_method_29_code 68 = .ok (.sipush 1024, 3) := by decide +kernel
theorem d_M_looks_71 : decode prog_11_method_29_code 71 = .ok (.iload_n 3, 1) := by decide +kernel
theorem d_M_looks_72 : decode prog_11_method_29_code 72 = .ok (.iconst 1, 1) := by decide +kernel
theorem d_M_looks_73 : decode prog_11_method_29_code 73 = .ok (.iadd, 1) := by decide +kernel
theorem d_M_looks_74 : decode prog_11_method_29_code 74 = .ok (.imul, 1) := by decide +kernel
theorem d_M_looks_75 : decode prog_11_method_29_code 75 = .ok (.iload 4, 2) := by decide +kernel
theorem d_M_looks_77 : decode prog_11_method_29_code 77 = .ok (.iadd, 1) := by decide +kernel
theorem d_M_looks_78 : decode prog_11_method_29_code 78 = .ok (.baload, 1) := by decide +kernel
theorem d_M_looks_79 : decode prog_11_method_29_code 79 = .ok (.ifCond .eq 7, 3) := by decide +kernel
theorem d_M_looks_82 : decode prog_11_method_29_code 82 = .ok (.iconst 1, 1) := by decide +kernel
theorem d_M_looks_83 : decode prog_11_method_29_code 83 = .ok (.goto 4, 3) := by decide +kernel
theorem d_M_looks_86 : decode prog_11_method_29_code 86 = .ok (.iconst 0, 1) := by decide +kernel
theorem d_M_looks_87 : decode prog_11_method_29_code 87 = .ok (.istore 5, 2) := by decide +kernel
theorem d_M_looks_89 : decode prog_11_method_29_code 89 = .ok (.iconst 0, 1) := by decide +kernel
theorem d_M_looks_90 : decode prog_11_method_29_code 90 = .ok (.istore 6, 2) := by decide +kernel
theorem d_M_looks_92 : decode prog_11_method_29_code 92 = .ok (.iload 6, 2) := by decide +kernel
theorem d_M_looks_94 : decode prog_11_method_29_code 94 = .ok (.aload_n 0, 1) := by decide +kernel
theorem d_M_looks_95 : decode prog_11_method_29_code 95 = .ok (.getfield 108, 3) := by decide +kernel
theorem d_M_looks_98 : decode prog_11_method_29_code 98 = .ok (.if_icmp .ge 35, 3) := by decide +kernel
theorem d_M_looks_101 : decode prog_11_method_29_code 101 = .ok (.iload_n 1, 1) := by decide +kernel
theorem d_M_looks_102 : decode prog_11_method_29_code 102 = .ok (.iload_n 3, 1) := by decide +kernel
theorem d_M_looks_103 : decode prog_11_method_29_code 103 = .ok (.ishr, 1) := by decide +kernel
theorem d_M_looks_104 : decode prog_11_method_29_code 104 = .ok (.iconst 1, 1) := by decide +kernel
theorem d_M_looks_105 : decode prog_11_method_29_code 105 = .ok (.iand, 1) := by decide +kernel
theorem d_M_looks_106 : decode prog_11_method_29_code 106 = .ok (.iconst 1, 1) := by decide +kernel
theorem d_M_looks_107 : decode prog_11_method_29_code 107 = .ok (.if_icmp .ne 26, 3) := by decide +kernel
theorem d_M_looks_110 : decode prog_11_method_29_code 110 = .ok (.iload 5, 2) := by decide +kernel
theorem d_M_looks_112 : decode prog_11_method_29_code 112 = .ok (.ifCond .ne 21, 3) := by decide +kernel
theorem d_M_looks_115 : decode prog_11_method_29_code 115 = .ok (.aload_n 0, 1) := by decide +kernel
theorem d_M_looks_116 : decode prog_11_method_29_code 116 = .ok (.iload 6, 2) := by decide +kernel
theorem d_M_looks_118 : decode prog_11_method_29_code 118 = .ok (.iload_n 3, 1) := by decide +kernel
theorem d_M_looks_119 : decode prog_11_method_29_code 119 = .ok (.iload_n 1, 1) := by decide +kernel
theorem d_M_looks_120 : decode prog_11_method_29_code 120 = .ok (.iload 4, 2) := by decide +kernel
theorem d_M_looks_122 : decode prog_11_method_29_code 122 = .ok (.invokevirtual 190, 3) := by decide +kernel
theorem d_M_looks_125 : decode prog_11_method_29_code 125 = .ok (.istore 5, 2) := by decide +kernel
theorem d_M_looks_127 : decode prog_11_method_29_code 127 = .ok (.iinc 6 1, 3) := by decide +kernel
theorem d_M_looks_130 : decode prog_11_method_29_code 130 = .ok (.goto (-38), 3) := by decide +kernel
theorem d_M_looks_133 : decode prog_11_method_29_code 133 = .ok (.aload_n 0, 1) := by decide +kernel
theorem d_M_looks_134 : decode prog_11_method_29_code 134 = .ok (.getfield 43, 3) := by decide +kernel
theorem d_M_looks_137 : decode prog_11_method_29_code 137 = .ok (.sipush 1024, 3) := by decide +kernel
theorem d_M_looks_140 : decode prog_11_method_29_code 140 = .ok (.iload_n 3, 1) := by decide +kernel
theorem d_M_looks_141 : decode prog_11_method_29_code 141 = .ok (.imul, 1) := by decide +kernel
theorem d_M_looks_142 : decode prog_11_method_29_code 142 = .ok (.iload 4, 2) := by decide +kernel
theorem d_M_looks_144 : decode prog_11_method_29_code 144 = .ok (.iadd, 1) := by decide +kernel
theorem d_M_looks_145 : decode prog_11_method_29_code 145 = .ok (.iload 5, 2) := by decide +kernel
theorem d_M_looks_147 : decode prog_11_method_29_code 147 = .ok (.bastore, 1) := by decide +kernel
theorem d_M_looks_148 : decode prog_11_method_29_code 148 = .ok (.iinc 4 1, 3) := by decide +kernel
theorem d_M_looks_151 : decode prog_11_method_29_code 151 = .ok (.goto (-101), 3) := by decide +kernel
theorem d_M_looks_154 : decode prog_11_method_29_code 154 = .ok (.iinc 3 (-1), 3) := by decide +kernel
theorem d_M_looks_157 : decode prog_11_method_29_code 157 = .ok (.goto (-114), 3) := by decide +kernel
theorem d_M_looks_160 : decode prog_11_method_29_code 160 = .ok (.return_, 1) := by decide +kernel
def f_M_joins (a1 : Int32) (a2 : Int32) (a3 : Int32) (μ : fw_M) : Option (Int32) :=
  (fw_rd 10 (μ.1 1) a1).bind fun v5 =>
  Option.bind (
    if v5 = 2 then
      (f_M_isBeside a2 μ).bind fun (p12 : Int32) =>
      if p12 = 0 then
        some 0
      else
        if ((a3 >>> ((a2 + 1) &&& 31)) &&& 1) = 1 then
          (fw_rd 10 (μ.1 2) a1).bind fun v34 =>
          (fw_rd 10 (μ.1 6) a2).bind fun v40 =>
          if v34 = v40 then
            (fw_rd 10 (μ.1 3) a1).bind fun v49 =>
            (fw_rd 10 (μ.1 6) (a2 + 1)).bind fun v57 =>
            if v49 = v57 then
              some 1
            else
              some 0
          else
            some 0
        else
          some 0
    else
      some 0) fun (j7 : Int32) =>
  (fw_bz j7).bind fun b66 =>
  some b66
set_option maxHeartbeats 4000000 in
set_option maxRecDepth 100000 in
theorem c_M_joins {a1 : Int32} {a2 : Int32} {a3 : Int32} {μ : fw_M} {r : Int32} (h : f_M_joins a1 a2 a3 μ = some r) : fw_Con Y_M_joins fw_Mo 2 [.ref 0, .int a1, .int a2, .int a3] (some r) μ μ := by
  refine fw_con (by decide) (Nat.le_of_ble_eq_true rfl) ?_
  rw [f_M_joins] at h
  show fw_R "FewTypesModel" prog_11_method_26_code 4 (some .boolean) fw_Mo 2 (some r) μ 0 [(0, .ref 0), (1, .int a1), (2, .int a2), (3, .int a3)] [] μ
  refine fw_aload_n (pc := 0) d_M_joins_0 0 rfl rfl ?_
  refine fw_getR (pc := 1) d_M_joins_1 fl_M_7 fw_Mo0 rfl ?_
  refine fw_iload_n (pc := 4) d_M_joins_4 1 rfl rfl ?_
  obtain ⟨v5, e5, h⟩ := fw_be h
  refine fw_iald (pc := 5) d_M_joins_5 fw_Mo1 e5 ?_
  refine fw_iconst (pc := 6) d_M_joins_6 fw_ic2 ?_
  obtain ⟨j7, w7, h⟩ := fw_be h
  have hJ7 : fw_R "FewTypesModel" prog_11_method_26_code 4 (some .boolean) fw_Mo 2 (some r) μ 66 [] [.int j7] μ := by
    obtain ⟨b66, e66, h⟩ := fw_be h
    obtain rfl := Option.some.inj h
    exact fw_zret (pc := 66) d_M_joins_66 rfl e66
  clear h
  have h := w7
  clear w7
  refine fw_icmp_ne (pc := 7) (tgt := 65) d_M_joins_7 rfl (fun hc => ?_) (fun hc => ?_)
  · have h := fw_it hc h
    refine fw_aload_n (pc := 10) d_M_joins_10 0 rfl rfl ?_
    refine fw_iload_n (pc := 11) d_M_joins_11 2 rfl rfl ?_
    obtain ⟨p12, e12, h⟩ := fw_be h
    refine fw_callVi (pc := 12) d_M_joins_12 mv_M_171 fw_Mo0 (c_M_isBeside e12) (by decide) rfl rfl (Nat.le_of_ble_eq_true rfl) ?_
    refine fw_if_eq (pc := 15) (tgt := 65) d_M_joins_15 rfl (fun hc => ?_) (fun hc => ?_)
    · have h := fw_it hc h
      refine fw_iconst (pc := 65) d_M_joins_65 fw_ic0 ?_
      obtain rfl := Option.some.inj h
      exact fw_sub [] rfl hJ7
    · have h := fw_if hc h
      refine fw_iload_n (pc := 18) d_M_joins_18 3 rfl rfl ?_
      refine fw_iload_n (pc := 19) d_M_joins_19 2 rfl rfl ?_
      refine fw_iconst (pc := 20) d_M_joins_20 fw_ic1 ?_
      refine fw_iadd (pc := 21) d_M_joins_21 ?_
      refine fw_ishr (pc := 22) d_M_joins_22 ?_
      refine fw_iconst (pc := 23) d_M_joins_23 fw_ic1 ?_
      refine fw_iand (pc := 24) d_M_joins_24 ?_
      refine fw_iconst (pc := 25) d_M_joins_25 fw_ic1 ?_
      refine fw_icmp_ne (pc := 26) (tgt := 65) d_M_joins_26 rfl (fun hc => ?_) (fun hc => ?_)
      · have h := fw_it hc h
        refine fw_aload_n (pc := 29) d_M_joins_29 0 rfl rfl ?_
        refine fw_getR (pc := 30) d_M_joins_30 fl_M_13 fw_Mo0 rfl ?_
        refine fw_iload_n (pc := 33) d_M_joins_33 1 rfl rfl ?_
        obtain ⟨v34, e34, h⟩ := fw_be h
        refine fw_iald (pc := 34) d_M_joins_34 fw_Mo2 e34 ?_
        refine fw_aload_n (pc := 35) d_M_joins_35 0 rfl rfl ?_
        refine fw_getR (pc := 36) d_M_joins_36 fl_M_25 fw_Mo0 rfl ?_
        refine fw_iload_n (pc := 39) d_M_joins_39 2 rfl rfl ?_
        obtain ⟨v40, e40, h⟩ := fw_be h
        refine fw_iald (pc := 40) d_M_joins_40 fw_Mo6 e40 ?_
        refine fw_icmp_ne (pc := 41) (tgt := 65) d_M_joins_41 rfl (fun hc => ?_) (fun hc => ?_)
        · have h := fw_it hc h
          refine fw_aload_n (pc := 44) d_M_joins_44 0 rfl rfl ?_
          refine fw_getR (pc := 45) d_M_joins_45 fl_M_16 fw_Mo0 rfl ?_
          refine fw_iload_n (pc := 48) d_M_joins_48 1 rfl rfl ?_
          obtain ⟨v49, e49, h⟩ := fw_be h
          refine fw_iald (pc := 49) d_M_joins_49 fw_Mo3 e49 ?_
          refine fw_aload_n (pc := 50) d_M_joins_50 0 rfl rfl ?_
          refine fw_getR (pc := 51) d_M_joins_51 fl_M_25 fw_Mo0 rfl ?_
          refine fw_iload_n (pc := 54) d_M_joins_54 2 rfl rfl ?_
          refine fw_iconst (pc := 55) d_M_joins_55 fw_ic1 ?_
          refine fw_iadd (pc := 56) d_M_joins_56 ?_
          obtain ⟨v57, e57, h⟩ := fw_be h
          refine fw_iald (pc := 57) d_M_joins_57 fw_Mo6 e57 ?_
          refine fw_icmp_ne (pc := 58) (tgt := 65) d_M_joins_58 rfl (fun hc => ?_) (fun hc => ?_)
          · have h := fw_it hc h
            refine fw_iconst (pc := 61) d_M_joins_61 fw_ic1 ?_
            refine fw_goto (pc := 62) (tgt := 66) d_M_joins_62 rfl ?_
            obtain rfl := Option.some.inj h
            exact fw_sub [] rfl hJ7
          · have h := fw_if hc h
            refine fw_iconst (pc := 65) d_M_joins_65 fw_ic0 ?_
            obtain rfl := Option.some.inj h
            exact fw_sub [] rfl hJ7
        · have h := fw_if hc h
          refine fw_iconst (pc := 65) d_M_joins_65 fw_ic0 ?_
          obtain rfl := Option.some.inj h
          exact fw_sub [] rfl hJ7
      · have h := fw_if hc h
        refine fw_iconst (pc := 65) d_M_joins_65 fw_ic0 ?_
        obtain rfl := Option.some.inj h
        exact fw_sub [] rfl hJ7
  · have h := fw_if hc h
    refine fw_iconst (pc := 65) d_M_joins_65 fw_ic0 ?_
    obtain rfl := Option.some.inj h
    exact fw_sub [] rfl hJ7
def f_M_canBe_L90 (a1 : Int32) (x2_22 : Int32) (x3_32 : Int32) : Int32 × fw_M → Option ((Int32 × fw_M) ⊕ (fw_M))
  | (x4_90, μ90) =>
  if (μ90.1 0 0) ≤ x4_90 then
    some (.inr μ90)
  else
    if ((a1 >>> (x2_22 &&& 31)) &&& 1) = 1 then
      fw_nm (
        if ((x3_32 >>> (x4_90 &&& 31)) &&& 1) = 0 then
          1
        else
          0) fun (j114 : Int32) =>
      Option.bind (
        if j114 = 0 then
          some μ90
        else
          (f_M_prints x4_90 x2_22 μ90).bind fun (p133 : Int32) =>
          if p133 = 0 then
            some μ90
          else
            (f_M_isClose x2_22 a1 μ90).bind fun (p142 : Int32) =>
            if p142 = 0 then
              (fw_si 11264 μ90 13 ((1024 * (x2_22 + 1)) + (x3_32 ||| ((1 : Int32) <<< (x4_90 &&& 31)))) (μ90.1 0 21)).bind fun μ170 =>
              some μ170
            else
              some μ90) fun (j126 : fw_M) =>
      Option.bind (
        if j114 = 0 then
          some j126
        else
          (f_M_joins x4_90 x2_22 a1 j126).bind fun (p181 : Int32) =>
          if p181 = 0 then
            some j126
          else
            (f_M_isClose (x2_22 + 1) a1 j126).bind fun (p192 : Int32) =>
            if p192 = 0 then
              (fw_si 11264 j126 13 ((1024 * (x2_22 + 2)) + (x3_32 ||| ((1 : Int32) <<< (x4_90 &&& 31)))) (j126.1 0 21)).bind fun μ220 =>
              some μ220
            else
              some j126) fun (j173 : fw_M) =>
      fw_nm (x4_90 + 1) fun (v221 : Int32) =>
      some (.inl (v221, j173))
    else
      some (.inr μ90)
def f_M_canBe_L32 (a1 : Int32) (x2_22 : Int32) : Int32 × fw_M → Option ((Int32 × fw_M) ⊕ (fw_M))
  | (x3_32, μ32) =>
  if ((1 : Int32) <<< ((μ32.1 0 0) &&& 31)) ≤ x3_32 then
    some (.inr μ32)
  else
    (fw_rd 11264 (μ32.1 13) ((1024 * x2_22) + x3_32)).bind fun v53 =>
    Option.bind (
      if v53 = (μ32.1 0 21) then
        Option.bind (
          if ((a1 >>> (x2_22 &&& 31)) &&& 1) = 0 then
            (fw_si 11264 μ32 13 ((1024 * (x2_22 + 1)) + x3_32) (μ32.1 0 21)).bind fun μ86 =>
            some μ86
          else
            some μ32) fun (j66 : fw_M) =>
        (fw_wh (f_M_canBe_L90 a1 x2_22 x3_32) fw_N (0, j66)).bind fun (e90x : fw_M) =>
        some e90x
      else
        some μ32) fun (j58 : fw_M) =>
    fw_nm (x3_32 + 1) fun (v227 : Int32) =>
    some (.inl (v227, j58))
def f_M_canBe_L22 (a1 : Int32) : Int32 × fw_M → Option ((Int32 × fw_M) ⊕ (fw_M))
  | (x2_22, μ22) =>
  if (μ22.1 0 6) ≤ x2_22 then
    some (.inr μ22)
  else
    (fw_wh (f_M_canBe_L32 a1 x2_22) fw_N (0, μ22)).bind fun (e32x : fw_M) =>
    fw_nm (x2_22 + 1) fun (v233 : Int32) =>
    some (.inl (v233, e32x))
def f_M_canBe_L243 (e22x : fw_M) : Int32 × Int32 → Option ((Int32 × Int32) ⊕ (Int32))
  | (x2_243, x3_243) =>
  if ((1 : Int32) <<< ((e22x.1 0 0) &&& 31)) ≤ x3_243 then
    some (.inr x2_243)
  else
    Option.bind (
      if x2_243 = 0 then
        (fw_rd 11264 (e22x.1 13) ((1024 * (e22x.1 0 6)) + x3_243)).bind fun v271 =>
        if v271 = (e22x.1 0 21) then
          some 1
        else
          some 0
      else
        some 1) fun (j254 : Int32) =>
    fw_nm (x3_243 + 1) fun (v285 : Int32) =>
    some (.inl (j254, v285))
def f_M_canBe (a1 : Int32) (μ : fw_M) : Option (Int32 × fw_M) :=
  fw_nm (fw_wr μ 0 21 ((μ.1 0 21) + 1)) fun (μ7 : fw_M) =>
  (fw_si 11264 μ7 13 0 (μ7.1 0 21)).bind fun μ19 =>
  (fw_wh (f_M_canBe_L22 a1) fw_N (0, μ19)).bind fun (e22x : fw_M) =>
  (fw_wh (f_M_canBe_L243 e22x) fw_N (0, 0)).bind fun (e243x : Int32) =>
  (fw_bz e243x).bind fun b292 =>
  some (b292, e22x)
set_option maxHeartbeats 4000000 in
set_option maxRecDepth 100000 in
theorem c_M_canBe {a1 : Int32} {μ : fw_M} {r : Int32 × fw_M} (h : f_M_canBe a1 μ = some r) : fw_Con Y_M_canBe fw_Mo 3 [.ref 0, .int a1] (some r.1) μ r.2 := by
  refine fw_con (by decide) (Nat.le_of_ble_eq_true rfl) ?_
  rw [f_M_canBe] at h
  show fw_R "FewTypesModel" prog_11_method_30_code 6 (some .boolean) fw_Mo 3 (some r.1) r.2 0 [(0, .ref 0), (1, .int a1)] [] μ
  refine fw_aload_n (pc := 0) d_M_canBe_0 0 rfl rfl ?_
  refine fw_dup (pc := 1) d_M_canBe_1 rfl ?_
  refine fw_getI (pc := 2) d_M_canBe_2 fl_M_194 fw_Mo0 rfl ?_
  refine fw_iconst (pc := 5) d_M_canBe_5 fw_ic1 ?_
  refine fw_iadd (pc := 6) d_M_canBe_6 ?_
  obtain ⟨μ7, e7, h⟩ := fw_ne h
  refine fw_putI (pc := 7) d_M_canBe_7 fp_M_194 fw_Mo0 rfl (fw_mem e7 ?_)
  refine fw_aload_n (pc := 10) d_M_canBe_10 0 rfl rfl ?_
  refine fw_getR (pc := 11) d_M_canBe_11 fl_M_47 fw_Mo0 rfl ?_
  refine fw_iconst (pc := 14) d_M_canBe_14 fw_ic0 ?_
  refine fw_aload_n (pc := 15) d_M_canBe_15 0 rfl rfl ?_
  refine fw_getI (pc := 16) d_M_canBe_16 fl_M_194 fw_Mo0 rfl ?_
  obtain ⟨μ19, e19, h⟩ := fw_be h
  refine fw_iast (pc := 19) d_M_canBe_19 fw_Mo13 e19 ?_
  refine fw_iconst (pc := 20) d_M_canBe_20 fw_ic0 ?_
  refine fw_istore_n (pc := 21) (lv1 := [(2, .int 0), (0, .ref 0), (1, .int a1)]) d_M_canBe_21 rfl (by decide) rfl ?_
  obtain ⟨e22x, w22, h⟩ := fw_be h
  have hE22 : fw_R "FewTypesModel" prog_11_method_30_code 6 (some .boolean) fw_Mo 3 (some r.1) r.2 239 [(0, .ref 0)] [] e22x := by
    refine fw_iconst (pc := 239) d_M_canBe_239 fw_ic0 ?_
    refine fw_istore_n (pc := 240) (lv1 := [(2, .int 0), (0, .ref 0)]) d_M_canBe_240 rfl (by decide) rfl ?_
    refine fw_iconst (pc := 241) d_M_canBe_241 fw_ic0 ?_
    refine fw_istore_n (pc := 242) (lv1 := [(3, .int 0), (2, .int 0), (0, .ref 0)]) d_M_canBe_242 rfl (by decide) rfl ?_
    obtain ⟨e243x, w243, h⟩ := fw_be h
    have hE243 : fw_R "FewTypesModel" prog_11_method_30_code 6 (some .boolean) fw_Mo 3 (some r.1) r.2 291 [(2, .int e243x)] [] e22x := by
      refine fw_iload_n (pc := 291) d_M_canBe_291 0 rfl rfl ?_
      obtain ⟨b292, e292, h⟩ := fw_be h
      obtain rfl := Option.some.inj h
      exact fw_zret (pc := 292) d_M_canBe_292 rfl e292
    clear h
    exact fw_sub [2, 1, 0] rfl (fw_we (e := e243x) (fun (s : Int32 × Int32) => fw_R "FewTypesModel" prog_11_method_30_code 6 (some .boolean) fw_Mo 3 (some r.1) r.2 243 [(0, .ref 0), (2, .int s.1), (3, .int s.2)] [] e22x) (by
      intro s x h hl hr
      obtain ⟨x2_243, x3_243⟩ := s
      rw [f_M_canBe_L243] at h
      show fw_R "FewTypesModel" prog_11_method_30_code 6 (some .boolean) fw_Mo 3 (some r.1) r.2 243 [(0, .ref 0), (2, .int x2_243), (3, .int x3_243)] [] e22x
      refine fw_iload_n (pc := 243) d_M_canBe_243 2 rfl rfl ?_
      refine fw_iconst (pc := 244) d_M_canBe_244 fw_ic1 ?_
      refine fw_aload_n (pc := 245) d_M_canBe_245 0 rfl rfl ?_
      refine fw_getI (pc := 246) d_M_canBe_246 fl_M_108 fw_Mo0 rfl ?_
      refine fw_ishl (pc := 249) d_M_canBe_249 ?_
      refine fw_icmp_ge (pc := 250) (tgt := 291) d_M_canBe_250 rfl (fun hc => ?_) (fun hc => ?_)
      · have h := fw_it hc h
        obtain rfl := Option.some.inj h
        have he := hr _ rfl
        subst he
        exact fw_sub [1] rfl hE243
      · have h := fw_if hc h
        refine fw_iload_n (pc := 253) d_M_canBe_253 1 rfl rfl ?_
        obtain ⟨j254, w254, h⟩ := fw_be h
        have hJ254 : fw_R "FewTypesModel" prog_11_method_30_code 6 (some .boolean) fw_Mo 3 (some r.1) r.2 284 [(0, .ref 0), (3, .int x3_243)] [.int j254] e22x := by
          refine fw_istore_n (pc := 284) (lv1 := [(2, .int j254), (0, .ref 0), (3, .int x3_243)]) d_M_canBe_284 rfl (by decide) rfl ?_
          obtain ⟨v285, e285, h⟩ := fw_ne h
          refine fw_iinc2 (pc := 285) (j := 2) (lv1 := [(3, .int v285), (2, .int j254), (0, .ref 0)]) d_M_canBe_285 rfl fw_ic1 e285 (by decide) rfl ?_
          refine fw_goto (pc := 288) (tgt := 243) d_M_canBe_288 rfl ?_
          obtain rfl := Option.some.inj h
          exact fw_sub [2, 1, 0] rfl (hl _ rfl)
        clear h
        have h := w254
        clear w254
        refine fw_if_ne (pc := 254) (tgt := 279) d_M_canBe_254 rfl (fun hc => ?_) (fun hc => ?_)
        · have h := fw_it hc h
          refine fw_aload_n (pc := 257) d_M_canBe_257 0 rfl rfl ?_
          refine fw_getR (pc := 258) d_M_canBe_258 fl_M_47 fw_Mo0 rfl ?_
          refine fw_sipush (pc := 261) d_M_canBe_261 fw_sp1024 ?_
          refine fw_aload_n (pc := 264) d_M_canBe_264 0 rfl rfl ?_
          refine fw_getI (pc := 265) d_M_canBe_265 fl_M_158 fw_Mo0 rfl ?_
          refine fw_imul (pc := 268) d_M_canBe_268 ?_
          refine fw_iload_n (pc := 269) d_M_canBe_269 2 rfl rfl ?_
          refine fw_iadd (pc := 270) d_M_canBe_270 ?_
          obtain ⟨v271, e271, h⟩ := fw_be h
          refine fw_iald (pc := 271) d_M_canBe_271 fw_Mo13 e271 ?_
          refine fw_aload_n (pc := 272) d_M_canBe_272 0 rfl rfl ?_
          refine fw_getI (pc := 273) d_M_canBe_273 fl_M_194 fw_Mo0 rfl ?_
          refine fw_icmp_ne (pc := 276) (tgt := 283) d_M_canBe_276 rfl (fun hc => ?_) (fun hc => ?_)
          · have h := fw_it hc h
            refine fw_iconst (pc := 279) d_M_canBe_279 fw_ic1 ?_
            refine fw_goto (pc := 280) (tgt := 284) d_M_canBe_280 rfl ?_
            obtain rfl := Option.some.inj h
            exact fw_sub [0, 2] rfl hJ254
          · have h := fw_if hc h
            refine fw_iconst (pc := 283) d_M_canBe_283 fw_ic0 ?_
            obtain rfl := Option.some.inj h
            exact fw_sub [0, 2] rfl hJ254
        · have h := fw_if hc h
          refine fw_iconst (pc := 279) d_M_canBe_279 fw_ic1 ?_
          refine fw_goto (pc := 280) (tgt := 284) d_M_canBe_280 rfl ?_
          obtain rfl := Option.some.inj h
          exact fw_sub [0, 2] rfl hJ254
      ) _ _ w243)
  clear h
  exact fw_sub [1, 2, 0] rfl (fw_we (e := e22x) (fun (s : Int32 × fw_M) => fw_R "FewTypesModel" prog_11_method_30_code 6 (some .boolean) fw_Mo 3 (some r.1) r.2 22 [(0, .ref 0), (1, .int a1), (2, .int s.1)] [] s.2) (by
    intro s x h hl hr
    obtain ⟨x2_22, μ22⟩ := s
    rw [f_M_canBe_L22] at h
    show fw_R "FewTypesModel" prog_11_method_30_code 6 (some .boolean) fw_Mo 3 (some r.1) r.2 22 [(0, .ref 0), (1, .int a1), (2, .int x2_22)] [] μ22
    refine fw_iload_n (pc := 22) d_M_canBe_22 2 rfl rfl ?_
    refine fw_aload_n (pc := 23) d_M_canBe_23 0 rfl rfl ?_
    refine fw_getI (pc := 24) d_M_canBe_24 fl_M_158 fw_Mo0 rfl ?_
    refine fw_icmp_ge (pc := 27) (tgt := 239) d_M_canBe_27 rfl (fun hc => ?_) (fun hc => ?_)
    · have h := fw_it hc h
      obtain rfl := Option.some.inj h
      have he := hr _ rfl
      subst he
      exact fw_sub [0] rfl hE22
    · have h := fw_if hc h
      refine fw_iconst (pc := 30) d_M_canBe_30 fw_ic0 ?_
      refine fw_istore_n (pc := 31) (lv1 := [(3, .int 0), (0, .ref 0), (1, .int a1), (2, .int x2_22)]) d_M_canBe_31 rfl (by decide) rfl ?_
      obtain ⟨e32x, w32, h⟩ := fw_be h
      have hE32 : fw_R "FewTypesModel" prog_11_method_30_code 6 (some .boolean) fw_Mo 3 (some r.1) r.2 233 [(0, .ref 0), (1, .int a1), (2, .int x2_22)] [] e32x := by
        obtain ⟨v233, e233, h⟩ := fw_ne h
        refine fw_iinc2 (pc := 233) (j := 2) (lv1 := [(2, .int v233), (0, .ref 0), (1, .int a1)]) d_M_canBe_233 rfl fw_ic1 e233 (by decide) rfl ?_
        refine fw_goto (pc := 236) (tgt := 22) d_M_canBe_236 rfl ?_
        obtain rfl := Option.some.inj h
        exact fw_sub [1, 2, 0] rfl (hl _ rfl)
      clear h
      exact fw_sub [1, 2, 3, 0] rfl (fw_we (e := e32x) (fun (s : Int32 × fw_M) => fw_R "FewTypesModel" prog_11_method_30_code 6 (some .boolean) fw_Mo 3 (some r.1) r.2 32 [(0, .ref 0), (1, .int a1), (2, .int x2_22), (3, .int s.1)] [] s.2) (by
        intro s x h hl hr
        obtain ⟨x3_32, μ32⟩ := s
        rw [f_M_canBe_L32] at h
        show fw_R "FewTypesModel" prog_11_method_30_code 6 (some .boolean) fw_Mo 3 (some r.1) r.2 32 [(0, .ref 0), (1, .int a1), (2, .int x2_22), (3, .int x3_32)] [] μ32
        refine fw_iload_n (pc := 32) d_M_canBe_32 3 rfl rfl ?_
        refine fw_iconst (pc := 33) d_M_canBe_33 fw_ic1 ?_
        refine fw_aload_n (pc := 34) d_M_canBe_34 0 rfl rfl ?_
        refine fw_getI (pc := 35) d_M_canBe_35 fl_M_108 fw_Mo0 rfl ?_
        refine fw_ishl (pc := 38) d_M_canBe_38 ?_
        refine fw_icmp_ge (pc := 39) (tgt := 233) d_M_canBe_39 rfl (fun hc => ?_) (fun hc => ?_)
        · have h := fw_it hc h
          obtain rfl := Option.some.inj h
          have he := hr _ rfl
          subst he
          exact fw_sub [0, 1, 2] rfl hE32
        · have h := fw_if hc h
          refine fw_aload_n (pc := 42) d_M_canBe_42 0 rfl rfl ?_
          refine fw_getR (pc := 43) d_M_canBe_43 fl_M_47 fw_Mo0 rfl ?_
          refine fw_sipush (pc := 46) d_M_canBe_46 fw_sp1024 ?_
          refine fw_iload_n (pc := 49) d_M_canBe_49 2 rfl rfl ?_
          refine fw_imul (pc := 50) d_M_canBe_50 ?_
          refine fw_iload_n (pc := 51) d_M_canBe_51 3 rfl rfl ?_
          refine fw_iadd (pc := 52) d_M_canBe_52 ?_
          obtain ⟨v53, e53, h⟩ := fw_be h
          refine fw_iald (pc := 53) d_M_canBe_53 fw_Mo13 e53 ?_
          refine fw_aload_n (pc := 54) d_M_canBe_54 0 rfl rfl ?_
          refine fw_getI (pc := 55) d_M_canBe_55 fl_M_194 fw_Mo0 rfl ?_
          obtain ⟨j58, w58, h⟩ := fw_be h
          have hJ58 : fw_R "FewTypesModel" prog_11_method_30_code 6 (some .boolean) fw_Mo 3 (some r.1) r.2 227 [(0, .ref 0), (1, .int a1), (2, .int x2_22), (3, .int x3_32)] [] j58 := by
            obtain ⟨v227, e227, h⟩ := fw_ne h
            refine fw_iinc2 (pc := 227) (j := 3) (lv1 := [(3, .int v227), (0, .ref 0), (1, .int a1), (2, .int x2_22)]) d_M_canBe_227 rfl fw_ic1 e227 (by decide) rfl ?_
            refine fw_goto (pc := 230) (tgt := 32) d_M_canBe_230 rfl ?_
            obtain rfl := Option.some.inj h
            exact fw_sub [1, 2, 3, 0] rfl (hl _ rfl)
          clear h
          have h := w58
          clear w58
          refine fw_icmp_ne (pc := 58) (tgt := 227) d_M_canBe_58 rfl (fun hc => ?_) (fun hc => ?_)
          · have h := fw_it hc h
            refine fw_iload_n (pc := 61) d_M_canBe_61 1 rfl rfl ?_
            refine fw_iload_n (pc := 62) d_M_canBe_62 2 rfl rfl ?_
            refine fw_ishr (pc := 63) d_M_canBe_63 ?_
            refine fw_iconst (pc := 64) d_M_canBe_64 fw_ic1 ?_
            refine fw_iand (pc := 65) d_M_canBe_65 ?_
            obtain ⟨j66, w66, h⟩ := fw_be h
            have hJ66 : fw_R "FewTypesModel" prog_11_method_30_code 6 (some .boolean) fw_Mo 3 (some r.1) r.2 87 [(0, .ref 0), (1, .int a1), (2, .int x2_22), (3, .int x3_32)] [] j66 := by
              refine fw_iconst (pc := 87) d_M_canBe_87 fw_ic0 ?_
              refine fw_istore (pc := 88) (lv1 := [(4, .int 0), (0, .ref 0), (1, .int a1), (2, .int x2_22), (3, .int x3_32)]) d_M_canBe_88 (by decide) rfl ?_
              obtain ⟨e90x, w90, h⟩ := fw_be h
              have hE90 : fw_R "FewTypesModel" prog_11_method_30_code 6 (some .boolean) fw_Mo 3 (some r.1) r.2 227 [(0, .ref 0), (1, .int a1), (2, .int x2_22), (3, .int x3_32)] [] e90x := by
                obtain rfl := Option.some.inj h
                exact fw_sub [0, 1, 2, 3] rfl hJ58
              clear h
              exact fw_sub [1, 2, 3, 4, 0] rfl (fw_we (e := e90x) (fun (s : Int32 × fw_M) => fw_R "FewTypesModel" prog_11_method_30_code 6 (some .boolean) fw_Mo 3 (some r.1) r.2 90 [(0, .ref 0), (1, .int a1), (2, .int x2_22), (3, .int x3_32), (4, .int s.1)] [] s.2) (by
                intro s x h hl hr
                obtain ⟨x4_90, μ90⟩ := s
                rw [f_M_canBe_L90] at h
                show fw_R "FewTypesModel" prog_11_method_30_code 6 (some .boolean) fw_Mo 3 (some r.1) r.2 90 [(0, .ref 0), (1, .int a1), (2, .int x2_22), (3, .int x3_32), (4, .int x4_90)] [] μ90
                refine fw_iload (pc := 90) d_M_canBe_90 4 rfl ?_
                refine fw_aload_n (pc := 92) d_M_canBe_92 0 rfl rfl ?_
                refine fw_getI (pc := 93) d_M_canBe_93 fl_M_108 fw_Mo0 rfl ?_
                refine fw_icmp_ge (pc := 96) (tgt := 227) d_M_canBe_96 rfl (fun hc => ?_) (fun hc => ?_)
                · have h := fw_it hc h
                  obtain rfl := Option.some.inj h
                  have he := hr _ rfl
                  subst he
                  exact fw_sub [0, 1, 2, 3] rfl hE90
                · have h := fw_if hc h
                  refine fw_iload_n (pc := 99) d_M_canBe_99 1 rfl rfl ?_
                  refine fw_iload_n (pc := 100) d_M_canBe_100 2 rfl rfl ?_
                  refine fw_ishr (pc := 101) d_M_canBe_101 ?_
                  refine fw_iconst (pc := 102) d_M_canBe_102 fw_ic1 ?_
                  refine fw_iand (pc := 103) d_M_canBe_103 ?_
                  refine fw_iconst (pc := 104) d_M_canBe_104 fw_ic1 ?_
                  refine fw_icmp_ne (pc := 105) (tgt := 227) d_M_canBe_105 rfl (fun hc => ?_) (fun hc => ?_)
                  · have h := fw_it hc h
                    refine fw_iload_n (pc := 108) d_M_canBe_108 3 rfl rfl ?_
                    refine fw_iload (pc := 109) d_M_canBe_109 4 rfl ?_
                    refine fw_ishr (pc := 111) d_M_canBe_111 ?_
                    refine fw_iconst (pc := 112) d_M_canBe_112 fw_ic1 ?_
                    refine fw_iand (pc := 113) d_M_canBe_113 ?_
                    obtain ⟨j114, w114, h⟩ := fw_ne h
                    have hJ114 : fw_R "FewTypesModel" prog_11_method_30_code 6 (some .boolean) fw_Mo 3 (some r.1) r.2 122 [(0, .ref 0), (1, .int a1), (2, .int x2_22), (3, .int x3_32), (4, .int x4_90)] [.int j114] μ90 := by
                      refine fw_istore (pc := 122) (lv1 := [(5, .int j114), (0, .ref 0), (1, .int a1), (2, .int x2_22), (3, .int x3_32), (4, .int x4_90)]) d_M_canBe_122 (by decide) rfl ?_
                      refine fw_iload (pc := 124) d_M_canBe_124 0 rfl ?_
                      obtain ⟨j126, w126, h⟩ := fw_be h
                      have hJ126 : fw_R "FewTypesModel" prog_11_method_30_code 6 (some .boolean) fw_Mo 3 (some r.1) r.2 171 [(0, .ref 0), (1, .int a1), (2, .int x2_22), (3, .int x3_32), (4, .int x4_90), (5, .int j114)] [] j126 := by
                        refine fw_iload (pc := 171) d_M_canBe_171 5 rfl ?_
                        obtain ⟨j173, w173, h⟩ := fw_be h
                        have hJ173 : fw_R "FewTypesModel" prog_11_method_30_code 6 (some .boolean) fw_Mo 3 (some r.1) r.2 221 [(0, .ref 0), (1, .int a1), (2, .int x2_22), (3, .int x3_32), (4, .int x4_90)] [] j173 := by
                          obtain ⟨v221, e221, h⟩ := fw_ne h
                          refine fw_iinc2 (pc := 221) (j := 4) (lv1 := [(4, .int v221), (0, .ref 0), (1, .int a1), (2, .int x2_22), (3, .int x3_32)]) d_M_canBe_221 rfl fw_ic1 e221 (by decide) rfl ?_
                          refine fw_goto (pc := 224) (tgt := 90) d_M_canBe_224 rfl ?_
                          obtain rfl := Option.some.inj h
                          exact fw_sub [1, 2, 3, 4, 0] rfl (hl _ rfl)
                        clear h
                        have h := w173
                        clear w173
                        refine fw_if_eq (pc := 173) (tgt := 221) d_M_canBe_173 rfl (fun hc => ?_) (fun hc => ?_)
                        · have h := fw_it hc h
                          obtain rfl := Option.some.inj h
                          exact fw_sub [0, 1, 2, 3, 4] rfl hJ173
                        · have h := fw_if hc h
                          refine fw_aload_n (pc := 176) d_M_canBe_176 0 rfl rfl ?_
                          refine fw_iload (pc := 177) d_M_canBe_177 4 rfl ?_
                          refine fw_iload_n (pc := 179) d_M_canBe_179 2 rfl rfl ?_
                          refine fw_iload_n (pc := 180) d_M_canBe_180 1 rfl rfl ?_
                          obtain ⟨p181, e181, h⟩ := fw_be h
                          refine fw_callVi (pc := 181) d_M_canBe_181 mv_M_187 fw_Mo0 (c_M_joins e181) (by decide) rfl rfl (Nat.le_of_ble_eq_true rfl) ?_
                          refine fw_if_eq (pc := 184) (tgt := 221) d_M_canBe_184 rfl (fun hc => ?_) (fun hc => ?_)
                          · have h := fw_it hc h
                            obtain rfl := Option.some.inj h
                            exact fw_sub [0, 1, 2, 3, 4] rfl hJ173
                          · have h := fw_if hc h
                            refine fw_aload_n (pc := 187) d_M_canBe_187 0 rfl rfl ?_
                            refine fw_iload_n (pc := 188) d_M_canBe_188 2 rfl rfl ?_
                            refine fw_iconst (pc := 189) d_M_canBe_189 fw_ic1 ?_
                            refine fw_iadd (pc := 190) d_M_canBe_190 ?_
                            refine fw_iload_n (pc := 191) d_M_canBe_191 1 rfl rfl ?_
                            obtain ⟨p192, e192, h⟩ := fw_be h
                            refine fw_callVi (pc := 192) d_M_canBe_192 mv_M_184 fw_Mo0 (c_M_isClose e192) (by decide) rfl rfl (Nat.le_of_ble_eq_true rfl) ?_
                            refine fw_if_ne (pc := 195) (tgt := 221) d_M_canBe_195 rfl (fun hc => ?_) (fun hc => ?_)
                            · have h := fw_it hc h
                              refine fw_aload_n (pc := 198) d_M_canBe_198 0 rfl rfl ?_
                              refine fw_getR (pc := 199) d_M_canBe_199 fl_M_47 fw_Mo0 rfl ?_
                              refine fw_sipush (pc := 202) d_M_canBe_202 fw_sp1024 ?_
                              refine fw_iload_n (pc := 205) d_M_canBe_205 2 rfl rfl ?_
                              refine fw_iconst (pc := 206) d_M_canBe_206 fw_ic2 ?_
                              refine fw_iadd (pc := 207) d_M_canBe_207 ?_
                              refine fw_imul (pc := 208) d_M_canBe_208 ?_
                              refine fw_iload_n (pc := 209) d_M_canBe_209 3 rfl rfl ?_
                              refine fw_iconst (pc := 210) d_M_canBe_210 fw_ic1 ?_
                              refine fw_iload (pc := 211) d_M_canBe_211 4 rfl ?_
                              refine fw_ishl (pc := 213) d_M_canBe_213 ?_
                              refine fw_ior (pc := 214) d_M_canBe_214 ?_
                              refine fw_iadd (pc := 215) d_M_canBe_215 ?_
                              refine fw_aload_n (pc := 216) d_M_canBe_216 0 rfl rfl ?_
                              refine fw_getI (pc := 217) d_M_canBe_217 fl_M_194 fw_Mo0 rfl ?_
                              obtain ⟨μ220, e220, h⟩ := fw_be h
                              refine fw_iast (pc := 220) d_M_canBe_220 fw_Mo13 e220 ?_
                              obtain rfl := Option.some.inj h
                              exact fw_sub [0, 1, 2, 3, 4] rfl hJ173
                            · have h := fw_if hc h
                              obtain rfl := Option.some.inj h
                              exact fw_sub [0, 1, 2, 3, 4] rfl hJ173
                      clear h
                      have h := w126
                      clear w126
                      refine fw_if_eq (pc := 126) (tgt := 171) d_M_canBe_126 rfl (fun hc => ?_) (fun hc => ?_)
                      · have h := fw_it hc h
                        obtain rfl := Option.some.inj h
                        exact fw_sub [1, 2, 3, 4, 5, 0] rfl hJ126
                      · have h := fw_if hc h
                        refine fw_aload_n (pc := 129) d_M_canBe_129 1 rfl rfl ?_
                        refine fw_iload (pc := 130) d_M_canBe_130 5 rfl ?_
                        refine fw_iload_n (pc := 132) d_M_canBe_132 3 rfl rfl ?_
                        obtain ⟨p133, e133, h⟩ := fw_be h
                        refine fw_callVi (pc := 133) d_M_canBe_133 mv_M_180 fw_Mo0 (c_M_prints e133) (by decide) rfl rfl (Nat.le_of_ble_eq_true rfl) ?_
                        refine fw_if_eq (pc := 136) (tgt := 171) d_M_canBe_136 rfl (fun hc => ?_) (fun hc => ?_)
                        · have h := fw_it hc h
                          obtain rfl := Option.some.inj h
                          exact fw_sub [1, 2, 3, 4, 5, 0] rfl hJ126
                        · have h := fw_if hc h
                          refine fw_aload_n (pc := 139) d_M_canBe_139 1 rfl rfl ?_
                          refine fw_iload_n (pc := 140) d_M_canBe_140 3 rfl rfl ?_
                          refine fw_iload_n (pc := 141) d_M_canBe_141 2 rfl rfl ?_
                          obtain ⟨p142, e142, h⟩ := fw_be h
                          refine fw_callVi (pc := 142) d_M_canBe_142 mv_M_184 fw_Mo0 (c_M_isClose e142) (by decide) rfl rfl (Nat.le_of_ble_eq_true rfl) ?_
                          refine fw_if_ne (pc := 145) (tgt := 171) d_M_canBe_145 rfl (fun hc => ?_) (fun hc => ?_)
                          · have h := fw_it hc h
                            refine fw_aload_n (pc := 148) d_M_canBe_148 1 rfl rfl ?_
                            refine fw_getR (pc := 149) d_M_canBe_149 fl_M_47 fw_Mo0 rfl ?_
                            refine fw_sipush (pc := 152) d_M_canBe_152 fw_sp1024 ?_
                            refine fw_iload_n (pc := 155) d_M_canBe_155 3 rfl rfl ?_
                            refine fw_iconst (pc := 156) d_M_canBe_156 fw_ic1 ?_
                            refine fw_iadd (pc := 157) d_M_canBe_157 ?_
                            refine fw_imul (pc := 158) d_M_canBe_158 ?_
                            refine fw_iload_n (pc := 159) d_M_canBe_159 4 rfl rfl ?_
                            refine fw_iconst (pc := 160) d_M_canBe_160 fw_ic1 ?_
                            refine fw_iload (pc := 161) d_M_canBe_161 5 rfl ?_
                            refine fw_ishl (pc := 163) d_M_canBe_163 ?_
                            refine fw_ior (pc := 164) d_M_canBe_164 ?_
                            refine fw_iadd (pc := 165) d_M_canBe_165 ?_
                            refine fw_aload_n (pc := 166) d_M_canBe_166 1 rfl rfl ?_
                            refine fw_getI (pc := 167) d_M_canBe_167 fl_M_194 fw_Mo0 rfl ?_
                            obtain ⟨μ170, e170, h⟩ := fw_be h
                            refine fw_iast (pc := 170) d_M_canBe_170 fw_Mo13 e170 ?_
                            obtain rfl := Option.some.inj h
                            exact fw_sub [1, 2, 3, 4, 5, 0] rfl hJ126
                          · have h := fw_if hc h
                            obtain rfl := Option.some.inj h
                            exact fw_sub [1, 2, 3, 4, 5, 0] rfl hJ126
                    clear h
                    have h := w114
                    clear w114
                    refine fw_if_ne (pc := 114) (tgt := 121) d_M_canBe_114 rfl (fun hc => ?_) (fun hc => ?_)
                    · have h := h.trans (if_pos hc)
                      refine fw_iconst (pc := 117) d_M_canBe_117 fw_ic1 ?_
                      refine fw_goto (pc := 118) (tgt := 122) d_M_canBe_118 rfl ?_
                      subst h
                      exact fw_sub [0, 1, 2, 3, 4] rfl hJ114
                    · have h := h.trans (if_neg hc)
                      refine fw_iconst (pc := 121) d_M_canBe_121 fw_ic0 ?_
                      subst h
                      exact fw_sub [0, 1, 2, 3, 4] rfl hJ114
                  · have h := fw_if hc h
                    obtain rfl := Option.some.inj h
                    have he := hr _ rfl
                    subst he
                    exact fw_sub [0, 1, 2, 3] rfl hE90
                ) _ _ w90)
            clear h
            have h := w66
            clear w66
            refine fw_if_ne (pc := 66) (tgt := 87) d_M_canBe_66 rfl (fun hc => ?_) (fun hc => ?_)
            · have h := fw_it hc h
              refine fw_aload_n (pc := 69) d_M_canBe_69 0 rfl rfl ?_
              refine fw_getR (pc := 70) d_M_canBe_70 fl_M_47 fw_Mo0 rfl ?_
              refine fw_sipush (pc := 73) d_M_canBe_73 fw_sp1024 ?_
              refine fw_iload_n (pc := 76) d_M_canBe_76 2 rfl rfl ?_
              refine fw_iconst (pc := 77) d_M_canBe_77 fw_ic1 ?_
              refine fw_iadd (pc := 78) d_M_canBe_78 ?_
              refine fw_imul (pc := 79) d_M_canBe_79 ?_
              refine fw_iload_n (pc := 80) d_M_canBe_80 3 rfl rfl ?_
              refine fw_iadd (pc := 81) d_M_canBe_81 ?_
              refine fw_aload_n (pc := 82) d_M_canBe_82 0 rfl rfl ?_
              refine fw_getI (pc := 83) d_M_canBe_83 fl_M_194 fw_Mo0 rfl ?_
              obtain ⟨μ86, e86, h⟩ := fw_be h
              refine fw_iast (pc := 86) d_M_canBe_86 fw_Mo13 e86 ?_
              obtain rfl := Option.some.inj h
              exact fw_sub [0, 1, 2, 3] rfl hJ66
            · have h := fw_if hc h
              obtain rfl := Option.some.inj h
              exact fw_sub [0, 1, 2, 3] rfl hJ66
          · have h := fw_if hc h
            obtain rfl := Option.some.inj h
            exact fw_sub [0, 1, 2, 3] rfl hJ58
        ) _ _ w32)
    ) _ _ w22)
def f_M_can (a1 : Int32) (μ : fw_M) : Option (Int32 × fw_M) :=
  (f_M_isSet a1 μ).bind fun (p2 : Int32) =>
  Option.bind (
    if p2 = 0 then
      some ((-1), μ)
    else
      (f_M_canBe a1 μ).bind fun (p14 : Int32 × fw_M) =>
      if p14.1 = 0 then
        some (0, p14.2)
      else
        some (1, p14.2)) fun (j5 : Int32 × fw_M) =>
  some (j5.1, j5.2)
set_option maxHeartbeats 4000000 in
set_option maxRecDepth 100000 in
theorem c_M_can {a1 : Int32} {μ : fw_M} {r : Int32 × fw_M} (h : f_M_can a1 μ = some r) : fw_Con Y_M_can fw_Mo 4 [.ref 0, .int a1] (some r.1) μ r.2 := by
  refine fw_con (by decide) (Nat.le_of_ble_eq_true rfl) ?_
  rw [f_M_can] at h
  show fw_R "FewTypesModel" prog_11_method_32_code 2 (some .int) fw_Mo 4 (some r.1) r.2 0 [(0, .ref 0), (1, .int a1)] [] μ
  refine fw_aload_n (pc := 0) d_M_can_0 0 rfl rfl ?_
  refine fw_iload_n (pc := 1) d_M_can_1 1 rfl rfl ?_
  obtain ⟨p2, e2, h⟩ := fw_be h
  refine fw_callVi (pc := 2) d_M_can_2 mv_M_197 fw_Mo0 (c_M_isSet e2) (by decide) rfl rfl (Nat.le_of_ble_eq_true rfl) ?_
  obtain ⟨j5, w5, h⟩ := fw_be h
  have hJ5 : fw_R "FewTypesModel" prog_11_method_32_code 2 (some .int) fw_Mo 4 (some r.1) r.2 25 [] [.int j5.1] j5.2 := by
    obtain rfl := Option.some.inj h
    exact fw_iret (pc := 25) d_M_can_25 rfl
  clear h
  have h := w5
  clear w5
  refine fw_if_ne (pc := 5) (tgt := 12) d_M_can_5 rfl (fun hc => ?_) (fun hc => ?_)
  · have h := fw_it hc h
    refine fw_iconst (pc := 8) d_M_can_8 fw_icm1 ?_
    refine fw_goto (pc := 9) (tgt := 25) d_M_can_9 rfl ?_
    obtain rfl := Option.some.inj h
    exact fw_sub [] rfl hJ5
  · have h := fw_if hc h
    refine fw_aload_n (pc := 12) d_M_can_12 0 rfl rfl ?_
    refine fw_iload_n (pc := 13) d_M_can_13 1 rfl rfl ?_
    obtain ⟨p14, e14, h⟩ := fw_be h
    refine fw_callVi (pc := 14) d_M_can_14 mv_M_200 fw_Mo0 (c_M_canBe e14) (by decide) rfl rfl (Nat.le_of_ble_eq_true rfl) ?_
    refine fw_if_eq (pc := 17) (tgt := 24) d_M_can_17 rfl (fun hc => ?_) (fun hc => ?_)
    · have h := fw_it hc h
      refine fw_iconst (pc := 24) d_M_can_24 fw_ic0 ?_
      obtain rfl := Option.some.inj h
      exact fw_sub [] rfl hJ5
    · have h := fw_if hc h
      refine fw_iconst (pc := 20) d_M_can_20 fw_ic1 ?_
      refine fw_goto (pc := 21) (tgt := 25) d_M_can_21 rfl ?_
      obtain rfl := Option.some.inj h
      exact fw_sub [] rfl hJ5
def f_M_mayBy (a1 : Int32) (a2 : Int32) (a3 : Int32) (a4 : Int32) (μ : fw_M) : Option (Int32) :=
  if ((a4 >>> (a1 &&& 31)) &&& 1) = 1 then
    some 0
  else
    fw_nm ((a4 ||| ((1 : Int32) <<< (a1 &&& 31)))) fun (v18 : Int32) =>
    (f_M_prints a1 a2 μ).bind fun (p23 : Int32) =>
    Option.bind (
      if p23 = 0 then
        some 0
      else
        (f_M_isClose a2 a3 μ).bind fun (p32 : Int32) =>
        if p32 = 0 then
          (fw_rd 11264 (μ.1 12) ((1024 * (a2 + 1)) + v18)).bind fun v52 =>
          if v52 = 0 then
            some 0
          else
            some 1
        else
          some 0) fun (j26 : Int32) =>
    Option.bind (
      if j26 = 0 then
        (f_M_joins a1 a2 a3 μ).bind fun (p72 : Int32) =>
        if p72 = 0 then
          some 0
        else
          (f_M_isClose (a2 + 1) a3 μ).bind fun (p83 : Int32) =>
          if p83 = 0 then
            (fw_rd 11264 (μ.1 12) ((1024 * (a2 + 2)) + v18)).bind fun v103 =>
            if v103 = 0 then
              some 0
            else
              some 1
          else
            some 0
      else
        some 1) fun (j65 : Int32) =>
    (fw_bz j65).bind fun b112 =>
    some b112
set_option maxHeartbeats 4000000 in
set_option maxRecDepth 100000 in
theorem c_M_mayBy {a1 : Int32} {a2 : Int32} {a3 : Int32} {a4 : Int32} {μ : fw_M} {r : Int32} (h : f_M_mayBy a1 a2 a3 a4 μ = some r) : fw_Con Y_M_mayBy fw_Mo 3 [.ref 0, .int a1, .int a2, .int a3, .int a4] (some r) μ μ := by
  refine fw_con (by decide) (Nat.le_of_ble_eq_true rfl) ?_
  rw [f_M_mayBy] at h
  show fw_R "FewTypesModel" prog_11_method_28_code 7 (some .boolean) fw_Mo 3 (some r) μ 0 [(0, .ref 0), (1, .int a1), (2, .int a2), (3, .int a3), (4, .int a4)] [] μ
  refine fw_iload (pc := 0) d_M_mayBy_0 4 rfl ?_
  refine fw_iload_n (pc := 2) d_M_mayBy_2 1 rfl rfl ?_
  refine fw_ishr (pc := 3) d_M_mayBy_3 ?_
  refine fw_iconst (pc := 4) d_M_mayBy_4 fw_ic1 ?_
  refine fw_iand (pc := 5) d_M_mayBy_5 ?_
  refine fw_iconst (pc := 6) d_M_mayBy_6 fw_ic1 ?_
  refine fw_icmp_ne (pc := 7) (tgt := 12) d_M_mayBy_7 rfl (fun hc => ?_) (fun hc => ?_)
  · have h := fw_it hc h
    refine fw_iconst (pc := 10) d_M_mayBy_10 fw_ic0 ?_
    obtain rfl := Option.some.inj h
    exact fw_zret (pc := 11) d_M_mayBy_11 rfl fw_bz0
  · have h := fw_if hc h
    refine fw_iload (pc := 12) d_M_mayBy_12 4 rfl ?_
    refine fw_iconst (pc := 14) d_M_mayBy_14 fw_ic1 ?_
    refine fw_iload_n (pc := 15) d_M_mayBy_15 1 rfl rfl ?_
    refine fw_ishl (pc := 16) d_M_mayBy_16 ?_
    refine fw_ior (pc := 17) d_M_mayBy_17 ?_
    obtain ⟨v18, e18, h⟩ := fw_ne h
    refine fw_top e18 ?_
    refine fw_istore (pc := 18) (lv1 := [(5, .int v18), (0, .ref 0), (1, .int a1), (2, .int a2), (3, .int a3), (4, .int a4)]) d_M_mayBy_18 (by decide) rfl ?_
    refine fw_aload_n (pc := 20) d_M_mayBy_20 1 rfl rfl ?_
    refine fw_iload_n (pc := 21) d_M_mayBy_21 2 rfl rfl ?_
    refine fw_iload_n (pc := 22) d_M_mayBy_22 3 rfl rfl ?_
    obtain ⟨p23, e23, h⟩ := fw_be h
    refine fw_callVi (pc := 23) d_M_mayBy_23 mv_M_180 fw_Mo0 (c_M_prints e23) (by decide) rfl rfl (Nat.le_of_ble_eq_true rfl) ?_
    obtain ⟨j26, w26, h⟩ := fw_be h
    have hJ26 : fw_R "FewTypesModel" prog_11_method_28_code 7 (some .boolean) fw_Mo 3 (some r) μ 61 [(0, .ref 0), (1, .int a1), (2, .int a2), (3, .int a3), (5, .int v18)] [.int j26] μ := by
      refine fw_istore (pc := 61) (lv1 := [(6, .int j26), (0, .ref 0), (1, .int a1), (2, .int a2), (3, .int a3), (5, .int v18)]) d_M_mayBy_61 (by decide) rfl ?_
      refine fw_iload (pc := 63) d_M_mayBy_63 0 rfl ?_
      obtain ⟨j65, w65, h⟩ := fw_be h
      have hJ65 : fw_R "FewTypesModel" prog_11_method_28_code 7 (some .boolean) fw_Mo 3 (some r) μ 112 [] [.int j65] μ := by
        obtain ⟨b112, e112, h⟩ := fw_be h
        obtain rfl := Option.some.inj h
        exact fw_zret (pc := 112) d_M_mayBy_112 rfl e112
      clear h
      have h := w65
      clear w65
      refine fw_if_ne (pc := 65) (tgt := 107) d_M_mayBy_65 rfl (fun hc => ?_) (fun hc => ?_)
      · have h := fw_it hc h
        refine fw_aload_n (pc := 68) d_M_mayBy_68 1 rfl rfl ?_
        refine fw_iload_n (pc := 69) d_M_mayBy_69 2 rfl rfl ?_
        refine fw_iload_n (pc := 70) d_M_mayBy_70 3 rfl rfl ?_
        refine fw_iload_n (pc := 71) d_M_mayBy_71 4 rfl rfl ?_
        obtain ⟨p72, e72, h⟩ := fw_be h
        refine fw_callVi (pc := 72) d_M_mayBy_72 mv_M_187 fw_Mo0 (c_M_joins e72) (by decide) rfl rfl (Nat.le_of_ble_eq_true rfl) ?_
        refine fw_if_eq (pc := 75) (tgt := 111) d_M_mayBy_75 rfl (fun hc => ?_) (fun hc => ?_)
        · have h := fw_it hc h
          refine fw_iconst (pc := 111) d_M_mayBy_111 fw_ic0 ?_
          obtain rfl := Option.some.inj h
          exact fw_sub [] rfl hJ65
        · have h := fw_if hc h
          refine fw_aload_n (pc := 78) d_M_mayBy_78 1 rfl rfl ?_
          refine fw_iload_n (pc := 79) d_M_mayBy_79 3 rfl rfl ?_
          refine fw_iconst (pc := 80) d_M_mayBy_80 fw_ic1 ?_
          refine fw_iadd (pc := 81) d_M_mayBy_81 ?_
          refine fw_iload_n (pc := 82) d_M_mayBy_82 4 rfl rfl ?_
          obtain ⟨p83, e83, h⟩ := fw_be h
          refine fw_callVi (pc := 83) d_M_mayBy_83 mv_M_184 fw_Mo0 (c_M_isClose e83) (by decide) rfl rfl (Nat.le_of_ble_eq_true rfl) ?_
          refine fw_if_ne (pc := 86) (tgt := 111) d_M_mayBy_86 rfl (fun hc => ?_) (fun hc => ?_)
          · have h := fw_it hc h
            refine fw_aload_n (pc := 89) d_M_mayBy_89 1 rfl rfl ?_
            refine fw_getR (pc := 90) d_M_mayBy_90 fl_M_43 fw_Mo0 rfl ?_
            refine fw_sipush (pc := 93) d_M_mayBy_93 fw_sp1024 ?_
            refine fw_iload_n (pc := 96) d_M_mayBy_96 3 rfl rfl ?_
            refine fw_iconst (pc := 97) d_M_mayBy_97 fw_ic2 ?_
            refine fw_iadd (pc := 98) d_M_mayBy_98 ?_
            refine fw_imul (pc := 99) d_M_mayBy_99 ?_
            refine fw_iload (pc := 100) d_M_mayBy_100 5 rfl ?_
            refine fw_iadd (pc := 102) d_M_mayBy_102 ?_
            obtain ⟨v103, e103, h⟩ := fw_be h
            refine fw_zald (pc := 103) d_M_mayBy_103 fw_Mo12 e103 ?_
            refine fw_if_eq (pc := 104) (tgt := 111) d_M_mayBy_104 rfl (fun hc => ?_) (fun hc => ?_)
            · have h := fw_it hc h
              refine fw_iconst (pc := 111) d_M_mayBy_111 fw_ic0 ?_
              obtain rfl := Option.some.inj h
              exact fw_sub [] rfl hJ65
            · have h := fw_if hc h
              refine fw_iconst (pc := 107) d_M_mayBy_107 fw_ic1 ?_
              refine fw_goto (pc := 108) (tgt := 112) d_M_mayBy_108 rfl ?_
              obtain rfl := Option.some.inj h
              exact fw_sub [] rfl hJ65
          · have h := fw_if hc h
            refine fw_iconst (pc := 111) d_M_mayBy_111 fw_ic0 ?_
            obtain rfl := Option.some.inj h
            exact fw_sub [] rfl hJ65
      · have h := fw_if hc h
        refine fw_iconst (pc := 107) d_M_mayBy_107 fw_ic1 ?_
        refine fw_goto (pc := 108) (tgt := 112) d_M_mayBy_108 rfl ?_
        obtain rfl := Option.some.inj h
        exact fw_sub [] rfl hJ65
    clear h
    have h := w26
    clear w26
    refine fw_if_eq (pc := 26) (tgt := 60) d_M_mayBy_26 rfl (fun hc => ?_) (fun hc => ?_)
    · have h := fw_it hc h
      refine fw_iconst (pc := 60) d_M_mayBy_60 fw_ic0 ?_
      obtain rfl := Option.some.inj h
      exact fw_sub [1, 2, 3, 4, 0] rfl hJ26
    · have h := fw_if hc h
      refine fw_aload_n (pc := 29) d_M_mayBy_29 1 rfl rfl ?_
      refine fw_iload_n (pc := 30) d_M_mayBy_30 3 rfl rfl ?_
      refine fw_iload_n (pc := 31) d_M_mayBy_31 4 rfl rfl ?_
      obtain ⟨p32, e32, h⟩ := fw_be h
      refine fw_callVi (pc := 32) d_M_mayBy_32 mv_M_184 fw_Mo0 (c_M_isClose e32) (by decide) rfl rfl (Nat.le_of_ble_eq_true rfl) ?_
      refine fw_if_ne (pc := 35) (tgt := 60) d_M_mayBy_35 rfl (fun hc => ?_) (fun hc => ?_)
      · have h := fw_it hc h
        refine fw_aload_n (pc := 38) d_M_mayBy_38 1 rfl rfl ?_
        refine fw_getR (pc := 39) d_M_mayBy_39 fl_M_43 fw_Mo0 rfl ?_
        refine fw_sipush (pc := 42) d_M_mayBy_42 fw_sp1024 ?_
        refine fw_iload_n (pc := 45) d_M_mayBy_45 3 rfl rfl ?_
        refine fw_iconst (pc := 46) d_M_mayBy_46 fw_ic1 ?_
        refine fw_iadd (pc := 47) d_M_mayBy_47 ?_
        refine fw_imul (pc := 48) d_M_mayBy_48 ?_
        refine fw_iload (pc := 49) d_M_mayBy_49 0 rfl ?_
        refine fw_iadd (pc := 51) d_M_mayBy_51 ?_
        obtain ⟨v52, e52, h⟩ := fw_be h
        refine fw_zald (pc := 52) d_M_mayBy_52 fw_Mo12 e52 ?_
        refine fw_if_eq (pc := 53) (tgt := 60) d_M_mayBy_53 rfl (fun hc => ?_) (fun hc => ?_)
        · have h := fw_it hc h
          refine fw_iconst (pc := 60) d_M_mayBy_60 fw_ic0 ?_
          obtain rfl := Option.some.inj h
          exact fw_sub [1, 2, 3, 4, 0] rfl hJ26
        · have h := fw_if hc h
          refine fw_iconst (pc := 56) d_M_mayBy_56 fw_ic1 ?_
          refine fw_goto (pc := 57) (tgt := 61) d_M_mayBy_57 rfl ?_
          obtain rfl := Option.some.inj h
          exact fw_sub [1, 2, 3, 4, 0] rfl hJ26
      · have h := fw_if hc h
        refine fw_iconst (pc := 60) d_M_mayBy_60 fw_ic0 ?_
        obtain rfl := Option.some.inj h
        exact fw_sub [1, 2, 3, 4, 0] rfl hJ26
def f_M_looks_L9 (v6 : Int32) : Int32 × fw_M → Option ((Int32 × fw_M) ⊕ (fw_M))
  | (x3_9, μ9) =>
  if v6 ≤ x3_9 then
    some (.inr μ9)
  else
    (fw_sz 11264 μ9 12 ((1024 * (μ9.1 0 6)) + x3_9) 1).bind fun μ29 =>
    fw_nm (x3_9 + 1) fun (v30 : Int32) =>
    some (.inl (v30, μ29))
def f_M_looks_L92 (a1 : Int32) (x3_43 : Int32) (x4_50 : Int32) (μ50 : fw_M) : Int32 × Int32 → Option ((Int32 × Int32) ⊕ (Int32))
  | (x5_92, x6_92) =>
  if (μ50.1 0 0) ≤ x6_92 then
    some (.inr x5_92)
  else
    if ((a1 >>> (x3_43 &&& 31)) &&& 1) = 1 then
      if x5_92 = 0 then
        (f_M_mayBy x6_92 x3_43 a1 x4_50 μ50).bind fun (p122 : Int32) =>
        fw_nm (x6_92 + 1) fun (v127 : Int32) =>
        some (.inl (p122, v127))
      else
        some (.inr x5_92)
    else
      some (.inr x5_92)
def f_M_looks_L50 (a1 : Int32) (v6 : Int32) (x3_43 : Int32) : Int32 × fw_M → Option ((Int32 × fw_M) ⊕ (fw_M))
  | (x4_50, μ50) =>
  if v6 ≤ x4_50 then
    some (.inr μ50)
  else
    Option.bind (
      if ((a1 >>> (x3_43 &&& 31)) &&& 1) = 0 then
        (fw_rd 11264 (μ50.1 12) ((1024 * (x3_43 + 1)) + x4_50)).bind fun v78 =>
        if v78 = 0 then
          some 0
        else
          some 1
      else
        some 0) fun (j61 : Int32) =>
    (fw_wh (f_M_looks_L92 a1 x3_43 x4_50 μ50) fw_N (j61, 0)).bind fun (e92x : Int32) =>
    (fw_sz 11264 μ50 12 ((1024 * x3_43) + x4_50) e92x).bind fun μ147 =>
    fw_nm (x4_50 + 1) fun (v148 : Int32) =>
    some (.inl (v148, μ147))
def f_M_looks_L43 (a1 : Int32) (v6 : Int32) : Int32 × fw_M → Option ((Int32 × fw_M) ⊕ (fw_M))
  | (x3_43, μ43) =>
  if x3_43 < 0 then
    some (.inr μ43)
  else
    (fw_wh (f_M_looks_L50 a1 v6 x3_43) fw_N (0, μ43)).bind fun (e50x : fw_M) =>
    fw_nm (x3_43 + (-1)) fun (v154 : Int32) =>
    some (.inl (v154, e50x))
def f_M_looks (a1 : Int32) (μ : fw_M) : Option (fw_M) :=
  fw_nm (((1 : Int32) <<< ((μ.1 0 0) &&& 31))) fun (v6 : Int32) =>
  (fw_wh (f_M_looks_L9 v6) fw_N (0, μ)).bind fun (e9x : fw_M) =>
  fw_nm (((e9x.1 0 6) - 1)) fun (v42 : Int32) =>
  (fw_wh (f_M_looks_L43 a1 v6) fw_N (v42, e9x)).bind fun (e43x : fw_M) =>
  some e43x
set_option maxHeartbeats 4000000 in
set_option maxRecDepth 100000 in
theorem c_M_looks {a1 : Int32} {μ : fw_M} {r : fw_M} (h : f_M_looks a1 μ = some r) : fw_Con Y_M_looks fw_Mo 4 [.ref 0, .int a1] none μ r := by
  refine fw_con (by decide) (Nat.le_of_ble_eq_true rfl) ?_
  rw [f_M_looks] at h
  show fw_R "FewTypesModel" prog_11_method_29_code 7 none fw_Mo 4 none r 0 [(0, .ref 0), (1, .int a1)] [] μ
  refine fw_iconst (pc := 0) d_M_looks_0 fw_ic1 ?_
  refine fw_aload_n (pc := 1) d_M_looks_1 0 rfl rfl ?_
  refine fw_getI (pc := 2) d_M_looks_2 fl_M_108 fw_Mo0 rfl ?_
  refine fw_ishl (pc := 5) d_M_looks_5 ?_
  obtain ⟨v6, e6, h⟩ := fw_ne h
  refine fw_top e6 ?_
  refine fw_istore_n (pc := 6) (lv1 := [(2, .int v6), (0, .ref 0), (1, .int a1)]) d_M_looks_6 rfl (by decide) rfl ?_
  refine fw_iconst (pc := 7) d_M_looks_7 fw_ic0 ?_
  refine fw_istore_n (pc := 8) (lv1 := [(3, .int 0), (2, .int v6), (0, .ref 0), (1, .int a1)]) d_M_looks_8 rfl (by decide) rfl ?_
  obtain ⟨e9x, w9, h⟩ := fw_be h
  have hE9 : fw_R "FewTypesModel" prog_11_method_29_code 7 none fw_Mo 4 none r 36 [(0, .ref 0), (1, .int a1), (2, .int v6)] [] e9x := by
    refine fw_aload_n (pc := 36) d_M_looks_36 0 rfl rfl ?_
    refine fw_getI (pc := 37) d_M_looks_37 fl_M_158 fw_Mo0 rfl ?_
    refine fw_iconst (pc := 40) d_M_looks_40 fw_ic1 ?_
    refine fw_isub (pc := 41) d_M_looks_41 ?_
    obtain ⟨v42, e42, h⟩ := fw_ne h
    refine fw_top e42 ?_
    refine fw_istore_n (pc := 42) (lv1 := [(3, .int v42), (0, .ref 0), (1, .int a1), (2, .int v6)]) d_M_looks_42 rfl (by decide) rfl ?_
    obtain ⟨e43x, w43, h⟩ := fw_be h
    have hE43 : fw_R "FewTypesModel" prog_11_method_29_code 7 none fw_Mo 4 none r 160 [] [] e43x := by
      obtain rfl := Option.some.inj h
      exact fw_vret (pc := 160) d_M_looks_160 rfl
    clear h
    exact fw_sub [1, 2, 3, 0] rfl (fw_we (e := e43x) (fun (s : Int32 × fw_M) => fw_R "FewTypesModel" prog_11_method_29_code 7 none fw_Mo 4 none r 43 [(0, .ref 0), (1, .int a1), (2, .int v6), (3, .int s.1)] [] s.2) (by
      intro s x h hl hr
      obtain ⟨x3_43, μ43⟩ := s
      rw [f_M_looks_L43] at h
      show fw_R "FewTypesModel" prog_11_method_29_code 7 none fw_Mo 4 none r 43 [(0, .ref 0), (1, .int a1), (2, .int v6), (3, .int x3_43)] [] μ43
      refine fw_iload_n (pc := 43) d_M_looks_43 3 rfl rfl ?_
      refine fw_if_lt (pc := 44) (tgt := 160) d_M_looks_44 rfl (fun hc => ?_) (fun hc => ?_)
      · have h := fw_it hc h
        obtain rfl := Option.some.inj h
        have he := hr _ rfl
        subst he
        exact fw_sub [] rfl hE43
      · have h := fw_if hc h
        refine fw_iconst (pc := 47) d_M_looks_47 fw_ic0 ?_
        refine fw_istore (pc := 48) (lv1 := [(4, .int 0), (0, .ref 0), (1, .int a1), (2, .int v6), (3, .int x3_43)]) d_M_looks_48 (by decide) rfl ?_
        obtain ⟨e50x, w50, h⟩ := fw_be h
        have hE50 : fw_R "FewTypesModel" prog_11_method_29_code 7 none fw_Mo 4 none r 154 [(0, .ref 0), (1, .int a1), (2, .int v6), (3, .int x3_43)] [] e50x := by
          obtain ⟨v154, e154, h⟩ := fw_ne h
          refine fw_iinc2 (pc := 154) (j := 3) (lv1 := [(3, .int v154), (0, .ref 0), (1, .int a1), (2, .int v6)]) d_M_looks_154 rfl fw_icm1 e154 (by decide) rfl ?_
          refine fw_goto (pc := 157) (tgt := 43) d_M_looks_157 rfl ?_
          obtain rfl := Option.some.inj h
          exact fw_sub [1, 2, 3, 0] rfl (hl _ rfl)
        clear h
        exact fw_sub [1, 2, 3, 4, 0] rfl (fw_we (e := e50x) (fun (s : Int32 × fw_M) => fw_R "FewTypesModel" prog_11_method_29_code 7 none fw_Mo 4 none r 50 [(0, .ref 0), (1, .int a1), (2, .int v6), (3, .int x3_43), (4, .int s.1)] [] s.2) (by
          intro s x h hl hr
          obtain ⟨x4_50, μ50⟩ := s
          rw [f_M_looks_L50] at h
          show fw_R "FewTypesModel" prog_11_method_29_code 7 none fw_Mo 4 none r 50 [(0, .ref 0), (1, .int a1), (2, .int v6), (3, .int x3_43), (4, .int x4_50)] [] μ50
          refine fw_iload (pc := 50) d_M_looks_50 4 rfl ?_
          refine fw_iload_n (pc := 52) d_M_looks_52 2 rfl rfl ?_
          refine fw_icmp_ge (pc := 53) (tgt := 154) d_M_looks_53 rfl (fun hc => ?_) (fun hc => ?_)
          · have h := fw_it hc h
            obtain rfl := Option.some.inj h
            have he := hr _ rfl
            subst he
            exact fw_sub [0, 1, 2, 3] rfl hE50
          · have h := fw_if hc h
            refine fw_iload_n (pc := 56) d_M_looks_56 1 rfl rfl ?_
            refine fw_iload_n (pc := 57) d_M_looks_57 3 rfl rfl ?_
            refine fw_ishr (pc := 58) d_M_looks_58 ?_
            refine fw_iconst (pc := 59) d_M_looks_59 fw_ic1 ?_
            refine fw_iand (pc := 60) d_M_looks_60 ?_
            obtain ⟨j61, w61, h⟩ := fw_be h
            have hJ61 : fw_R "FewTypesModel" prog_11_method_29_code 7 none fw_Mo 4 none r 87 [(0, .ref 0), (1, .int a1), (2, .int v6), (3, .int x3_43), (4, .int x4_50)] [.int j61] μ50 := by
              refine fw_istore (pc := 87) (lv1 := [(5, .int j61), (0, .ref 0), (1, .int a1), (2, .int v6), (3, .int x3_43), (4, .int x4_50)]) d_M_looks_87 (by decide) rfl ?_
              refine fw_iconst (pc := 89) d_M_looks_89 fw_ic0 ?_
              refine fw_istore (pc := 90) (lv1 := [(6, .int 0), (5, .int j61), (0, .ref 0), (1, .int a1), (2, .int v6), (3, .int x3_43), (4, .int x4_50)]) d_M_looks_90 (by decide) rfl ?_
              obtain ⟨e92x, w92, h⟩ := fw_be h
              have hE92 : fw_R "FewTypesModel" prog_11_method_29_code 7 none fw_Mo 4 none r 133 [(0, .ref 0), (1, .int a1), (2, .int v6), (3, .int x3_43), (4, .int x4_50), (5, .int e92x)] [] μ50 := by
                refine fw_aload_n (pc := 133) d_M_looks_133 0 rfl rfl ?_
                refine fw_getR (pc := 134) d_M_looks_134 fl_M_43 fw_Mo0 rfl ?_
                refine fw_sipush (pc := 137) d_M_looks_137 fw_sp1024 ?_
                refine fw_iload_n (pc := 140) d_M_looks_140 3 rfl rfl ?_
                refine fw_imul (pc := 141) d_M_looks_141 ?_
                refine fw_iload (pc := 142) d_M_looks_142 4 rfl ?_
                refine fw_iadd (pc := 144) d_M_looks_144 ?_
                refine fw_iload (pc := 145) d_M_looks_145 5 rfl ?_
                obtain ⟨μ147, e147, h⟩ := fw_be h
                refine fw_zast (pc := 147) d_M_looks_147 fw_Mo12 e147 ?_
                obtain ⟨v148, e148, h⟩ := fw_ne h
                refine fw_iinc2 (pc := 148) (j := 4) (lv1 := [(4, .int v148), (0, .ref 0), (1, .int a1), (2, .int v6), (3, .int x3_43), (5, .int e92x)]) d_M_looks_148 rfl fw_ic1 e148 (by decide) rfl ?_
                refine fw_goto (pc := 151) (tgt := 50) d_M_looks_151 rfl ?_
                obtain rfl := Option.some.inj h
                exact fw_sub [1, 2, 3, 4, 0] rfl (hl _ rfl)
              clear h
              exact fw_sub [2, 3, 4, 5, 6, 1, 0] rfl (fw_we (e := e92x) (fun (s : Int32 × Int32) => fw_R "FewTypesModel" prog_11_method_29_code 7 none fw_Mo 4 none r 92 [(0, .ref 0), (1, .int a1), (2, .int v6), (3, .int x3_43), (4, .int x4_50), (5, .int s.1), (6, .int s.2)] [] μ50) (by
                intro s x h hl hr
                obtain ⟨x5_92, x6_92⟩ := s
                rw [f_M_looks_L92] at h
                show fw_R "FewTypesModel" prog_11_method_29_code 7 none fw_Mo 4 none r 92 [(0, .ref 0), (1, .int a1), (2, .int v6), (3, .int x3_43), (4, .int x4_50), (5, .int x5_92), (6, .int x6_92)] [] μ50
                refine fw_iload (pc := 92) d_M_looks_92 6 rfl ?_
                refine fw_aload_n (pc := 94) d_M_looks_94 0 rfl rfl ?_
                refine fw_getI (pc := 95) d_M_looks_95 fl_M_108 fw_Mo0 rfl ?_
                refine fw_icmp_ge (pc := 98) (tgt := 133) d_M_looks_98 rfl (fun hc => ?_) (fun hc => ?_)
                · have h := fw_it hc h
                  obtain rfl := Option.some.inj h
                  have he := hr _ rfl
                  subst he
                  exact fw_sub [0, 1, 2, 3, 4, 5] rfl hE92
                · have h := fw_if hc h
                  refine fw_iload_n (pc := 101) d_M_looks_101 1 rfl rfl ?_
                  refine fw_iload_n (pc := 102) d_M_looks_102 3 rfl rfl ?_
                  refine fw_ishr (pc := 103) d_M_looks_103 ?_
                  refine fw_iconst (pc := 104) d_M_looks_104 fw_ic1 ?_
                  refine fw_iand (pc := 105) d_M_looks_105 ?_
                  refine fw_iconst (pc := 106) d_M_looks_106 fw_ic1 ?_
                  refine fw_icmp_ne (pc := 107) (tgt := 133) d_M_looks_107 rfl (fun hc => ?_) (fun hc => ?_)
                  · have h := fw_it hc h
                    refine fw_iload (pc := 110) d_M_looks_110 5 rfl ?_
                    refine fw_if_ne (pc := 112) (tgt := 133) d_M_looks_112 rfl (fun hc => ?_) (fun hc => ?_)
                    · have h := fw_it hc h
                      refine fw_aload_n (pc := 115) d_M_looks_115 0 rfl rfl ?_
                      refine fw_iload (pc := 116) d_M_looks_116 6 rfl ?_
                      refine fw_iload_n (pc := 118) d_M_looks_118 3 rfl rfl ?_
                      refine fw_iload_n (pc := 119) d_M_looks_119 1 rfl rfl ?_
                      refine fw_iload (pc := 120) d_M_looks_120 4 rfl ?_
                      obtain ⟨p122, e122, h⟩ := fw_be h
                      refine fw_callVi (pc := 122) d_M_looks_122 mv_M_190 fw_Mo0 (c_M_mayBy e122) (by decide) rfl rfl (Nat.le_of_ble_eq_true rfl) ?_
                      refine fw_istore (pc := 125) (lv1 := [(5, .int p122), (0, .ref 0), (1, .int a1), (2, .int v6), (3, .int x3_43), (4, .int x4_50), (6, .int x6_92)]) d_M_looks_125 (by decide) rfl ?_
                      obtain ⟨v127, e127, h⟩ := fw_ne h
                      refine fw_iinc2 (pc := 127) (j := 6) (lv1 := [(6, .int v127), (5, .int p122), (0, .ref 0), (1, .int a1), (2, .int v6), (3, .int x3_43), (4, .int x4_50)]) d_M_looks_127 rfl fw_ic1 e127 (by decide) rfl ?_
                      refine fw_goto (pc := 130) (tgt := 92) d_M_looks_130 rfl ?_
                      obtain rfl := Option.some.inj h
                      exact fw_sub [2, 3, 4, 5, 6, 1, 0] rfl (hl _ rfl)
                    · have h := fw_if hc h
                      obtain rfl := Option.some.inj h
                      have he := hr _ rfl
                      subst he
                      exact fw_sub [0, 1, 2, 3, 4, 5] rfl hE92
                  · have h := fw_if hc h
                    obtain rfl := Option.some.inj h
                    have he := hr _ rfl
                    subst he
                    exact fw_sub [0, 1, 2, 3, 4, 5] rfl hE92
                ) _ _ w92)
            clear h
            have h := w61
            clear w61
            refine fw_if_ne (pc := 61) (tgt := 86) d_M_looks_61 rfl (fun hc => ?_) (fun hc => ?_)
            · have h := fw_it hc h
              refine fw_aload_n (pc := 64) d_M_looks_64 0 rfl rfl ?_
              refine fw_getR (pc := 65) d_M_looks_65 fl_M_43 fw_Mo0 rfl ?_
              refine fw_sipush (pc := 68) d_M_looks_68 fw_sp1024 ?_
              refine fw_iload_n (pc := 71) d_M_looks_71 3 rfl rfl ?_
              refine fw_iconst (pc := 72) d_M_looks_72 fw_ic1 ?_
              refine fw_iadd (pc := 73) d_M_looks_73 ?_
              refine fw_imul (pc := 74) d_M_looks_74 ?_
              refine fw_iload (pc := 75) d_M_looks_75 4 rfl ?_
              refine fw_iadd (pc := 77) d_M_looks_77 ?_
              obtain ⟨v78, e78, h⟩ := fw_be h
              refine fw_zald (pc := 78) d_M_looks_78 fw_Mo12 e78 ?_
              refine fw_if_eq (pc := 79) (tgt := 86) d_M_looks_79 rfl (fun hc => ?_) (fun hc => ?_)
              · have h := fw_it hc h
                refine fw_iconst (pc := 86) d_M_looks_86 fw_ic0 ?_
                obtain rfl := Option.some.inj h
                exact fw_sub [0, 1, 2, 3, 4] rfl hJ61
              · have h := fw_if hc h
                refine fw_iconst (pc := 82) d_M_looks_82 fw_ic1 ?_
                refine fw_goto (pc := 83) (tgt := 87) d_M_looks_83 rfl ?_
                obtain rfl := Option.some.inj h
                exact fw_sub [0, 1, 2, 3, 4] rfl hJ61
            · have h := fw_if hc h
              refine fw_iconst (pc := 86) d_M_looks_86 fw_ic0 ?_
              obtain rfl := Option.some.inj h
              exact fw_sub [0, 1, 2, 3, 4] rfl hJ61
          ) _ _ w50)
      ) _ _ w43)
  clear h
  exact fw_sub [2, 3, 1, 0] rfl (fw_we (e := e9x) (fun (s : Int32 × fw_M) => fw_R "FewTypesModel" prog_11_method_29_code 7 none fw_Mo 4 none r 9 [(0, .ref 0), (1, .int a1), (2, .int v6), (3, .int s.1)] [] s.2) (by
    intro s x h hl hr
    obtain ⟨x3_9, μ9⟩ := s
    rw [f_M_looks_L9] at h
    show fw_R "FewTypesModel" prog_11_method_29_code 7 none fw_Mo 4 none r 9 [(0, .ref 0), (1, .int a1), (2, .int v6), (3, .int x3_9)] [] μ9
    refine fw_iload_n (pc := 9) d_M_looks_9 3 rfl rfl ?_
    refine fw_iload_n (pc := 10) d_M_looks_10 2 rfl rfl ?_
    refine fw_icmp_ge (pc := 11) (tgt := 36) d_M_looks_11 rfl (fun hc => ?_) (fun hc => ?_)
    · have h := fw_it hc h
      obtain rfl := Option.some.inj h
      have he := hr _ rfl
      subst he
      exact fw_sub [0, 1, 2] rfl hE9
    · have h := fw_if hc h
      refine fw_aload_n (pc := 14) d_M_looks_14 0 rfl rfl ?_
      refine fw_getR (pc := 15) d_M_looks_15 fl_M_43 fw_Mo0 rfl ?_
      refine fw_sipush (pc := 18) d_M_looks_18 fw_sp1024 ?_
      refine fw_aload_n (pc := 21) d_M_looks_21 0 rfl rfl ?_
      refine fw_getI (pc := 22) d_M_looks_22 fl_M_158 fw_Mo0 rfl ?_
      refine fw_imul (pc := 25) d_M_looks_25 ?_
      refine fw_iload_n (pc := 26) d_M_looks_26 3 rfl rfl ?_
      refine fw_iadd (pc := 27) d_M_looks_27 ?_
      refine fw_iconst (pc := 28) d_M_looks_28 fw_ic1 ?_
      obtain ⟨μ29, e29, h⟩ := fw_be h
      refine fw_zast (pc := 29) d_M_looks_29 fw_Mo12 e29 ?_
      obtain ⟨v30, e30, h⟩ := fw_ne h
      refine fw_iinc2 (pc := 30) (j := 3) (lv1 := [(3, .int v30), (0, .ref 0), (1, .int a1), (2, .int v6)]) d_M_looks_30 rfl fw_ic1 e30 (by decide) rfl ?_
      refine fw_goto (pc := 33) (tgt := 9) d_M_looks_33 rfl ?_
      obtain rfl := Option.some.inj h
      exact fw_sub [1, 2, 3, 0] rfl (hl _ rfl)
    ) _ _ w9)
