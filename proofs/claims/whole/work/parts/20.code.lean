abbrev Y_M_line : fw_Y := (⟨"FewTypesModel", "line", "()I"⟩, prog_11_method_18_code, 5, (some .int))
abbrev Y_M_clause : fw_Y := (⟨"FewTypesModel", "clause", "(I)V"⟩, prog_11_method_19_code, 3, none)
abbrev Y_M_types : fw_Y := (⟨"FewTypesModel", "types", "()I"⟩, prog_11_method_20_code, 4, (some .int))
abbrev Y_M_leftOf : fw_Y := (⟨"FewTypesModel", "leftOf", "(I)I"⟩, prog_11_method_22_code, 4, (some .int))
abbrev Y_M_isBeside : fw_Y := (⟨"FewTypesModel", "isBeside", "(I)Z"⟩, prog_11_method_21_code, 2, (some .boolean))
abbrev Y_M_place : fw_Y := (⟨"FewTypesModel", "place", "(II)I"⟩, prog_11_method_23_code, 3, (some .int))
abbrev Y_M_count : fw_Y := (⟨"FewTypesModel", "count", "(I)I"⟩, prog_11_method_24_code, 2, (some .int))
abbrev Y_M_isSet : fw_Y := (⟨"FewTypesModel", "isSet", "(I)Z"⟩, prog_11_method_31_code, 2, (some .boolean))
abbrev Y_M_prints : fw_Y := (⟨"FewTypesModel", "prints", "(II)Z"⟩, prog_11_method_25_code, 3, (some .boolean))
abbrev Y_M_isClose : fw_Y := (⟨"FewTypesModel", "isClose", "(II)Z"⟩, prog_11_method_27_code, 3, (some .boolean))
theorem fl_M_40 : fw_FL "FewTypesModel" 40 9 18 := ⟨_, _, _, rfl, fw_i9, by decide, fw_m 871 (by decide +kernel) (by decide +kernel)⟩
theorem mv_M_151 : fw_MV "FewTypesModel" 151 Y_M_byteOf 9 3 := ⟨fw_m 1024 (by decide +kernel) (by decide +kernel), fw_m 1026 (by decide +kernel) (by decide +kernel), fw_m 35 (by decide +kernel) (by decide +kernel), fw_m 70 (by decide +kernel) (by decide +kernel), fw_m 1027 (by decide +kernel) (by decide +kernel), ⟨by decide +kernel, by decide +kernel, by decide +kernel⟩, by decide, _, _, rfl⟩
theorem mv_M_155 : fw_MV "FewTypesModel" 155 Y_M_has 9 1 := ⟨fw_m 1032 (by decide +kernel) (by decide +kernel), fw_m 1034 (by decide +kernel) (by decide +kernel), fw_m 37 (by decide +kernel) (by decide +kernel), fw_m 70 (by decide +kernel) (by decide +kernel), fw_m 1035 (by decide +kernel) (by decide +kernel), ⟨by decide +kernel, by decide +kernel, by decide +kernel⟩, by decide, _, _, rfl⟩
theorem fp_M_158 : fw_FP "FewTypesModel" 158 9 6 .int := ⟨_, _, _, fw_t9, rfl, fw_i9, by decide, fw_m 859 (by decide +kernel) (by decide +kernel), fw_k9, fw_n9, rfl, by decide +kernel⟩
theorem fp_M_161 : fw_FP "FewTypesModel" 161 9 8 .int := ⟨_, _, _, fw_t9, rfl, fw_i9, by decide, fw_m 861 (by decide +kernel) (by decide +kernel), fw_k9, fw_n9, rfl, by decide +kernel⟩
theorem fl_M_25 : fw_FL "FewTypesModel" 25 9 7 := ⟨_, _, _, rfl, fw_i9, by decide, fw_m 860 (by decide +kernel) (by decide +kernel)⟩
theorem mv_M_164 : fw_MV "FewTypesModel" 164 Y_M_clause 9 1 := ⟨fw_m 1040 (by decide +kernel) (by decide +kernel), fw_m 1042 (by decide +kernel) (by decide +kernel), fw_m 38 (by decide +kernel) (by decide +kernel), fw_m 70 (by decide +kernel) (by decide +kernel), fw_m 1043 (by decide +kernel) (by decide +kernel), ⟨by decide +kernel, by decide +kernel, by decide +kernel⟩, by decide, _, _, rfl⟩
theorem fl_M_158 : fw_FL "FewTypesModel" 158 9 6 := ⟨_, _, _, rfl, fw_i9, by decide, fw_m 859 (by decide +kernel) (by decide +kernel)⟩
theorem mv_M_167 : fw_MV "FewTypesModel" 167 Y_M_leftOf 9 1 := ⟨fw_m 1048 (by decide +kernel) (by decide +kernel), fw_m 1050 (by decide +kernel) (by decide +kernel), fw_m 39 (by decide +kernel) (by decide +kernel), fw_m 70 (by decide +kernel) (by decide +kernel), fw_m 1051 (by decide +kernel) (by decide +kernel), ⟨by decide +kernel, by decide +kernel, by decide +kernel⟩, by decide, _, _, rfl⟩
theorem fl_M_161 : fw_FL "FewTypesModel" 161 9 8 := ⟨_, _, _, rfl, fw_i9, by decide, fw_m 861 (by decide +kernel) (by decide +kernel)⟩
theorem mv_M_171 : fw_MV "FewTypesModel" 171 Y_M_isBeside 9 1 := ⟨fw_m 1052 (by decide +kernel) (by decide +kernel), fw_m 1054 (by decide +kernel) (by decide +kernel), fw_m 40 (by decide +kernel) (by decide +kernel), fw_m 70 (by decide +kernel) (by decide +kernel), fw_m 1055 (by decide +kernel) (by decide +kernel), ⟨by decide +kernel, by decide +kernel, by decide +kernel⟩, by decide, _, _, rfl⟩
theorem fl_M_174 : fw_FL "FewTypesModel" 174 9 9 := ⟨_, _, _, rfl, fw_i9, by decide, fw_m 862 (by decide +kernel) (by decide +kernel)⟩
theorem fl_M_177 : fw_FL "FewTypesModel" 177 9 11 := ⟨_, _, _, rfl, fw_i9, by decide, fw_m 864 (by decide +kernel) (by decide +kernel)⟩
theorem d_M_line_0 : decode prog_11_method_18_code 0 = .ok (.aload_n 0, 1) := by decide +kernel
theorem d_M_line_1 : decode prog_11_method_18_code 1 = .ok (.iconst 0, 1) := by decide +kernel
theorem d_M_line_2 : decode prog_11_method_18_code 2 = .ok (.putfield 140, 3) := by decide +kernel
theorem d_M_line_5 : decode prog_11_method_18_code 5 = .ok (.aload_n 0, 1) := by decide +kernel
theorem d_M_line_6 : decode prog_11_method_18_code 6 = .ok (.iconst 0, 1) := by decide +kernel
theorem d_M_line_7 : decode prog_11_method_18_code 7 = .ok (.putfield 143, 3) := by decide +kernel
theorem d_M_line_10 : decode prog_11_method_18_code 10 = .ok (.iconst 0, 1) := by decide +kernel
theorem d_M_line_11 : decode prog_11_method_18_code 11 = .ok (.istore_n 1, 1) := by decide +kernel
theorem d_M_line_12 : decode prog_11_method_18_code 12 = .ok (.iconst 0, 1) := by decide +kernel
theorem d_M_line_13 : decode prog_11_method_18_code 13 = .ok (.istore_n 2, 1) := by decide +kernel
theorem d_M_line_14 : decode prog_11_method_18_code 14 = .ok (.iconst 1, 1) := by decide +kernel
theorem d_M_line_15 : decode prog_11_method_18_code 15 = .ok (.istore_n 3, 1) := by decide +kernel
theorem d_M_line_16 : decode prog_11_method_18_code 16 = .ok (.iload_n 3, 1) := by decide +kernel
theorem d_M_line_17 : decode prog_11_method_18_code 17 = .ok (.ifCond .eq 94, 3) := by decide +kernel
theorem d_M_line_20 : decode prog_11_method_18_code 20 = .ok (.aload_n 0, 1) := by decide +kernel
theorem d_M_line_21 : decode prog_11_method_18_code 21 = .ok (.getfield 40, 3) := by decide +kernel
theorem d_M_line_24 : decode prog_11_method_18_code 24 = .ok (.iload_n 1, 1) := by decide +kernel
theorem d_M_line_25 : decode prog_11_method_18_code 25 = .ok (.aload_n 0, 1) := by decide +kernel
theorem d_M_line_26 : decode prog_11_method_18_code 26 = .ok (.bipush 97, 2) := by decide +kernel
theorem d_M_line_28 : decode prog_11_method_18_code 28 = .ok (.bipush 108, 2) := by decide +kernel
theorem d_M_line_30 : decode prog_11_method_18_code 30 = .ok (.iconst (-1), 1) := by decide +kernel
theorem d_M_line_31 : decode prog_11_method_18_code 31 = .ok (.invokevirtual 151, 3) := by decide +kernel
theorem d_M_line_34 : decode prog_11_method_18_code 34 = .ok (.iastore, 1) := by decide +kernel
theorem d_M_line_35 : decode prog_11_method_18_code 35 = .ok (.iinc 1 1, 3) := by decide +kernel
theorem d_M_line_38 : decode prog_11_method_18_code 38 = .ok (.iload_n 1, 1) := by decide +kernel
theorem d_M_line_39 : decode prog_11_method_18_code 39 = .ok (.bipush 10, 2) := by decide +kernel
theorem d_M_line_41 : decode prog_11_method_18_code 41 = .ok (.if_icmp .ge 16, 3) := by decide +kernel
theorem d_M_line_44 : decode prog_11_method_18_code 44 = .ok (.aload_n 0, 1) := by decide +kernel
theorem d_M_line_45 : decode prog_11_method_18_code 45 = .ok (.bipush 95, 2) := by decide +kernel
theorem d_M_line_47 : decode prog_11_method_18_code 47 = .ok (.invokevirtual 155, 3) := by decide +kernel
theorem d_M_line_50 : decode prog_11_method_18_code 50 = .ok (.ifCond .eq 7, 3) := by decide +kernel
theorem d_M_line_53 : decode prog_11_method_18_code 53 = .ok (.iconst 1, 1) := by decide +kernel
theorem d_M_line_54 : decode prog_11_method_18_code 54 = .ok (.goto 4, 3) := by decide +kernel
theorem d_M_line_57 : decode prog_11_method_18_code 57 = .ok (.iconst 0, 1) := by decide +kernel
theorem d_M_line_58 : decode prog_11_method_18_code 58 = .ok (.istore 4, 2) := by decide +kernel
theorem d_M_line_60 : decode prog_11_method_18_code 60 = .ok (.iload_n 2, 1) := by decide +kernel
theorem d_M_line_61 : decode prog_11_method_18_code 61 = .ok (.iload 4, 2) := by decide +kernel
theorem d_M_line_63 : decode prog_11_method_18_code 63 = .ok (.ifCond .eq 11, 3) := by decide +kernel
theorem d_M_line_66 : decode prog_11_method_18_code 66 = .ok (.iconst 1, 1) := by decide +kernel
theorem d_M_line_67 : decode prog_11_method_18_code 67 = .ok (.iload_n 1, 1) := by decide +kernel
theorem d_M_line_68 : decode prog_11_method_18_code 68 = .ok (.iconst 1, 1) := by decide +kernel
theorem d_M_line_69 : decode prog_11_method_18_code 69 = .ok (.isub, 1) := by decide +kernel
theorem d_M_line_70 : decode prog_11_method_18_code 70 = .ok (.ishl, 1) := by decide +kernel
theorem d_M_line_71 : decode prog_11_method_18_code 71 = .ok (.goto 4, 3) := by decide +kernel
theorem d_M_line_74 : decode prog_11_method_18_code 74 = .ok (.iconst 0, 1) := by decide +kernel
theorem d_M_line_75 : decode prog_11_method_18_code 75 = .ok (.ior, 1) := by decide +kernel
theorem d_M_line_76 : decode prog_11_method_18_code 76 = .ok (.istore_n 2, 1) := by decide +kernel
theorem d_M_line_77 : decode prog_11_method_18_code 77 = .ok (.aload_n 0, 1) := by decide +kernel
theorem d_M_line_78 : decode prog_11_method_18_code 78 = .ok (.getfield 143, 3) := by decide +kernel
theorem d_M_line_81 : decode prog_11_method_18_code 81 = .ok (.ifCond .ne 25, 3) := by decide +kernel
theorem d_M_line_84 : decode prog_11_method_18_code 84 = .ok (.iload_n 1, 1) := by decide +kernel
theorem d_M_line_85 : decode prog_11_method_18_code 85 = .ok (.bipush 10, 2) := by decide +kernel
theorem d_M_line_87 : decode prog_11_method_18_code 87 = .ok (.if_icmp .ge 19, 3) := by decide +kernel
theorem d_M_line_90 : decode prog_11_method_18_code 90 = .ok (.iload 4, 2) := by decide +kernel
theorem d_M_line_92 : decode prog_11_method_18_code 92 = .ok (.ifCond .ne 10, 3) := by decide +kernel
theorem d_M_line_95 : decode prog_11_method_18_code 95 = .ok (.aload_n 0, 1) := by decide +kernel
theorem d_M_line_96 : decode prog_11_method_18_code 96 = .ok (.invokevirtual 147, 3) := by decide +kernel
theorem d_M_line_99 : decode prog_11_method_18_code 99 = .ok (.ifCond .eq 7, 3) := by decide +kernel
theorem d_M_line_102 : decode prog_11_method_18_code 102 = .ok (.iconst 1, 1) := by decide +kernel
theorem d_M_line_103 : decode prog_11_method_18_code 103 = .ok (.goto 4, 3) := by decide +kernel
theorem d_M_line_106 : decode prog_11_method_18_code 106 = .ok (.iconst 0, 1) := by decide +kernel
theorem d_M_line_107 : decode prog_11_method_18_code 107 = .ok (.istore_n 3, 1) := by decide +kernel
theorem d_M_line_108 : decode prog_11_method_18_code 108 = .ok (.goto (-92), 3) := by decide +kernel
theorem d_M_line_111 : decode prog_11_method_18_code 111 = .ok (.aload_n 0, 1) := by decide +kernel
theorem d_M_line_112 : decode prog_11_method_18_code 112 = .ok (.aload_n 0, 1) := by decide +kernel
theorem d_M_line_113 : decode prog_11_method_18_code 113 = .ok (.getfield 143, 3) := by decide +kernel
theorem d_M_line_116 : decode prog_11_method_18_code 116 = .ok (.ifCond .ne 10, 3) := by decide +kernel
theorem d_M_line_119 : decode prog_11_method_18_code 119 = .ok (.aload_n 0, 1) := by decide +kernel
theorem d_M_line_120 : decode prog_11_method_18_code 120 = .ok (.invokevirtual 147, 3) := by decide +kernel
theorem d_M_line_123 : decode prog_11_method_18_code 123 = .ok (.ifCond .eq 7, 3) := by decide +kernel
theorem d_M_line_126 : decode prog_11_method_18_code 126 = .ok (.iconst 1, 1) := by decide +kernel
theorem d_M_line_127 : decode prog_11_method_18_code 127 = .ok (.goto 4, 3) := by decide +kernel
theorem d_M_line_130 : decode prog_11_method_18_code 130 = .ok (.iconst 0, 1) := by decide +kernel
theorem d_M_line_131 : decode prog_11_method_18_code 131 = .ok (.putfield 143, 3) := by decide +kernel
theorem d_M_line_134 : decode prog_11_method_18_code 134 = .ok (.aload_n 0, 1) := by decide +kernel
theorem d_M_line_135 : decode prog_11_method_18_code 135 = .ok (.iconst 0, 1) := by decide +kernel
theorem d_M_line_136 : decode prog_11_method_18_code 136 = .ok (.putfield 137, 3) := by decide +kernel
theorem d_M_line_139 : decode prog_11_method_18_code 139 = .ok (.aload_n 0, 1) := by decide +kernel
theorem d_M_line_140 : decode prog_11_method_18_code 140 = .ok (.getfield 143, 3) := by decide +kernel
theorem d_M_line_143 : decode prog_11_method_18_code 143 = .ok (.ifCond .eq 11, 3) := by decide +kernel
theorem d_M_line_146 : decode prog_11_method_18_code 146 = .ok (.bipush (-20), 2) := by decide +kernel
theorem d_M_line_148 : decode prog_11_method_18_code 148 = .ok (.aload_n 0, 1) := by decide +kernel
theorem d_M_line_149 : decode prog_11_method_18_code 149 = .ok (.getfield 140, 3) := by decide +kernel
theorem d_M_line_152 : decode prog_11_method_18_code 152 = .ok (.isub, 1) := by decide +kernel
theorem d_M_line_153 : decode prog_11_method_18_code 153 = .ok (.ireturn, 1) := by decide +kernel
theorem d_M_line_154 : decode prog_11_method_18_code 154 = .ok (.aload_n 0, 1) := by decide +kernel
theorem d_M_line_155 : decode prog_11_method_18_code 155 = .ok (.iload_n 1, 1) := by decide +kernel
theorem d_M_line_156 : decode prog_11_method_18_code 156 = .ok (.putfield 158, 3) := by decide +kernel
theorem d_M_line_159 : decode prog_11_method_18_code 159 = .ok (.aload_n 0, 1) := by decide +kernel
theorem d_M_line_160 : decode prog_11_method_18_code 160 = .ok (.iload_n 2, 1) := by decide +kernel
theorem d_M_line_161 : decode prog_11_method_18_code 161 = .ok (.putfield 161, 3) := by decide +kernel
theorem d_M_line_164 : decode prog_11_method_18_code 164 = .ok (.iconst 0, 1) := by decide +kernel
theorem d_M_line_165 : decode prog_11_method_18_code 165 = .ok (.istore 4, 2) := by decide +kernel
theorem d_M_line_167 : decode prog_11_method_18_code 167 = .ok (.iload 4, 2) := by decide +kernel
theorem d_M_line_169 : decode prog_11_method_18_code 169 = .ok (.iload_n 1, 1) := by decide +kernel
theorem d_M_line_170 : decode prog_11_method_18_code 170 = .ok (.if_icmp .ge 23, 3) := by decide +kernel
theorem d_M_line_173 : decode prog_11_method_18_code 173 = .ok (.aload_n 0, 1) := by decide +kernel
theorem d_M_line_174 : decode prog_11_method_18_code 174 = .ok (.getfield 25, 3) := by decide +kernel
theorem d_M_line_177 : decode prog_11_method_18_code 177 = .ok (.iload 4, 2) := by decide +kernel
theorem d_M_line_179 : decode prog_11_method_18_code 179 = .ok (.aload_n 0, 1) := by decide +kernel
theorem d_M_line_180 : decode prog_11_method_18_code 180 = .ok (.getfield 40, 3) := by decide +kernel
theorem d_M_line_183 : decode prog_11_method_18_code 183 = .ok (.iload 4, 2) := by decide +kernel
theorem d_M_line_185 : decode prog_11_method_18_code 185 = .ok (.iaload, 1) := by decide +kernel
theorem d_M_line_186 : decode prog_11_method_18_code 186 = .ok (.iastore, 1) := by decide +kernel
theorem d_M_line_187 : decode prog_11_method_18_code 187 = .ok (.iinc 4 1, 3) := by decide +kernel
theorem d_M_line_190 : decode prog_11_method_18_code 190 = .ok (.goto (-23), 3) := by decide +kernel
theorem d_M_line_193 : decode prog_11_method_18_code 193 = .ok (.iload_n 1, 1) := by decide +kernel
theorem d_M_line_194 : decode prog_11_method_18_code 194 = .ok (.ireturn, 1) := by decide +kernel
theorem d_M_clause_0 : decode prog_11_method_19_code 0 = .ok (.aload_n 0, 1) := by decide +kernel
theorem d_M_clause_1 : decode prog_11_method_19_code 1 = .ok (.bipush 116, 2) := by decide +kernel
theorem d_M_clause_3 : decode prog_11_method_19_code 3 = .ok (.invokevirtual 155, 3) := by decide +kernel
theorem d_M_clause_6 : decode prog_11_method_19_code 6 = .ok (.ifCond .eq 7, 3) := by decide +kernel
theorem d_M_clause_9 : decode prog_11_method_19_code 9 = .ok (.iconst 1, 1) := by decide +kernel
theorem d_M_clause_10 : decode prog_11_method_19_code 10 = .ok (.goto 30, 3) := by decide +kernel
theorem d_M_clause_13 : decode prog_11_method_19_code 13 = .ok (.aload_n 0, 1) := by decide +kernel
theorem d_M_clause_14 : decode prog_11_method_19_code 14 = .ok (.bipush 110, 2) := by decide +kernel
theorem d_M_clause_16 : decode prog_11_method_19_code 16 = .ok (.invokevirtual 155, 3) := by decide +kernel
theorem d_M_clause_19 : decode prog_11_method_19_code 19 = .ok (.ifCond .eq 7, 3) := by decide +kernel
theorem d_M_clause_22 : decode prog_11_method_19_code 22 = .ok (.iconst 2, 1) := by decide +kernel
theorem d_M_clause_23 : decode prog_11_method_19_code 23 = .ok (.goto 17, 3) := by decide +kernel
theorem d_M_clause_26 : decode prog_11_method_19_code 26 = .ok (.aload_n 0, 1) := by decide +kernel
theorem d_M_clause_27 : decode prog_11_method_19_code 27 = .ok (.bipush 109, 2) := by decide +kernel
theorem d_M_clause_29 : decode prog_11_method_19_code 29 = .ok (.invokevirtual 155, 3) := by decide +kernel
theorem d_M_clause_32 : decode prog_11_method_19_code 32 = .ok (.ifCond .eq 7, 3) := by decide +kernel
theorem d_M_clause_35 : decode prog_11_method_19_code 35 = .ok (.iconst 3, 1) := by decide +kernel
theorem d_M_clause_36 : decode prog_11_method_19_code 36 = .ok (.goto 4, 3) := by decide +kernel
theorem d_M_clause_39 : decode prog_11_method_19_code 39 = .ok (.iconst 0, 1) := by decide +kernel
theorem d_M_clause_40 : decode prog_11_method_19_code 40 = .ok (.istore_n 2, 1) := by decide +kernel
theorem d_M_clause_41 : decode prog_11_method_19_code 41 = .ok (.aload_n 0, 1) := by decide +kernel
theorem d_M_clause_42 : decode prog_11_method_19_code 42 = .ok (.getfield 40, 3) := by decide +kernel
theorem d_M_clause_45 : decode prog_11_method_19_code 45 = .ok (.iload_n 1, 1) := by decide +kernel
theorem d_M_clause_46 : decode prog_11_method_19_code 46 = .ok (.iload_n 2, 1) := by decide +kernel
theorem d_M_clause_47 : decode prog_11_method_19_code 47 = .ok (.iastore, 1) := by decide +kernel
theorem d_M_clause_48 : decode prog_11_method_19_code 48 = .ok (.aload_n 0, 1) := by decide +kernel
theorem d_M_clause_49 : decode prog_11_method_19_code 49 = .ok (.getfield 40, 3) := by decide +kernel
theorem d_M_clause_52 : decode prog_11_method_19_code 52 = .ok (.iload_n 1, 1) := by decide +kernel
theorem d_M_clause_53 : decode prog_11_method_19_code 53 = .ok (.iconst 1, 1) := by decide +kernel
theorem d_M_clause_54 : decode prog_11_method_19_code 54 = .ok (.iadd, 1) := by decide +kernel
theorem d_M_clause_55 : decode prog_11_method_19_code 55 = .ok (.aload_n 0, 1) := by decide +kernel
theorem d_M_clause_56 : decode prog_11_method_19_code 56 = .ok (.bipush 97, 2) := by decide +kernel
theorem d_M_clause_58 : decode prog_11_method_19_code 58 = .ok (.bipush 108, 2) := by decide +kernel
theorem d_M_clause_60 : decode prog_11_method_19_code 60 = .ok (.iconst (-1), 1) := by decide +kernel
theorem d_M_clause_61 : decode prog_11_method_19_code 61 = .ok (.invokevirtual 151, 3) := by decide +kernel
theorem d_M_clause_64 : decode prog_11_method_19_code 64 = .ok (.iastore, 1) := by decide +kernel
theorem d_M_clause_65 : decode prog_11_method_19_code 65 = .ok (.aload_n 0, 1) := by decide +kernel
theorem d_M_clause_66 : decode prog_11_method_19_code 66 = .ok (.getfield 40, 3) := by decide +kernel
theorem d_M_clause_69 : decode prog_11_method_19_code 69 = .ok (.iload_n 1, 1) := by decide +kernel
theorem d_M_clause_70 : decode prog_11_method_19_code 70 = .ok (.iconst 2, 1) := by decide +kernel
theorem d_M_clause_71 : decode prog_11_method_19_code 71 = .ok (.iadd, 1) := by decide +kernel
theorem d_M_clause_72 : decode prog_11_method_19_code 72 = .ok (.iload_n 2, 1) := by decide +kernel
theorem d_M_clause_73 : decode prog_11_method_19_code 73 = .ok (.ifCond .ne 7, 3) := by decide +kernel
theorem d_M_clause_76 : decode prog_11_method_19_code 76 = .ok (.iconst 0, 1) := by decide +kernel
theorem d_M_clause_77 : decode prog_11_method_19_code 77 = .ok (.goto 47, 3) := by decide +kernel
theorem d_M_clause_80 : decode prog_11_method_19_code 80 = .ok (.iload_n 2, 1) := by decide +kernel
theorem d_M_clause_81 : decode prog_11_method_19_code 81 = .ok (.iconst 3, 1) := by decide +kernel
theorem d_M_clause_82 : decode prog_11_method_19_code 82 = .ok (.if_icmp .ne 17, 3) := by decide +kernel
theorem d_M_clause_85 : decode prog_11_method_19_code 85 = .ok (.iconst 1, 1) := by decide +kernel
theorem d_M_clause_86 : decode prog_11_method_19_code 86 = .ok (.aload_n 0, 1) := by decide +kernel
theorem d_M_clause_87 : decode prog_11_method_19_code 87 = .ok (.bipush 49, 2) := by decide +kernel
theorem d_M_clause_89 : decode prog_11_method_19_code 89 = .ok (.bipush 57, 2) := by decide +kernel
theorem d_M_clause_91 : decode prog_11_method_19_code 91 = .ok (.iconst (-1), 1) := by decide +kernel
theorem d_M_clause_92 : decode prog_11_method_19_code 92 = .ok (.invokevirtual 151, 3) := by decide +kernel
theorem d_M_clause_95 : decode prog_11_method_19_code 95 = .ok (.iadd, 1) := by decide +kernel
theorem d_M_clause_96 : decode prog_11_method_19_code 96 = .ok (.goto 28, 3) := by decide +kernel
theorem d_M_clause_99 : decode prog_11_method_19_code 99 = .ok (.aload_n 0, 1) := by decide +kernel
theorem d_M_clause_100 : decode prog_11_method_19_code 100 = .ok (.bipush 97, 2) := by decide +kernel
theorem d_M_clause_102 : decode prog_11_method_19_code 102 = .ok (.bipush 108, 2) := by decide +kernel
theorem d_M_clause_104 : decode prog_11_method_19_code 104 = .ok (.iload_n 2, 1) := by decide +kernel
theorem d_M_clause_105 : decode prog_11_method_19_code 105 = .ok (.iconst 1, 1) := by decide +kernel
theorem d_M_clause_106 : decode prog_11_method_19_code 106 = .ok (.if_icmp .ne 14, 3) := by decide +kernel
theorem d_M_clause_109 : decode prog_11_method_19_code 109 = .ok (.aload_n 0, 1) := by decide +kernel
theorem d_M_clause_110 : decode prog_11_method_19_code 110 = .ok (.getfield 40, 3) := by decide +kernel
theorem d_M_clause_113 : decode prog_11_method_19_code 113 = .ok (.iload_n 1, 1) := by decide +kernel
theorem d_M_clause_114 : decode prog_11_method_19_code 114 = .ok (.iconst 1, 1) := by decide +kernel
theorem d_M_clause_115 : decode prog_11_method_19_code 115 = .ok (.iadd, 1) := by decide +kernel
theorem d_M_clause_116 : decode prog_11_method_19_code 116 = .ok (.iaload, 1) := by decide +kernel
theorem d_M_clause_117 : decode prog_11_method_19_code 117 = .ok (.goto 4, 3) := by decide +kernel
theorem d_M_clause_120 : decode prog_11_method_19_code 120 = .ok (.iconst (-1), 1) := by decide +kernel
theorem d_M_clause_121 : decode prog_11_method_19_code 121 = .ok (.invokevirtual 151, 3) := by decide +kernel
theorem d_M_clause_124 : decode prog_11_method_19_code 124 = .ok (.iastore, 1) := by decide +kernel
theorem d_M_clause_125 : decode prog_11_method_19_code 125 = .ok (.return_, 1) := by decide +kernel
theorem d_M_types_0 : decode prog_11_method_20_code 0 = .ok (.aload_n 0, 1) := by decide +kernel
theorem d_M_types_1 : decode prog_11_method_20_code 1 = .ok (.iconst 0, 1) := by decide +kernel
theorem d_M_types_2 : decode prog_11_method_20_code 2 = .ok (.putfield 140, 3) := by decide +kernel
theorem d_M_types_5 : decode prog_11_method_20_code 5 = .ok (.aload_n 0, 1) := by decide +kernel
theorem d_M_types_6 : decode prog_11_method_20_code 6 = .ok (.iconst 0, 1) := by decide +kernel
theorem d_M_types_7 : decode prog_11_method_20_code 7 = .ok (.putfield 143, 3) := by decide +kernel
theorem d_M_types_10 : decode prog_11_method_20_code 10 = .ok (.iconst 0, 1) := by decide +kernel
theorem d_M_types_11 : decode prog_11_method_20_code 11 = .ok (.istore_n 1, 1) := by decide +kernel
theorem d_M_types_12 : decode prog_11_method_20_code 12 = .ok (.iconst 1, 1) := by decide +kernel
theorem d_M_types_13 : decode prog_11_method_20_code 13 = .ok (.istore_n 2, 1) := by decide +kernel
theorem d_M_types_14 : decode prog_11_method_20_code 14 = .ok (.iload_n 2, 1) := by decide +kernel
theorem d_M_types_15 : decode prog_11_method_20_code 15 = .ok (.ifCond .eq 37, 3) := by decide +kernel
theorem d_M_types_18 : decode prog_11_method_20_code 18 = .ok (.aload_n 0, 1) := by decide +kernel
theorem d_M_types_19 : decode prog_11_method_20_code 19 = .ok (.iconst 3, 1) := by decide +kernel
theorem d_M_types_20 : decode prog_11_method_20_code 20 = .ok (.iload_n 1, 1) := by decide +kernel
theorem d_M_types_21 : decode prog_11_method_20_code 21 = .ok (.imul, 1) := by decide +kernel
theorem d_M_types_22 : decode prog_11_method_20_code 22 = .ok (.invokevirtual 164, 3) := by decide +kernel
theorem d_M_types_25 : decode prog_11_method_20_code 25 = .ok (.iinc 1 1, 3) := by decide +kernel
theorem d_M_types_28 : decode prog_11_method_20_code 28 = .ok (.iload_n 1, 1) := by decide +kernel
theorem d_M_types_29 : decode prog_11_method_20_code 29 = .ok (.bipush 10, 2) := by decide +kernel
theorem d_M_types_31 : decode prog_11_method_20_code 31 = .ok (.if_icmp .ge 16, 3) := by decide +kernel
theorem d_M_types_34 : decode prog_11_method_20_code 34 = .ok (.aload_n 0, 1) := by decide +kernel
theorem d_M_types_35 : decode prog_11_method_20_code 35 = .ok (.bipush 44, 2) := by decide +kernel
theorem d_M_types_37 : decode prog_11_method_20_code 37 = .ok (.invokevirtual 155, 3) := by decide +kernel
theorem d_M_types_40 : decode prog_11_method_20_code 40 = .ok (.ifCond .eq 7, 3) := by decide +kernel
theorem d_M_types_43 : decode prog_11_method_20_code 43 = .ok (.iconst 1, 1) := by decide +kernel
theorem d_M_types_44 : decode prog_11_method_20_code 44 = .ok (.goto 4, 3) := by decide +kernel
theorem d_M_types_47 : decode prog_11_method_20_code 47 = .ok (.iconst 0, 1) := by decide +kernel
theorem d_M_types_48 : decode prog_11_method_20_code 48 = .ok (.istore_n 2, 1) := by decide +kernel
theorem d_M_types_49 : decode prog_11_method_20_code 49 = .ok (.goto (-35), 3) := by decide +kernel
theorem d_M_types_52 : decode prog_11_method_20_code 52 = .ok (.aload_n 0, 1) := by decide +kernel
theorem d_M_types_53 : decode prog_11_method_20_code 53 = .ok (.aload_n 0, 1) := by decide +kernel
theorem d_M_types_54 : decode prog_11_method_20_code 54 = .ok (.getfield 143, 3) := by decide +kernel
theorem d_M_types_57 : decode prog_11_method_20_code 57 = .ok (.ifCond .ne 10, 3) := by decide +kernel
theorem d_M_types_60 : decode prog_11_method_20_code 60 = .ok (.aload_n 0, 1) := by decide +kernel
theorem d_M_types_61 : decode prog_11_method_20_code 61 = .ok (.invokevirtual 147, 3) := by decide +kernel
theorem d_M_types_64 : decode prog_11_method_20_code 64 = .ok (.ifCond .eq 7, 3) := by decide +kernel
theorem d_M_types_67 : decode prog_11_method_20_code 67 = .ok (.iconst 1, 1) := by decide +kernel
theorem d_M_types_68 : decode prog_11_method_20_code 68 = .ok (.goto 4, 3) := by decide +kernel
theorem d_M_types_71 : decode prog_11_method_20_code 71 = .ok (.iconst 0, 1) := by decide +kernel
theorem d_M_types_72 : decode prog_11_method_20_code 72 = .ok (.putfield 143, 3) := by decide +kernel
theorem d_M_types_75 : decode prog_11_method_20_code 75 = .ok (.aload_n 0, 1) := by decide +kernel
theorem d_M_types_76 : decode prog_11_method_20_code 76 = .ok (.iconst 0, 1) := by decide +kernel
theorem d_M_types_77 : decode prog_11_method_20_code 77 = .ok (.putfield 137, 3) := by decide +kernel
theorem d_M_types_80 : decode prog_11_method_20_code 80 = .ok (.aload_n 0, 1) := by decide +kernel
theorem d_M_types_81 : decode prog_11_method_20_code 81 = .ok (.getfield 143, 3) := by decide +kernel
theorem d_M_types_84 : decode prog_11_method_20_code 84 = .ok (.ifCond .eq 11, 3) := by decide +kernel
theorem d_M_types_87 : decode prog_11_method_20_code 87 = .ok (.bipush (-20), 2) := by decide +kernel
theorem d_M_types_89 : decode prog_11_method_20_code 89 = .ok (.aload_n 0, 1) := by decide +kernel
theorem d_M_types_90 : decode prog_11_method_20_code 90 = .ok (.getfield 140, 3) := by decide +kernel
theorem d_M_types_93 : decode prog_11_method_20_code 93 = .ok (.isub, 1) := by decide +kernel
theorem d_M_types_94 : decode prog_11_method_20_code 94 = .ok (.ireturn, 1) := by decide +kernel
theorem d_M_types_95 : decode prog_11_method_20_code 95 = .ok (.aload_n 0, 1) := by decide +kernel
theorem d_M_types_96 : decode prog_11_method_20_code 96 = .ok (.iload_n 1, 1) := by decide +kernel
theorem d_M_types_97 : decode prog_11_method_20_code 97 = .ok (.putfield 108, 3) := by decide +kernel
theorem d_M_types_100 : decode prog_11_method_20_code 100 = .ok (.iconst 0, 1) := by decide +kernel
theorem d_M_types_101 : decode prog_11_method_20_code 101 = .ok (.istore_n 3, 1) := by decide +kernel
theorem d_M_types_102 : decode prog_11_method_20_code 102 = .ok (.iload_n 3, 1) := by decide +kernel
theorem d_M_types_103 : decode prog_11_method_20_code 103 = .ok (.iload_n 1, 1) := by decide +kernel
theorem d_M_types_104 : decode prog_11_method_20_code 104 = .ok (.if_icmp .ge 42, 3) := by decide +kernel
theorem d_M_types_107 : decode prog_11_method_20_code 107 = .ok (.aload_n 0, 1) := by decide +kernel
theorem d_M_types_108 : decode prog_11_method_20_code 108 = .ok (.iload_n 3, 1) := by decide +kernel
theorem d_M_types_109 : decode prog_11_method_20_code 109 = .ok (.aload_n 0, 1) := by decide +kernel
theorem d_M_types_110 : decode prog_11_method_20_code 110 = .ok (.getfield 40, 3) := by decide +kernel
theorem d_M_types_113 : decode prog_11_method_20_code 113 = .ok (.iconst 3, 1) := by decide +kernel
theorem d_M_types_114 : decode prog_11_method_20_code 114 = .ok (.iload_n 3, 1) := by decide +kernel
theorem d_M_types_115 : decode prog_11_method_20_code 115 = .ok (.imul, 1) := by decide +kernel
theorem d_M_types_116 : decode prog_11_method_20_code 116 = .ok (.iaload, 1) := by decide +kernel
theorem d_M_types_117 : decode prog_11_method_20_code 117 = .ok (.aload_n 0, 1) := by decide +kernel
theorem d_M_types_118 : decode prog_11_method_20_code 118 = .ok (.getfield 40, 3) := by decide +kernel
theorem d_M_types_121 : decode prog_11_method_20_code 121 = .ok (.iconst 3, 1) := by decide +kernel
theorem d_M_types_122 : decode prog_11_method_20_code 122 = .ok (.iload_n 3, 1) := by decide +kernel
theorem d_M_types_123 : decode prog_11_method_20_code 123 = .ok (.imul, 1) := by decide +kernel
theorem d_M_types_124 : decode prog_11_method_20_code 124 = .ok (.iconst 1, 1) := by decide +kernel
theorem d_M_types_125 : decode prog_11_method_20_code 125 = .ok (.iadd, 1) := by decide +kernel
theorem d_M_types_126 : decode prog_11_method_20_code 126 = .ok (.iaload, 1) := by decide +kernel
theorem d_M_types_127 : decode prog_11_method_20_code 127 = .ok (.aload_n 0, 1) := by decide +kernel
theorem d_M_types_128 : decode prog_11_method_20_code 128 = .ok (.getfield 40, 3) := by decide +kernel
theorem d_M_types_131 : decode prog_11_method_20_code 131 = .ok (.iconst 3, 1) := by decide +kernel
theorem d_M_types_132 : decode prog_11_method_20_code 132 = .ok (.iload_n 3, 1) := by decide +kernel
theorem d_M_types_133 : decode prog_11_method_20_code 133 = .ok (.imul, 1) := by decide +kernel
theorem d_M_types_134 : decode prog_11_method_20_code 134 = .ok (.iconst 2, 1) := by decide +kernel
theorem d_M_types_135 : decode prog_11_method_20_code 135 = .ok (.iadd, 1) := by decide +kernel
theorem d_M_types_136 : decode prog_11_method_20_code 136 = .ok (.iaload, 1) := by decide +kernel
theorem d_M_types_137 : decode prog_11_method_20_code 137 = .ok (.invokevirtual 112, 3) := by decide +kernel
theorem d_M_types_140 : decode prog_11_method_20_code 140 = .ok (.iinc 3 1, 3) := by decide +kernel
theorem d_M_types_143 : decode prog_11_method_20_code 143 = .ok (.goto (-41), 3) := by decide +kernel
theorem d_M_types_146 : decode prog_11_method_20_code 146 = .ok (.iload_n 1, 1) := by decide +kernel
theorem d_M_types_147 : decode prog_11_method_20_code 147 = .ok (.ireturn, 1) := by decide +kernel
theorem d_M_leftOf_0 : decode prog_11_method_22_code 0 = .ok (.iconst 0, 1) := by decide +kernel
theorem d_M_leftOf_1 : decode prog_11_method_22_code 1 = .ok (.istore_n 2, 1) := by decide +kernel
theorem d_M_leftOf_2 : decode prog_11_method_22_code 2 = .ok (.iconst 0, 1) := by decide +kernel
theorem d_M_leftOf_3 : decode prog_11_method_22_code 3 = .ok (.istore_n 3, 1) := by decide +kernel
theorem d_M_leftOf_4 : decode prog_11_method_22_code 4 = .ok (.iload_n 3, 1) := by decide +kernel
theorem d_M_leftOf_5 : decode prog_11_method_22_code 5 = .ok (.iload_n 1, 1) := by decide +kernel
theorem d_M_leftOf_6 : decode prog_11_method_22_code 6 = .ok (.if_icmp .ge 34, 3) := by decide +kernel
theorem d_M_leftOf_9 : decode prog_11_method_22_code 9 = .ok (.iload_n 2, 1) := by decide +kernel
theorem d_M_leftOf_10 : decode prog_11_method_22_code 10 = .ok (.aload_n 0, 1) := by decide +kernel
theorem d_M_leftOf_11 : decode prog_11_method_22_code 11 = .ok (.getfield 19, 3) := by decide +kernel
theorem d_M_leftOf_14 : decode prog_11_method_22_code 14 = .ok (.aload_n 0, 1) := by decide +kernel
theorem d_M_leftOf_15 : decode prog_11_method_22_code 15 = .ok (.getfield 25, 3) := by decide +kernel
theorem d_M_leftOf_18 : decode prog_11_method_22_code 18 = .ok (.iload_n 3, 1) := by decide +kernel
theorem d_M_leftOf_19 : decode prog_11_method_22_code 19 = .ok (.iaload, 1) := by decide +kernel
theorem d_M_leftOf_20 : decode prog_11_method_22_code 20 = .ok (.iaload, 1) := by decide +kernel
theorem d_M_leftOf_21 : decode prog_11_method_22_code 21 = .ok (.iconst 2, 1) := by decide +kernel
theorem d_M_leftOf_22 : decode prog_11_method_22_code 22 = .ok (.aload_n 0, 1) := by decide +kernel
theorem d_M_leftOf_23 : decode prog_11_method_22_code 23 = .ok (.getfield 161, 3) := by decide +kernel
theorem d_M_leftOf_26 : decode prog_11_method_22_code 26 = .ok (.iload_n 3, 1) := by decide +kernel
theorem d_M_leftOf_27 : decode prog_11_method_22_code 27 = .ok (.ishr, 1) := by decide +kernel
theorem d_M_leftOf_28 : decode prog_11_method_22_code 28 = .ok (.iconst 1, 1) := by decide +kernel
theorem d_M_leftOf_29 : decode prog_11_method_22_code 29 = .ok (.iand, 1) := by decide +kernel
theorem d_M_leftOf_30 : decode prog_11_method_22_code 30 = .ok (.imul, 1) := by decide +kernel
theorem d_M_leftOf_31 : decode prog_11_method_22_code 31 = .ok (.iadd, 1) := by decide +kernel
theorem d_M_leftOf_32 : decode prog_11_method_22_code 32 = .ok (.iadd, 1) := by decide +kernel
theorem d_M_leftOf_33 : decode prog_11_method_22_code 33 = .ok (.istore_n 2, 1) := by decide +kernel
theorem d_M_leftOf_34 : decode prog_11_method_22_code 34 = .ok (.iinc 3 1, 3) := by decide +kernel
theorem d_M_leftOf_37 : decode prog_11_method_22_code 37 = .ok (.goto (-33), 3) := by decide +kernel
theorem d_M_leftOf_40 : decode prog_11_method_22_code 40 = .ok (.iload_n 2, 1) := by decide +kernel
theorem d_M_leftOf_41 : decode prog_11_method_22_code 41 = .ok (.ireturn, 1) := by decide +kernel
theorem d_M_isBeside_0 : decode prog_11_method_21_code 0 = .ok (.iload_n 1, 1) := by decide +kernel
theorem d_M_isBeside_1 : decode prog_11_method_21_code 1 = .ok (.ifCond .lt 28, 3) := by decide +kernel
theorem d_M_isBeside_4 : decode prog_11_method_21_code 4 = .ok (.iload_n 1, 1) := by decide +kernel
theorem d_M_isBeside_5 : decode prog_11_method_21_code 5 = .ok (.iconst 1, 1) := by decide +kernel
theorem d_M_isBeside_6 : decode prog_11_method_21_code 6 = .ok (.iadd, 1) := by decide +kernel
theorem d_M_isBeside_7 : decode prog_11_method_21_code 7 = .ok (.aload_n 0, 1) := by decide +kernel
theorem d_M_isBeside_8 : decode prog_11_method_21_code 8 = .ok (.getfield 158, 3) := by decide +kernel
theorem d_M_isBeside_11 : decode prog_11_method_21_code 11 = .ok (.if_icmp .ge 18, 3) := by decide +kernel
theorem d_M_isBeside_14 : decode prog_11_method_21_code 14 = .ok (.aload_n 0, 1) := by decide +kernel
theorem d_M_isBeside_15 : decode prog_11_method_21_code 15 = .ok (.getfield 161, 3) := by decide +kernel
theorem d_M_isBeside_18 : decode prog_11_method_21_code 18 = .ok (.iload_n 1, 1) := by decide +kernel
theorem d_M_isBeside_19 : decode prog_11_method_21_code 19 = .ok (.ishr, 1) := by decide +kernel
theorem d_M_isBeside_20 : decode prog_11_method_21_code 20 = .ok (.iconst 1, 1) := by decide +kernel
theorem d_M_isBeside_21 : decode prog_11_method_21_code 21 = .ok (.iand, 1) := by decide +kernel
theorem d_M_isBeside_22 : decode prog_11_method_21_code 22 = .ok (.ifCond .ne 7, 3) := by decide +kernel
theorem d_M_isBeside_25 : decode prog_11_method_21_code 25 = .ok (.iconst 1, 1) := by decide +kernel
theorem d_M_isBeside_26 : decode prog_11_method_21_code 26 = .ok (.goto 4, 3) := by decide +kernel
theorem d_M_isBeside_29 : decode prog_11_method_21_code 29 = .ok (.iconst 0, 1) := by decide +kernel
theorem d_M_isBeside_30 : decode prog_11_method_21_code 30 = .ok (.ireturn, 1) := by decide +kernel
theorem d_M_place_0 : decode prog_11_method_23_code 0 = .ok (.iload_n 1, 1) := by decide +kernel
theorem d_M_place_1 : decode prog_11_method_23_code 1 = .ok (.i2l, 1) := by decide +kernel
theorem d_M_place_2 : decode prog_11_method_23_code 2 = .ok (.lconst 0, 1) := by decide +kernel
theorem d_M_place_3 : decode prog_11_method_23_code 3 = .ok (.aload_n 0, 1) := by decide +kernel
theorem d_M_place_4 : decode prog_11_method_23_code 4 = .ok (.getfield 158, 3) := by decide +kernel
theorem d_M_place_7 : decode prog_11_method_23_code 7 = .ok (.iconst 1, 1) := by decide +kernel
theorem d_M_place_8 : decode prog_11_method_23_code 8 = .ok (.isub, 1) := by decide +kernel
theorem d_M_place_9 : decode prog_11_method_23_code 9 = .ok (.i2l, 1) := by decide +kernel
theorem d_M_place_10 : decode prog_11_method_23_code 10 = .ok (.invokestatic 94, 3) := by decide +kernel
theorem d_M_place_13 : decode prog_11_method_23_code 13 = .ok (.ifCond .eq 15, 3) := by decide +kernel
theorem d_M_place_16 : decode prog_11_method_23_code 16 = .ok (.iload_n 2, 1) := by decide +kernel
theorem d_M_place_17 : decode prog_11_method_23_code 17 = .ok (.i2l, 1) := by decide +kernel
theorem d_M_place_18 : decode prog_11_method_23_code 18 = .ok (.lconst 0, 1) := by decide +kernel
theorem d_M_place_19 : decode prog_11_method_23_code 19 = .ok (.ldc2_w 119, 3) := by decide +kernel
theorem d_M_place_22 : decode prog_11_method_23_code 22 = .ok (.invokestatic 94, 3) := by decide +kernel
theorem d_M_place_25 : decode prog_11_method_23_code 25 = .ok (.ifCond .ne 5, 3) := by decide +kernel
theorem d_M_place_28 : decode prog_11_method_23_code 28 = .ok (.iconst (-1), 1) := by decide +kernel
theorem d_M_place_29 : decode prog_11_method_23_code 29 = .ok (.ireturn, 1) := by decide +kernel
theorem d_M_place_30 : decode prog_11_method_23_code 30 = .ok (.iload_n 2, 1) := by decide +kernel
theorem d_M_place_31 : decode prog_11_method_23_code 31 = .ok (.ifCond .ne 12, 3) := by decide +kernel
theorem d_M_place_34 : decode prog_11_method_23_code 34 = .ok (.aload_n 0, 1) := by decide +kernel
theorem d_M_place_35 : decode prog_11_method_23_code 35 = .ok (.getfield 25, 3) := by decide +kernel
theorem d_M_place_38 : decode prog_11_method_23_code 38 = .ok (.iload_n 1, 1) := by decide +kernel
theorem d_M_place_39 : decode prog_11_method_23_code 39 = .ok (.iaload, 1) := by decide +kernel
theorem d_M_place_40 : decode prog_11_method_23_code 40 = .ok (.goto 29, 3) := by decide +kernel
theorem d_M_place_43 : decode prog_11_method_23_code 43 = .ok (.iload_n 2, 1) := by decide +kernel
theorem d_M_place_44 : decode prog_11_method_23_code 44 = .ok (.iconst 1, 1) := by decide +kernel
theorem d_M_place_45 : decode prog_11_method_23_code 45 = .ok (.if_icmp .ne 11, 3) := by decide +kernel
theorem d_M_place_48 : decode prog_11_method_23_code 48 = .ok (.aload_n 0, 1) := by decide +kernel
theorem d_M_place_49 : decode prog_11_method_23_code 49 = .ok (.iload_n 1, 1) := by decide +kernel
theorem d_M_place_50 : decode prog_11_method_23_code 50 = .ok (.invokevirtual 167, 3) := by decide +kernel
theorem d_M_place_53 : decode prog_11_method_23_code 53 = .ok (.goto 16, 3) := by decide +kernel
theorem d_M_place_56 : decode prog_11_method_23_code 56 = .ok (.aload_n 0, 1) := by decide +kernel
theorem d_M_place_57 : decode prog_11_method_23_code 57 = .ok (.iload_n 1, 1) := by decide +kernel
theorem d_M_place_58 : decode prog_11_method_23_code 58 = .ok (.invokevirtual 171, 3) := by decide +kernel
theorem d_M_place_61 : decode prog_11_method_23_code 61 = .ok (.ifCond .eq 7, 3) := by decide +kernel
theorem d_M_place_64 : decode prog_11_method_23_code 64 = .ok (.iconst 1, 1) := by decide +kernel
theorem d_M_place_65 : decode prog_11_method_23_code 65 = .ok (.goto 4, 3) := by decide +kernel
theorem d_M_place_68 : decode prog_11_method_23_code 68 = .ok (.iconst 0, 1) := by decide +kernel
theorem d_M_place_69 : decode prog_11_method_23_code 69 = .ok (.ireturn, 1) := by decide +kernel
theorem d_M_count_0 : decode prog_11_method_24_code 0 = .ok (.iload_n 1, 1) := by decide +kernel
theorem d_M_count_1 : decode prog_11_method_24_code 1 = .ok (.tableswitch 64 0 4 #[35, 40, 45, 54, 59], 35) := by decide +kernel
theorem d_M_count_36 : decode prog_11_method_24_code 36 = .ok (.aload_n 0, 1) := by decide +kernel
theorem d_M_count_37 : decode prog_11_method_24_code 37 = .ok (.getfield 108, 3) := by decide +kernel
theorem d_M_count_40 : decode prog_11_method_24_code 40 = .ok (.ireturn, 1) := by decide +kernel
theorem d_M_count_41 : decode prog_11_method_24_code 41 = .ok (.aload_n 0, 1) := by decide +kernel
theorem d_M_count_42 : decode prog_11_method_24_code 42 = .ok (.getfield 158, 3) := by decide +kernel
theorem d_M_count_45 : decode prog_11_method_24_code 45 = .ok (.ireturn, 1) := by decide +kernel
theorem d_M_count_46 : decode prog_11_method_24_code 46 = .ok (.aload_n 0, 1) := by decide +kernel
theorem d_M_count_47 : decode prog_11_method_24_code 47 = .ok (.aload_n 0, 1) := by decide +kernel
theorem d_M_count_48 : decode prog_11_method_24_code 48 = .ok (.getfield 158, 3) := by decide +kernel
theorem d_M_count_51 : decode prog_11_method_24_code 51 = .ok (.invokevirtual 167, 3) := by decide +kernel
theorem d_M_count_54 : decode prog_11_method_24_code 54 = .ok (.ireturn, 1) := by decide +kernel
theorem d_M_count_55 : decode prog_11_method_24_code 55 = .ok (.aload_n 0, 1) := by decide +kernel
theorem d_M_count_56 : decode prog_11_method_24_code 56 = .ok (.getfield 174, 3) := by decide +kernel
theorem d_M_count_59 : decode prog_11_method_24_code 59 = .ok (.ireturn, 1) := by decide +kernel
theorem d_M_count_60 : decode prog_11_method_24_code 60 = .ok (.aload_n 0, 1) := by decide +kernel
theorem d_M_count_61 : decode prog_11_method_24_code 61 = .ok (.getfield 177, 3) := by decide +kernel
theorem d_M_count_64 : decode prog_11_method_24_code 64 = .ok (.ireturn, 1) := by decide +kernel
theorem d_M_count_65 : decode prog_11_method_24_code 65 = .ok (.iconst (-1), 1) := by decide +kernel
theorem d_M_count_66 : decode prog_11_method_24_code 66 = .ok (.ireturn, 1) := by decide +kernel
theorem d_M_isSet_0 : decode prog_11_method_31_code 0 = .ok (.iload_n 1, 1) := by decide +kernel
theorem d_M_isSet_1 : decode prog_11_method_31_code 1 = .ok (.i2l, 1) := by decide +kernel
theorem d_M_isSet_2 : decode prog_11_method_31_code 2 = .ok (.lconst 1, 1) := by decide +kernel
theorem d_M_isSet_3 : decode prog_11_method_31_code 3 = .ok (.iconst 1, 1) := by decide +kernel
theorem d_M_isSet_4 : decode prog_11_method_31_code 4 = .ok (.aload_n 0, 1) := by decide +kernel
theorem d_M_isSet_5 : decode prog_11_method_31_code 5 = .ok (.getfield 158, 3) := by decide +kernel
theorem d_M_isSet_8 : decode prog_11_method_31_code 8 = .ok (.ishl, 1) := by decide +kernel
theorem d_M_isSet_9 : decode prog_11_method_31_code 9 = .ok (.iconst 1, 1) := by decide +kernel
theorem d_M_isSet_10 : decode prog_11_method_31_code 10 = .ok (.isub, 1) := by decide +kernel
theorem d_M_isSet_11 : decode prog_11_method_31_code 11 = .ok (.i2l, 1) := by decide +kernel
theorem d_M_isSet_12 : decode prog_11_method_31_code 12 = .ok (.invokestatic 94, 3) := by decide +kernel
theorem d_M_isSet_15 : decode prog_11_method_31_code 15 = .ok (.ireturn, 1) := by decide +kernel
theorem d_M_prints_0 : decode prog_11_method_25_code 0 = .ok (.aload_n 0, 1) := by decide +kernel
theorem d_M_prints_1 : decode prog_11_method_25_code 1 = .ok (.getfield 7, 3) := by decide +kernel
theorem d_M_prints_4 : decode prog_11_method_25_code 4 = .ok (.iload_n 1, 1) := by decide +kernel
theorem d_M_prints_5 : decode prog_11_method_25_code 5 = .ok (.iaload, 1) := by decide +kernel
theorem d_M_prints_6 : decode prog_11_method_25_code 6 = .ok (.iconst 2, 1) := by decide +kernel
theorem d_M_prints_7 : decode prog_11_method_25_code 7 = .ok (.if_icmp .eq 18, 3) := by decide +kernel
theorem d_M_prints_10 : decode prog_11_method_25_code 10 = .ok (.aload_n 0, 1) := by decide +kernel
theorem d_M_prints_11 : decode prog_11_method_25_code 11 = .ok (.getfield 13, 3) := by decide +kernel
theorem d_M_prints_14 : decode prog_11_method_25_code 14 = .ok (.iload_n 1, 1) := by decide +kernel
theorem d_M_prints_15 : decode prog_11_method_25_code 15 = .ok (.iaload, 1) := by decide +kernel
theorem d_M_prints_16 : decode prog_11_method_25_code 16 = .ok (.aload_n 0, 1) := by decide +kernel
theorem d_M_prints_17 : decode prog_11_method_25_code 17 = .ok (.getfield 25, 3) := by decide +kernel
theorem d_M_prints_20 : decode prog_11_method_25_code 20 = .ok (.iload_n 2, 1) := by decide +kernel
theorem d_M_prints_21 : decode prog_11_method_25_code 21 = .ok (.iaload, 1) := by decide +kernel
theorem d_M_prints_22 : decode prog_11_method_25_code 22 = .ok (.if_icmp .eq 28, 3) := by decide +kernel
theorem d_M_prints_25 : decode prog_11_method_25_code 25 = .ok (.aload_n 0, 1) := by decide +kernel
theorem d_M_prints_26 : decode prog_11_method_25_code 26 = .ok (.getfield 7, 3) := by decide +kernel
theorem d_M_prints_29 : decode prog_11_method_25_code 29 = .ok (.iload_n 1, 1) := by decide +kernel
theorem d_M_prints_30 : decode prog_11_method_25_code 30 = .ok (.iaload, 1) := by decide +kernel
theorem d_M_prints_31 : decode prog_11_method_25_code 31 = .ok (.iconst 1, 1) := by decide +kernel
theorem d_M_prints_32 : decode prog_11_method_25_code 32 = .ok (.if_icmp .ne 22, 3) := by decide +kernel
theorem d_M_prints_35 : decode prog_11_method_25_code 35 = .ok (.aload_n 0, 1) := by decide +kernel
theorem d_M_prints_36 : decode prog_11_method_25_code 36 = .ok (.getfield 16, 3) := by decide +kernel
theorem d_M_prints_39 : decode prog_11_method_25_code 39 = .ok (.iload_n 1, 1) := by decide +kernel
theorem d_M_prints_40 : decode prog_11_method_25_code 40 = .ok (.iaload, 1) := by decide +kernel
theorem d_M_prints_41 : decode prog_11_method_25_code 41 = .ok (.aload_n 0, 1) := by decide +kernel
theorem d_M_prints_42 : decode prog_11_method_25_code 42 = .ok (.getfield 25, 3) := by decide +kernel
theorem d_M_prints_45 : decode prog_11_method_25_code 45 = .ok (.iload_n 2, 1) := by decide +kernel
theorem d_M_prints_46 : decode prog_11_method_25_code 46 = .ok (.iaload, 1) := by decide +kernel
theorem d_M_prints_47 : decode prog_11_method_25_code 47 = .ok (.if_icmp .ne 7, 3) := by decide +kernel
theorem d_M_prints_50 : decode prog_11_method_25_code 50 = .ok (.iconst 1, 1) := by decide +kernel
theorem d_M_prints_51 : decode prog_11_method_25_code 51 = .ok (.goto 4, 3) := by decide +kernel
theorem d_M_prints_54 : decode prog_11_method_25_code 54 = .ok (.iconst 0, 1) := by decide +kernel
theorem d_M_prints_55 : decode prog_11_method_25_code 55 = .ok (.ireturn, 1) := by decide +kernel
theorem d_M_isClose_0 : decode prog_11_method_27_code 0 = .ok (.aload_n 0, 1) := by decide +kernel
theorem d_M_isClose_1 : decode prog_11_method_27_code 1 = .ok (.getfield 22, 3) := by decide +kernel
theorem d_M_isClose_4 : decode prog_11_method_27_code 4 = .ok (.iconst 0, 1) := by decide +kernel
theorem d_M_isClose_5 : decode prog_11_method_27_code 5 = .ok (.iaload, 1) := by decide +kernel
theorem d_M_isClose_6 : decode prog_11_method_27_code 6 = .ok (.iconst 1, 1) := by decide +kernel
theorem d_M_isClose_7 : decode prog_11_method_27_code 7 = .ok (.if_icmp .ne 26, 3) := by decide +kernel
theorem d_M_isClose_10 : decode prog_11_method_27_code 10 = .ok (.aload_n 0, 1) := by decide +kernel
theorem d_M_isClose_11 : decode prog_11_method_27_code 11 = .ok (.iload_n 1, 1) := by decide +kernel
theorem d_M_isClose_12 : decode prog_11_method_27_code 12 = .ok (.invokevirtual 171, 3) := by decide +kernel
theorem d_M_isClose_15 : decode prog_11_method_27_code 15 = .ok (.ifCond .eq 18, 3) := by decide +kernel
theorem d_M_isClose_18 : decode prog_11_method_27_code 18 = .ok (.iload_n 2, 1) := by decide +kernel
theorem d_M_isClose_19 : decode prog_11_method_27_code 19 = .ok (.iload_n 1, 1) := by decide +kernel
theorem d_M_isClose_20 : decode prog_11_method_27_code 20 = .ok (.iconst 1, 1) := by decide +kernel
theorem d_M_isClose_21 : decode prog_11_method_27_code 21 = .ok (.iadd, 1) := by decide +kernel
theorem d_M_isClose_22 : decode prog_11_method_27_code 22 = .ok (.ishr, 1) := by decide +kernel
theorem d_M_isClose_23 : decode prog_11_method_27_code 23 = .ok (.iconst 1, 1) := by decide +kernel
theorem d_M_isClose_24 : decode prog_11_method_27_code 24 = .ok (.iand, 1) := by decide +kernel
theorem d_M_isClose_25 : decode prog_11_method_27_code 25 = .ok (.iconst 1, 1) := by decide +kernel
theorem d_M_isClose_26 : decode prog_11_method_27_code 26 = .ok (.if_icmp .ne 7, 3) := by decide +kernel
theorem d_M_isClose_29 : decode prog_11_method_27_code 29 = .ok (.iconst 1, 1) := by decide +kernel
theorem d_M_isClose_30 : decode prog_11_method_27_code 30 = .ok (.goto 4, 3) := by decide +kernel
theorem d_M_isClose_33 : decode prog_11_method_27_code 33 = .ok (.iconst 0, 1) := by decide +kernel
theorem d_M_isClose_34 : decode prog_11_method_27_code 34 = .ok (.ireturn, 1) := by decide +kernel
def f_M_line_L16  : Int32 × Int32 × Int32 × fw_M → Option ((Int32 × Int32 × Int32 × fw_M) ⊕ (Int32 × Int32 × fw_M))
  | (x1_16, x2_16, x3_16, μ16) =>
  if x3_16 = 0 then
    some (.inr (x1_16, x2_16, μ16))
  else
    (f_M_byteOf 97 108 (-1) μ16).bind fun (p31 : Int32 × fw_M) =>
    (fw_si 30 p31.2 11 x1_16 p31.1).bind fun μ34 =>
    fw_nm (x1_16 + 1) fun (v35 : Int32) =>
    Option.bind (
      if 10 ≤ v35 then
        some (0, μ34)
      else
        (f_M_has 95 μ34).bind fun (p47 : Int32 × fw_M) =>
        if p47.1 = 0 then
          some (0, p47.2)
        else
          some (1, p47.2)) fun (j41 : Int32 × fw_M) =>
    fw_nm (
      if j41.1 = 0 then
        0
      else
        ((1 : Int32) <<< ((v35 - 1) &&& 31))) fun (j63 : Int32) =>
    fw_nm ((x2_16 ||| j63)) fun (v76 : Int32) =>
    Option.bind (
      if (j41.2.1 0 17) = 0 then
        if 10 ≤ v35 then
          some (0, j41.2)
        else
          if j41.1 = 0 then
            (f_M_here j41.2).bind fun (p96 : Int32 × fw_M) =>
            if p96.1 = 0 then
              some (0, p96.2)
            else
              some (1, p96.2)
          else
            some (1, j41.2)
      else
        some (0, j41.2)) fun (j81 : Int32 × fw_M) =>
    some (.inl (v35, v76, j81.1, j81.2))
def f_M_line_L167 (e16x : Int32 × Int32 × fw_M) : Int32 × fw_M → Option ((Int32 × fw_M) ⊕ (fw_M))
  | (x4_167, μ167) =>
  if e16x.1 ≤ x4_167 then
    some (.inr μ167)
  else
    (fw_rd 30 (μ167.1 11) x4_167).bind fun v185 =>
    (fw_si 10 μ167 6 x4_167 v185).bind fun μ186 =>
    fw_nm (x4_167 + 1) fun (v187 : Int32) =>
    some (.inl (v187, μ186))
def f_M_line  (μ : fw_M) : Option (Int32 × fw_M) :=
  fw_nm (fw_wr μ 0 16 0) fun (μ2 : fw_M) =>
  fw_nm (fw_wr μ2 0 17 0) fun (μ7 : fw_M) =>
  (fw_wh (f_M_line_L16) fw_N (0, 0, 1, μ7)).bind fun (e16x : Int32 × Int32 × fw_M) =>
  Option.bind (
    if (e16x.2.2.1 0 17) = 0 then
      (f_M_here e16x.2.2).bind fun (p120 : Int32 × fw_M) =>
      if p120.1 = 0 then
        some (0, p120.2)
      else
        some (1, p120.2)
    else
      some (1, e16x.2.2)) fun (j116 : Int32 × fw_M) =>
  (fw_bz j116.1).bind fun b131 =>
  fw_nm (fw_wr j116.2 0 17 b131) fun (μ131 : fw_M) =>
  fw_nm (fw_wr μ131 0 15 0) fun (μ136 : fw_M) =>
  if (μ136.1 0 17) = 0 then
    fw_nm (fw_wr μ136 0 6 e16x.1) fun (μ156 : fw_M) =>
    fw_nm (fw_wr μ156 0 8 e16x.2.1) fun (μ161 : fw_M) =>
    (fw_wh (f_M_line_L167 e16x) fw_N (0, μ161)).bind fun (e167x : fw_M) =>
    some (e16x.1, e167x)
  else
    some (((-20) - (μ136.1 0 16)), μ136)
set_option maxHeartbeats 4000000 in
set_option maxRecDepth 100000 in
theorem c_M_line  {μ : fw_M} {r : Int32 × fw_M} (h : f_M_line  μ = some r) : fw_Con Y_M_line fw_Mo 3 [.ref 0] (some r.1) μ r.2 := by
  refine fw_con (by decide) (Nat.le_of_ble_eq_true rfl) ?_
  rw [f_M_line] at h
  show fw_R "FewTypesModel" prog_11_method_18_code 5 (some .int) fw_Mo 3 (some r.1) r.2 0 [(0, .ref 0)] [] μ
  refine fw_aload_n (pc := 0) d_M_line_0 0 rfl rfl ?_
  refine fw_iconst (pc := 1) d_M_line_1 fw_ic0 ?_
  obtain ⟨μ2, e2, h⟩ := fw_ne h
  refine fw_putI (pc := 2) d_M_line_2 fp_M_140 fw_Mo0 rfl (fw_mem e2 ?_)
  refine fw_aload_n (pc := 5) d_M_line_5 0 rfl rfl ?_
  refine fw_iconst (pc := 6) d_M_line_6 fw_ic0 ?_
  obtain ⟨μ7, e7, h⟩ := fw_ne h
  refine fw_putZ (pc := 7) d_M_line_7 fw_bz0 fp_M_143 fw_Mo0 rfl (fw_mem e7 ?_)
  refine fw_iconst (pc := 10) d_M_line_10 fw_ic0 ?_
  refine fw_istore_n (pc := 11) (lv1 := [(1, .int 0), (0, .ref 0)]) d_M_line_11 rfl (by decide) rfl ?_
  refine fw_iconst (pc := 12) d_M_line_12 fw_ic0 ?_
  refine fw_istore_n (pc := 13) (lv1 := [(2, .int 0), (1, .int 0), (0, .ref 0)]) d_M_line_13 rfl (by decide) rfl ?_
  refine fw_iconst (pc := 14) d_M_line_14 fw_ic1 ?_
  refine fw_istore_n (pc := 15) (lv1 := [(3, .int 1), (2, .int 0), (1, .int 0), (0, .ref 0)]) d_M_line_15 rfl (by decide) rfl ?_
  obtain ⟨e16x, w16, h⟩ := fw_be h
  have hE16 : fw_R "FewTypesModel" prog_11_method_18_code 5 (some .int) fw_Mo 3 (some r.1) r.2 111 [(0, .ref 0), (1, .int e16x.1), (2, .int e16x.2.1)] [] e16x.2.2 := by
    refine fw_aload_n (pc := 111) d_M_line_111 0 rfl rfl ?_
    refine fw_aload_n (pc := 112) d_M_line_112 0 rfl rfl ?_
    refine fw_getI (pc := 113) d_M_line_113 fl_M_143 fw_Mo0 rfl ?_
    obtain ⟨j116, w116, h⟩ := fw_be h
    have hJ116 : fw_R "FewTypesModel" prog_11_method_18_code 5 (some .int) fw_Mo 3 (some r.1) r.2 131 [(0, .ref 0), (1, .int e16x.1), (2, .int e16x.2.1)] [.int j116.1, .ref 0] j116.2 := by
      obtain ⟨b131, z131, h⟩ := fw_be h
      obtain ⟨μ131, e131, h⟩ := fw_ne h
      refine fw_putZ (pc := 131) d_M_line_131 z131 fp_M_143 fw_Mo0 rfl (fw_mem e131 ?_)
      refine fw_aload_n (pc := 134) d_M_line_134 0 rfl rfl ?_
      refine fw_iconst (pc := 135) d_M_line_135 fw_ic0 ?_
      obtain ⟨μ136, e136, h⟩ := fw_ne h
      refine fw_putI (pc := 136) d_M_line_136 fp_M_137 fw_Mo0 rfl (fw_mem e136 ?_)
      refine fw_aload_n (pc := 139) d_M_line_139 0 rfl rfl ?_
      refine fw_getI (pc := 140) d_M_line_140 fl_M_143 fw_Mo0 rfl ?_
      refine fw_if_eq (pc := 143) (tgt := 154) d_M_line_143 rfl (fun hc => ?_) (fun hc => ?_)
      · have h := fw_it hc h
        refine fw_aload_n (pc := 154) d_M_line_154 0 rfl rfl ?_
        refine fw_iload_n (pc := 155) d_M_line_155 1 rfl rfl ?_
        obtain ⟨μ156, e156, h⟩ := fw_ne h
        refine fw_putI (pc := 156) d_M_line_156 fp_M_158 fw_Mo0 rfl (fw_mem e156 ?_)
        refine fw_aload_n (pc := 159) d_M_line_159 0 rfl rfl ?_
        refine fw_iload_n (pc := 160) d_M_line_160 2 rfl rfl ?_
        obtain ⟨μ161, e161, h⟩ := fw_ne h
        refine fw_putI (pc := 161) d_M_line_161 fp_M_161 fw_Mo0 rfl (fw_mem e161 ?_)
        refine fw_iconst (pc := 164) d_M_line_164 fw_ic0 ?_
        refine fw_istore (pc := 165) (lv1 := [(4, .int 0), (0, .ref 0), (1, .int e16x.1), (2, .int e16x.2.1)]) d_M_line_165 (by decide) rfl ?_
        obtain ⟨e167x, w167, h⟩ := fw_be h
        have hE167 : fw_R "FewTypesModel" prog_11_method_18_code 5 (some .int) fw_Mo 3 (some r.1) r.2 193 [(1, .int e16x.1)] [] e167x := by
          refine fw_iload_n (pc := 193) d_M_line_193 0 rfl rfl ?_
          obtain rfl := Option.some.inj h
          exact fw_iret (pc := 194) d_M_line_194 rfl
        clear h
        exact fw_sub [1, 2, 0] rfl (fw_we (e := e167x) (fun (s : Int32 × fw_M) => fw_R "FewTypesModel" prog_11_method_18_code 5 (some .int) fw_Mo 3 (some r.1) r.2 167 [(0, .ref 0), (1, .int e16x.1), (4, .int s.1)] [] s.2) (by
          intro s x h hl hr
          obtain ⟨x4_167, μ167⟩ := s
          rw [f_M_line_L167] at h
          show fw_R "FewTypesModel" prog_11_method_18_code 5 (some .int) fw_Mo 3 (some r.1) r.2 167 [(0, .ref 0), (1, .int e16x.1), (4, .int x4_167)] [] μ167
          refine fw_iload (pc := 167) d_M_line_167 2 rfl ?_
          refine fw_iload_n (pc := 169) d_M_line_169 1 rfl rfl ?_
          refine fw_icmp_ge (pc := 170) (tgt := 193) d_M_line_170 rfl (fun hc => ?_) (fun hc => ?_)
          · have h := fw_it hc h
            obtain rfl := Option.some.inj h
            have he := hr _ rfl
            subst he
            exact fw_sub [1] rfl hE167
          · have h := fw_if hc h
            refine fw_aload_n (pc := 173) d_M_line_173 0 rfl rfl ?_
            refine fw_getR (pc := 174) d_M_line_174 fl_M_25 fw_Mo0 rfl ?_
            refine fw_iload (pc := 177) d_M_line_177 2 rfl ?_
            refine fw_aload_n (pc := 179) d_M_line_179 0 rfl rfl ?_
            refine fw_getR (pc := 180) d_M_line_180 fl_M_40 fw_Mo0 rfl ?_
            refine fw_iload (pc := 183) d_M_line_183 2 rfl ?_
            obtain ⟨v185, e185, h⟩ := fw_be h
            refine fw_iald (pc := 185) d_M_line_185 fw_Mo11 e185 ?_
            obtain ⟨μ186, e186, h⟩ := fw_be h
            refine fw_iast (pc := 186) d_M_line_186 fw_Mo6 e186 ?_
            obtain ⟨v187, e187, h⟩ := fw_ne h
            refine fw_iinc2 (pc := 187) (j := 2) (lv1 := [(4, .int v187), (0, .ref 0), (1, .int e16x.1)]) d_M_line_187 rfl fw_ic1 e187 (by decide) rfl ?_
            refine fw_goto (pc := 190) (tgt := 167) d_M_line_190 rfl ?_
            obtain rfl := Option.some.inj h
            exact fw_sub [1, 2, 0] rfl (hl _ rfl)
          ) _ _ w167)
      · have h := fw_if hc h
        refine fw_bipush (pc := 146) d_M_line_146 fw_bpm20 ?_
        refine fw_aload_n (pc := 148) d_M_line_148 0 rfl rfl ?_
        refine fw_getI (pc := 149) d_M_line_149 fl_M_140 fw_Mo0 rfl ?_
        refine fw_isub (pc := 152) d_M_line_152 ?_
        obtain rfl := Option.some.inj h
        exact fw_iret (pc := 153) d_M_line_153 rfl
    clear h
    have h := w116
    clear w116
    refine fw_if_ne (pc := 116) (tgt := 126) d_M_line_116 rfl (fun hc => ?_) (fun hc => ?_)
    · have h := fw_it hc h
      refine fw_aload_n (pc := 119) d_M_line_119 0 rfl rfl ?_
      obtain ⟨p120, e120, h⟩ := fw_be h
      refine fw_callVi (pc := 120) d_M_line_120 mv_M_147 fw_Mo0 (c_M_here e120) (by decide) rfl rfl (Nat.le_of_ble_eq_true rfl) ?_
      refine fw_if_eq (pc := 123) (tgt := 130) d_M_line_123 rfl (fun hc => ?_) (fun hc => ?_)
      · have h := fw_it hc h
        refine fw_iconst (pc := 130) d_M_line_130 fw_ic0 ?_
        obtain rfl := Option.some.inj h
        exact fw_sub [0, 1, 2] rfl hJ116
      · have h := fw_if hc h
        refine fw_iconst (pc := 126) d_M_line_126 fw_ic1 ?_
        refine fw_goto (pc := 127) (tgt := 131) d_M_line_127 rfl ?_
        obtain rfl := Option.some.inj h
        exact fw_sub [0, 1, 2] rfl hJ116
    · have h := fw_if hc h
      refine fw_iconst (pc := 126) d_M_line_126 fw_ic1 ?_
      refine fw_goto (pc := 127) (tgt := 131) d_M_line_127 rfl ?_
      obtain rfl := Option.some.inj h
      exact fw_sub [0, 1, 2] rfl hJ116
  clear h
  exact fw_sub [3, 2, 1, 0] rfl (fw_we (e := e16x) (fun (s : Int32 × Int32 × Int32 × fw_M) => fw_R "FewTypesModel" prog_11_method_18_code 5 (some .int) fw_Mo 3 (some r.1) r.2 16 [(0, .ref 0), (1, .int s.1), (2, .int s.2.1), (3, .int s.2.2.1)] [] s.2.2.2) (by
    intro s x h hl hr
    obtain ⟨x1_16, x2_16, x3_16, μ16⟩ := s
    rw [f_M_line_L16] at h
    show fw_R "FewTypesModel" prog_11_method_18_code 5 (some .int) fw_Mo 3 (some r.1) r.2 16 [(0, .ref 0), (1, .int x1_16), (2, .int x2_16), (3, .int x3_16)] [] μ16
    refine fw_iload_n (pc := 16) d_M_line_16 3 rfl rfl ?_
    refine fw_if_eq (pc := 17) (tgt := 111) d_M_line_17 rfl (fun hc => ?_) (fun hc => ?_)
    · have h := fw_it hc h
      obtain rfl := Option.some.inj h
      have he := hr _ rfl
      subst he
      exact fw_sub [0, 1, 2] rfl hE16
    · have h := fw_if hc h
      refine fw_aload_n (pc := 20) d_M_line_20 0 rfl rfl ?_
      refine fw_getR (pc := 21) d_M_line_21 fl_M_40 fw_Mo0 rfl ?_
      refine fw_iload_n (pc := 24) d_M_line_24 1 rfl rfl ?_
      refine fw_aload_n (pc := 25) d_M_line_25 0 rfl rfl ?_
      refine fw_bipush (pc := 26) d_M_line_26 fw_bp97 ?_
      refine fw_bipush (pc := 28) d_M_line_28 fw_bp108 ?_
      refine fw_iconst (pc := 30) d_M_line_30 fw_icm1 ?_
      obtain ⟨p31, e31, h⟩ := fw_be h
      refine fw_callVi (pc := 31) d_M_line_31 mv_M_151 fw_Mo0 (c_M_byteOf e31) (by decide) rfl rfl (Nat.le_of_ble_eq_true rfl) ?_
      obtain ⟨μ34, e34, h⟩ := fw_be h
      refine fw_iast (pc := 34) d_M_line_34 fw_Mo11 e34 ?_
      obtain ⟨v35, e35, h⟩ := fw_ne h
      refine fw_iinc2 (pc := 35) (j := 1) (lv1 := [(1, .int v35), (0, .ref 0), (2, .int x2_16), (3, .int x3_16)]) d_M_line_35 rfl fw_ic1 e35 (by decide) rfl ?_
      refine fw_iload_n (pc := 38) d_M_line_38 0 rfl rfl ?_
      refine fw_bipush (pc := 39) d_M_line_39 fw_bp10 ?_
      obtain ⟨j41, w41, h⟩ := fw_be h
      have hJ41 : fw_R "FewTypesModel" prog_11_method_18_code 5 (some .int) fw_Mo 3 (some r.1) r.2 58 [(0, .ref 0), (1, .int v35), (2, .int x2_16)] [.int j41.1] j41.2 := by
        refine fw_istore (pc := 58) (lv1 := [(4, .int j41.1), (0, .ref 0), (1, .int v35), (2, .int x2_16)]) d_M_line_58 (by decide) rfl ?_
        refine fw_iload_n (pc := 60) d_M_line_60 3 rfl rfl ?_
        refine fw_iload (pc := 61) d_M_line_61 0 rfl ?_
        obtain ⟨j63, w63, h⟩ := fw_ne h
        have hJ63 : fw_R "FewTypesModel" prog_11_method_18_code 5 (some .int) fw_Mo 3 (some r.1) r.2 75 [(0, .ref 0), (1, .int v35), (4, .int j41.1)] [.int j63, .int x2_16] j41.2 := by
          refine fw_ior (pc := 75) d_M_line_75 ?_
          obtain ⟨v76, e76, h⟩ := fw_ne h
          refine fw_top e76 ?_
          refine fw_istore_n (pc := 76) (lv1 := [(2, .int v76), (0, .ref 0), (1, .int v35), (4, .int j41.1)]) d_M_line_76 rfl (by decide) rfl ?_
          refine fw_aload_n (pc := 77) d_M_line_77 1 rfl rfl ?_
          refine fw_getI (pc := 78) d_M_line_78 fl_M_143 fw_Mo0 rfl ?_
          obtain ⟨j81, w81, h⟩ := fw_be h
          have hJ81 : fw_R "FewTypesModel" prog_11_method_18_code 5 (some .int) fw_Mo 3 (some r.1) r.2 107 [(0, .ref 0), (1, .int v35), (2, .int v76)] [.int j81.1] j81.2 := by
            refine fw_istore_n (pc := 107) (lv1 := [(3, .int j81.1), (0, .ref 0), (1, .int v35), (2, .int v76)]) d_M_line_107 rfl (by decide) rfl ?_
            refine fw_goto (pc := 108) (tgt := 16) d_M_line_108 rfl ?_
            obtain rfl := Option.some.inj h
            exact fw_sub [1, 2, 3, 0] rfl (hl _ rfl)
          clear h
          have h := w81
          clear w81
          refine fw_if_ne (pc := 81) (tgt := 106) d_M_line_81 rfl (fun hc => ?_) (fun hc => ?_)
          · have h := fw_it hc h
            refine fw_iload_n (pc := 84) d_M_line_84 2 rfl rfl ?_
            refine fw_bipush (pc := 85) d_M_line_85 fw_bp10 ?_
            refine fw_icmp_ge (pc := 87) (tgt := 106) d_M_line_87 rfl (fun hc => ?_) (fun hc => ?_)
            · have h := fw_it hc h
              refine fw_iconst (pc := 106) d_M_line_106 fw_ic0 ?_
              obtain rfl := Option.some.inj h
              exact fw_sub [1, 2, 0] rfl hJ81
            · have h := fw_if hc h
              refine fw_iload (pc := 90) d_M_line_90 3 rfl ?_
              refine fw_if_ne (pc := 92) (tgt := 102) d_M_line_92 rfl (fun hc => ?_) (fun hc => ?_)
              · have h := fw_it hc h
                refine fw_aload_n (pc := 95) d_M_line_95 1 rfl rfl ?_
                obtain ⟨p96, e96, h⟩ := fw_be h
                refine fw_callVi (pc := 96) d_M_line_96 mv_M_147 fw_Mo0 (c_M_here e96) (by decide) rfl rfl (Nat.le_of_ble_eq_true rfl) ?_
                refine fw_if_eq (pc := 99) (tgt := 106) d_M_line_99 rfl (fun hc => ?_) (fun hc => ?_)
                · have h := fw_it hc h
                  refine fw_iconst (pc := 106) d_M_line_106 fw_ic0 ?_
                  obtain rfl := Option.some.inj h
                  exact fw_sub [1, 2, 0] rfl hJ81
                · have h := fw_if hc h
                  refine fw_iconst (pc := 102) d_M_line_102 fw_ic1 ?_
                  refine fw_goto (pc := 103) (tgt := 107) d_M_line_103 rfl ?_
                  obtain rfl := Option.some.inj h
                  exact fw_sub [1, 2, 0] rfl hJ81
              · have h := fw_if hc h
                refine fw_iconst (pc := 102) d_M_line_102 fw_ic1 ?_
                refine fw_goto (pc := 103) (tgt := 107) d_M_line_103 rfl ?_
                obtain rfl := Option.some.inj h
                exact fw_sub [1, 2, 0] rfl hJ81
          · have h := fw_if hc h
            refine fw_iconst (pc := 106) d_M_line_106 fw_ic0 ?_
            obtain rfl := Option.some.inj h
            exact fw_sub [1, 2, 0] rfl hJ81
        clear h
        have h := w63
        clear w63
        refine fw_if_eq (pc := 63) (tgt := 74) d_M_line_63 rfl (fun hc => ?_) (fun hc => ?_)
        · have h := h.trans (if_pos hc)
          refine fw_iconst (pc := 74) d_M_line_74 fw_ic0 ?_
          subst h
          exact fw_sub [1, 2, 0] rfl hJ63
        · have h := h.trans (if_neg hc)
          refine fw_iconst (pc := 66) d_M_line_66 fw_ic1 ?_
          refine fw_iload_n (pc := 67) d_M_line_67 2 rfl rfl ?_
          refine fw_iconst (pc := 68) d_M_line_68 fw_ic1 ?_
          refine fw_isub (pc := 69) d_M_line_69 ?_
          refine fw_ishl (pc := 70) d_M_line_70 ?_
          refine fw_goto (pc := 71) (tgt := 75) d_M_line_71 rfl ?_
          subst h
          exact fw_sub [1, 2, 0] rfl hJ63
      clear h
      have h := w41
      clear w41
      refine fw_icmp_ge (pc := 41) (tgt := 57) d_M_line_41 rfl (fun hc => ?_) (fun hc => ?_)
      · have h := fw_it hc h
        refine fw_iconst (pc := 57) d_M_line_57 fw_ic0 ?_
        obtain rfl := Option.some.inj h
        exact fw_sub [1, 0, 2] rfl hJ41
      · have h := fw_if hc h
        refine fw_aload_n (pc := 44) d_M_line_44 1 rfl rfl ?_
        refine fw_bipush (pc := 45) d_M_line_45 fw_bp95 ?_
        obtain ⟨p47, e47, h⟩ := fw_be h
        refine fw_callVi (pc := 47) d_M_line_47 mv_M_155 fw_Mo0 (c_M_has e47) (by decide) rfl rfl (Nat.le_of_ble_eq_true rfl) ?_
        refine fw_if_eq (pc := 50) (tgt := 57) d_M_line_50 rfl (fun hc => ?_) (fun hc => ?_)
        · have h := fw_it hc h
          refine fw_iconst (pc := 57) d_M_line_57 fw_ic0 ?_
          obtain rfl := Option.some.inj h
          exact fw_sub [1, 0, 2] rfl hJ41
        · have h := fw_if hc h
          refine fw_iconst (pc := 53) d_M_line_53 fw_ic1 ?_
          refine fw_goto (pc := 54) (tgt := 58) d_M_line_54 rfl ?_
          obtain rfl := Option.some.inj h
          exact fw_sub [1, 0, 2] rfl hJ41
    ) _ _ w16)
def f_M_clause (a1 : Int32) (μ : fw_M) : Option (fw_M) :=
  (f_M_has 116 μ).bind fun (p3 : Int32 × fw_M) =>
  Option.bind (
    if p3.1 = 0 then
      (f_M_has 110 p3.2).bind fun (p16 : Int32 × fw_M) =>
      if p16.1 = 0 then
        (f_M_has 109 p16.2).bind fun (p29 : Int32 × fw_M) =>
        if p29.1 = 0 then
          some (0, p29.2)
        else
          some (3, p29.2)
      else
        some (2, p16.2)
    else
      some (1, p3.2)) fun (j6 : Int32 × fw_M) =>
  (fw_si 30 j6.2 11 a1 j6.1).bind fun μ47 =>
  (f_M_byteOf 97 108 (-1) μ47).bind fun (p61 : Int32 × fw_M) =>
  (fw_si 30 p61.2 11 (a1 + 1) p61.1).bind fun μ64 =>
  Option.bind (
    if j6.1 = 0 then
      some (0, μ64)
    else
      if j6.1 = 3 then
        (f_M_byteOf 49 57 (-1) μ64).bind fun (p92 : Int32 × fw_M) =>
        some ((1 + p92.1), p92.2)
      else
        Option.bind (
          if j6.1 = 1 then
            (fw_rd 30 (μ64.1 11) (a1 + 1)).bind fun v116 =>
            some v116
          else
            some (-1)) fun (j106 : Int32) =>
        (f_M_byteOf 97 108 j106 μ64).bind fun (p121 : Int32 × fw_M) =>
        some (p121.1, p121.2)) fun (j73 : Int32 × fw_M) =>
  (fw_si 30 j73.2 11 (a1 + 2) j73.1).bind fun μ124 =>
  some μ124
set_option maxHeartbeats 4000000 in
set_option maxRecDepth 100000 in
theorem c_M_clause {a1 : Int32} {μ : fw_M} {r : fw_M} (h : f_M_clause a1 μ = some r) : fw_Con Y_M_clause fw_Mo 3 [.ref 0, .int a1] none μ r := by
  refine fw_con (by decide) (Nat.le_of_ble_eq_true rfl) ?_
  rw [f_M_clause] at h
  show fw_R "FewTypesModel" prog_11_method_19_code 3 none fw_Mo 3 none r 0 [(0, .ref 0), (1, .int a1)] [] μ
  refine fw_aload_n (pc := 0) d_M_clause_0 0 rfl rfl ?_
  refine fw_bipush (pc := 1) d_M_clause_1 fw_bp116 ?_
  obtain ⟨p3, e3, h⟩ := fw_be h
  refine fw_callVi (pc := 3) d_M_clause_3 mv_M_155 fw_Mo0 (c_M_has e3) (by decide) rfl rfl (Nat.le_of_ble_eq_true rfl) ?_
  obtain ⟨j6, w6, h⟩ := fw_be h
  have hJ6 : fw_R "FewTypesModel" prog_11_method_19_code 3 none fw_Mo 3 none r 40 [(0, .ref 0), (1, .int a1)] [.int j6.1] j6.2 := by
    refine fw_istore_n (pc := 40) (lv1 := [(2, .int j6.1), (0, .ref 0), (1, .int a1)]) d_M_clause_40 rfl (by decide) rfl ?_
    refine fw_aload_n (pc := 41) d_M_clause_41 1 rfl rfl ?_
    refine fw_getR (pc := 42) d_M_clause_42 fl_M_40 fw_Mo0 rfl ?_
    refine fw_iload_n (pc := 45) d_M_clause_45 2 rfl rfl ?_
    refine fw_iload_n (pc := 46) d_M_clause_46 0 rfl rfl ?_
    obtain ⟨μ47, e47, h⟩ := fw_be h
    refine fw_iast (pc := 47) d_M_clause_47 fw_Mo11 e47 ?_
    refine fw_aload_n (pc := 48) d_M_clause_48 1 rfl rfl ?_
    refine fw_getR (pc := 49) d_M_clause_49 fl_M_40 fw_Mo0 rfl ?_
    refine fw_iload_n (pc := 52) d_M_clause_52 2 rfl rfl ?_
    refine fw_iconst (pc := 53) d_M_clause_53 fw_ic1 ?_
    refine fw_iadd (pc := 54) d_M_clause_54 ?_
    refine fw_aload_n (pc := 55) d_M_clause_55 1 rfl rfl ?_
    refine fw_bipush (pc := 56) d_M_clause_56 fw_bp97 ?_
    refine fw_bipush (pc := 58) d_M_clause_58 fw_bp108 ?_
    refine fw_iconst (pc := 60) d_M_clause_60 fw_icm1 ?_
    obtain ⟨p61, e61, h⟩ := fw_be h
    refine fw_callVi (pc := 61) d_M_clause_61 mv_M_151 fw_Mo0 (c_M_byteOf e61) (by decide) rfl rfl (Nat.le_of_ble_eq_true rfl) ?_
    obtain ⟨μ64, e64, h⟩ := fw_be h
    refine fw_iast (pc := 64) d_M_clause_64 fw_Mo11 e64 ?_
    refine fw_aload_n (pc := 65) d_M_clause_65 1 rfl rfl ?_
    refine fw_getR (pc := 66) d_M_clause_66 fl_M_40 fw_Mo0 rfl ?_
    refine fw_iload_n (pc := 69) d_M_clause_69 2 rfl rfl ?_
    refine fw_iconst (pc := 70) d_M_clause_70 fw_ic2 ?_
    refine fw_iadd (pc := 71) d_M_clause_71 ?_
    refine fw_iload_n (pc := 72) d_M_clause_72 0 rfl rfl ?_
    obtain ⟨j73, w73, h⟩ := fw_be h
    have hJ73 : fw_R "FewTypesModel" prog_11_method_19_code 3 none fw_Mo 3 none r 124 [] [.int j73.1, .int (a1 + 2), .ref 11] j73.2 := by
      obtain ⟨μ124, e124, h⟩ := fw_be h
      refine fw_iast (pc := 124) d_M_clause_124 fw_Mo11 e124 ?_
      obtain rfl := Option.some.inj h
      exact fw_vret (pc := 125) d_M_clause_125 rfl
    clear h
    have h := w73
    clear w73
    refine fw_if_ne (pc := 73) (tgt := 80) d_M_clause_73 rfl (fun hc => ?_) (fun hc => ?_)
    · have h := fw_it hc h
      refine fw_iconst (pc := 76) d_M_clause_76 fw_ic0 ?_
      refine fw_goto (pc := 77) (tgt := 124) d_M_clause_77 rfl ?_
      obtain rfl := Option.some.inj h
      exact fw_sub [] rfl hJ73
    · have h := fw_if hc h
      refine fw_iload_n (pc := 80) d_M_clause_80 0 rfl rfl ?_
      refine fw_iconst (pc := 81) d_M_clause_81 fw_ic3 ?_
      refine fw_icmp_ne (pc := 82) (tgt := 99) d_M_clause_82 rfl (fun hc => ?_) (fun hc => ?_)
      · have h := fw_it hc h
        refine fw_iconst (pc := 85) d_M_clause_85 fw_ic1 ?_
        refine fw_aload_n (pc := 86) d_M_clause_86 1 rfl rfl ?_
        refine fw_bipush (pc := 87) d_M_clause_87 fw_bp49 ?_
        refine fw_bipush (pc := 89) d_M_clause_89 fw_bp57 ?_
        refine fw_iconst (pc := 91) d_M_clause_91 fw_icm1 ?_
        obtain ⟨p92, e92, h⟩ := fw_be h
        refine fw_callVi (pc := 92) d_M_clause_92 mv_M_151 fw_Mo0 (c_M_byteOf e92) (by decide) rfl rfl (Nat.le_of_ble_eq_true rfl) ?_
        refine fw_iadd (pc := 95) d_M_clause_95 ?_
        refine fw_goto (pc := 96) (tgt := 124) d_M_clause_96 rfl ?_
        obtain rfl := Option.some.inj h
        exact fw_sub [] rfl hJ73
      · have h := fw_if hc h
        refine fw_aload_n (pc := 99) d_M_clause_99 1 rfl rfl ?_
        refine fw_bipush (pc := 100) d_M_clause_100 fw_bp97 ?_
        refine fw_bipush (pc := 102) d_M_clause_102 fw_bp108 ?_
        refine fw_iload_n (pc := 104) d_M_clause_104 0 rfl rfl ?_
        refine fw_iconst (pc := 105) d_M_clause_105 fw_ic1 ?_
        obtain ⟨j106, w106, h⟩ := fw_be h
        have hJ106 : fw_R "FewTypesModel" prog_11_method_19_code 3 none fw_Mo 3 none r 121 [] [.int j106, .int 108, .int 97, .ref 0, .int (a1 + 2), .ref 11] μ64 := by
          obtain ⟨p121, e121, h⟩ := fw_be h
          refine fw_callVi (pc := 121) d_M_clause_121 mv_M_151 fw_Mo0 (c_M_byteOf e121) (by decide) rfl rfl (Nat.le_of_ble_eq_true rfl) ?_
          obtain rfl := Option.some.inj h
          exact fw_sub [] rfl hJ73
        clear h
        have h := w106
        clear w106
        refine fw_icmp_ne (pc := 106) (tgt := 120) d_M_clause_106 rfl (fun hc => ?_) (fun hc => ?_)
        · have h := fw_it hc h
          refine fw_aload_n (pc := 109) d_M_clause_109 1 rfl rfl ?_
          refine fw_getR (pc := 110) d_M_clause_110 fl_M_40 fw_Mo0 rfl ?_
          refine fw_iload_n (pc := 113) d_M_clause_113 2 rfl rfl ?_
          refine fw_iconst (pc := 114) d_M_clause_114 fw_ic1 ?_
          refine fw_iadd (pc := 115) d_M_clause_115 ?_
          obtain ⟨v116, e116, h⟩ := fw_be h
          refine fw_iald (pc := 116) d_M_clause_116 fw_Mo11 e116 ?_
          refine fw_goto (pc := 117) (tgt := 121) d_M_clause_117 rfl ?_
          obtain rfl := Option.some.inj h
          exact fw_sub [] rfl hJ106
        · have h := fw_if hc h
          refine fw_iconst (pc := 120) d_M_clause_120 fw_icm1 ?_
          obtain rfl := Option.some.inj h
          exact fw_sub [] rfl hJ106
  clear h
  have h := w6
  clear w6
  refine fw_if_eq (pc := 6) (tgt := 13) d_M_clause_6 rfl (fun hc => ?_) (fun hc => ?_)
  · have h := fw_it hc h
    refine fw_aload_n (pc := 13) d_M_clause_13 0 rfl rfl ?_
    refine fw_bipush (pc := 14) d_M_clause_14 fw_bp110 ?_
    obtain ⟨p16, e16, h⟩ := fw_be h
    refine fw_callVi (pc := 16) d_M_clause_16 mv_M_155 fw_Mo0 (c_M_has e16) (by decide) rfl rfl (Nat.le_of_ble_eq_true rfl) ?_
    refine fw_if_eq (pc := 19) (tgt := 26) d_M_clause_19 rfl (fun hc => ?_) (fun hc => ?_)
    · have h := fw_it hc h
      refine fw_aload_n (pc := 26) d_M_clause_26 0 rfl rfl ?_
      refine fw_bipush (pc := 27) d_M_clause_27 fw_bp109 ?_
      obtain ⟨p29, e29, h⟩ := fw_be h
      refine fw_callVi (pc := 29) d_M_clause_29 mv_M_155 fw_Mo0 (c_M_has e29) (by decide) rfl rfl (Nat.le_of_ble_eq_true rfl) ?_
      refine fw_if_eq (pc := 32) (tgt := 39) d_M_clause_32 rfl (fun hc => ?_) (fun hc => ?_)
      · have h := fw_it hc h
        refine fw_iconst (pc := 39) d_M_clause_39 fw_ic0 ?_
        obtain rfl := Option.some.inj h
        exact fw_sub [0, 1] rfl hJ6
      · have h := fw_if hc h
        refine fw_iconst (pc := 35) d_M_clause_35 fw_ic3 ?_
        refine fw_goto (pc := 36) (tgt := 40) d_M_clause_36 rfl ?_
        obtain rfl := Option.some.inj h
        exact fw_sub [0, 1] rfl hJ6
    · have h := fw_if hc h
      refine fw_iconst (pc := 22) d_M_clause_22 fw_ic2 ?_
      refine fw_goto (pc := 23) (tgt := 40) d_M_clause_23 rfl ?_
      obtain rfl := Option.some.inj h
      exact fw_sub [0, 1] rfl hJ6
  · have h := fw_if hc h
    refine fw_iconst (pc := 9) d_M_clause_9 fw_ic1 ?_
    refine fw_goto (pc := 10) (tgt := 40) d_M_clause_10 rfl ?_
    obtain rfl := Option.some.inj h
    exact fw_sub [0, 1] rfl hJ6
def f_M_types_L14  : Int32 × Int32 × fw_M → Option ((Int32 × Int32 × fw_M) ⊕ (Int32 × fw_M))
  | (x1_14, x2_14, μ14) =>
  if x2_14 = 0 then
    some (.inr (x1_14, μ14))
  else
    (f_M_clause (3 * x1_14) μ14).bind fun (p22 : fw_M) =>
    fw_nm (x1_14 + 1) fun (v25 : Int32) =>
    Option.bind (
      if 10 ≤ v25 then
        some (0, p22)
      else
        (f_M_has 44 p22).bind fun (p37 : Int32 × fw_M) =>
        if p37.1 = 0 then
          some (0, p37.2)
        else
          some (1, p37.2)) fun (j31 : Int32 × fw_M) =>
    some (.inl (v25, j31.1, j31.2))
def f_M_types_L102 (e14x : Int32 × fw_M) : Int32 × fw_M → Option ((Int32 × fw_M) ⊕ (fw_M))
  | (x3_102, μ102) =>
  if e14x.1 ≤ x3_102 then
    some (.inr μ102)
  else
    (fw_rd 30 (μ102.1 11) (3 * x3_102)).bind fun v116 =>
    (fw_rd 30 (μ102.1 11) ((3 * x3_102) + 1)).bind fun v126 =>
    (fw_rd 30 (μ102.1 11) ((3 * x3_102) + 2)).bind fun v136 =>
    (f_M_comes x3_102 v116 v126 v136 μ102).bind fun (p137 : fw_M) =>
    fw_nm (x3_102 + 1) fun (v140 : Int32) =>
    some (.inl (v140, p137))
def f_M_types  (μ : fw_M) : Option (Int32 × fw_M) :=
  fw_nm (fw_wr μ 0 16 0) fun (μ2 : fw_M) =>
  fw_nm (fw_wr μ2 0 17 0) fun (μ7 : fw_M) =>
  (fw_wh (f_M_types_L14) fw_N (0, 1, μ7)).bind fun (e14x : Int32 × fw_M) =>
  Option.bind (
    if (e14x.2.1 0 17) = 0 then
      (f_M_here e14x.2).bind fun (p61 : Int32 × fw_M) =>
      if p61.1 = 0 then
        some (0, p61.2)
      else
        some (1, p61.2)
    else
      some (1, e14x.2)) fun (j57 : Int32 × fw_M) =>
  (fw_bz j57.1).bind fun b72 =>
  fw_nm (fw_wr j57.2 0 17 b72) fun (μ72 : fw_M) =>
  fw_nm (fw_wr μ72 0 15 0) fun (μ77 : fw_M) =>
  if (μ77.1 0 17) = 0 then
    fw_nm (fw_wr μ77 0 0 e14x.1) fun (μ97 : fw_M) =>
    (fw_wh (f_M_types_L102 e14x) fw_N (0, μ97)).bind fun (e102x : fw_M) =>
    some (e14x.1, e102x)
  else
    some (((-20) - (μ77.1 0 16)), μ77)
set_option maxHeartbeats 4000000 in
set_option maxRecDepth 100000 in
theorem c_M_types  {μ : fw_M} {r : Int32 × fw_M} (h : f_M_types  μ = some r) : fw_Con Y_M_types fw_Mo 4 [.ref 0] (some r.1) μ r.2 := by
  refine fw_con (by decide) (Nat.le_of_ble_eq_true rfl) ?_
  rw [f_M_types] at h
  show fw_R "FewTypesModel" prog_11_method_20_code 4 (some .int) fw_Mo 4 (some r.1) r.2 0 [(0, .ref 0)] [] μ
  refine fw_aload_n (pc := 0) d_M_types_0 0 rfl rfl ?_
  refine fw_iconst (pc := 1) d_M_types_1 fw_ic0 ?_
  obtain ⟨μ2, e2, h⟩ := fw_ne h
  refine fw_putI (pc := 2) d_M_types_2 fp_M_140 fw_Mo0 rfl (fw_mem e2 ?_)
  refine fw_aload_n (pc := 5) d_M_types_5 0 rfl rfl ?_
  refine fw_iconst (pc := 6) d_M_types_6 fw_ic0 ?_
  obtain ⟨μ7, e7, h⟩ := fw_ne h
  refine fw_putZ (pc := 7) d_M_types_7 fw_bz0 fp_M_143 fw_Mo0 rfl (fw_mem e7 ?_)
  refine fw_iconst (pc := 10) d_M_types_10 fw_ic0 ?_
  refine fw_istore_n (pc := 11) (lv1 := [(1, .int 0), (0, .ref 0)]) d_M_types_11 rfl (by decide) rfl ?_
  refine fw_iconst (pc := 12) d_M_types_12 fw_ic1 ?_
  refine fw_istore_n (pc := 13) (lv1 := [(2, .int 1), (1, .int 0), (0, .ref 0)]) d_M_types_13 rfl (by decide) rfl ?_
  obtain ⟨e14x, w14, h⟩ := fw_be h
  have hE14 : fw_R "FewTypesModel" prog_11_method_20_code 4 (some .int) fw_Mo 4 (some r.1) r.2 52 [(0, .ref 0), (1, .int e14x.1)] [] e14x.2 := by
    refine fw_aload_n (pc := 52) d_M_types_52 0 rfl rfl ?_
    refine fw_aload_n (pc := 53) d_M_types_53 0 rfl rfl ?_
    refine fw_getI (pc := 54) d_M_types_54 fl_M_143 fw_Mo0 rfl ?_
    obtain ⟨j57, w57, h⟩ := fw_be h
    have hJ57 : fw_R "FewTypesModel" prog_11_method_20_code 4 (some .int) fw_Mo 4 (some r.1) r.2 72 [(0, .ref 0), (1, .int e14x.1)] [.int j57.1, .ref 0] j57.2 := by
      obtain ⟨b72, z72, h⟩ := fw_be h
      obtain ⟨μ72, e72, h⟩ := fw_ne h
      refine fw_putZ (pc := 72) d_M_types_72 z72 fp_M_143 fw_Mo0 rfl (fw_mem e72 ?_)
      refine fw_aload_n (pc := 75) d_M_types_75 0 rfl rfl ?_
      refine fw_iconst (pc := 76) d_M_types_76 fw_ic0 ?_
      obtain ⟨μ77, e77, h⟩ := fw_ne h
      refine fw_putI (pc := 77) d_M_types_77 fp_M_137 fw_Mo0 rfl (fw_mem e77 ?_)
      refine fw_aload_n (pc := 80) d_M_types_80 0 rfl rfl ?_
      refine fw_getI (pc := 81) d_M_types_81 fl_M_143 fw_Mo0 rfl ?_
      refine fw_if_eq (pc := 84) (tgt := 95) d_M_types_84 rfl (fun hc => ?_) (fun hc => ?_)
      · have h := fw_it hc h
        refine fw_aload_n (pc := 95) d_M_types_95 0 rfl rfl ?_
        refine fw_iload_n (pc := 96) d_M_types_96 1 rfl rfl ?_
        obtain ⟨μ97, e97, h⟩ := fw_ne h
        refine fw_putI (pc := 97) d_M_types_97 fp_M_108 fw_Mo0 rfl (fw_mem e97 ?_)
        refine fw_iconst (pc := 100) d_M_types_100 fw_ic0 ?_
        refine fw_istore_n (pc := 101) (lv1 := [(3, .int 0), (0, .ref 0), (1, .int e14x.1)]) d_M_types_101 rfl (by decide) rfl ?_
        obtain ⟨e102x, w102, h⟩ := fw_be h
        have hE102 : fw_R "FewTypesModel" prog_11_method_20_code 4 (some .int) fw_Mo 4 (some r.1) r.2 146 [(1, .int e14x.1)] [] e102x := by
          refine fw_iload_n (pc := 146) d_M_types_146 0 rfl rfl ?_
          obtain rfl := Option.some.inj h
          exact fw_iret (pc := 147) d_M_types_147 rfl
        clear h
        exact fw_sub [1, 2, 0] rfl (fw_we (e := e102x) (fun (s : Int32 × fw_M) => fw_R "FewTypesModel" prog_11_method_20_code 4 (some .int) fw_Mo 4 (some r.1) r.2 102 [(0, .ref 0), (1, .int e14x.1), (3, .int s.1)] [] s.2) (by
          intro s x h hl hr
          obtain ⟨x3_102, μ102⟩ := s
          rw [f_M_types_L102] at h
          show fw_R "FewTypesModel" prog_11_method_20_code 4 (some .int) fw_Mo 4 (some r.1) r.2 102 [(0, .ref 0), (1, .int e14x.1), (3, .int x3_102)] [] μ102
          refine fw_iload_n (pc := 102) d_M_types_102 2 rfl rfl ?_
          refine fw_iload_n (pc := 103) d_M_types_103 1 rfl rfl ?_
          refine fw_icmp_ge (pc := 104) (tgt := 146) d_M_types_104 rfl (fun hc => ?_) (fun hc => ?_)
          · have h := fw_it hc h
            obtain rfl := Option.some.inj h
            have he := hr _ rfl
            subst he
            exact fw_sub [1] rfl hE102
          · have h := fw_if hc h
            refine fw_aload_n (pc := 107) d_M_types_107 0 rfl rfl ?_
            refine fw_iload_n (pc := 108) d_M_types_108 2 rfl rfl ?_
            refine fw_aload_n (pc := 109) d_M_types_109 0 rfl rfl ?_
            refine fw_getR (pc := 110) d_M_types_110 fl_M_40 fw_Mo0 rfl ?_
            refine fw_iconst (pc := 113) d_M_types_113 fw_ic3 ?_
            refine fw_iload_n (pc := 114) d_M_types_114 2 rfl rfl ?_
            refine fw_imul (pc := 115) d_M_types_115 ?_
            obtain ⟨v116, e116, h⟩ := fw_be h
            refine fw_iald (pc := 116) d_M_types_116 fw_Mo11 e116 ?_
            refine fw_aload_n (pc := 117) d_M_types_117 0 rfl rfl ?_
            refine fw_getR (pc := 118) d_M_types_118 fl_M_40 fw_Mo0 rfl ?_
            refine fw_iconst (pc := 121) d_M_types_121 fw_ic3 ?_
            refine fw_iload_n (pc := 122) d_M_types_122 2 rfl rfl ?_
            refine fw_imul (pc := 123) d_M_types_123 ?_
            refine fw_iconst (pc := 124) d_M_types_124 fw_ic1 ?_
            refine fw_iadd (pc := 125) d_M_types_125 ?_
            obtain ⟨v126, e126, h⟩ := fw_be h
            refine fw_iald (pc := 126) d_M_types_126 fw_Mo11 e126 ?_
            refine fw_aload_n (pc := 127) d_M_types_127 0 rfl rfl ?_
            refine fw_getR (pc := 128) d_M_types_128 fl_M_40 fw_Mo0 rfl ?_
            refine fw_iconst (pc := 131) d_M_types_131 fw_ic3 ?_
            refine fw_iload_n (pc := 132) d_M_types_132 2 rfl rfl ?_
            refine fw_imul (pc := 133) d_M_types_133 ?_
            refine fw_iconst (pc := 134) d_M_types_134 fw_ic2 ?_
            refine fw_iadd (pc := 135) d_M_types_135 ?_
            obtain ⟨v136, e136, h⟩ := fw_be h
            refine fw_iald (pc := 136) d_M_types_136 fw_Mo11 e136 ?_
            obtain ⟨p137, e137, h⟩ := fw_be h
            refine fw_callVv (pc := 137) d_M_types_137 mv_M_112 fw_Mo0 (c_M_comes e137) (by decide) rfl rfl (Nat.le_of_ble_eq_true rfl) ?_
            obtain ⟨v140, e140, h⟩ := fw_ne h
            refine fw_iinc2 (pc := 140) (j := 2) (lv1 := [(3, .int v140), (0, .ref 0), (1, .int e14x.1)]) d_M_types_140 rfl fw_ic1 e140 (by decide) rfl ?_
            refine fw_goto (pc := 143) (tgt := 102) d_M_types_143 rfl ?_
            obtain rfl := Option.some.inj h
            exact fw_sub [1, 2, 0] rfl (hl _ rfl)
          ) _ _ w102)
      · have h := fw_if hc h
        refine fw_bipush (pc := 87) d_M_types_87 fw_bpm20 ?_
        refine fw_aload_n (pc := 89) d_M_types_89 0 rfl rfl ?_
        refine fw_getI (pc := 90) d_M_types_90 fl_M_140 fw_Mo0 rfl ?_
        refine fw_isub (pc := 93) d_M_types_93 ?_
        obtain rfl := Option.some.inj h
        exact fw_iret (pc := 94) d_M_types_94 rfl
    clear h
    have h := w57
    clear w57
    refine fw_if_ne (pc := 57) (tgt := 67) d_M_types_57 rfl (fun hc => ?_) (fun hc => ?_)
    · have h := fw_it hc h
      refine fw_aload_n (pc := 60) d_M_types_60 0 rfl rfl ?_
      obtain ⟨p61, e61, h⟩ := fw_be h
      refine fw_callVi (pc := 61) d_M_types_61 mv_M_147 fw_Mo0 (c_M_here e61) (by decide) rfl rfl (Nat.le_of_ble_eq_true rfl) ?_
      refine fw_if_eq (pc := 64) (tgt := 71) d_M_types_64 rfl (fun hc => ?_) (fun hc => ?_)
      · have h := fw_it hc h
        refine fw_iconst (pc := 71) d_M_types_71 fw_ic0 ?_
        obtain rfl := Option.some.inj h
        exact fw_sub [0, 1] rfl hJ57
      · have h := fw_if hc h
        refine fw_iconst (pc := 67) d_M_types_67 fw_ic1 ?_
        refine fw_goto (pc := 68) (tgt := 72) d_M_types_68 rfl ?_
        obtain rfl := Option.some.inj h
        exact fw_sub [0, 1] rfl hJ57
    · have h := fw_if hc h
      refine fw_iconst (pc := 67) d_M_types_67 fw_ic1 ?_
      refine fw_goto (pc := 68) (tgt := 72) d_M_types_68 rfl ?_
      obtain rfl := Option.some.inj h
      exact fw_sub [0, 1] rfl hJ57
  clear h
  exact fw_sub [2, 1, 0] rfl (fw_we (e := e14x) (fun (s : Int32 × Int32 × fw_M) => fw_R "FewTypesModel" prog_11_method_20_code 4 (some .int) fw_Mo 4 (some r.1) r.2 14 [(0, .ref 0), (1, .int s.1), (2, .int s.2.1)] [] s.2.2) (by
    intro s x h hl hr
    obtain ⟨x1_14, x2_14, μ14⟩ := s
    rw [f_M_types_L14] at h
    show fw_R "FewTypesModel" prog_11_method_20_code 4 (some .int) fw_Mo 4 (some r.1) r.2 14 [(0, .ref 0), (1, .int x1_14), (2, .int x2_14)] [] μ14
    refine fw_iload_n (pc := 14) d_M_types_14 2 rfl rfl ?_
    refine fw_if_eq (pc := 15) (tgt := 52) d_M_types_15 rfl (fun hc => ?_) (fun hc => ?_)
    · have h := fw_it hc h
      obtain rfl := Option.some.inj h
      have he := hr _ rfl
      subst he
      exact fw_sub [0, 1] rfl hE14
    · have h := fw_if hc h
      refine fw_aload_n (pc := 18) d_M_types_18 0 rfl rfl ?_
      refine fw_iconst (pc := 19) d_M_types_19 fw_ic3 ?_
      refine fw_iload_n (pc := 20) d_M_types_20 1 rfl rfl ?_
      refine fw_imul (pc := 21) d_M_types_21 ?_
      obtain ⟨p22, e22, h⟩ := fw_be h
      refine fw_callVv (pc := 22) d_M_types_22 mv_M_164 fw_Mo0 (c_M_clause e22) (by decide) rfl rfl (Nat.le_of_ble_eq_true rfl) ?_
      obtain ⟨v25, e25, h⟩ := fw_ne h
      refine fw_iinc2 (pc := 25) (j := 1) (lv1 := [(1, .int v25), (0, .ref 0), (2, .int x2_14)]) d_M_types_25 rfl fw_ic1 e25 (by decide) rfl ?_
      refine fw_iload_n (pc := 28) d_M_types_28 0 rfl rfl ?_
      refine fw_bipush (pc := 29) d_M_types_29 fw_bp10 ?_
      obtain ⟨j31, w31, h⟩ := fw_be h
      have hJ31 : fw_R "FewTypesModel" prog_11_method_20_code 4 (some .int) fw_Mo 4 (some r.1) r.2 48 [(0, .ref 0), (1, .int v25)] [.int j31.1] j31.2 := by
        refine fw_istore_n (pc := 48) (lv1 := [(2, .int j31.1), (0, .ref 0), (1, .int v25)]) d_M_types_48 rfl (by decide) rfl ?_
        refine fw_goto (pc := 49) (tgt := 14) d_M_types_49 rfl ?_
        obtain rfl := Option.some.inj h
        exact fw_sub [1, 2, 0] rfl (hl _ rfl)
      clear h
      have h := w31
      clear w31
      refine fw_icmp_ge (pc := 31) (tgt := 47) d_M_types_31 rfl (fun hc => ?_) (fun hc => ?_)
      · have h := fw_it hc h
        refine fw_iconst (pc := 47) d_M_types_47 fw_ic0 ?_
        obtain rfl := Option.some.inj h
        exact fw_sub [1, 0] rfl hJ31
      · have h := fw_if hc h
        refine fw_aload_n (pc := 34) d_M_types_34 1 rfl rfl ?_
        refine fw_bipush (pc := 35) d_M_types_35 fw_bp44 ?_
        obtain ⟨p37, e37, h⟩ := fw_be h
        refine fw_callVi (pc := 37) d_M_types_37 mv_M_155 fw_Mo0 (c_M_has e37) (by decide) rfl rfl (Nat.le_of_ble_eq_true rfl) ?_
        refine fw_if_eq (pc := 40) (tgt := 47) d_M_types_40 rfl (fun hc => ?_) (fun hc => ?_)
        · have h := fw_it hc h
          refine fw_iconst (pc := 47) d_M_types_47 fw_ic0 ?_
          obtain rfl := Option.some.inj h
          exact fw_sub [1, 0] rfl hJ31
        · have h := fw_if hc h
          refine fw_iconst (pc := 43) d_M_types_43 fw_ic1 ?_
          refine fw_goto (pc := 44) (tgt := 48) d_M_types_44 rfl ?_
          obtain rfl := Option.some.inj h
          exact fw_sub [1, 0] rfl hJ31
    ) _ _ w14)
def f_M_leftOf_L4 (a1 : Int32) (μ : fw_M) : Int32 × Int32 → Option ((Int32 × Int32) ⊕ (Int32))
  | (x2_4, x3_4) =>
  if a1 ≤ x3_4 then
    some (.inr x2_4)
  else
    (fw_rd 10 (μ.1 6) x3_4).bind fun v19 =>
    (fw_rd 12 (μ.1 4) v19).bind fun v20 =>
    fw_nm ((x2_4 + (v20 + (2 * (((μ.1 0 8) >>> (x3_4 &&& 31)) &&& 1))))) fun (v33 : Int32) =>
    fw_nm (x3_4 + 1) fun (v34 : Int32) =>
    some (.inl (v33, v34))
def f_M_leftOf (a1 : Int32) (μ : fw_M) : Option (Int32) :=
  (fw_wh (f_M_leftOf_L4 a1 μ) fw_N (0, 0)).bind fun (e4x : Int32) =>
  some e4x
set_option maxHeartbeats 4000000 in
set_option maxRecDepth 100000 in
theorem c_M_leftOf {a1 : Int32} {μ : fw_M} {r : Int32} (h : f_M_leftOf a1 μ = some r) : fw_Con Y_M_leftOf fw_Mo 1 [.ref 0, .int a1] (some r) μ μ := by
  refine fw_con (by decide) (Nat.le_of_ble_eq_true rfl) ?_
  rw [f_M_leftOf] at h
  show fw_R "FewTypesModel" prog_11_method_22_code 4 (some .int) fw_Mo 1 (some r) μ 0 [(0, .ref 0), (1, .int a1)] [] μ
  refine fw_iconst (pc := 0) d_M_leftOf_0 fw_ic0 ?_
  refine fw_istore_n (pc := 1) (lv1 := [(2, .int 0), (0, .ref 0), (1, .int a1)]) d_M_leftOf_1 rfl (by decide) rfl ?_
  refine fw_iconst (pc := 2) d_M_leftOf_2 fw_ic0 ?_
  refine fw_istore_n (pc := 3) (lv1 := [(3, .int 0), (2, .int 0), (0, .ref 0), (1, .int a1)]) d_M_leftOf_3 rfl (by decide) rfl ?_
  obtain ⟨e4x, w4, h⟩ := fw_be h
  have hE4 : fw_R "FewTypesModel" prog_11_method_22_code 4 (some .int) fw_Mo 1 (some r) μ 40 [(2, .int e4x)] [] μ := by
    refine fw_iload_n (pc := 40) d_M_leftOf_40 0 rfl rfl ?_
    obtain rfl := Option.some.inj h
    exact fw_iret (pc := 41) d_M_leftOf_41 rfl
  clear h
  exact fw_sub [2, 3, 1, 0] rfl (fw_we (e := e4x) (fun (s : Int32 × Int32) => fw_R "FewTypesModel" prog_11_method_22_code 4 (some .int) fw_Mo 1 (some r) μ 4 [(0, .ref 0), (1, .int a1), (2, .int s.1), (3, .int s.2)] [] μ) (by
    intro s x h hl hr
    obtain ⟨x2_4, x3_4⟩ := s
    rw [f_M_leftOf_L4] at h
    show fw_R "FewTypesModel" prog_11_method_22_code 4 (some .int) fw_Mo 1 (some r) μ 4 [(0, .ref 0), (1, .int a1), (2, .int x2_4), (3, .int x3_4)] [] μ
    refine fw_iload_n (pc := 4) d_M_leftOf_4 3 rfl rfl ?_
    refine fw_iload_n (pc := 5) d_M_leftOf_5 1 rfl rfl ?_
    refine fw_icmp_ge (pc := 6) (tgt := 40) d_M_leftOf_6 rfl (fun hc => ?_) (fun hc => ?_)
    · have h := fw_it hc h
      obtain rfl := Option.some.inj h
      have he := hr _ rfl
      subst he
      exact fw_sub [2] rfl hE4
    · have h := fw_if hc h
      refine fw_iload_n (pc := 9) d_M_leftOf_9 2 rfl rfl ?_
      refine fw_aload_n (pc := 10) d_M_leftOf_10 0 rfl rfl ?_
      refine fw_getR (pc := 11) d_M_leftOf_11 fl_M_19 fw_Mo0 rfl ?_
      refine fw_aload_n (pc := 14) d_M_leftOf_14 0 rfl rfl ?_
      refine fw_getR (pc := 15) d_M_leftOf_15 fl_M_25 fw_Mo0 rfl ?_
      refine fw_iload_n (pc := 18) d_M_leftOf_18 3 rfl rfl ?_
      obtain ⟨v19, e19, h⟩ := fw_be h
      refine fw_iald (pc := 19) d_M_leftOf_19 fw_Mo6 e19 ?_
      obtain ⟨v20, e20, h⟩ := fw_be h
      refine fw_iald (pc := 20) d_M_leftOf_20 fw_Mo4 e20 ?_
      refine fw_iconst (pc := 21) d_M_leftOf_21 fw_ic2 ?_
      refine fw_aload_n (pc := 22) d_M_leftOf_22 0 rfl rfl ?_
      refine fw_getI (pc := 23) d_M_leftOf_23 fl_M_161 fw_Mo0 rfl ?_
      refine fw_iload_n (pc := 26) d_M_leftOf_26 3 rfl rfl ?_
      refine fw_ishr (pc := 27) d_M_leftOf_27 ?_
      refine fw_iconst (pc := 28) d_M_leftOf_28 fw_ic1 ?_
      refine fw_iand (pc := 29) d_M_leftOf_29 ?_
      refine fw_imul (pc := 30) d_M_leftOf_30 ?_
      refine fw_iadd (pc := 31) d_M_leftOf_31 ?_
      refine fw_iadd (pc := 32) d_M_leftOf_32 ?_
      obtain ⟨v33, e33, h⟩ := fw_ne h
      refine fw_top e33 ?_
      refine fw_istore_n (pc := 33) (lv1 := [(2, .int v33), (0, .ref 0), (1, .int a1), (3, .int x3_4)]) d_M_leftOf_33 rfl (by decide) rfl ?_
      obtain ⟨v34, e34, h⟩ := fw_ne h
      refine fw_iinc2 (pc := 34) (j := 3) (lv1 := [(3, .int v34), (2, .int v33), (0, .ref 0), (1, .int a1)]) d_M_leftOf_34 rfl fw_ic1 e34 (by decide) rfl ?_
      refine fw_goto (pc := 37) (tgt := 4) d_M_leftOf_37 rfl ?_
      obtain rfl := Option.some.inj h
      exact fw_sub [2, 3, 1, 0] rfl (hl _ rfl)
    ) _ _ w4)
def f_M_isBeside (a1 : Int32) (μ : fw_M) : Option (Int32) :=
  fw_nm (
    if a1 < 0 then
      0
    else
      if (μ.1 0 6) ≤ (a1 + 1) then
        0
      else
        if (((μ.1 0 8) >>> (a1 &&& 31)) &&& 1) = 0 then
          1
        else
          0) fun (j1 : Int32) =>
  (fw_bz j1).bind fun b30 =>
  some b30
set_option maxHeartbeats 4000000 in
set_option maxRecDepth 100000 in
theorem c_M_isBeside {a1 : Int32} {μ : fw_M} {r : Int32} (h : f_M_isBeside a1 μ = some r) : fw_Con Y_M_isBeside fw_Mo 1 [.ref 0, .int a1] (some r) μ μ := by
  refine fw_con (by decide) (Nat.le_of_ble_eq_true rfl) ?_
  rw [f_M_isBeside] at h
  show fw_R "FewTypesModel" prog_11_method_21_code 2 (some .boolean) fw_Mo 1 (some r) μ 0 [(0, .ref 0), (1, .int a1)] [] μ
  refine fw_iload_n (pc := 0) d_M_isBeside_0 1 rfl rfl ?_
  obtain ⟨j1, w1, h⟩ := fw_ne h
  have hJ1 : fw_R "FewTypesModel" prog_11_method_21_code 2 (some .boolean) fw_Mo 1 (some r) μ 30 [] [.int j1] μ := by
    obtain ⟨b30, e30, h⟩ := fw_be h
    obtain rfl := Option.some.inj h
    exact fw_zret (pc := 30) d_M_isBeside_30 rfl e30
  clear h
  have h := w1
  clear w1
  refine fw_if_lt (pc := 1) (tgt := 29) d_M_isBeside_1 rfl (fun hc => ?_) (fun hc => ?_)
  · have h := h.trans (if_pos hc)
    refine fw_iconst (pc := 29) d_M_isBeside_29 fw_ic0 ?_
    subst h
    exact fw_sub [] rfl hJ1
  · have h := h.trans (if_neg hc)
    refine fw_iload_n (pc := 4) d_M_isBeside_4 1 rfl rfl ?_
    refine fw_iconst (pc := 5) d_M_isBeside_5 fw_ic1 ?_
    refine fw_iadd (pc := 6) d_M_isBeside_6 ?_
    refine fw_aload_n (pc := 7) d_M_isBeside_7 0 rfl rfl ?_
    refine fw_getI (pc := 8) d_M_isBeside_8 fl_M_158 fw_Mo0 rfl ?_
    refine fw_icmp_ge (pc := 11) (tgt := 29) d_M_isBeside_11 rfl (fun hc => ?_) (fun hc => ?_)
    · have h := h.trans (if_pos hc)
      refine fw_iconst (pc := 29) d_M_isBeside_29 fw_ic0 ?_
      subst h
      exact fw_sub [] rfl hJ1
    · have h := h.trans (if_neg hc)
      refine fw_aload_n (pc := 14) d_M_isBeside_14 0 rfl rfl ?_
      refine fw_getI (pc := 15) d_M_isBeside_15 fl_M_161 fw_Mo0 rfl ?_
      refine fw_iload_n (pc := 18) d_M_isBeside_18 1 rfl rfl ?_
      refine fw_ishr (pc := 19) d_M_isBeside_19 ?_
      refine fw_iconst (pc := 20) d_M_isBeside_20 fw_ic1 ?_
      refine fw_iand (pc := 21) d_M_isBeside_21 ?_
      refine fw_if_ne (pc := 22) (tgt := 29) d_M_isBeside_22 rfl (fun hc => ?_) (fun hc => ?_)
      · have h := h.trans (if_pos hc)
        refine fw_iconst (pc := 25) d_M_isBeside_25 fw_ic1 ?_
        refine fw_goto (pc := 26) (tgt := 30) d_M_isBeside_26 rfl ?_
        subst h
        exact fw_sub [] rfl hJ1
      · have h := h.trans (if_neg hc)
        refine fw_iconst (pc := 29) d_M_isBeside_29 fw_ic0 ?_
        subst h
        exact fw_sub [] rfl hJ1
def f_M_place (a1 : Int32) (a2 : Int32) (μ : fw_M) : Option (Int32) :=
  (f_M_in (Int32.toInt64 a1) 0 (Int32.toInt64 ((μ.1 0 6) - 1))).bind fun (p10 : Int32) =>
  if p10 = 0 then
    some (-1)
  else
    (f_M_in (Int32.toInt64 a2) 0 2).bind fun (p22 : Int32) =>
    if p22 = 0 then
      some (-1)
    else
      Option.bind (
        if a2 = 0 then
          (fw_rd 10 (μ.1 6) a1).bind fun v39 =>
          some v39
        else
          if a2 = 1 then
            (f_M_leftOf a1 μ).bind fun (p50 : Int32) =>
            some p50
          else
            (f_M_isBeside a1 μ).bind fun (p58 : Int32) =>
            if p58 = 0 then
              some 0
            else
              some 1) fun (j31 : Int32) =>
      some j31
set_option maxHeartbeats 4000000 in
set_option maxRecDepth 100000 in
theorem c_M_place {a1 : Int32} {a2 : Int32} {μ : fw_M} {r : Int32} (h : f_M_place a1 a2 μ = some r) : fw_Con Y_M_place fw_Mo 2 [.ref 0, .int a1, .int a2] (some r) μ μ := by
  refine fw_con (by decide) (Nat.le_of_ble_eq_true rfl) ?_
  rw [f_M_place] at h
  show fw_R "FewTypesModel" prog_11_method_23_code 3 (some .int) fw_Mo 2 (some r) μ 0 [(0, .ref 0), (1, .int a1), (2, .int a2)] [] μ
  refine fw_iload_n (pc := 0) d_M_place_0 1 rfl rfl ?_
  refine fw_i2l (pc := 1) d_M_place_1 ?_
  refine fw_lconst (pc := 2) d_M_place_2 (v := 0) (by decide) ?_
  refine fw_aload_n (pc := 3) d_M_place_3 0 rfl rfl ?_
  refine fw_getI (pc := 4) d_M_place_4 fl_M_158 fw_Mo0 rfl ?_
  refine fw_iconst (pc := 7) d_M_place_7 fw_ic1 ?_
  refine fw_isub (pc := 8) d_M_place_8 ?_
  refine fw_i2l (pc := 9) d_M_place_9 ?_
  obtain ⟨p10, e10, h⟩ := fw_be h
  refine fw_callSi (pc := 10) d_M_place_10 ms_M_94 (c_M_in e10) (by decide) rfl rfl (Nat.le_of_ble_eq_true rfl) ?_
  refine fw_if_eq (pc := 13) (tgt := 28) d_M_place_13 rfl (fun hc => ?_) (fun hc => ?_)
  · have h := fw_it hc h
    refine fw_iconst (pc := 28) d_M_place_28 fw_icm1 ?_
    obtain rfl := Option.some.inj h
    exact fw_iret (pc := 29) d_M_place_29 rfl
  · have h := fw_if hc h
    refine fw_iload_n (pc := 16) d_M_place_16 2 rfl rfl ?_
    refine fw_i2l (pc := 17) d_M_place_17 ?_
    refine fw_lconst (pc := 18) d_M_place_18 (v := 0) (by decide) ?_
    refine fw_ldc2 (pc := 19) d_M_place_19 cl_M_119 ?_
    obtain ⟨p22, e22, h⟩ := fw_be h
    refine fw_callSi (pc := 22) d_M_place_22 ms_M_94 (c_M_in e22) (by decide) rfl rfl (Nat.le_of_ble_eq_true rfl) ?_
    refine fw_if_ne (pc := 25) (tgt := 30) d_M_place_25 rfl (fun hc => ?_) (fun hc => ?_)
    · have h := fw_it hc h
      refine fw_iconst (pc := 28) d_M_place_28 fw_icm1 ?_
      obtain rfl := Option.some.inj h
      exact fw_iret (pc := 29) d_M_place_29 rfl
    · have h := fw_if hc h
      refine fw_iload_n (pc := 30) d_M_place_30 2 rfl rfl ?_
      obtain ⟨j31, w31, h⟩ := fw_be h
      have hJ31 : fw_R "FewTypesModel" prog_11_method_23_code 3 (some .int) fw_Mo 2 (some r) μ 69 [] [.int j31] μ := by
        obtain rfl := Option.some.inj h
        exact fw_iret (pc := 69) d_M_place_69 rfl
      clear h
      have h := w31
      clear w31
      refine fw_if_ne (pc := 31) (tgt := 43) d_M_place_31 rfl (fun hc => ?_) (fun hc => ?_)
      · have h := fw_it hc h
        refine fw_aload_n (pc := 34) d_M_place_34 0 rfl rfl ?_
        refine fw_getR (pc := 35) d_M_place_35 fl_M_25 fw_Mo0 rfl ?_
        refine fw_iload_n (pc := 38) d_M_place_38 1 rfl rfl ?_
        obtain ⟨v39, e39, h⟩ := fw_be h
        refine fw_iald (pc := 39) d_M_place_39 fw_Mo6 e39 ?_
        refine fw_goto (pc := 40) (tgt := 69) d_M_place_40 rfl ?_
        obtain rfl := Option.some.inj h
        exact fw_sub [] rfl hJ31
      · have h := fw_if hc h
        refine fw_iload_n (pc := 43) d_M_place_43 2 rfl rfl ?_
        refine fw_iconst (pc := 44) d_M_place_44 fw_ic1 ?_
        refine fw_icmp_ne (pc := 45) (tgt := 56) d_M_place_45 rfl (fun hc => ?_) (fun hc => ?_)
        · have h := fw_it hc h
          refine fw_aload_n (pc := 48) d_M_place_48 0 rfl rfl ?_
          refine fw_iload_n (pc := 49) d_M_place_49 1 rfl rfl ?_
          obtain ⟨p50, e50, h⟩ := fw_be h
          refine fw_callVi (pc := 50) d_M_place_50 mv_M_167 fw_Mo0 (c_M_leftOf e50) (by decide) rfl rfl (Nat.le_of_ble_eq_true rfl) ?_
          refine fw_goto (pc := 53) (tgt := 69) d_M_place_53 rfl ?_
          obtain rfl := Option.some.inj h
          exact fw_sub [] rfl hJ31
        · have h := fw_if hc h
          refine fw_aload_n (pc := 56) d_M_place_56 0 rfl rfl ?_
          refine fw_iload_n (pc := 57) d_M_place_57 1 rfl rfl ?_
          obtain ⟨p58, e58, h⟩ := fw_be h
          refine fw_callVi (pc := 58) d_M_place_58 mv_M_171 fw_Mo0 (c_M_isBeside e58) (by decide) rfl rfl (Nat.le_of_ble_eq_true rfl) ?_
          refine fw_if_eq (pc := 61) (tgt := 68) d_M_place_61 rfl (fun hc => ?_) (fun hc => ?_)
          · have h := fw_it hc h
            refine fw_iconst (pc := 68) d_M_place_68 fw_ic0 ?_
            obtain rfl := Option.some.inj h
            exact fw_sub [] rfl hJ31
          · have h := fw_if hc h
            refine fw_iconst (pc := 64) d_M_place_64 fw_ic1 ?_
            refine fw_goto (pc := 65) (tgt := 69) d_M_place_65 rfl ?_
            obtain rfl := Option.some.inj h
            exact fw_sub [] rfl hJ31
def f_M_count (a1 : Int32) (μ : fw_M) : Option (Int32) :=
  if a1 = 0 then
    some (μ.1 0 0)
  else
    if a1 = 1 then
      some (μ.1 0 6)
    else
      if a1 = 2 then
        (f_M_leftOf (μ.1 0 6) μ).bind fun (p51 : Int32) =>
        some p51
      else
        if a1 = 3 then
          some (μ.1 0 9)
        else
          if a1 = 4 then
            some (μ.1 0 11)
          else
            some (-1)
set_option maxHeartbeats 4000000 in
set_option maxRecDepth 100000 in
theorem c_M_count {a1 : Int32} {μ : fw_M} {r : Int32} (h : f_M_count a1 μ = some r) : fw_Con Y_M_count fw_Mo 2 [.ref 0, .int a1] (some r) μ μ := by
  refine fw_con (by decide) (Nat.le_of_ble_eq_true rfl) ?_
  rw [f_M_count] at h
  show fw_R "FewTypesModel" prog_11_method_24_code 2 (some .int) fw_Mo 2 (some r) μ 0 [(0, .ref 0), (1, .int a1)] [] μ
  refine fw_iload_n (pc := 0) d_M_count_0 1 rfl rfl ?_
  by_cases hc0 : a1 = 0
  · have h := fw_it hc0 h
    refine fw_top hc0.symm ?_
    refine fw_tin (pc := 1) (off := 35) (tgt := 36) d_M_count_1 (by decide) (by decide) (by decide) rfl ?_
    refine fw_aload_n (pc := 36) d_M_count_36 0 rfl rfl ?_
    refine fw_getI (pc := 37) d_M_count_37 fl_M_108 fw_Mo0 rfl ?_
    obtain rfl := Option.some.inj h
    exact fw_iret (pc := 40) d_M_count_40 rfl
  · have h := fw_if hc0 h
    by_cases hc1 : a1 = 1
    · have h := fw_it hc1 h
      refine fw_top hc1.symm ?_
      refine fw_tin (pc := 1) (off := 40) (tgt := 41) d_M_count_1 (by decide) (by decide) (by decide) rfl ?_
      refine fw_aload_n (pc := 41) d_M_count_41 0 rfl rfl ?_
      refine fw_getI (pc := 42) d_M_count_42 fl_M_158 fw_Mo0 rfl ?_
      obtain rfl := Option.some.inj h
      exact fw_iret (pc := 45) d_M_count_45 rfl
    · have h := fw_if hc1 h
      by_cases hc2 : a1 = 2
      · have h := fw_it hc2 h
        refine fw_top hc2.symm ?_
        refine fw_tin (pc := 1) (off := 45) (tgt := 46) d_M_count_1 (by decide) (by decide) (by decide) rfl ?_
        refine fw_aload_n (pc := 46) d_M_count_46 0 rfl rfl ?_
        refine fw_aload_n (pc := 47) d_M_count_47 0 rfl rfl ?_
        refine fw_getI (pc := 48) d_M_count_48 fl_M_158 fw_Mo0 rfl ?_
        obtain ⟨p51, e51, h⟩ := fw_be h
        refine fw_callVi (pc := 51) d_M_count_51 mv_M_167 fw_Mo0 (c_M_leftOf e51) (by decide) rfl rfl (Nat.le_of_ble_eq_true rfl) ?_
        obtain rfl := Option.some.inj h
        exact fw_iret (pc := 54) d_M_count_54 rfl
      · have h := fw_if hc2 h
        by_cases hc3 : a1 = 3
        · have h := fw_it hc3 h
          refine fw_top hc3.symm ?_
          refine fw_tin (pc := 1) (off := 54) (tgt := 55) d_M_count_1 (by decide) (by decide) (by decide) rfl ?_
          refine fw_aload_n (pc := 55) d_M_count_55 0 rfl rfl ?_
          refine fw_getI (pc := 56) d_M_count_56 fl_M_174 fw_Mo0 rfl ?_
          obtain rfl := Option.some.inj h
          exact fw_iret (pc := 59) d_M_count_59 rfl
        · have h := fw_if hc3 h
          by_cases hc4 : a1 = 4
          · have h := fw_it hc4 h
            refine fw_top hc4.symm ?_
            refine fw_tin (pc := 1) (off := 59) (tgt := 60) d_M_count_1 (by decide) (by decide) (by decide) rfl ?_
            refine fw_aload_n (pc := 60) d_M_count_60 0 rfl rfl ?_
            refine fw_getI (pc := 61) d_M_count_61 fl_M_177 fw_Mo0 rfl ?_
            obtain rfl := Option.some.inj h
            exact fw_iret (pc := 64) d_M_count_64 rfl
          · have h := fw_if hc4 h
            refine fw_tout (pc := 1) (tgt := 65) d_M_count_1 ?_ rfl ?_
            · have g0 := fw_ti hc0
              have g1 := fw_ti hc1
              have g2 := fw_ti hc2
              have g3 := fw_ti hc3
              have g4 := fw_ti hc4
              revert g0 g1 g2 g3 g4
              exact fw_sw0_4
            · refine fw_iconst (pc := 65) d_M_count_65 fw_icm1 ?_
              obtain rfl := Option.some.inj h
              exact fw_iret (pc := 66) d_M_count_66 rfl
def f_M_isSet (a1 : Int32) (μ : fw_M) : Option (Int32) :=
  (f_M_in (Int32.toInt64 a1) 1 (Int32.toInt64 (((1 : Int32) <<< ((μ.1 0 6) &&& 31)) - 1))).bind fun (p12 : Int32) =>
  (fw_bz p12).bind fun b15 =>
  some b15
set_option maxHeartbeats 4000000 in
set_option maxRecDepth 100000 in
theorem c_M_isSet {a1 : Int32} {μ : fw_M} {r : Int32} (h : f_M_isSet a1 μ = some r) : fw_Con Y_M_isSet fw_Mo 2 [.ref 0, .int a1] (some r) μ μ := by
  refine fw_con (by decide) (Nat.le_of_ble_eq_true rfl) ?_
  rw [f_M_isSet] at h
  show fw_R "FewTypesModel" prog_11_method_31_code 2 (some .boolean) fw_Mo 2 (some r) μ 0 [(0, .ref 0), (1, .int a1)] [] μ
  refine fw_iload_n (pc := 0) d_M_isSet_0 1 rfl rfl ?_
  refine fw_i2l (pc := 1) d_M_isSet_1 ?_
  refine fw_lconst (pc := 2) d_M_isSet_2 (v := 1) (by decide) ?_
  refine fw_iconst (pc := 3) d_M_isSet_3 fw_ic1 ?_
  refine fw_aload_n (pc := 4) d_M_isSet_4 0 rfl rfl ?_
  refine fw_getI (pc := 5) d_M_isSet_5 fl_M_158 fw_Mo0 rfl ?_
  refine fw_ishl (pc := 8) d_M_isSet_8 ?_
  refine fw_iconst (pc := 9) d_M_isSet_9 fw_ic1 ?_
  refine fw_isub (pc := 10) d_M_isSet_10 ?_
  refine fw_i2l (pc := 11) d_M_isSet_11 ?_
  obtain ⟨p12, e12, h⟩ := fw_be h
  refine fw_callSi (pc := 12) d_M_isSet_12 ms_M_94 (c_M_in e12) (by decide) rfl rfl (Nat.le_of_ble_eq_true rfl) ?_
  obtain ⟨b15, e15, h⟩ := fw_be h
  obtain rfl := Option.some.inj h
  exact fw_zret (pc := 15) d_M_isSet_15 rfl e15
def f_M_prints (a1 : Int32) (a2 : Int32) (μ : fw_M) : Option (Int32) :=
  (fw_rd 10 (μ.1 1) a1).bind fun v5 =>
  Option.bind (
    if v5 = 2 then
      (fw_rd 10 (μ.1 1) a1).bind fun v30 =>
      if v30 = 1 then
        (fw_rd 10 (μ.1 3) a1).bind fun v40 =>
        (fw_rd 10 (μ.1 6) a2).bind fun v46 =>
        if v40 = v46 then
          some 1
        else
          some 0
      else
        some 0
    else
      (fw_rd 10 (μ.1 2) a1).bind fun v15 =>
      (fw_rd 10 (μ.1 6) a2).bind fun v21 =>
      if v15 = v21 then
        some 1
      else
        (fw_rd 10 (μ.1 1) a1).bind fun v30 =>
        if v30 = 1 then
          (fw_rd 10 (μ.1 3) a1).bind fun v40 =>
          (fw_rd 10 (μ.1 6) a2).bind fun v46 =>
          if v40 = v46 then
            some 1
          else
            some 0
        else
          some 0) fun (j7 : Int32) =>
  (fw_bz j7).bind fun b55 =>
  some b55
set_option maxHeartbeats 4000000 in
set_option maxRecDepth 100000 in
theorem c_M_prints {a1 : Int32} {a2 : Int32} {μ : fw_M} {r : Int32} (h : f_M_prints a1 a2 μ = some r) : fw_Con Y_M_prints fw_Mo 1 [.ref 0, .int a1, .int a2] (some r) μ μ := by
  refine fw_con (by decide) (Nat.le_of_ble_eq_true rfl) ?_
  rw [f_M_prints] at h
  show fw_R "FewTypesModel" prog_11_method_25_code 3 (some .boolean) fw_Mo 1 (some r) μ 0 [(0, .ref 0), (1, .int a1), (2, .int a2)] [] μ
  refine fw_aload_n (pc := 0) d_M_prints_0 0 rfl rfl ?_
  refine fw_getR (pc := 1) d_M_prints_1 fl_M_7 fw_Mo0 rfl ?_
  refine fw_iload_n (pc := 4) d_M_prints_4 1 rfl rfl ?_
  obtain ⟨v5, e5, h⟩ := fw_be h
  refine fw_iald (pc := 5) d_M_prints_5 fw_Mo1 e5 ?_
  refine fw_iconst (pc := 6) d_M_prints_6 fw_ic2 ?_
  obtain ⟨j7, w7, h⟩ := fw_be h
  have hJ7 : fw_R "FewTypesModel" prog_11_method_25_code 3 (some .boolean) fw_Mo 1 (some r) μ 55 [] [.int j7] μ := by
    obtain ⟨b55, e55, h⟩ := fw_be h
    obtain rfl := Option.some.inj h
    exact fw_zret (pc := 55) d_M_prints_55 rfl e55
  clear h
  have h := w7
  clear w7
  refine fw_icmp_eq (pc := 7) (tgt := 25) d_M_prints_7 rfl (fun hc => ?_) (fun hc => ?_)
  · have h := fw_it hc h
    refine fw_aload_n (pc := 25) d_M_prints_25 0 rfl rfl ?_
    refine fw_getR (pc := 26) d_M_prints_26 fl_M_7 fw_Mo0 rfl ?_
    refine fw_iload_n (pc := 29) d_M_prints_29 1 rfl rfl ?_
    obtain ⟨v30, e30, h⟩ := fw_be h
    refine fw_iald (pc := 30) d_M_prints_30 fw_Mo1 e30 ?_
    refine fw_iconst (pc := 31) d_M_prints_31 fw_ic1 ?_
    refine fw_icmp_ne (pc := 32) (tgt := 54) d_M_prints_32 rfl (fun hc => ?_) (fun hc => ?_)
    · have h := fw_it hc h
      refine fw_aload_n (pc := 35) d_M_prints_35 0 rfl rfl ?_
      refine fw_getR (pc := 36) d_M_prints_36 fl_M_16 fw_Mo0 rfl ?_
      refine fw_iload_n (pc := 39) d_M_prints_39 1 rfl rfl ?_
      obtain ⟨v40, e40, h⟩ := fw_be h
      refine fw_iald (pc := 40) d_M_prints_40 fw_Mo3 e40 ?_
      refine fw_aload_n (pc := 41) d_M_prints_41 0 rfl rfl ?_
      refine fw_getR (pc := 42) d_M_prints_42 fl_M_25 fw_Mo0 rfl ?_
      refine fw_iload_n (pc := 45) d_M_prints_45 2 rfl rfl ?_
      obtain ⟨v46, e46, h⟩ := fw_be h
      refine fw_iald (pc := 46) d_M_prints_46 fw_Mo6 e46 ?_
      refine fw_icmp_ne (pc := 47) (tgt := 54) d_M_prints_47 rfl (fun hc => ?_) (fun hc => ?_)
      · have h := fw_it hc h
        refine fw_iconst (pc := 50) d_M_prints_50 fw_ic1 ?_
        refine fw_goto (pc := 51) (tgt := 55) d_M_prints_51 rfl ?_
        obtain rfl := Option.some.inj h
        exact fw_sub [] rfl hJ7
      · have h := fw_if hc h
        refine fw_iconst (pc := 54) d_M_prints_54 fw_ic0 ?_
        obtain rfl := Option.some.inj h
        exact fw_sub [] rfl hJ7
    · have h := fw_if hc h
      refine fw_iconst (pc := 54) d_M_prints_54 fw_ic0 ?_
      obtain rfl := Option.some.inj h
      exact fw_sub [] rfl hJ7
  · have h := fw_if hc h
    refine fw_aload_n (pc := 10) d_M_prints_10 0 rfl rfl ?_
    refine fw_getR (pc := 11) d_M_prints_11 fl_M_13 fw_Mo0 rfl ?_
    refine fw_iload_n (pc := 14) d_M_prints_14 1 rfl rfl ?_
    obtain ⟨v15, e15, h⟩ := fw_be h
    refine fw_iald (pc := 15) d_M_prints_15 fw_Mo2 e15 ?_
    refine fw_aload_n (pc := 16) d_M_prints_16 0 rfl rfl ?_
    refine fw_getR (pc := 17) d_M_prints_17 fl_M_25 fw_Mo0 rfl ?_
    refine fw_iload_n (pc := 20) d_M_prints_20 2 rfl rfl ?_
    obtain ⟨v21, e21, h⟩ := fw_be h
    refine fw_iald (pc := 21) d_M_prints_21 fw_Mo6 e21 ?_
    refine fw_icmp_eq (pc := 22) (tgt := 50) d_M_prints_22 rfl (fun hc => ?_) (fun hc => ?_)
    · have h := fw_it hc h
      refine fw_iconst (pc := 50) d_M_prints_50 fw_ic1 ?_
      refine fw_goto (pc := 51) (tgt := 55) d_M_prints_51 rfl ?_
      obtain rfl := Option.some.inj h
      exact fw_sub [] rfl hJ7
    · have h := fw_if hc h
      refine fw_aload_n (pc := 25) d_M_prints_25 0 rfl rfl ?_
      refine fw_getR (pc := 26) d_M_prints_26 fl_M_7 fw_Mo0 rfl ?_
      refine fw_iload_n (pc := 29) d_M_prints_29 1 rfl rfl ?_
      obtain ⟨v30, e30, h⟩ := fw_be h
      refine fw_iald (pc := 30) d_M_prints_30 fw_Mo1 e30 ?_
      refine fw_iconst (pc := 31) d_M_prints_31 fw_ic1 ?_
      refine fw_icmp_ne (pc := 32) (tgt := 54) d_M_prints_32 rfl (fun hc => ?_) (fun hc => ?_)
      · have h := fw_it hc h
        refine fw_aload_n (pc := 35) d_M_prints_35 0 rfl rfl ?_
        refine fw_getR (pc := 36) d_M_prints_36 fl_M_16 fw_Mo0 rfl ?_
        refine fw_iload_n (pc := 39) d_M_prints_39 1 rfl rfl ?_
        obtain ⟨v40, e40, h⟩ := fw_be h
        refine fw_iald (pc := 40) d_M_prints_40 fw_Mo3 e40 ?_
        refine fw_aload_n (pc := 41) d_M_prints_41 0 rfl rfl ?_
        refine fw_getR (pc := 42) d_M_prints_42 fl_M_25 fw_Mo0 rfl ?_
        refine fw_iload_n (pc := 45) d_M_prints_45 2 rfl rfl ?_
        obtain ⟨v46, e46, h⟩ := fw_be h
        refine fw_iald (pc := 46) d_M_prints_46 fw_Mo6 e46 ?_
        refine fw_icmp_ne (pc := 47) (tgt := 54) d_M_prints_47 rfl (fun hc => ?_) (fun hc => ?_)
        · have h := fw_it hc h
          refine fw_iconst (pc := 50) d_M_prints_50 fw_ic1 ?_
          refine fw_goto (pc := 51) (tgt := 55) d_M_prints_51 rfl ?_
          obtain rfl := Option.some.inj h
          exact fw_sub [] rfl hJ7
        · have h := fw_if hc h
          refine fw_iconst (pc := 54) d_M_prints_54 fw_ic0 ?_
          obtain rfl := Option.some.inj h
          exact fw_sub [] rfl hJ7
      · have h := fw_if hc h
        refine fw_iconst (pc := 54) d_M_prints_54 fw_ic0 ?_
        obtain rfl := Option.some.inj h
        exact fw_sub [] rfl hJ7
def f_M_isClose (a1 : Int32) (a2 : Int32) (μ : fw_M) : Option (Int32) :=
  (fw_rd 3 (μ.1 5) 0).bind fun v5 =>
  Option.bind (
    if v5 = 1 then
      (f_M_isBeside a1 μ).bind fun (p12 : Int32) =>
      if p12 = 0 then
        some 0
      else
        if ((a2 >>> ((a1 + 1) &&& 31)) &&& 1) = 1 then
          some 1
        else
          some 0
    else
      some 0) fun (j7 : Int32) =>
  (fw_bz j7).bind fun b34 =>
  some b34
set_option maxHeartbeats 4000000 in
set_option maxRecDepth 100000 in
theorem c_M_isClose {a1 : Int32} {a2 : Int32} {μ : fw_M} {r : Int32} (h : f_M_isClose a1 a2 μ = some r) : fw_Con Y_M_isClose fw_Mo 2 [.ref 0, .int a1, .int a2] (some r) μ μ := by
  refine fw_con (by decide) (Nat.le_of_ble_eq_true rfl) ?_
  rw [f_M_isClose] at h
  show fw_R "FewTypesModel" prog_11_method_27_code 3 (some .boolean) fw_Mo 2 (some r) μ 0 [(0, .ref 0), (1, .int a1), (2, .int a2)] [] μ
  refine fw_aload_n (pc := 0) d_M_isClose_0 0 rfl rfl ?_
  refine fw_getR (pc := 1) d_M_isClose_1 fl_M_22 fw_Mo0 rfl ?_
  refine fw_iconst (pc := 4) d_M_isClose_4 fw_ic0 ?_
  obtain ⟨v5, e5, h⟩ := fw_be h
  refine fw_iald (pc := 5) d_M_isClose_5 fw_Mo5 e5 ?_
  refine fw_iconst (pc := 6) d_M_isClose_6 fw_ic1 ?_
  obtain ⟨j7, w7, h⟩ := fw_be h
  have hJ7 : fw_R "FewTypesModel" prog_11_method_27_code 3 (some .boolean) fw_Mo 2 (some r) μ 34 [] [.int j7] μ := by
    obtain ⟨b34, e34, h⟩ := fw_be h
    obtain rfl := Option.some.inj h
    exact fw_zret (pc := 34) d_M_isClose_34 rfl e34
  clear h
  have h := w7
  clear w7
  refine fw_icmp_ne (pc := 7) (tgt := 33) d_M_isClose_7 rfl (fun hc => ?_) (fun hc => ?_)
  · have h := fw_it hc h
    refine fw_aload_n (pc := 10) d_M_isClose_10 0 rfl rfl ?_
    refine fw_iload_n (pc := 11) d_M_isClose_11 1 rfl rfl ?_
    obtain ⟨p12, e12, h⟩ := fw_be h
    refine fw_callVi (pc := 12) d_M_isClose_12 mv_M_171 fw_Mo0 (c_M_isBeside e12) (by decide) rfl rfl (Nat.le_of_ble_eq_true rfl) ?_
    refine fw_if_eq (pc := 15) (tgt := 33) d_M_isClose_15 rfl (fun hc => ?_) (fun hc => ?_)
    · have h := fw_it hc h
      refine fw_iconst (pc := 33) d_M_isClose_33 fw_ic0 ?_
      obtain rfl := Option.some.inj h
      exact fw_sub [] rfl hJ7
    · have h := fw_if hc h
      refine fw_iload_n (pc := 18) d_M_isClose_18 2 rfl rfl ?_
      refine fw_iload_n (pc := 19) d_M_isClose_19 1 rfl rfl ?_
      refine fw_iconst (pc := 20) d_M_isClose_20 fw_ic1 ?_
      refine fw_iadd (pc := 21) d_M_isClose_21 ?_
      refine fw_ishr (pc := 22) d_M_isClose_22 ?_
      refine fw_iconst (pc := 23) d_M_isClose_23 fw_ic1 ?_
      refine fw_iand (pc := 24) d_M_isClose_24 ?_
      refine fw_iconst (pc := 25) d_M_isClose_25 fw_ic1 ?_
      refine fw_icmp_ne (pc := 26) (tgt := 33) d_M_isClose_26 rfl (fun hc => ?_) (fun hc => ?_)
      · have h := fw_it hc h
        refine fw_iconst (pc := 29) d_M_isClose_29 fw_ic1 ?_
        refine fw_goto (pc := 30) (tgt := 34) d_M_isClose_30 rfl ?_
        obtain rfl := Option.some.inj h
        exact fw_sub [] rfl hJ7
      · have h := fw_if hc h
        refine fw_iconst (pc := 33) d_M_isClose_33 fw_ic0 ?_
        obtain rfl := Option.some.inj h
        exact fw_sub [] rfl hJ7
  · have h := fw_if hc h
    refine fw_iconst (pc := 33) d_M_isClose_33 fw_ic0 ?_
    obtain rfl := Option.some.inj h
    exact fw_sub [] rfl hJ7
