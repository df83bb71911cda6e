abbrev Y_M_clashes : fw_Y := (⟨"FewTypesModel", "clashes", "(I)I"⟩, prog_11_method_41_code, 5, (some .int))
abbrev Y_M_turns : fw_Y := (⟨"FewTypesModel", "turns", "(I)Z"⟩, prog_11_method_40_code, 7, (some .boolean))
abbrev Y_M_order : fw_Y := (⟨"FewTypesModel", "order", "(I)I"⟩, prog_11_method_42_code, 8, (some .int))
theorem cl_M_215 : Cond.constantLong "FewTypesModel" 215 (-2) ∈ fw_tb := fw_m 1124 (by decide +kernel) (by decide +kernel)
theorem fl_M_62 : fw_FL "FewTypesModel" 62 9 26 := ⟨_, _, _, rfl, fw_i9, by decide, fw_m 879 (by decide +kernel) (by decide +kernel)⟩
theorem mv_M_217 : fw_MV "FewTypesModel" 217 Y_M_clashes 9 1 := ⟨fw_m 1125 (by decide +kernel) (by decide +kernel), fw_m 1127 (by decide +kernel) (by decide +kernel), fw_m 51 (by decide +kernel) (by decide +kernel), fw_m 70 (by decide +kernel) (by decide +kernel), fw_m 1128 (by decide +kernel) (by decide +kernel), ⟨by decide +kernel, by decide +kernel, by decide +kernel⟩, by decide, _, _, rfl⟩
theorem fl_M_68 : fw_FL "FewTypesModel" 68 9 28 := ⟨_, _, _, rfl, fw_i9, by decide, fw_m 881 (by decide +kernel) (by decide +kernel)⟩
theorem fl_M_65 : fw_FL "FewTypesModel" 65 9 27 := ⟨_, _, _, rfl, fw_i9, by decide, fw_m 880 (by decide +kernel) (by decide +kernel)⟩
theorem mv_M_220 : fw_MV "FewTypesModel" 220 Y_M_turns 9 1 := ⟨fw_m 1129 (by decide +kernel) (by decide +kernel), fw_m 1131 (by decide +kernel) (by decide +kernel), fw_m 52 (by decide +kernel) (by decide +kernel), fw_m 70 (by decide +kernel) (by decide +kernel), fw_m 1132 (by decide +kernel) (by decide +kernel), ⟨by decide +kernel, by decide +kernel, by decide +kernel⟩, by decide, _, _, rfl⟩
theorem d_M_clashes_0 : decode prog_11_method_41_code 0 = .ok (.iconst 0, 1) := by decide +kernel
theorem d_M_clashes_1 : decode prog_11_method_41_code 1 = .ok (.istore_n 2, 1) := by decide +kernel
theorem d_M_clashes_2 : decode prog_11_method_41_code 2 = .ok (.iload_n 2, 1) := by decide +kernel
theorem d_M_clashes_3 : decode prog_11_method_41_code 3 = .ok (.iload_n 1, 1) := by decide +kernel
theorem d_M_clashes_4 : decode prog_11_method_41_code 4 = .ok (.if_icmp .ge 73, 3) := by decide +kernel
theorem d_M_clashes_7 : decode prog_11_method_41_code 7 = .ok (.iconst 0, 1) := by decide +kernel
theorem d_M_clashes_8 : decode prog_11_method_41_code 8 = .ok (.istore_n 3, 1) := by decide +kernel
theorem d_M_clashes_9 : decode prog_11_method_41_code 9 = .ok (.iload_n 3, 1) := by decide +kernel
theorem d_M_clashes_10 : decode prog_11_method_41_code 10 = .ok (.aload_n 0, 1) := by decide +kernel
theorem d_M_clashes_11 : decode prog_11_method_41_code 11 = .ok (.getfield 158, 3) := by decide +kernel
theorem d_M_clashes_14 : decode prog_11_method_41_code 14 = .ok (.if_icmp .ge 57, 3) := by decide +kernel
theorem d_M_clashes_17 : decode prog_11_method_41_code 17 = .ok (.aload_n 0, 1) := by decide +kernel
theorem d_M_clashes_18 : decode prog_11_method_41_code 18 = .ok (.getfield 68, 3) := by decide +kernel
theorem d_M_clashes_21 : decode prog_11_method_41_code 21 = .ok (.iload_n 3, 1) := by decide +kernel
theorem d_M_clashes_22 : decode prog_11_method_41_code 22 = .ok (.aload_n 0, 1) := by decide +kernel
theorem d_M_clashes_23 : decode prog_11_method_41_code 23 = .ok (.getfield 59, 3) := by decide +kernel
theorem d_M_clashes_26 : decode prog_11_method_41_code 26 = .ok (.aload_n 0, 1) := by decide +kernel
theorem d_M_clashes_27 : decode prog_11_method_41_code 27 = .ok (.getfield 62, 3) := by decide +kernel
theorem d_M_clashes_30 : decode prog_11_method_41_code 30 = .ok (.iload_n 2, 1) := by decide +kernel
theorem d_M_clashes_31 : decode prog_11_method_41_code 31 = .ok (.iaload, 1) := by decide +kernel
theorem d_M_clashes_32 : decode prog_11_method_41_code 32 = .ok (.iaload, 1) := by decide +kernel
theorem d_M_clashes_33 : decode prog_11_method_41_code 33 = .ok (.iload_n 3, 1) := by decide +kernel
theorem d_M_clashes_34 : decode prog_11_method_41_code 34 = .ok (.ishr, 1) := by decide +kernel
theorem d_M_clashes_35 : decode prog_11_method_41_code 35 = .ok (.iconst 1, 1) := by decide +kernel
theorem d_M_clashes_36 : decode prog_11_method_41_code 36 = .ok (.iand, 1) := by decide +kernel
theorem d_M_clashes_37 : decode prog_11_method_41_code 37 = .ok (.iconst 1, 1) := by decide +kernel
theorem d_M_clashes_38 : decode prog_11_method_41_code 38 = .ok (.if_icmp .ne 20, 3) := by decide +kernel
theorem d_M_clashes_41 : decode prog_11_method_41_code 41 = .ok (.aload_n 0, 1) := by decide +kernel
theorem d_M_clashes_42 : decode prog_11_method_41_code 42 = .ok (.iload_n 3, 1) := by decide +kernel
theorem d_M_clashes_43 : decode prog_11_method_41_code 43 = .ok (.invokevirtual 167, 3) := by decide +kernel
theorem d_M_clashes_46 : decode prog_11_method_41_code 46 = .ok (.iload_n 2, 1) := by decide +kernel
theorem d_M_clashes_47 : decode prog_11_method_41_code 47 = .ok (.aload_n 0, 1) := by decide +kernel
theorem d_M_clashes_48 : decode prog_11_method_41_code 48 = .ok (.getfield 22, 3) := by decide +kernel
theorem d_M_clashes_51 : decode prog_11_method_41_code 51 = .ok (.iconst 1, 1) := by decide +kernel
theorem d_M_clashes_52 : decode prog_11_method_41_code 52 = .ok (.iaload, 1) := by decide +kernel
theorem d_M_clashes_53 : decode prog_11_method_41_code 53 = .ok (.imul, 1) := by decide +kernel
theorem d_M_clashes_54 : decode prog_11_method_41_code 54 = .ok (.iadd, 1) := by decide +kernel
theorem d_M_clashes_55 : decode prog_11_method_41_code 55 = .ok (.goto 9, 3) := by decide +kernel
theorem d_M_clashes_58 : decode prog_11_method_41_code 58 = .ok (.aload_n 0, 1) := by decide +kernel
theorem d_M_clashes_59 : decode prog_11_method_41_code 59 = .ok (.getfield 68, 3) := by decide +kernel
theorem d_M_clashes_62 : decode prog_11_method_41_code 62 = .ok (.iload_n 3, 1) := by decide +kernel
theorem d_M_clashes_63 : decode prog_11_method_41_code 63 = .ok (.iaload, 1) := by decide +kernel
theorem d_M_clashes_64 : decode prog_11_method_41_code 64 = .ok (.iastore, 1) := by decide +kernel
theorem d_M_clashes_65 : decode prog_11_method_41_code 65 = .ok (.iinc 3 1, 3) := by decide +kernel
theorem d_M_clashes_68 : decode prog_11_method_41_code 68 = .ok (.goto (-59), 3) := by decide +kernel
theorem d_M_clashes_71 : decode prog_11_method_41_code 71 = .ok (.iinc 2 1, 3) := by decide +kernel
theorem d_M_clashes_74 : decode prog_11_method_41_code 74 = .ok (.goto (-72), 3) := by decide +kernel
theorem d_M_clashes_77 : decode prog_11_method_41_code 77 = .ok (.iconst 0, 1) := by decide +kernel
theorem d_M_clashes_78 : decode prog_11_method_41_code 78 = .ok (.istore_n 2, 1) := by decide +kernel
theorem d_M_clashes_79 : decode prog_11_method_41_code 79 = .ok (.iconst 0, 1) := by decide +kernel
theorem d_M_clashes_80 : decode prog_11_method_41_code 80 = .ok (.istore_n 3, 1) := by decide +kernel
theorem d_M_clashes_81 : decode prog_11_method_41_code 81 = .ok (.iload_n 3, 1) := by decide +kernel
theorem d_M_clashes_82 : decode prog_11_method_41_code 82 = .ok (.aload_n 0, 1) := by decide +kernel
theorem d_M_clashes_83 : decode prog_11_method_41_code 83 = .ok (.getfield 158, 3) := by decide +kernel
theorem d_M_clashes_86 : decode prog_11_method_41_code 86 = .ok (.if_icmp .ge 94, 3) := by decide +kernel
theorem d_M_clashes_89 : decode prog_11_method_41_code 89 = .ok (.iload_n 3, 1) := by decide +kernel
theorem d_M_clashes_90 : decode prog_11_method_41_code 90 = .ok (.iconst 1, 1) := by decide +kernel
theorem d_M_clashes_91 : decode prog_11_method_41_code 91 = .ok (.iadd, 1) := by decide +kernel
theorem d_M_clashes_92 : decode prog_11_method_41_code 92 = .ok (.istore 4, 2) := by decide +kernel
theorem d_M_clashes_94 : decode prog_11_method_41_code 94 = .ok (.iload 4, 2) := by decide +kernel
theorem d_M_clashes_96 : decode prog_11_method_41_code 96 = .ok (.aload_n 0, 1) := by decide +kernel
theorem d_M_clashes_97 : decode prog_11_method_41_code 97 = .ok (.getfield 158, 3) := by decide +kernel
theorem d_M_clashes_100 : decode prog_11_method_41_code 100 = .ok (.if_icmp .ge 74, 3) := by decide +kernel
theorem d_M_clashes_103 : decode prog_11_method_41_code 103 = .ok (.iload_n 2, 1) := by decide +kernel
theorem d_M_clashes_104 : decode prog_11_method_41_code 104 = .ok (.aload_n 0, 1) := by decide +kernel
theorem d_M_clashes_105 : decode prog_11_method_41_code 105 = .ok (.getfield 68, 3) := by decide +kernel
theorem d_M_clashes_108 : decode prog_11_method_41_code 108 = .ok (.iload_n 3, 1) := by decide +kernel
theorem d_M_clashes_109 : decode prog_11_method_41_code 109 = .ok (.iaload, 1) := by decide +kernel
theorem d_M_clashes_110 : decode prog_11_method_41_code 110 = .ok (.aload_n 0, 1) := by decide +kernel
theorem d_M_clashes_111 : decode prog_11_method_41_code 111 = .ok (.getfield 68, 3) := by decide +kernel
theorem d_M_clashes_114 : decode prog_11_method_41_code 114 = .ok (.iload 4, 2) := by decide +kernel
theorem d_M_clashes_116 : decode prog_11_method_41_code 116 = .ok (.iaload, 1) := by decide +kernel
theorem d_M_clashes_117 : decode prog_11_method_41_code 117 = .ok (.aload_n 0, 1) := by decide +kernel
theorem d_M_clashes_118 : decode prog_11_method_41_code 118 = .ok (.getfield 19, 3) := by decide +kernel
theorem d_M_clashes_121 : decode prog_11_method_41_code 121 = .ok (.aload_n 0, 1) := by decide +kernel
theorem d_M_clashes_122 : decode prog_11_method_41_code 122 = .ok (.getfield 25, 3) := by decide +kernel
theorem d_M_clashes_125 : decode prog_11_method_41_code 125 = .ok (.iload 4, 2) := by decide +kernel
theorem d_M_clashes_127 : decode prog_11_method_41_code 127 = .ok (.iaload, 1) := by decide +kernel
theorem d_M_clashes_128 : decode prog_11_method_41_code 128 = .ok (.iaload, 1) := by decide +kernel
theorem d_M_clashes_129 : decode prog_11_method_41_code 129 = .ok (.iadd, 1) := by decide +kernel
theorem d_M_clashes_130 : decode prog_11_method_41_code 130 = .ok (.if_icmp .ge 35, 3) := by decide +kernel
theorem d_M_clashes_133 : decode prog_11_method_41_code 133 = .ok (.aload_n 0, 1) := by decide +kernel
theorem d_M_clashes_134 : decode prog_11_method_41_code 134 = .ok (.getfield 68, 3) := by decide +kernel
theorem d_M_clashes_137 : decode prog_11_method_41_code 137 = .ok (.iload 4, 2) := by decide +kernel
theorem d_M_clashes_139 : decode prog_11_method_41_code 139 = .ok (.iaload, 1) := by decide +kernel
theorem d_M_clashes_140 : decode prog_11_method_41_code 140 = .ok (.aload_n 0, 1) := by decide +kernel
theorem d_M_clashes_141 : decode prog_11_method_41_code 141 = .ok (.getfield 68, 3) := by decide +kernel
theorem d_M_clashes_144 : decode prog_11_method_41_code 144 = .ok (.iload_n 3, 1) := by decide +kernel
theorem d_M_clashes_145 : decode prog_11_method_41_code 145 = .ok (.iaload, 1) := by decide +kernel
theorem d_M_clashes_146 : decode prog_11_method_41_code 146 = .ok (.aload_n 0, 1) := by decide +kernel
theorem d_M_clashes_147 : decode prog_11_method_41_code 147 = .ok (.getfield 19, 3) := by decide +kernel
theorem d_M_clashes_150 : decode prog_11_method_41_code 150 = .ok (.aload_n 0, 1) := by decide +kernel
theorem d_M_clashes_151 : decode prog_11_method_41_code 151 = .ok (.getfield 25, 3) := by decide +kernel
theorem d_M_clashes_154 : decode prog_11_method_41_code 154 = .ok (.iload_n 3, 1) := by decide +kernel
theorem d_M_clashes_155 : decode prog_11_method_41_code 155 = .ok (.iaload, 1) := by decide +kernel
theorem d_M_clashes_156 : decode prog_11_method_41_code 156 = .ok (.iaload, 1) := by decide +kernel
theorem d_M_clashes_157 : decode prog_11_method_41_code 157 = .ok (.iadd, 1) := by decide +kernel
theorem d_M_clashes_158 : decode prog_11_method_41_code 158 = .ok (.if_icmp .ge 7, 3) := by decide +kernel
theorem d_M_clashes_161 : decode prog_11_method_41_code 161 = .ok (.iconst 1, 1) := by decide +kernel
theorem d_M_clashes_162 : decode prog_11_method_41_code 162 = .ok (.goto 4, 3) := by decide +kernel
theorem d_M_clashes_165 : decode prog_11_method_41_code 165 = .ok (.iconst 0, 1) := by decide +kernel
theorem d_M_clashes_166 : decode prog_11_method_41_code 166 = .ok (.iadd, 1) := by decide +kernel
theorem d_M_clashes_167 : decode prog_11_method_41_code 167 = .ok (.istore_n 2, 1) := by decide +kernel
theorem d_M_clashes_168 : decode prog_11_method_41_code 168 = .ok (.iinc 4 1, 3) := by decide +kernel
theorem d_M_clashes_171 : decode prog_11_method_41_code 171 = .ok (.goto (-77), 3) := by decide +kernel
theorem d_M_clashes_174 : decode prog_11_method_41_code 174 = .ok (.iinc 3 1, 3) := by decide +kernel
theorem d_M_clashes_177 : decode prog_11_method_41_code 177 = .ok (.goto (-96), 3) := by decide +kernel
theorem d_M_clashes_180 : decode prog_11_method_41_code 180 = .ok (.iload_n 2, 1) := by decide +kernel
theorem d_M_clashes_181 : decode prog_11_method_41_code 181 = .ok (.ireturn, 1) := by decide +kernel
theorem d_M_turns_0 : decode prog_11_method_40_code 0 = .ok (.iload_n 1, 1) := by decide +kernel
theorem d_M_turns_1 : decode prog_11_method_40_code 1 = .ok (.iconst 2, 1) := by decide +kernel
theorem d_M_turns_2 : decode prog_11_method_40_code 2 = .ok (.isub, 1) := by decide +kernel
theorem d_M_turns_3 : decode prog_11_method_40_code 3 = .ok (.istore_n 2, 1) := by decide +kernel
theorem d_M_turns_4 : decode prog_11_method_40_code 4 = .ok (.iload_n 2, 1) := by decide +kernel
theorem d_M_turns_5 : decode prog_11_method_40_code 5 = .ok (.ifCond .lt 26, 3) := by decide +kernel
theorem d_M_turns_8 : decode prog_11_method_40_code 8 = .ok (.aload_n 0, 1) := by decide +kernel
theorem d_M_turns_9 : decode prog_11_method_40_code 9 = .ok (.getfield 62, 3) := by decide +kernel
theorem d_M_turns_12 : decode prog_11_method_40_code 12 = .ok (.iload_n 2, 1) := by decide +kernel
theorem d_M_turns_13 : decode prog_11_method_40_code 13 = .ok (.iaload, 1) := by decide +kernel
theorem d_M_turns_14 : decode prog_11_method_40_code 14 = .ok (.aload_n 0, 1) := by decide +kernel
theorem d_M_turns_15 : decode prog_11_method_40_code 15 = .ok (.getfield 62, 3) := by decide +kernel
theorem d_M_turns_18 : decode prog_11_method_40_code 18 = .ok (.iload_n 2, 1) := by decide +kernel
theorem d_M_turns_19 : decode prog_11_method_40_code 19 = .ok (.iconst 1, 1) := by decide +kernel
theorem d_M_turns_20 : decode prog_11_method_40_code 20 = .ok (.iadd, 1) := by decide +kernel
theorem d_M_turns_21 : decode prog_11_method_40_code 21 = .ok (.iaload, 1) := by decide +kernel
theorem d_M_turns_22 : decode prog_11_method_40_code 22 = .ok (.if_icmp .le 9, 3) := by decide +kernel
theorem d_M_turns_25 : decode prog_11_method_40_code 25 = .ok (.iinc 2 (-1), 3) := by decide +kernel
theorem d_M_turns_28 : decode prog_11_method_40_code 28 = .ok (.goto (-24), 3) := by decide +kernel
theorem d_M_turns_31 : decode prog_11_method_40_code 31 = .ok (.iload_n 2, 1) := by decide +kernel
theorem d_M_turns_32 : decode prog_11_method_40_code 32 = .ok (.ifCond .ge 5, 3) := by decide +kernel
theorem d_M_turns_35 : decode prog_11_method_40_code 35 = .ok (.iconst 0, 1) := by decide +kernel
theorem d_M_turns_36 : decode prog_11_method_40_code 36 = .ok (.ireturn, 1) := by decide +kernel
theorem d_M_turns_37 : decode prog_11_method_40_code 37 = .ok (.iload_n 1, 1) := by decide +kernel
theorem d_M_turns_38 : decode prog_11_method_40_code 38 = .ok (.iconst 1, 1) := by decide +kernel
theorem d_M_turns_39 : decode prog_11_method_40_code 39 = .ok (.isub, 1) := by decide +kernel
theorem d_M_turns_40 : decode prog_11_method_40_code 40 = .ok (.istore_n 3, 1) := by decide +kernel
theorem d_M_turns_41 : decode prog_11_method_40_code 41 = .ok (.aload_n 0, 1) := by decide +kernel
theorem d_M_turns_42 : decode prog_11_method_40_code 42 = .ok (.getfield 62, 3) := by decide +kernel
theorem d_M_turns_45 : decode prog_11_method_40_code 45 = .ok (.iload_n 3, 1) := by decide +kernel
theorem d_M_turns_46 : decode prog_11_method_40_code 46 = .ok (.iaload, 1) := by decide +kernel
theorem d_M_turns_47 : decode prog_11_method_40_code 47 = .ok (.aload_n 0, 1) := by decide +kernel
theorem d_M_turns_48 : decode prog_11_method_40_code 48 = .ok (.getfield 62, 3) := by decide +kernel
theorem d_M_turns_51 : decode prog_11_method_40_code 51 = .ok (.iload_n 2, 1) := by decide +kernel
theorem d_M_turns_52 : decode prog_11_method_40_code 52 = .ok (.iaload, 1) := by decide +kernel
theorem d_M_turns_53 : decode prog_11_method_40_code 53 = .ok (.if_icmp .ge 9, 3) := by decide +kernel
theorem d_M_turns_56 : decode prog_11_method_40_code 56 = .ok (.iinc 3 (-1), 3) := by decide +kernel
theorem d_M_turns_59 : decode prog_11_method_40_code 59 = .ok (.goto (-18), 3) := by decide +kernel
theorem d_M_turns_62 : decode prog_11_method_40_code 62 = .ok (.aload_n 0, 1) := by decide +kernel
theorem d_M_turns_63 : decode prog_11_method_40_code 63 = .ok (.getfield 62, 3) := by decide +kernel
theorem d_M_turns_66 : decode prog_11_method_40_code 66 = .ok (.iload_n 2, 1) := by decide +kernel
theorem d_M_turns_67 : decode prog_11_method_40_code 67 = .ok (.iaload, 1) := by decide +kernel
theorem d_M_turns_68 : decode prog_11_method_40_code 68 = .ok (.istore 4, 2) := by decide +kernel
theorem d_M_turns_70 : decode prog_11_method_40_code 70 = .ok (.aload_n 0, 1) := by decide +kernel
theorem d_M_turns_71 : decode prog_11_method_40_code 71 = .ok (.getfield 62, 3) := by decide +kernel
theorem d_M_turns_74 : decode prog_11_method_40_code 74 = .ok (.iload_n 2, 1) := by decide +kernel
theorem d_M_turns_75 : decode prog_11_method_40_code 75 = .ok (.aload_n 0, 1) := by decide +kernel
theorem d_M_turns_76 : decode prog_11_method_40_code 76 = .ok (.getfield 62, 3) := by decide +kernel
theorem d_M_turns_79 : decode prog_11_method_40_code 79 = .ok (.iload_n 3, 1) := by decide +kernel
theorem d_M_turns_80 : decode prog_11_method_40_code 80 = .ok (.iaload, 1) := by decide +kernel
theorem d_M_turns_81 : decode prog_11_method_40_code 81 = .ok (.iastore, 1) := by decide +kernel
theorem d_M_turns_82 : decode prog_11_method_40_code 82 = .ok (.aload_n 0, 1) := by decide +kernel
theorem d_M_turns_83 : decode prog_11_method_40_code 83 = .ok (.getfield 62, 3) := by decide +kernel
theorem d_M_turns_86 : decode prog_11_method_40_code 86 = .ok (.iload_n 3, 1) := by decide +kernel
theorem d_M_turns_87 : decode prog_11_method_40_code 87 = .ok (.iload 4, 2) := by decide +kernel
theorem d_M_turns_89 : decode prog_11_method_40_code 89 = .ok (.iastore, 1) := by decide +kernel
theorem d_M_turns_90 : decode prog_11_method_40_code 90 = .ok (.iload_n 2, 1) := by decide +kernel
theorem d_M_turns_91 : decode prog_11_method_40_code 91 = .ok (.iconst 1, 1) := by decide +kernel
theorem d_M_turns_92 : decode prog_11_method_40_code 92 = .ok (.iadd, 1) := by decide +kernel
theorem d_M_turns_93 : decode prog_11_method_40_code 93 = .ok (.istore 5, 2) := by decide +kernel
theorem d_M_turns_95 : decode prog_11_method_40_code 95 = .ok (.iload_n 1, 1) := by decide +kernel
theorem d_M_turns_96 : decode prog_11_method_40_code 96 = .ok (.iconst 1, 1) := by decide +kernel
theorem d_M_turns_97 : decode prog_11_method_40_code 97 = .ok (.isub, 1) := by decide +kernel
theorem d_M_turns_98 : decode prog_11_method_40_code 98 = .ok (.istore 6, 2) := by decide +kernel
theorem d_M_turns_100 : decode prog_11_method_40_code 100 = .ok (.iload 5, 2) := by decide +kernel
theorem d_M_turns_102 : decode prog_11_method_40_code 102 = .ok (.iload 6, 2) := by decide +kernel
theorem d_M_turns_104 : decode prog_11_method_40_code 104 = .ok (.if_icmp .ge 44, 3) := by decide +kernel
theorem d_M_turns_107 : decode prog_11_method_40_code 107 = .ok (.aload_n 0, 1) := by decide +kernel
theorem d_M_turns_108 : decode prog_11_method_40_code 108 = .ok (.getfield 62, 3) := by decide +kernel
theorem d_M_turns_111 : decode prog_11_method_40_code 111 = .ok (.iload 5, 2) := by decide +kernel
theorem d_M_turns_113 : decode prog_11_method_40_code 113 = .ok (.iaload, 1) := by decide +kernel
theorem d_M_turns_114 : decode prog_11_method_40_code 114 = .ok (.istore 4, 2) := by decide +kernel
theorem d_M_turns_116 : decode prog_11_method_40_code 116 = .ok (.aload_n 0, 1) := by decide +kernel
theorem d_M_turns_117 : decode prog_11_method_40_code 117 = .ok (.getfield 62, 3) := by decide +kernel
theorem d_M_turns_120 : decode prog_11_method_40_code 120 = .ok (.iload 5, 2) := by decide +kernel
theorem d_M_turns_122 : decode prog_11_method_40_code 122 = .ok (.aload_n 0, 1) := by decide +kernel
theorem d_M_turns_123 : decode prog_11_method_40_code 123 = .ok (.getfield 62, 3) := by decide +kernel
theorem d_M_turns_126 : decode prog_11_method_40_code 126 = .ok (.iload 6, 2) := by decide +kernel
theorem d_M_turns_128 : decode prog_11_method_40_code 128 = .ok (.iaload, 1) := by decide +kernel
theorem d_M_turns_129 : decode prog_11_method_40_code 129 = .ok (.iastore, 1) := by decide +kernel
theorem d_M_turns_130 : decode prog_11_method_40_code 130 = .ok (.aload_n 0, 1) := by decide +kernel
theorem d_M_turns_131 : decode prog_11_method_40_code 131 = .ok (.getfield 62, 3) := by decide +kernel
theorem d_M_turns_134 : decode prog_11_method_40_code 134 = .ok (.iload 6, 2) := by decide +kernel
theorem d_M_turns_136 : decode prog_11_method_40_code 136 = .ok (.iload 4, 2) := by decide +kernel
theorem d_M_turns_138 : decode prog_11_method_40_code 138 = .ok (.iastore, 1) := by decide +kernel
theorem d_M_turns_139 : decode prog_11_method_40_code 139 = .ok (.iinc 5 1, 3) := by decide +kernel
theorem d_M_turns_142 : decode prog_11_method_40_code 142 = .ok (.iinc 6 (-1), 3) := by decide +kernel
theorem d_M_turns_145 : decode prog_11_method_40_code 145 = .ok (.goto (-45), 3) := by decide +kernel
theorem d_M_turns_148 : decode prog_11_method_40_code 148 = .ok (.iconst 1, 1) := by decide +kernel
theorem d_M_turns_149 : decode prog_11_method_40_code 149 = .ok (.ireturn, 1) := by decide +kernel
theorem d_M_order_0 : decode prog_11_method_42_code 0 = .ok (.iload_n 1, 1) := by decide +kernel
theorem d_M_order_1 : decode prog_11_method_42_code 1 = .ok (.i2l, 1) := by decide +kernel
theorem d_M_order_2 : decode prog_11_method_42_code 2 = .ok (.ldc2_w 215, 3) := by decide +kernel
theorem d_M_order_5 : decode prog_11_method_42_code 5 = .ok (.ldc2_w 102, 3) := by decide +kernel
theorem d_M_order_8 : decode prog_11_method_42_code 8 = .ok (.invokestatic 94, 3) := by decide +kernel
theorem d_M_order_11 : decode prog_11_method_42_code 11 = .ok (.ifCond .ne 5, 3) := by decide +kernel
theorem d_M_order_14 : decode prog_11_method_42_code 14 = .ok (.iconst (-1), 1) := by decide +kernel
theorem d_M_order_15 : decode prog_11_method_42_code 15 = .ok (.ireturn, 1) := by decide +kernel
theorem d_M_order_16 : decode prog_11_method_42_code 16 = .ok (.aload_n 0, 1) := by decide +kernel
theorem d_M_order_17 : decode prog_11_method_42_code 17 = .ok (.getfield 158, 3) := by decide +kernel
theorem d_M_order_20 : decode prog_11_method_42_code 20 = .ok (.ifCond .ne 6, 3) := by decide +kernel
theorem d_M_order_23 : decode prog_11_method_42_code 23 = .ok (.bipush (-2), 2) := by decide +kernel
theorem d_M_order_25 : decode prog_11_method_42_code 25 = .ok (.ireturn, 1) := by decide +kernel
theorem d_M_order_26 : decode prog_11_method_42_code 26 = .ok (.aload_n 0, 1) := by decide +kernel
theorem d_M_order_27 : decode prog_11_method_42_code 27 = .ok (.invokevirtual 212, 3) := by decide +kernel
theorem d_M_order_30 : decode prog_11_method_42_code 30 = .ok (.istore_n 2, 1) := by decide +kernel
theorem d_M_order_31 : decode prog_11_method_42_code 31 = .ok (.iload_n 2, 1) := by decide +kernel
theorem d_M_order_32 : decode prog_11_method_42_code 32 = .ok (.bipush 98, 2) := by decide +kernel
theorem d_M_order_34 : decode prog_11_method_42_code 34 = .ok (.if_icmp .le 6, 3) := by decide +kernel
theorem d_M_order_37 : decode prog_11_method_42_code 37 = .ok (.bipush (-4), 2) := by decide +kernel
theorem d_M_order_39 : decode prog_11_method_42_code 39 = .ok (.ireturn, 1) := by decide +kernel
theorem d_M_order_40 : decode prog_11_method_42_code 40 = .ok (.iload_n 2, 1) := by decide +kernel
theorem d_M_order_41 : decode prog_11_method_42_code 41 = .ok (.bipush 6, 2) := by decide +kernel
theorem d_M_order_43 : decode prog_11_method_42_code 43 = .ok (.if_icmp .le 6, 3) := by decide +kernel
theorem d_M_order_46 : decode prog_11_method_42_code 46 = .ok (.bipush (-3), 2) := by decide +kernel
theorem d_M_order_48 : decode prog_11_method_42_code 48 = .ok (.ireturn, 1) := by decide +kernel
theorem d_M_order_49 : decode prog_11_method_42_code 49 = .ok (.iconst 0, 1) := by decide +kernel
theorem d_M_order_50 : decode prog_11_method_42_code 50 = .ok (.istore_n 3, 1) := by decide +kernel
theorem d_M_order_51 : decode prog_11_method_42_code 51 = .ok (.iload_n 3, 1) := by decide +kernel
theorem d_M_order_52 : decode prog_11_method_42_code 52 = .ok (.iload_n 2, 1) := by decide +kernel
theorem d_M_order_53 : decode prog_11_method_42_code 53 = .ok (.if_icmp .ge 16, 3) := by decide +kernel
theorem d_M_order_56 : decode prog_11_method_42_code 56 = .ok (.aload_n 0, 1) := by decide +kernel
theorem d_M_order_57 : decode prog_11_method_42_code 57 = .ok (.getfield 62, 3) := by decide +kernel
theorem d_M_order_60 : decode prog_11_method_42_code 60 = .ok (.iload_n 3, 1) := by decide +kernel
theorem d_M_order_61 : decode prog_11_method_42_code 61 = .ok (.iload_n 3, 1) := by decide +kernel
theorem d_M_order_62 : decode prog_11_method_42_code 62 = .ok (.iastore, 1) := by decide +kernel
theorem d_M_order_63 : decode prog_11_method_42_code 63 = .ok (.iinc 3 1, 3) := by decide +kernel
theorem d_M_order_66 : decode prog_11_method_42_code 66 = .ok (.goto (-15), 3) := by decide +kernel
theorem d_M_order_69 : decode prog_11_method_42_code 69 = .ok (.aload_n 0, 1) := by decide +kernel
theorem d_M_order_70 : decode prog_11_method_42_code 70 = .ok (.iload_n 2, 1) := by decide +kernel
theorem d_M_order_71 : decode prog_11_method_42_code 71 = .ok (.invokevirtual 217, 3) := by decide +kernel
theorem d_M_order_74 : decode prog_11_method_42_code 74 = .ok (.istore_n 3, 1) := by decide +kernel
theorem d_M_order_75 : decode prog_11_method_42_code 75 = .ok (.sipush 1000, 3) := by decide +kernel
theorem d_M_order_78 : decode prog_11_method_42_code 78 = .ok (.istore 4, 2) := by decide +kernel
theorem d_M_order_80 : decode prog_11_method_42_code 80 = .ok (.iconst 1, 1) := by decide +kernel
theorem d_M_order_81 : decode prog_11_method_42_code 81 = .ok (.istore 5, 2) := by decide +kernel
theorem d_M_order_83 : decode prog_11_method_42_code 83 = .ok (.iload 5, 2) := by decide +kernel
theorem d_M_order_85 : decode prog_11_method_42_code 85 = .ok (.ifCond .eq 72, 3) := by decide +kernel
theorem d_M_order_88 : decode prog_11_method_42_code 88 = .ok (.aload_n 0, 1) := by decide +kernel
theorem d_M_order_89 : decode prog_11_method_42_code 89 = .ok (.iload_n 2, 1) := by decide +kernel
theorem d_M_order_90 : decode prog_11_method_42_code 90 = .ok (.invokevirtual 217, 3) := by decide +kernel
theorem d_M_order_93 : decode prog_11_method_42_code 93 = .ok (.istore 6, 2) := by decide +kernel
theorem d_M_order_95 : decode prog_11_method_42_code 95 = .ok (.iconst 0, 1) := by decide +kernel
theorem d_M_order_96 : decode prog_11_method_42_code 96 = .ok (.istore 7, 2) := by decide +kernel
theorem d_M_order_98 : decode prog_11_method_42_code 98 = .ok (.iload 7, 2) := by decide +kernel
theorem d_M_order_100 : decode prog_11_method_42_code 100 = .ok (.iload_n 2, 1) := by decide +kernel
theorem d_M_order_101 : decode prog_11_method_42_code 101 = .ok (.if_icmp .ge 30, 3) := by decide +kernel
theorem d_M_order_104 : decode prog_11_method_42_code 104 = .ok (.iload 6, 2) := by decide +kernel
theorem d_M_order_106 : decode prog_11_method_42_code 106 = .ok (.iload 4, 2) := by decide +kernel
theorem d_M_order_108 : decode prog_11_method_42_code 108 = .ok (.if_icmp .ge 23, 3) := by decide +kernel
theorem d_M_order_111 : decode prog_11_method_42_code 111 = .ok (.aload_n 0, 1) := by decide +kernel
theorem d_M_order_112 : decode prog_11_method_42_code 112 = .ok (.getfield 65, 3) := by decide +kernel
theorem d_M_order_115 : decode prog_11_method_42_code 115 = .ok (.iload 7, 2) := by decide +kernel
theorem d_M_order_117 : decode prog_11_method_42_code 117 = .ok (.aload_n 0, 1) := by decide +kernel
theorem d_M_order_118 : decode prog_11_method_42_code 118 = .ok (.getfield 62, 3) := by decide +kernel
theorem d_M_order_121 : decode prog_11_method_42_code 121 = .ok (.iload 7, 2) := by decide +kernel
theorem d_M_order_123 : decode prog_11_method_42_code 123 = .ok (.iaload, 1) := by decide +kernel
theorem d_M_order_124 : decode prog_11_method_42_code 124 = .ok (.iastore, 1) := by decide +kernel
theorem d_M_order_125 : decode prog_11_method_42_code 125 = .ok (.iinc 7 1, 3) := by decide +kernel
theorem d_M_order_128 : decode prog_11_method_42_code 128 = .ok (.goto (-30), 3) := by decide +kernel
theorem d_M_order_131 : decode prog_11_method_42_code 131 = .ok (.iload 6, 2) := by decide +kernel
theorem d_M_order_133 : decode prog_11_method_42_code 133 = .ok (.iload 4, 2) := by decide +kernel
theorem d_M_order_135 : decode prog_11_method_42_code 135 = .ok (.if_icmp .ge 8, 3) := by decide +kernel
theorem d_M_order_138 : decode prog_11_method_42_code 138 = .ok (.iload 6, 2) := by decide +kernel
theorem d_M_order_140 : decode prog_11_method_42_code 140 = .ok (.goto 5, 3) := by decide +kernel
theorem d_M_order_143 : decode prog_11_method_42_code 143 = .ok (.iload 4, 2) := by decide +kernel
theorem d_M_order_145 : decode prog_11_method_42_code 145 = .ok (.istore 4, 2) := by decide +kernel
theorem d_M_order_147 : decode prog_11_method_42_code 147 = .ok (.aload_n 0, 1) := by decide +kernel
theorem d_M_order_148 : decode prog_11_method_42_code 148 = .ok (.iload_n 2, 1) := by decide +kernel
theorem d_M_order_149 : decode prog_11_method_42_code 149 = .ok (.invokevirtual 220, 3) := by decide +kernel
theorem d_M_order_152 : decode prog_11_method_42_code 152 = .ok (.istore 5, 2) := by decide +kernel
theorem d_M_order_154 : decode prog_11_method_42_code 154 = .ok (.goto (-71), 3) := by decide +kernel
theorem d_M_order_157 : decode prog_11_method_42_code 157 = .ok (.iload_n 1, 1) := by decide +kernel
theorem d_M_order_158 : decode prog_11_method_42_code 158 = .ok (.iconst (-1), 1) := by decide +kernel
theorem d_M_order_159 : decode prog_11_method_42_code 159 = .ok (.if_icmp .ne 7, 3) := by decide +kernel
theorem d_M_order_162 : decode prog_11_method_42_code 162 = .ok (.iload_n 3, 1) := by decide +kernel
theorem d_M_order_163 : decode prog_11_method_42_code 163 = .ok (.goto 30, 3) := by decide +kernel
theorem d_M_order_166 : decode prog_11_method_42_code 166 = .ok (.iload_n 1, 1) := by decide +kernel
theorem d_M_order_167 : decode prog_11_method_42_code 167 = .ok (.bipush (-2), 2) := by decide +kernel
theorem d_M_order_169 : decode prog_11_method_42_code 169 = .ok (.if_icmp .ne 8, 3) := by decide +kernel
theorem d_M_order_172 : decode prog_11_method_42_code 172 = .ok (.iload 4, 2) := by decide +kernel
theorem d_M_order_174 : decode prog_11_method_42_code 174 = .ok (.goto 19, 3) := by decide +kernel
theorem d_M_order_177 : decode prog_11_method_42_code 177 = .ok (.iload_n 1, 1) := by decide +kernel
theorem d_M_order_178 : decode prog_11_method_42_code 178 = .ok (.iload_n 2, 1) := by decide +kernel
theorem d_M_order_179 : decode prog_11_method_42_code 179 = .ok (.if_icmp .ge 12, 3) := by decide +kernel
theorem d_M_order_182 : decode prog_11_method_42_code 182 = .ok (.aload_n 0, 1) := by decide +kernel
theorem d_M_order_183 : decode prog_11_method_42_code 183 = .ok (.getfield 65, 3) := by decide +kernel
theorem d_M_order_186 : decode prog_11_method_42_code 186 = .ok (.iload_n 1, 1) := by decide +kernel
theorem d_M_order_187 : decode prog_11_method_42_code 187 = .ok (.iaload, 1) := by decide +kernel
theorem d_M_order_188 : decode prog_11_method_42_code 188 = .ok (.goto 5, 3) := by decide +kernel
theorem d_M_order_191 : decode prog_11_method_42_code 191 = .ok (.bipush (-4), 2) := by decide +kernel
theorem d_M_order_193 : decode prog_11_method_42_code 193 = .ok (.ireturn, 1) := by decide +kernel
def f_M_clashes_L9 (x2_2 : Int32) : Int32 × fw_M → Option ((Int32 × fw_M) ⊕ (fw_M))
  | (x3_9, μ9) =>
  if (μ9.1 0 6) ≤ x3_9 then
    some (.inr μ9)
  else
    (fw_rd 6 (μ9.1 18) x2_2).bind fun v31 =>
    (fw_rd 10 (μ9.1 17) v31).bind fun v32 =>
    Option.bind (
      if ((v32 >>> (x3_9 &&& 31)) &&& 1) = 1 then
        (f_M_leftOf x3_9 μ9).bind fun (p43 : Int32) =>
        (fw_rd 3 (μ9.1 5) 1).bind fun v52 =>
        some (p43 + (x2_2 * v52))
      else
        (fw_rd 10 (μ9.1 20) x3_9).bind fun v63 =>
        some v63) fun (j38 : Int32) =>
    (fw_si 10 μ9 20 x3_9 j38).bind fun μ64 =>
    fw_nm (x3_9 + 1) fun (v65 : Int32) =>
    some (.inl (v65, μ64))
def f_M_clashes_L2 (a1 : Int32) : Int32 × fw_M → Option ((Int32 × fw_M) ⊕ (fw_M))
  | (x2_2, μ2) =>
  if a1 ≤ x2_2 then
    some (.inr μ2)
  else
    (fw_wh (f_M_clashes_L9 x2_2) fw_N (0, μ2)).bind fun (e9x : fw_M) =>
    fw_nm (x2_2 + 1) fun (v71 : Int32) =>
    some (.inl (v71, e9x))
def f_M_clashes_L94 (e2x : fw_M) (x3_81 : Int32) : Int32 × Int32 → Option ((Int32 × Int32) ⊕ (Int32))
  | (x2_94, x4_94) =>
  if (e2x.1 0 6) ≤ x4_94 then
    some (.inr x2_94)
  else
    (fw_rd 10 (e2x.1 20) x3_81).bind fun v109 =>
    (fw_rd 10 (e2x.1 20) x4_94).bind fun v116 =>
    (fw_rd 10 (e2x.1 6) x4_94).bind fun v127 =>
    (fw_rd 12 (e2x.1 4) v127).bind fun v128 =>
    Option.bind (
      if (v116 + v128) ≤ v109 then
        some 0
      else
        (fw_rd 10 (e2x.1 20) x4_94).bind fun v139 =>
        (fw_rd 10 (e2x.1 20) x3_81).bind fun v145 =>
        (fw_rd 10 (e2x.1 6) x3_81).bind fun v155 =>
        (fw_rd 12 (e2x.1 4) v155).bind fun v156 =>
        if (v145 + v156) ≤ v139 then
          some 0
        else
          some 1) fun (j130 : Int32) =>
    fw_nm ((x2_94 + j130)) fun (v167 : Int32) =>
    fw_nm (x4_94 + 1) fun (v168 : Int32) =>
    some (.inl (v167, v168))
def f_M_clashes_L81 (e2x : fw_M) : Int32 × Int32 → Option ((Int32 × Int32) ⊕ (Int32))
  | (x2_81, x3_81) =>
  if (e2x.1 0 6) ≤ x3_81 then
    some (.inr x2_81)
  else
    fw_nm ((x3_81 + 1)) fun (v92 : Int32) =>
    (fw_wh (f_M_clashes_L94 e2x x3_81) fw_N (x2_81, v92)).bind fun (e94x : Int32) =>
    fw_nm (x3_81 + 1) fun (v174 : Int32) =>
    some (.inl (e94x, v174))
def f_M_clashes (a1 : Int32) (μ : fw_M) : Option (Int32 × fw_M) :=
  (fw_wh (f_M_clashes_L2 a1) fw_N (0, μ)).bind fun (e2x : fw_M) =>
  (fw_wh (f_M_clashes_L81 e2x) fw_N (0, 0)).bind fun (e81x : Int32) =>
  some (e81x, e2x)
set_option maxHeartbeats 4000000 in
set_option maxRecDepth 100000 in
theorem c_M_clashes {a1 : Int32} {μ : fw_M} {r : Int32 × fw_M} (h : f_M_clashes a1 μ = some r) : fw_Con Y_M_clashes fw_Mo 2 [.ref 0, .int a1] (some r.1) μ r.2 := by
  refine fw_con (by decide) (Nat.le_of_ble_eq_true rfl) ?_
  rw [f_M_clashes] at h
  show fw_R "FewTypesModel" prog_11_method_41_code 5 (some .int) fw_Mo 2 (some r.1) r.2 0 [(0, .ref 0), (1, .int a1)] [] μ
  refine fw_iconst (pc := 0) d_M_clashes_0 fw_ic0 ?_
  refine fw_istore_n (pc := 1) (lv1 := [(2, .int 0), (0, .ref 0), (1, .int a1)]) d_M_clashes_1 rfl (by decide) rfl ?_
  obtain ⟨e2x, w2, h⟩ := fw_be h
  have hE2 : fw_R "FewTypesModel" prog_11_method_41_code 5 (some .int) fw_Mo 2 (some r.1) r.2 77 [(0, .ref 0)] [] e2x := by
    refine fw_iconst (pc := 77) d_M_clashes_77 fw_ic0 ?_
    refine fw_istore_n (pc := 78) (lv1 := [(2, .int 0), (0, .ref 0)]) d_M_clashes_78 rfl (by decide) rfl ?_
    refine fw_iconst (pc := 79) d_M_clashes_79 fw_ic0 ?_
    refine fw_istore_n (pc := 80) (lv1 := [(3, .int 0), (2, .int 0), (0, .ref 0)]) d_M_clashes_80 rfl (by decide) rfl ?_
    obtain ⟨e81x, w81, h⟩ := fw_be h
    have hE81 : fw_R "FewTypesModel" prog_11_method_41_code 5 (some .int) fw_Mo 2 (some r.1) r.2 180 [(2, .int e81x)] [] e2x := by
      refine fw_iload_n (pc := 180) d_M_clashes_180 0 rfl rfl ?_
      obtain rfl := Option.some.inj h
      exact fw_iret (pc := 181) d_M_clashes_181 rfl
    clear h
    exact fw_sub [2, 1, 0] rfl (fw_we (e := e81x) (fun (s : Int32 × Int32) => fw_R "FewTypesModel" prog_11_method_41_code 5 (some .int) fw_Mo 2 (some r.1) r.2 81 [(0, .ref 0), (2, .int s.1), (3, .int s.2)] [] e2x) (by
      intro s x h hl hr
      obtain ⟨x2_81, x3_81⟩ := s
      rw [f_M_clashes_L81] at h
      show fw_R "FewTypesModel" prog_11_method_41_code 5 (some .int) fw_Mo 2 (some r.1) r.2 81 [(0, .ref 0), (2, .int x2_81), (3, .int x3_81)] [] e2x
      refine fw_iload_n (pc := 81) d_M_clashes_81 2 rfl rfl ?_
      refine fw_aload_n (pc := 82) d_M_clashes_82 0 rfl rfl ?_
      refine fw_getI (pc := 83) d_M_clashes_83 fl_M_158 fw_Mo0 rfl ?_
      refine fw_icmp_ge (pc := 86) (tgt := 180) d_M_clashes_86 rfl (fun hc => ?_) (fun hc => ?_)
      · have h := fw_it hc h
        obtain rfl := Option.some.inj h
        have he := hr _ rfl
        subst he
        exact fw_sub [1] rfl hE81
      · have h := fw_if hc h
        refine fw_iload_n (pc := 89) d_M_clashes_89 2 rfl rfl ?_
        refine fw_iconst (pc := 90) d_M_clashes_90 fw_ic1 ?_
        refine fw_iadd (pc := 91) d_M_clashes_91 ?_
        obtain ⟨v92, e92, h⟩ := fw_ne h
        refine fw_top e92 ?_
        refine fw_istore (pc := 92) (lv1 := [(4, .int v92), (0, .ref 0), (2, .int x2_81), (3, .int x3_81)]) d_M_clashes_92 (by decide) rfl ?_
        obtain ⟨e94x, w94, h⟩ := fw_be h
        have hE94 : fw_R "FewTypesModel" prog_11_method_41_code 5 (some .int) fw_Mo 2 (some r.1) r.2 174 [(0, .ref 0), (2, .int e94x), (3, .int x3_81)] [] e2x := by
          obtain ⟨v174, e174, h⟩ := fw_ne h
          refine fw_iinc2 (pc := 174) (j := 2) (lv1 := [(3, .int v174), (0, .ref 0), (2, .int e94x)]) d_M_clashes_174 rfl fw_ic1 e174 (by decide) rfl ?_
          refine fw_goto (pc := 177) (tgt := 81) d_M_clashes_177 rfl ?_
          obtain rfl := Option.some.inj h
          exact fw_sub [1, 2, 0] rfl (hl _ rfl)
        clear h
        exact fw_sub [1, 2, 3, 0] rfl (fw_we (e := e94x) (fun (s : Int32 × Int32) => fw_R "FewTypesModel" prog_11_method_41_code 5 (some .int) fw_Mo 2 (some r.1) r.2 94 [(0, .ref 0), (2, .int s.1), (3, .int x3_81), (4, .int s.2)] [] e2x) (by
          intro s x h hl hr
          obtain ⟨x2_94, x4_94⟩ := s
          rw [f_M_clashes_L94] at h
          show fw_R "FewTypesModel" prog_11_method_41_code 5 (some .int) fw_Mo 2 (some r.1) r.2 94 [(0, .ref 0), (2, .int x2_94), (3, .int x3_81), (4, .int x4_94)] [] e2x
          refine fw_iload (pc := 94) d_M_clashes_94 3 rfl ?_
          refine fw_aload_n (pc := 96) d_M_clashes_96 0 rfl rfl ?_
          refine fw_getI (pc := 97) d_M_clashes_97 fl_M_158 fw_Mo0 rfl ?_
          refine fw_icmp_ge (pc := 100) (tgt := 174) d_M_clashes_100 rfl (fun hc => ?_) (fun hc => ?_)
          · have h := fw_it hc h
            obtain rfl := Option.some.inj h
            have he := hr _ rfl
            subst he
            exact fw_sub [0, 1, 2] rfl hE94
          · have h := fw_if hc h
            refine fw_iload_n (pc := 103) d_M_clashes_103 1 rfl rfl ?_
            refine fw_aload_n (pc := 104) d_M_clashes_104 0 rfl rfl ?_
            refine fw_getR (pc := 105) d_M_clashes_105 fl_M_68 fw_Mo0 rfl ?_
            refine fw_iload_n (pc := 108) d_M_clashes_108 2 rfl rfl ?_
            obtain ⟨v109, e109, h⟩ := fw_be h
            refine fw_iald (pc := 109) d_M_clashes_109 fw_Mo20 e109 ?_
            refine fw_aload_n (pc := 110) d_M_clashes_110 0 rfl rfl ?_
            refine fw_getR (pc := 111) d_M_clashes_111 fl_M_68 fw_Mo0 rfl ?_
            refine fw_iload (pc := 114) d_M_clashes_114 3 rfl ?_
            obtain ⟨v116, e116, h⟩ := fw_be h
            refine fw_iald (pc := 116) d_M_clashes_116 fw_Mo20 e116 ?_
            refine fw_aload_n (pc := 117) d_M_clashes_117 0 rfl rfl ?_
            refine fw_getR (pc := 118) d_M_clashes_118 fl_M_19 fw_Mo0 rfl ?_
            refine fw_aload_n (pc := 121) d_M_clashes_121 0 rfl rfl ?_
            refine fw_getR (pc := 122) d_M_clashes_122 fl_M_25 fw_Mo0 rfl ?_
            refine fw_iload (pc := 125) d_M_clashes_125 3 rfl ?_
            obtain ⟨v127, e127, h⟩ := fw_be h
            refine fw_iald (pc := 127) d_M_clashes_127 fw_Mo6 e127 ?_
            obtain ⟨v128, e128, h⟩ := fw_be h
            refine fw_iald (pc := 128) d_M_clashes_128 fw_Mo4 e128 ?_
            refine fw_iadd (pc := 129) d_M_clashes_129 ?_
            obtain ⟨j130, w130, h⟩ := fw_be h
            have hJ130 : fw_R "FewTypesModel" prog_11_method_41_code 5 (some .int) fw_Mo 2 (some r.1) r.2 166 [(0, .ref 0), (3, .int x3_81), (4, .int x4_94)] [.int j130, .int x2_94] e2x := by
              refine fw_iadd (pc := 166) d_M_clashes_166 ?_
              obtain ⟨v167, e167, h⟩ := fw_ne h
              refine fw_top e167 ?_
              refine fw_istore_n (pc := 167) (lv1 := [(2, .int v167), (0, .ref 0), (3, .int x3_81), (4, .int x4_94)]) d_M_clashes_167 rfl (by decide) rfl ?_
              obtain ⟨v168, e168, h⟩ := fw_ne h
              refine fw_iinc2 (pc := 168) (j := 3) (lv1 := [(4, .int v168), (2, .int v167), (0, .ref 0), (3, .int x3_81)]) d_M_clashes_168 rfl fw_ic1 e168 (by decide) rfl ?_
              refine fw_goto (pc := 171) (tgt := 94) d_M_clashes_171 rfl ?_
              obtain rfl := Option.some.inj h
              exact fw_sub [2, 1, 3, 0] rfl (hl _ rfl)
            clear h
            have h := w130
            clear w130
            refine fw_icmp_ge (pc := 130) (tgt := 165) d_M_clashes_130 rfl (fun hc => ?_) (fun hc => ?_)
            · have h := fw_it hc h
              refine fw_iconst (pc := 165) d_M_clashes_165 fw_ic0 ?_
              obtain rfl := Option.some.inj h
              exact fw_sub [0, 2, 3] rfl hJ130
            · have h := fw_if hc h
              refine fw_aload_n (pc := 133) d_M_clashes_133 0 rfl rfl ?_
              refine fw_getR (pc := 134) d_M_clashes_134 fl_M_68 fw_Mo0 rfl ?_
              refine fw_iload (pc := 137) d_M_clashes_137 3 rfl ?_
              obtain ⟨v139, e139, h⟩ := fw_be h
              refine fw_iald (pc := 139) d_M_clashes_139 fw_Mo20 e139 ?_
              refine fw_aload_n (pc := 140) d_M_clashes_140 0 rfl rfl ?_
              refine fw_getR (pc := 141) d_M_clashes_141 fl_M_68 fw_Mo0 rfl ?_
              refine fw_iload_n (pc := 144) d_M_clashes_144 2 rfl rfl ?_
              obtain ⟨v145, e145, h⟩ := fw_be h
              refine fw_iald (pc := 145) d_M_clashes_145 fw_Mo20 e145 ?_
              refine fw_aload_n (pc := 146) d_M_clashes_146 0 rfl rfl ?_
              refine fw_getR (pc := 147) d_M_clashes_147 fl_M_19 fw_Mo0 rfl ?_
              refine fw_aload_n (pc := 150) d_M_clashes_150 0 rfl rfl ?_
              refine fw_getR (pc := 151) d_M_clashes_151 fl_M_25 fw_Mo0 rfl ?_
              refine fw_iload_n (pc := 154) d_M_clashes_154 2 rfl rfl ?_
              obtain ⟨v155, e155, h⟩ := fw_be h
              refine fw_iald (pc := 155) d_M_clashes_155 fw_Mo6 e155 ?_
              obtain ⟨v156, e156, h⟩ := fw_be h
              refine fw_iald (pc := 156) d_M_clashes_156 fw_Mo4 e156 ?_
              refine fw_iadd (pc := 157) d_M_clashes_157 ?_
              refine fw_icmp_ge (pc := 158) (tgt := 165) d_M_clashes_158 rfl (fun hc => ?_) (fun hc => ?_)
              · have h := fw_it hc h
                refine fw_iconst (pc := 165) d_M_clashes_165 fw_ic0 ?_
                obtain rfl := Option.some.inj h
                exact fw_sub [0, 2, 3] rfl hJ130
              · have h := fw_if hc h
                refine fw_iconst (pc := 161) d_M_clashes_161 fw_ic1 ?_
                refine fw_goto (pc := 162) (tgt := 166) d_M_clashes_162 rfl ?_
                obtain rfl := Option.some.inj h
                exact fw_sub [0, 2, 3] rfl hJ130
          ) _ _ w94)
      ) _ _ w81)
  clear h
  exact fw_sub [1, 2, 0] rfl (fw_we (e := e2x) (fun (s : Int32 × fw_M) => fw_R "FewTypesModel" prog_11_method_41_code 5 (some .int) fw_Mo 2 (some r.1) r.2 2 [(0, .ref 0), (1, .int a1), (2, .int s.1)] [] s.2) (by
    intro s x h hl hr
    obtain ⟨x2_2, μ2⟩ := s
    rw [f_M_clashes_L2] at h
    show fw_R "FewTypesModel" prog_11_method_41_code 5 (some .int) fw_Mo 2 (some r.1) r.2 2 [(0, .ref 0), (1, .int a1), (2, .int x2_2)] [] μ2
    refine fw_iload_n (pc := 2) d_M_clashes_2 2 rfl rfl ?_
    refine fw_iload_n (pc := 3) d_M_clashes_3 1 rfl rfl ?_
    refine fw_icmp_ge (pc := 4) (tgt := 77) d_M_clashes_4 rfl (fun hc => ?_) (fun hc => ?_)
    · have h := fw_it hc h
      obtain rfl := Option.some.inj h
      have he := hr _ rfl
      subst he
      exact fw_sub [0] rfl hE2
    · have h := fw_if hc h
      refine fw_iconst (pc := 7) d_M_clashes_7 fw_ic0 ?_
      refine fw_istore_n (pc := 8) (lv1 := [(3, .int 0), (0, .ref 0), (1, .int a1), (2, .int x2_2)]) d_M_clashes_8 rfl (by decide) rfl ?_
      obtain ⟨e9x, w9, h⟩ := fw_be h
      have hE9 : fw_R "FewTypesModel" prog_11_method_41_code 5 (some .int) fw_Mo 2 (some r.1) r.2 71 [(0, .ref 0), (1, .int a1), (2, .int x2_2)] [] e9x := by
        obtain ⟨v71, e71, h⟩ := fw_ne h
        refine fw_iinc2 (pc := 71) (j := 2) (lv1 := [(2, .int v71), (0, .ref 0), (1, .int a1)]) d_M_clashes_71 rfl fw_ic1 e71 (by decide) rfl ?_
        refine fw_goto (pc := 74) (tgt := 2) d_M_clashes_74 rfl ?_
        obtain rfl := Option.some.inj h
        exact fw_sub [1, 2, 0] rfl (hl _ rfl)
      clear h
      exact fw_sub [1, 2, 3, 0] rfl (fw_we (e := e9x) (fun (s : Int32 × fw_M) => fw_R "FewTypesModel" prog_11_method_41_code 5 (some .int) fw_Mo 2 (some r.1) r.2 9 [(0, .ref 0), (1, .int a1), (2, .int x2_2), (3, .int s.1)] [] s.2) (by
        intro s x h hl hr
        obtain ⟨x3_9, μ9⟩ := s
        rw [f_M_clashes_L9] at h
        show fw_R "FewTypesModel" prog_11_method_41_code 5 (some .int) fw_Mo 2 (some r.1) r.2 9 [(0, .ref 0), (1, .int a1), (2, .int x2_2), (3, .int x3_9)] [] μ9
        refine fw_iload_n (pc := 9) d_M_clashes_9 3 rfl rfl ?_
        refine fw_aload_n (pc := 10) d_M_clashes_10 0 rfl rfl ?_
        refine fw_getI (pc := 11) d_M_clashes_11 fl_M_158 fw_Mo0 rfl ?_
        refine fw_icmp_ge (pc := 14) (tgt := 71) d_M_clashes_14 rfl (fun hc => ?_) (fun hc => ?_)
        · have h := fw_it hc h
          obtain rfl := Option.some.inj h
          have he := hr _ rfl
          subst he
          exact fw_sub [0, 1, 2] rfl hE9
        · have h := fw_if hc h
          refine fw_aload_n (pc := 17) d_M_clashes_17 0 rfl rfl ?_
          refine fw_getR (pc := 18) d_M_clashes_18 fl_M_68 fw_Mo0 rfl ?_
          refine fw_iload_n (pc := 21) d_M_clashes_21 3 rfl rfl ?_
          refine fw_aload_n (pc := 22) d_M_clashes_22 0 rfl rfl ?_
          refine fw_getR (pc := 23) d_M_clashes_23 fl_M_59 fw_Mo0 rfl ?_
          refine fw_aload_n (pc := 26) d_M_clashes_26 0 rfl rfl ?_
          refine fw_getR (pc := 27) d_M_clashes_27 fl_M_62 fw_Mo0 rfl ?_
          refine fw_iload_n (pc := 30) d_M_clashes_30 2 rfl rfl ?_
          obtain ⟨v31, e31, h⟩ := fw_be h
          refine fw_iald (pc := 31) d_M_clashes_31 fw_Mo18 e31 ?_
          obtain ⟨v32, e32, h⟩ := fw_be h
          refine fw_iald (pc := 32) d_M_clashes_32 fw_Mo17 e32 ?_
          refine fw_iload_n (pc := 33) d_M_clashes_33 3 rfl rfl ?_
          refine fw_ishr (pc := 34) d_M_clashes_34 ?_
          refine fw_iconst (pc := 35) d_M_clashes_35 fw_ic1 ?_
          refine fw_iand (pc := 36) d_M_clashes_36 ?_
          refine fw_iconst (pc := 37) d_M_clashes_37 fw_ic1 ?_
          obtain ⟨j38, w38, h⟩ := fw_be h
          have hJ38 : fw_R "FewTypesModel" prog_11_method_41_code 5 (some .int) fw_Mo 2 (some r.1) r.2 64 [(0, .ref 0), (1, .int a1), (2, .int x2_2), (3, .int x3_9)] [.int j38, .int x3_9, .ref 20] μ9 := by
            obtain ⟨μ64, e64, h⟩ := fw_be h
            refine fw_iast (pc := 64) d_M_clashes_64 fw_Mo20 e64 ?_
            obtain ⟨v65, e65, h⟩ := fw_ne h
            refine fw_iinc2 (pc := 65) (j := 3) (lv1 := [(3, .int v65), (0, .ref 0), (1, .int a1), (2, .int x2_2)]) d_M_clashes_65 rfl fw_ic1 e65 (by decide) rfl ?_
            refine fw_goto (pc := 68) (tgt := 9) d_M_clashes_68 rfl ?_
            obtain rfl := Option.some.inj h
            exact fw_sub [1, 2, 3, 0] rfl (hl _ rfl)
          clear h
          have h := w38
          clear w38
          refine fw_icmp_ne (pc := 38) (tgt := 58) d_M_clashes_38 rfl (fun hc => ?_) (fun hc => ?_)
          · have h := fw_it hc h
            refine fw_aload_n (pc := 41) d_M_clashes_41 0 rfl rfl ?_
            refine fw_iload_n (pc := 42) d_M_clashes_42 3 rfl rfl ?_
            obtain ⟨p43, e43, h⟩ := fw_be h
            refine fw_callVi (pc := 43) d_M_clashes_43 mv_M_167 fw_Mo0 (c_M_leftOf e43) (by decide) rfl rfl (Nat.le_of_ble_eq_true rfl) ?_
            refine fw_iload_n (pc := 46) d_M_clashes_46 2 rfl rfl ?_
            refine fw_aload_n (pc := 47) d_M_clashes_47 0 rfl rfl ?_
            refine fw_getR (pc := 48) d_M_clashes_48 fl_M_22 fw_Mo0 rfl ?_
            refine fw_iconst (pc := 51) d_M_clashes_51 fw_ic1 ?_
            obtain ⟨v52, e52, h⟩ := fw_be h
            refine fw_iald (pc := 52) d_M_clashes_52 fw_Mo5 e52 ?_
            refine fw_imul (pc := 53) d_M_clashes_53 ?_
            refine fw_iadd (pc := 54) d_M_clashes_54 ?_
            refine fw_goto (pc := 55) (tgt := 64) d_M_clashes_55 rfl ?_
            obtain rfl := Option.some.inj h
            exact fw_sub [0, 1, 2, 3] rfl hJ38
          · have h := fw_if hc h
            refine fw_aload_n (pc := 58) d_M_clashes_58 0 rfl rfl ?_
            refine fw_getR (pc := 59) d_M_clashes_59 fl_M_68 fw_Mo0 rfl ?_
            refine fw_iload_n (pc := 62) d_M_clashes_62 3 rfl rfl ?_
            obtain ⟨v63, e63, h⟩ := fw_be h
            refine fw_iald (pc := 63) d_M_clashes_63 fw_Mo20 e63 ?_
            obtain rfl := Option.some.inj h
            exact fw_sub [0, 1, 2, 3] rfl hJ38
        ) _ _ w9)
    ) _ _ w2)
def f_M_turns_L4 (μ : fw_M) (x2_4 : Int32) : Option ((Int32) ⊕ (Int32)) :=
  if x2_4 < 0 then
    some (.inr x2_4)
  else
    (fw_rd 6 (μ.1 18) x2_4).bind fun v13 =>
    (fw_rd 6 (μ.1 18) (x2_4 + 1)).bind fun v21 =>
    if v13 ≤ v21 then
      some (.inr x2_4)
    else
      fw_nm (x2_4 + (-1)) fun (v25 : Int32) =>
      some (.inl v25)
def f_M_turns_L41 (μ : fw_M) (e4x : Int32) (x3_41 : Int32) : Option ((Int32) ⊕ (Int32)) :=
  (fw_rd 6 (μ.1 18) x3_41).bind fun v46 =>
  (fw_rd 6 (μ.1 18) e4x).bind fun v52 =>
  if v52 ≤ v46 then
    some (.inr x3_41)
  else
    fw_nm (x3_41 + (-1)) fun (v56 : Int32) =>
    some (.inl v56)
def f_M_turns_L100  : Int32 × Int32 × fw_M → Option ((Int32 × Int32 × fw_M) ⊕ (fw_M))
  | (x5_100, x6_100, μ100) =>
  if x6_100 ≤ x5_100 then
    some (.inr μ100)
  else
    (fw_rd 6 (μ100.1 18) x5_100).bind fun v113 =>
    (fw_rd 6 (μ100.1 18) x6_100).bind fun v128 =>
    (fw_si 6 μ100 18 x5_100 v128).bind fun μ129 =>
    (fw_si 6 μ129 18 x6_100 v113).bind fun μ138 =>
    fw_nm (x5_100 + 1) fun (v139 : Int32) =>
    fw_nm (x6_100 + (-1)) fun (v142 : Int32) =>
    some (.inl (v139, v142, μ138))
def f_M_turns (a1 : Int32) (μ : fw_M) : Option (Int32 × fw_M) :=
  fw_nm ((a1 - 2)) fun (v3 : Int32) =>
  (fw_wh (f_M_turns_L4 μ) fw_N v3).bind fun (e4x : Int32) =>
  if 0 ≤ e4x then
    fw_nm ((a1 - 1)) fun (v40 : Int32) =>
    (fw_wh (f_M_turns_L41 μ e4x) fw_N v40).bind fun (e41x : Int32) =>
    (fw_rd 6 (μ.1 18) e4x).bind fun v67 =>
    (fw_rd 6 (μ.1 18) e41x).bind fun v80 =>
    (fw_si 6 μ 18 e4x v80).bind fun μ81 =>
    (fw_si 6 μ81 18 e41x v67).bind fun μ89 =>
    fw_nm ((e4x + 1)) fun (v93 : Int32) =>
    fw_nm ((a1 - 1)) fun (v98 : Int32) =>
    (fw_wh (f_M_turns_L100) fw_N (v93, v98, μ89)).bind fun (e100x : fw_M) =>
    some (1, e100x)
  else
    some (0, μ)
set_option maxHeartbeats 4000000 in
set_option maxRecDepth 100000 in
theorem c_M_turns {a1 : Int32} {μ : fw_M} {r : Int32 × fw_M} (h : f_M_turns a1 μ = some r) : fw_Con Y_M_turns fw_Mo 1 [.ref 0, .int a1] (some r.1) μ r.2 := by
  refine fw_con (by decide) (Nat.le_of_ble_eq_true rfl) ?_
  rw [f_M_turns] at h
  show fw_R "FewTypesModel" prog_11_method_40_code 7 (some .boolean) fw_Mo 1 (some r.1) r.2 0 [(0, .ref 0), (1, .int a1)] [] μ
  refine fw_iload_n (pc := 0) d_M_turns_0 1 rfl rfl ?_
  refine fw_iconst (pc := 1) d_M_turns_1 fw_ic2 ?_
  refine fw_isub (pc := 2) d_M_turns_2 ?_
  obtain ⟨v3, e3, h⟩ := fw_ne h
  refine fw_top e3 ?_
  refine fw_istore_n (pc := 3) (lv1 := [(2, .int v3), (0, .ref 0), (1, .int a1)]) d_M_turns_3 rfl (by decide) rfl ?_
  obtain ⟨e4x, w4, h⟩ := fw_be h
  have hE4 : fw_R "FewTypesModel" prog_11_method_40_code 7 (some .boolean) fw_Mo 1 (some r.1) r.2 31 [(0, .ref 0), (1, .int a1), (2, .int e4x)] [] μ := by
    refine fw_iload_n (pc := 31) d_M_turns_31 2 rfl rfl ?_
    refine fw_if_ge (pc := 32) (tgt := 37) d_M_turns_32 rfl (fun hc => ?_) (fun hc => ?_)
    · have h := fw_it hc h
      refine fw_iload_n (pc := 37) d_M_turns_37 1 rfl rfl ?_
      refine fw_iconst (pc := 38) d_M_turns_38 fw_ic1 ?_
      refine fw_isub (pc := 39) d_M_turns_39 ?_
      obtain ⟨v40, e40, h⟩ := fw_ne h
      refine fw_top e40 ?_
      refine fw_istore_n (pc := 40) (lv1 := [(3, .int v40), (0, .ref 0), (1, .int a1), (2, .int e4x)]) d_M_turns_40 rfl (by decide) rfl ?_
      obtain ⟨e41x, w41, h⟩ := fw_be h
      have hE41 : fw_R "FewTypesModel" prog_11_method_40_code 7 (some .boolean) fw_Mo 1 (some r.1) r.2 62 [(0, .ref 0), (1, .int a1), (2, .int e4x), (3, .int e41x)] [] μ := by
        refine fw_aload_n (pc := 62) d_M_turns_62 0 rfl rfl ?_
        refine fw_getR (pc := 63) d_M_turns_63 fl_M_62 fw_Mo0 rfl ?_
        refine fw_iload_n (pc := 66) d_M_turns_66 2 rfl rfl ?_
        obtain ⟨v67, e67, h⟩ := fw_be h
        refine fw_iald (pc := 67) d_M_turns_67 fw_Mo18 e67 ?_
        refine fw_istore (pc := 68) (lv1 := [(4, .int v67), (0, .ref 0), (1, .int a1), (2, .int e4x), (3, .int e41x)]) d_M_turns_68 (by decide) rfl ?_
        refine fw_aload_n (pc := 70) d_M_turns_70 1 rfl rfl ?_
        refine fw_getR (pc := 71) d_M_turns_71 fl_M_62 fw_Mo0 rfl ?_
        refine fw_iload_n (pc := 74) d_M_turns_74 3 rfl rfl ?_
        refine fw_aload_n (pc := 75) d_M_turns_75 1 rfl rfl ?_
        refine fw_getR (pc := 76) d_M_turns_76 fl_M_62 fw_Mo0 rfl ?_
        refine fw_iload_n (pc := 79) d_M_turns_79 4 rfl rfl ?_
        obtain ⟨v80, e80, h⟩ := fw_be h
        refine fw_iald (pc := 80) d_M_turns_80 fw_Mo18 e80 ?_
        obtain ⟨μ81, e81, h⟩ := fw_be h
        refine fw_iast (pc := 81) d_M_turns_81 fw_Mo18 e81 ?_
        refine fw_aload_n (pc := 82) d_M_turns_82 1 rfl rfl ?_
        refine fw_getR (pc := 83) d_M_turns_83 fl_M_62 fw_Mo0 rfl ?_
        refine fw_iload_n (pc := 86) d_M_turns_86 4 rfl rfl ?_
        refine fw_iload (pc := 87) d_M_turns_87 0 rfl ?_
        obtain ⟨μ89, e89, h⟩ := fw_be h
        refine fw_iast (pc := 89) d_M_turns_89 fw_Mo18 e89 ?_
        refine fw_iload_n (pc := 90) d_M_turns_90 3 rfl rfl ?_
        refine fw_iconst (pc := 91) d_M_turns_91 fw_ic1 ?_
        refine fw_iadd (pc := 92) d_M_turns_92 ?_
        obtain ⟨v93, e93, h⟩ := fw_ne h
        refine fw_top e93 ?_
        refine fw_istore (pc := 93) (lv1 := [(5, .int v93), (4, .int v67), (0, .ref 0), (1, .int a1), (2, .int e4x), (3, .int e41x)]) d_M_turns_93 (by decide) rfl ?_
        refine fw_iload_n (pc := 95) d_M_turns_95 3 rfl rfl ?_
        refine fw_iconst (pc := 96) d_M_turns_96 fw_ic1 ?_
        refine fw_isub (pc := 97) d_M_turns_97 ?_
        obtain ⟨v98, e98, h⟩ := fw_ne h
        refine fw_top e98 ?_
        refine fw_istore (pc := 98) (lv1 := [(6, .int v98), (5, .int v93), (4, .int v67), (0, .ref 0), (1, .int a1), (2, .int e4x), (3, .int e41x)]) d_M_turns_98 (by decide) rfl ?_
        obtain ⟨e100x, w100, h⟩ := fw_be h
        have hE100 : fw_R "FewTypesModel" prog_11_method_40_code 7 (some .boolean) fw_Mo 1 (some r.1) r.2 148 [] [] e100x := by
          refine fw_iconst (pc := 148) d_M_turns_148 fw_ic1 ?_
          obtain rfl := Option.some.inj h
          exact fw_zret (pc := 149) d_M_turns_149 rfl fw_bz1
        clear h
        exact fw_sub [3, 1, 0] rfl (fw_we (e := e100x) (fun (s : Int32 × Int32 × fw_M) => fw_R "FewTypesModel" prog_11_method_40_code 7 (some .boolean) fw_Mo 1 (some r.1) r.2 100 [(0, .ref 0), (5, .int s.1), (6, .int s.2.1)] [] s.2.2) (by
          intro s x h hl hr
          obtain ⟨x5_100, x6_100, μ100⟩ := s
          rw [f_M_turns_L100] at h
          show fw_R "FewTypesModel" prog_11_method_40_code 7 (some .boolean) fw_Mo 1 (some r.1) r.2 100 [(0, .ref 0), (5, .int x5_100), (6, .int x6_100)] [] μ100
          refine fw_iload (pc := 100) d_M_turns_100 1 rfl ?_
          refine fw_iload (pc := 102) d_M_turns_102 2 rfl ?_
          refine fw_icmp_ge (pc := 104) (tgt := 148) d_M_turns_104 rfl (fun hc => ?_) (fun hc => ?_)
          · have h := fw_it hc h
            obtain rfl := Option.some.inj h
            have he := hr _ rfl
            subst he
            exact fw_sub [] rfl hE100
          · have h := fw_if hc h
            refine fw_aload_n (pc := 107) d_M_turns_107 0 rfl rfl ?_
            refine fw_getR (pc := 108) d_M_turns_108 fl_M_62 fw_Mo0 rfl ?_
            refine fw_iload (pc := 111) d_M_turns_111 1 rfl ?_
            obtain ⟨v113, e113, h⟩ := fw_be h
            refine fw_iald (pc := 113) d_M_turns_113 fw_Mo18 e113 ?_
            refine fw_istore (pc := 114) (lv1 := [(4, .int v113), (0, .ref 0), (5, .int x5_100), (6, .int x6_100)]) d_M_turns_114 (by decide) rfl ?_
            refine fw_aload_n (pc := 116) d_M_turns_116 1 rfl rfl ?_
            refine fw_getR (pc := 117) d_M_turns_117 fl_M_62 fw_Mo0 rfl ?_
            refine fw_iload (pc := 120) d_M_turns_120 2 rfl ?_
            refine fw_aload_n (pc := 122) d_M_turns_122 1 rfl rfl ?_
            refine fw_getR (pc := 123) d_M_turns_123 fl_M_62 fw_Mo0 rfl ?_
            refine fw_iload (pc := 126) d_M_turns_126 3 rfl ?_
            obtain ⟨v128, e128, h⟩ := fw_be h
            refine fw_iald (pc := 128) d_M_turns_128 fw_Mo18 e128 ?_
            obtain ⟨μ129, e129, h⟩ := fw_be h
            refine fw_iast (pc := 129) d_M_turns_129 fw_Mo18 e129 ?_
            refine fw_aload_n (pc := 130) d_M_turns_130 1 rfl rfl ?_
            refine fw_getR (pc := 131) d_M_turns_131 fl_M_62 fw_Mo0 rfl ?_
            refine fw_iload (pc := 134) d_M_turns_134 3 rfl ?_
            refine fw_iload (pc := 136) d_M_turns_136 0 rfl ?_
            obtain ⟨μ138, e138, h⟩ := fw_be h
            refine fw_iast (pc := 138) d_M_turns_138 fw_Mo18 e138 ?_
            obtain ⟨v139, e139, h⟩ := fw_ne h
            refine fw_iinc2 (pc := 139) (j := 2) (lv1 := [(5, .int v139), (4, .int v113), (0, .ref 0), (6, .int x6_100)]) d_M_turns_139 rfl fw_ic1 e139 (by decide) rfl ?_
            obtain ⟨v142, e142, h⟩ := fw_ne h
            refine fw_iinc2 (pc := 142) (j := 3) (lv1 := [(6, .int v142), (5, .int v139), (4, .int v113), (0, .ref 0)]) d_M_turns_142 rfl fw_icm1 e142 (by decide) rfl ?_
            refine fw_goto (pc := 145) (tgt := 100) d_M_turns_145 rfl ?_
            obtain rfl := Option.some.inj h
            exact fw_sub [3, 1, 0] rfl (hl _ rfl)
          ) _ _ w100)
      clear h
      exact fw_sub [1, 2, 3, 0] rfl (fw_we (e := e41x) (fun (s : Int32) => fw_R "FewTypesModel" prog_11_method_40_code 7 (some .boolean) fw_Mo 1 (some r.1) r.2 41 [(0, .ref 0), (1, .int a1), (2, .int e4x), (3, .int s)] [] μ) (by
        intro s x h hl hr
        obtain ⟨x3_41, rfl⟩ : ∃ z, z = s := ⟨_, rfl⟩
        rw [f_M_turns_L41] at h
        show fw_R "FewTypesModel" prog_11_method_40_code 7 (some .boolean) fw_Mo 1 (some r.1) r.2 41 [(0, .ref 0), (1, .int a1), (2, .int e4x), (3, .int x3_41)] [] μ
        refine fw_aload_n (pc := 41) d_M_turns_41 0 rfl rfl ?_
        refine fw_getR (pc := 42) d_M_turns_42 fl_M_62 fw_Mo0 rfl ?_
        refine fw_iload_n (pc := 45) d_M_turns_45 3 rfl rfl ?_
        obtain ⟨v46, e46, h⟩ := fw_be h
        refine fw_iald (pc := 46) d_M_turns_46 fw_Mo18 e46 ?_
        refine fw_aload_n (pc := 47) d_M_turns_47 0 rfl rfl ?_
        refine fw_getR (pc := 48) d_M_turns_48 fl_M_62 fw_Mo0 rfl ?_
        refine fw_iload_n (pc := 51) d_M_turns_51 2 rfl rfl ?_
        obtain ⟨v52, e52, h⟩ := fw_be h
        refine fw_iald (pc := 52) d_M_turns_52 fw_Mo18 e52 ?_
        refine fw_icmp_ge (pc := 53) (tgt := 62) d_M_turns_53 rfl (fun hc => ?_) (fun hc => ?_)
        · have h := fw_it hc h
          obtain rfl := Option.some.inj h
          have he := hr _ rfl
          subst he
          exact fw_sub [0, 1, 2, 3] rfl hE41
        · have h := fw_if hc h
          obtain ⟨v56, e56, h⟩ := fw_ne h
          refine fw_iinc2 (pc := 56) (j := 3) (lv1 := [(3, .int v56), (0, .ref 0), (1, .int a1), (2, .int e4x)]) d_M_turns_56 rfl fw_icm1 e56 (by decide) rfl ?_
          refine fw_goto (pc := 59) (tgt := 41) d_M_turns_59 rfl ?_
          obtain rfl := Option.some.inj h
          exact fw_sub [1, 2, 3, 0] rfl (hl _ rfl)
        ) _ _ w41)
    · have h := fw_if hc h
      refine fw_iconst (pc := 35) d_M_turns_35 fw_ic0 ?_
      obtain rfl := Option.some.inj h
      exact fw_zret (pc := 36) d_M_turns_36 rfl fw_bz0
  clear h
  exact fw_sub [1, 2, 0] rfl (fw_we (e := e4x) (fun (s : Int32) => fw_R "FewTypesModel" prog_11_method_40_code 7 (some .boolean) fw_Mo 1 (some r.1) r.2 4 [(0, .ref 0), (1, .int a1), (2, .int s)] [] μ) (by
    intro s x h hl hr
    obtain ⟨x2_4, rfl⟩ : ∃ z, z = s := ⟨_, rfl⟩
    rw [f_M_turns_L4] at h
    show fw_R "FewTypesModel" prog_11_method_40_code 7 (some .boolean) fw_Mo 1 (some r.1) r.2 4 [(0, .ref 0), (1, .int a1), (2, .int x2_4)] [] μ
    refine fw_iload_n (pc := 4) d_M_turns_4 2 rfl rfl ?_
    refine fw_if_lt (pc := 5) (tgt := 31) d_M_turns_5 rfl (fun hc => ?_) (fun hc => ?_)
    · have h := fw_it hc h
      obtain rfl := Option.some.inj h
      have he := hr _ rfl
      subst he
      exact fw_sub [0, 1, 2] rfl hE4
    · have h := fw_if hc h
      refine fw_aload_n (pc := 8) d_M_turns_8 0 rfl rfl ?_
      refine fw_getR (pc := 9) d_M_turns_9 fl_M_62 fw_Mo0 rfl ?_
      refine fw_iload_n (pc := 12) d_M_turns_12 2 rfl rfl ?_
      obtain ⟨v13, e13, h⟩ := fw_be h
      refine fw_iald (pc := 13) d_M_turns_13 fw_Mo18 e13 ?_
      refine fw_aload_n (pc := 14) d_M_turns_14 0 rfl rfl ?_
      refine fw_getR (pc := 15) d_M_turns_15 fl_M_62 fw_Mo0 rfl ?_
      refine fw_iload_n (pc := 18) d_M_turns_18 2 rfl rfl ?_
      refine fw_iconst (pc := 19) d_M_turns_19 fw_ic1 ?_
      refine fw_iadd (pc := 20) d_M_turns_20 ?_
      obtain ⟨v21, e21, h⟩ := fw_be h
      refine fw_iald (pc := 21) d_M_turns_21 fw_Mo18 e21 ?_
      refine fw_icmp_le (pc := 22) (tgt := 31) d_M_turns_22 rfl (fun hc => ?_) (fun hc => ?_)
      · have h := fw_it hc h
        obtain rfl := Option.some.inj h
        have he := hr _ rfl
        subst he
        exact fw_sub [0, 1, 2] rfl hE4
      · have h := fw_if hc h
        obtain ⟨v25, e25, h⟩ := fw_ne h
        refine fw_iinc2 (pc := 25) (j := 2) (lv1 := [(2, .int v25), (0, .ref 0), (1, .int a1)]) d_M_turns_25 rfl fw_icm1 e25 (by decide) rfl ?_
        refine fw_goto (pc := 28) (tgt := 4) d_M_turns_28 rfl ?_
        obtain rfl := Option.some.inj h
        exact fw_sub [1, 2, 0] rfl (hl _ rfl)
    ) _ _ w4)
def f_M_order_L51 (p27 : Int32 × fw_M) : Int32 × fw_M → Option ((Int32 × fw_M) ⊕ (fw_M))
  | (x3_51, μ51) =>
  if p27.1 ≤ x3_51 then
    some (.inr μ51)
  else
    (fw_si 6 μ51 18 x3_51 x3_51).bind fun μ62 =>
    fw_nm (x3_51 + 1) fun (v63 : Int32) =>
    some (.inl (v63, μ62))
def f_M_order_L98 (p27 : Int32 × fw_M) (x4_83 : Int32) (p90 : Int32 × fw_M) : Int32 × fw_M → Option ((Int32 × fw_M) ⊕ (fw_M))
  | (x7_98, μ98) =>
  if p27.1 ≤ x7_98 then
    some (.inr μ98)
  else
    if x4_83 ≤ p90.1 then
      some (.inr μ98)
    else
      (fw_rd 6 (μ98.1 18) x7_98).bind fun v123 =>
      (fw_si 6 μ98 19 x7_98 v123).bind fun μ124 =>
      fw_nm (x7_98 + 1) fun (v125 : Int32) =>
      some (.inl (v125, μ124))
def f_M_order_L83 (p27 : Int32 × fw_M) : Int32 × Int32 × fw_M → Option ((Int32 × Int32 × fw_M) ⊕ (Int32 × fw_M))
  | (x4_83, x5_83, μ83) =>
  if x5_83 = 0 then
    some (.inr (x4_83, μ83))
  else
    (f_M_clashes p27.1 μ83).bind fun (p90 : Int32 × fw_M) =>
    (fw_wh (f_M_order_L98 p27 x4_83 p90) fw_N (0, p90.2)).bind fun (e98x : fw_M) =>
    fw_nm (
      if x4_83 ≤ p90.1 then
        x4_83
      else
        p90.1) fun (j135 : Int32) =>
    (f_M_turns p27.1 e98x).bind fun (p149 : Int32 × fw_M) =>
    some (.inl (j135, p149.1, p149.2))
def f_M_order (a1 : Int32) (μ : fw_M) : Option (Int32 × fw_M) :=
  (f_M_in (Int32.toInt64 a1) (-2) 9).bind fun (p8 : Int32) =>
  if p8 = 0 then
    some ((-1), μ)
  else
    if (μ.1 0 6) = 0 then
      some ((-2), μ)
    else
      (f_M_plans μ).bind fun (p27 : Int32 × fw_M) =>
      if p27.1 ≤ 98 then
        if p27.1 ≤ 6 then
          (fw_wh (f_M_order_L51 p27) fw_N (0, p27.2)).bind fun (e51x : fw_M) =>
          (f_M_clashes p27.1 e51x).bind fun (p71 : Int32 × fw_M) =>
          (fw_wh (f_M_order_L83 p27) fw_N (1000, 1, p71.2)).bind fun (e83x : Int32 × fw_M) =>
          Option.bind (
            if a1 = (-1) then
              some p71.1
            else
              if a1 = (-2) then
                some e83x.1
              else
                if p27.1 ≤ a1 then
                  some (-4)
                else
                  (fw_rd 6 (e83x.2.1 19) a1).bind fun v187 =>
                  some v187) fun (j159 : Int32) =>
          some (j159, e83x.2)
        else
          some ((-3), p27.2)
      else
        some ((-4), p27.2)
set_option maxHeartbeats 4000000 in
set_option maxRecDepth 100000 in
theorem c_M_order {a1 : Int32} {μ : fw_M} {r : Int32 × fw_M} (h : f_M_order a1 μ = some r) : fw_Con Y_M_order fw_Mo 6 [.ref 0, .int a1] (some r.1) μ r.2 := by
  refine fw_con (by decide) (Nat.le_of_ble_eq_true rfl) ?_
  rw [f_M_order] at h
  show fw_R "FewTypesModel" prog_11_method_42_code 8 (some .int) fw_Mo 6 (some r.1) r.2 0 [(0, .ref 0), (1, .int a1)] [] μ
  refine fw_iload_n (pc := 0) d_M_order_0 1 rfl rfl ?_
  refine fw_i2l (pc := 1) d_M_order_1 ?_
  refine fw_ldc2 (pc := 2) d_M_order_2 cl_M_215 ?_
  refine fw_ldc2 (pc := 5) d_M_order_5 cl_M_102 ?_
  obtain ⟨p8, e8, h⟩ := fw_be h
  refine fw_callSi (pc := 8) d_M_order_8 ms_M_94 (c_M_in e8) (by decide) rfl rfl (Nat.le_of_ble_eq_true rfl) ?_
  refine fw_if_ne (pc := 11) (tgt := 16) d_M_order_11 rfl (fun hc => ?_) (fun hc => ?_)
  · have h := fw_it hc h
    refine fw_iconst (pc := 14) d_M_order_14 fw_icm1 ?_
    obtain rfl := Option.some.inj h
    exact fw_iret (pc := 15) d_M_order_15 rfl
  · have h := fw_if hc h
    refine fw_aload_n (pc := 16) d_M_order_16 0 rfl rfl ?_
    refine fw_getI (pc := 17) d_M_order_17 fl_M_158 fw_Mo0 rfl ?_
    refine fw_if_ne (pc := 20) (tgt := 26) d_M_order_20 rfl (fun hc => ?_) (fun hc => ?_)
    · have h := fw_it hc h
      refine fw_bipush (pc := 23) d_M_order_23 fw_bpm2 ?_
      obtain rfl := Option.some.inj h
      exact fw_iret (pc := 25) d_M_order_25 rfl
    · have h := fw_if hc h
      refine fw_aload_n (pc := 26) d_M_order_26 0 rfl rfl ?_
      obtain ⟨p27, e27, h⟩ := fw_be h
      refine fw_callVi (pc := 27) d_M_order_27 mv_M_212 fw_Mo0 (c_M_plans e27) (by decide) rfl rfl (Nat.le_of_ble_eq_true rfl) ?_
      refine fw_istore_n (pc := 30) (lv1 := [(2, .int p27.1), (0, .ref 0), (1, .int a1)]) d_M_order_30 rfl (by decide) rfl ?_
      refine fw_iload_n (pc := 31) d_M_order_31 0 rfl rfl ?_
      refine fw_bipush (pc := 32) d_M_order_32 fw_bp98 ?_
      refine fw_icmp_le (pc := 34) (tgt := 40) d_M_order_34 rfl (fun hc => ?_) (fun hc => ?_)
      · have h := fw_it hc h
        refine fw_iload_n (pc := 40) d_M_order_40 0 rfl rfl ?_
        refine fw_bipush (pc := 41) d_M_order_41 fw_bp6 ?_
        refine fw_icmp_le (pc := 43) (tgt := 49) d_M_order_43 rfl (fun hc => ?_) (fun hc => ?_)
        · have h := fw_it hc h
          refine fw_iconst (pc := 49) d_M_order_49 fw_ic0 ?_
          refine fw_istore_n (pc := 50) (lv1 := [(3, .int 0), (2, .int p27.1), (0, .ref 0), (1, .int a1)]) d_M_order_50 rfl (by decide) rfl ?_
          obtain ⟨e51x, w51, h⟩ := fw_be h
          have hE51 : fw_R "FewTypesModel" prog_11_method_42_code 8 (some .int) fw_Mo 6 (some r.1) r.2 69 [(0, .ref 0), (1, .int a1), (2, .int p27.1)] [] e51x := by
            refine fw_aload_n (pc := 69) d_M_order_69 0 rfl rfl ?_
            refine fw_iload_n (pc := 70) d_M_order_70 2 rfl rfl ?_
            obtain ⟨p71, e71, h⟩ := fw_be h
            refine fw_callVi (pc := 71) d_M_order_71 mv_M_217 fw_Mo0 (c_M_clashes e71) (by decide) rfl rfl (Nat.le_of_ble_eq_true rfl) ?_
            refine fw_istore_n (pc := 74) (lv1 := [(3, .int p71.1), (0, .ref 0), (1, .int a1), (2, .int p27.1)]) d_M_order_74 rfl (by decide) rfl ?_
            refine fw_sipush (pc := 75) d_M_order_75 fw_sp1000 ?_
            refine fw_istore (pc := 78) (lv1 := [(4, .int 1000), (3, .int p71.1), (0, .ref 0), (1, .int a1), (2, .int p27.1)]) d_M_order_78 (by decide) rfl ?_
            refine fw_iconst (pc := 80) d_M_order_80 fw_ic1 ?_
            refine fw_istore (pc := 81) (lv1 := [(5, .int 1), (4, .int 1000), (3, .int p71.1), (0, .ref 0), (1, .int a1), (2, .int p27.1)]) d_M_order_81 (by decide) rfl ?_
            obtain ⟨e83x, w83, h⟩ := fw_be h
            have hE83 : fw_R "FewTypesModel" prog_11_method_42_code 8 (some .int) fw_Mo 6 (some r.1) r.2 157 [(0, .ref 0), (1, .int a1), (2, .int p27.1), (3, .int p71.1), (4, .int e83x.1)] [] e83x.2 := by
              refine fw_iload_n (pc := 157) d_M_order_157 1 rfl rfl ?_
              refine fw_iconst (pc := 158) d_M_order_158 fw_icm1 ?_
              obtain ⟨j159, w159, h⟩ := fw_be h
              have hJ159 : fw_R "FewTypesModel" prog_11_method_42_code 8 (some .int) fw_Mo 6 (some r.1) r.2 193 [] [.int j159] e83x.2 := by
                obtain rfl := Option.some.inj h
                exact fw_iret (pc := 193) d_M_order_193 rfl
              clear h
              have h := w159
              clear w159
              refine fw_icmp_ne (pc := 159) (tgt := 166) d_M_order_159 rfl (fun hc => ?_) (fun hc => ?_)
              · have h := fw_it hc h
                refine fw_iload_n (pc := 162) d_M_order_162 3 rfl rfl ?_
                refine fw_goto (pc := 163) (tgt := 193) d_M_order_163 rfl ?_
                obtain rfl := Option.some.inj h
                exact fw_sub [] rfl hJ159
              · have h := fw_if hc h
                refine fw_iload_n (pc := 166) d_M_order_166 1 rfl rfl ?_
                refine fw_bipush (pc := 167) d_M_order_167 fw_bpm2 ?_
                refine fw_icmp_ne (pc := 169) (tgt := 177) d_M_order_169 rfl (fun hc => ?_) (fun hc => ?_)
                · have h := fw_it hc h
                  refine fw_iload (pc := 172) d_M_order_172 4 rfl ?_
                  refine fw_goto (pc := 174) (tgt := 193) d_M_order_174 rfl ?_
                  obtain rfl := Option.some.inj h
                  exact fw_sub [] rfl hJ159
                · have h := fw_if hc h
                  refine fw_iload_n (pc := 177) d_M_order_177 1 rfl rfl ?_
                  refine fw_iload_n (pc := 178) d_M_order_178 2 rfl rfl ?_
                  refine fw_icmp_ge (pc := 179) (tgt := 191) d_M_order_179 rfl (fun hc => ?_) (fun hc => ?_)
                  · have h := fw_it hc h
                    refine fw_bipush (pc := 191) d_M_order_191 fw_bpm4 ?_
                    obtain rfl := Option.some.inj h
                    exact fw_sub [] rfl hJ159
                  · have h := fw_if hc h
                    refine fw_aload_n (pc := 182) d_M_order_182 0 rfl rfl ?_
                    refine fw_getR (pc := 183) d_M_order_183 fl_M_65 fw_Mo0 rfl ?_
                    refine fw_iload_n (pc := 186) d_M_order_186 1 rfl rfl ?_
                    obtain ⟨v187, e187, h⟩ := fw_be h
                    refine fw_iald (pc := 187) d_M_order_187 fw_Mo19 e187 ?_
                    refine fw_goto (pc := 188) (tgt := 193) d_M_order_188 rfl ?_
                    obtain rfl := Option.some.inj h
                    exact fw_sub [] rfl hJ159
            clear h
            exact fw_sub [3, 4, 5, 2, 1, 0] rfl (fw_we (e := e83x) (fun (s : Int32 × Int32 × fw_M) => fw_R "FewTypesModel" prog_11_method_42_code 8 (some .int) fw_Mo 6 (some r.1) r.2 83 [(0, .ref 0), (1, .int a1), (2, .int p27.1), (3, .int p71.1), (4, .int s.1), (5, .int s.2.1)] [] s.2.2) (by
              intro s x h hl hr
              obtain ⟨x4_83, x5_83, μ83⟩ := s
              rw [f_M_order_L83] at h
              show fw_R "FewTypesModel" prog_11_method_42_code 8 (some .int) fw_Mo 6 (some r.1) r.2 83 [(0, .ref 0), (1, .int a1), (2, .int p27.1), (3, .int p71.1), (4, .int x4_83), (5, .int x5_83)] [] μ83
              refine fw_iload (pc := 83) d_M_order_83 5 rfl ?_
              refine fw_if_eq (pc := 85) (tgt := 157) d_M_order_85 rfl (fun hc => ?_) (fun hc => ?_)
              · have h := fw_it hc h
                obtain rfl := Option.some.inj h
                have he := hr _ rfl
                subst he
                exact fw_sub [0, 1, 2, 3, 4] rfl hE83
              · have h := fw_if hc h
                refine fw_aload_n (pc := 88) d_M_order_88 0 rfl rfl ?_
                refine fw_iload_n (pc := 89) d_M_order_89 2 rfl rfl ?_
                obtain ⟨p90, e90, h⟩ := fw_be h
                refine fw_callVi (pc := 90) d_M_order_90 mv_M_217 fw_Mo0 (c_M_clashes e90) (by decide) rfl rfl (Nat.le_of_ble_eq_true rfl) ?_
                refine fw_istore (pc := 93) (lv1 := [(6, .int p90.1), (0, .ref 0), (1, .int a1), (2, .int p27.1), (3, .int p71.1), (4, .int x4_83), (5, .int x5_83)]) d_M_order_93 (by decide) rfl ?_
                refine fw_iconst (pc := 95) d_M_order_95 fw_ic0 ?_
                refine fw_istore (pc := 96) (lv1 := [(7, .int 0), (6, .int p90.1), (0, .ref 0), (1, .int a1), (2, .int p27.1), (3, .int p71.1), (4, .int x4_83), (5, .int x5_83)]) d_M_order_96 (by decide) rfl ?_
                obtain ⟨e98x, w98, h⟩ := fw_be h
                have hE98 : fw_R "FewTypesModel" prog_11_method_42_code 8 (some .int) fw_Mo 6 (some r.1) r.2 131 [(0, .ref 0), (1, .int a1), (2, .int p27.1), (3, .int p71.1), (4, .int x4_83), (6, .int p90.1)] [] e98x := by
                  refine fw_iload (pc := 131) d_M_order_131 5 rfl ?_
                  refine fw_iload (pc := 133) d_M_order_133 4 rfl ?_
                  obtain ⟨j135, w135, h⟩ := fw_ne h
                  have hJ135 : fw_R "FewTypesModel" prog_11_method_42_code 8 (some .int) fw_Mo 6 (some r.1) r.2 145 [(0, .ref 0), (1, .int a1), (2, .int p27.1), (3, .int p71.1)] [.int j135] e98x := by
                    refine fw_istore (pc := 145) (lv1 := [(4, .int j135), (0, .ref 0), (1, .int a1), (2, .int p27.1), (3, .int p71.1)]) d_M_order_145 (by decide) rfl ?_
                    refine fw_aload_n (pc := 147) d_M_order_147 1 rfl rfl ?_
                    refine fw_iload_n (pc := 148) d_M_order_148 3 rfl rfl ?_
                    obtain ⟨p149, e149, h⟩ := fw_be h
                    refine fw_callVi (pc := 149) d_M_order_149 mv_M_220 fw_Mo0 (c_M_turns e149) (by decide) rfl rfl (Nat.le_of_ble_eq_true rfl) ?_
                    refine fw_istore (pc := 152) (lv1 := [(5, .int p149.1), (4, .int j135), (0, .ref 0), (1, .int a1), (2, .int p27.1), (3, .int p71.1)]) d_M_order_152 (by decide) rfl ?_
                    refine fw_goto (pc := 154) (tgt := 83) d_M_order_154 rfl ?_
                    obtain rfl := Option.some.inj h
                    exact fw_sub [2, 3, 4, 5, 1, 0] rfl (hl _ rfl)
                  clear h
                  have h := w135
                  clear w135
                  refine fw_icmp_ge (pc := 135) (tgt := 143) d_M_order_135 rfl (fun hc => ?_) (fun hc => ?_)
                  · have h := h.trans (if_pos hc)
                    refine fw_iload (pc := 143) d_M_order_143 4 rfl ?_
                    subst h
                    exact fw_sub [0, 1, 2, 3] rfl hJ135
                  · have h := h.trans (if_neg hc)
                    refine fw_iload (pc := 138) d_M_order_138 5 rfl ?_
                    refine fw_goto (pc := 140) (tgt := 145) d_M_order_140 rfl ?_
                    subst h
                    exact fw_sub [0, 1, 2, 3] rfl hJ135
                clear h
                exact fw_sub [2, 3, 4, 5, 6, 1, 0] rfl (fw_we (e := e98x) (fun (s : Int32 × fw_M) => fw_R "FewTypesModel" prog_11_method_42_code 8 (some .int) fw_Mo 6 (some r.1) r.2 98 [(0, .ref 0), (1, .int a1), (2, .int p27.1), (3, .int p71.1), (4, .int x4_83), (6, .int p90.1), (7, .int s.1)] [] s.2) (by
                  intro s x h hl hr
                  obtain ⟨x7_98, μ98⟩ := s
                  rw [f_M_order_L98] at h
                  show fw_R "FewTypesModel" prog_11_method_42_code 8 (some .int) fw_Mo 6 (some r.1) r.2 98 [(0, .ref 0), (1, .int a1), (2, .int p27.1), (3, .int p71.1), (4, .int x4_83), (6, .int p90.1), (7, .int x7_98)] [] μ98
                  refine fw_iload (pc := 98) d_M_order_98 6 rfl ?_
                  refine fw_iload_n (pc := 100) d_M_order_100 2 rfl rfl ?_
                  refine fw_icmp_ge (pc := 101) (tgt := 131) d_M_order_101 rfl (fun hc => ?_) (fun hc => ?_)
                  · have h := fw_it hc h
                    obtain rfl := Option.some.inj h
                    have he := hr _ rfl
                    subst he
                    exact fw_sub [0, 1, 2, 3, 4, 5] rfl hE98
                  · have h := fw_if hc h
                    refine fw_iload (pc := 104) d_M_order_104 5 rfl ?_
                    refine fw_iload (pc := 106) d_M_order_106 4 rfl ?_
                    refine fw_icmp_ge (pc := 108) (tgt := 131) d_M_order_108 rfl (fun hc => ?_) (fun hc => ?_)
                    · have h := fw_it hc h
                      obtain rfl := Option.some.inj h
                      have he := hr _ rfl
                      subst he
                      exact fw_sub [0, 1, 2, 3, 4, 5] rfl hE98
                    · have h := fw_if hc h
                      refine fw_aload_n (pc := 111) d_M_order_111 0 rfl rfl ?_
                      refine fw_getR (pc := 112) d_M_order_112 fl_M_65 fw_Mo0 rfl ?_
                      refine fw_iload (pc := 115) d_M_order_115 6 rfl ?_
                      refine fw_aload_n (pc := 117) d_M_order_117 0 rfl rfl ?_
                      refine fw_getR (pc := 118) d_M_order_118 fl_M_62 fw_Mo0 rfl ?_
                      refine fw_iload (pc := 121) d_M_order_121 6 rfl ?_
                      obtain ⟨v123, e123, h⟩ := fw_be h
                      refine fw_iald (pc := 123) d_M_order_123 fw_Mo18 e123 ?_
                      obtain ⟨μ124, e124, h⟩ := fw_be h
                      refine fw_iast (pc := 124) d_M_order_124 fw_Mo19 e124 ?_
                      obtain ⟨v125, e125, h⟩ := fw_ne h
                      refine fw_iinc2 (pc := 125) (j := 6) (lv1 := [(7, .int v125), (0, .ref 0), (1, .int a1), (2, .int p27.1), (3, .int p71.1), (4, .int x4_83), (6, .int p90.1)]) d_M_order_125 rfl fw_ic1 e125 (by decide) rfl ?_
                      refine fw_goto (pc := 128) (tgt := 98) d_M_order_128 rfl ?_
                      obtain rfl := Option.some.inj h
                      exact fw_sub [1, 2, 3, 4, 5, 6, 0] rfl (hl _ rfl)
                  ) _ _ w98)
              ) _ _ w83)
          clear h
          exact fw_sub [2, 3, 1, 0] rfl (fw_we (e := e51x) (fun (s : Int32 × fw_M) => fw_R "FewTypesModel" prog_11_method_42_code 8 (some .int) fw_Mo 6 (some r.1) r.2 51 [(0, .ref 0), (1, .int a1), (2, .int p27.1), (3, .int s.1)] [] s.2) (by
            intro s x h hl hr
            obtain ⟨x3_51, μ51⟩ := s
            rw [f_M_order_L51] at h
            show fw_R "FewTypesModel" prog_11_method_42_code 8 (some .int) fw_Mo 6 (some r.1) r.2 51 [(0, .ref 0), (1, .int a1), (2, .int p27.1), (3, .int x3_51)] [] μ51
            refine fw_iload_n (pc := 51) d_M_order_51 3 rfl rfl ?_
            refine fw_iload_n (pc := 52) d_M_order_52 2 rfl rfl ?_
            refine fw_icmp_ge (pc := 53) (tgt := 69) d_M_order_53 rfl (fun hc => ?_) (fun hc => ?_)
            · have h := fw_it hc h
              obtain rfl := Option.some.inj h
              have he := hr _ rfl
              subst he
              exact fw_sub [0, 1, 2] rfl hE51
            · have h := fw_if hc h
              refine fw_aload_n (pc := 56) d_M_order_56 0 rfl rfl ?_
              refine fw_getR (pc := 57) d_M_order_57 fl_M_62 fw_Mo0 rfl ?_
              refine fw_iload_n (pc := 60) d_M_order_60 3 rfl rfl ?_
              refine fw_iload_n (pc := 61) d_M_order_61 3 rfl rfl ?_
              obtain ⟨μ62, e62, h⟩ := fw_be h
              refine fw_iast (pc := 62) d_M_order_62 fw_Mo18 e62 ?_
              obtain ⟨v63, e63, h⟩ := fw_ne h
              refine fw_iinc2 (pc := 63) (j := 3) (lv1 := [(3, .int v63), (0, .ref 0), (1, .int a1), (2, .int p27.1)]) d_M_order_63 rfl fw_ic1 e63 (by decide) rfl ?_
              refine fw_goto (pc := 66) (tgt := 51) d_M_order_66 rfl ?_
              obtain rfl := Option.some.inj h
              exact fw_sub [1, 2, 3, 0] rfl (hl _ rfl)
            ) _ _ w51)
        · have h := fw_if hc h
          refine fw_bipush (pc := 46) d_M_order_46 fw_bpm3 ?_
          obtain rfl := Option.some.inj h
          exact fw_iret (pc := 48) d_M_order_48 rfl
      · have h := fw_if hc h
        refine fw_bipush (pc := 37) d_M_order_37 fw_bpm4 ?_
        obtain rfl := Option.some.inj h
        exact fw_iret (pc := 39) d_M_order_39 rfl
