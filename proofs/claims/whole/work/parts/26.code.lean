abbrev Y_M_leaf : fw_Y := (⟨"FewTypesModel", "leaf", "(III)I"⟩, prog_11_method_61_code, 9, (some .int))
abbrev Y_M_alike : fw_Y := (⟨"FewTypesModel", "alike", "(IIII)I"⟩, prog_11_method_62_code, 9, (some .int))
abbrev Y_M_sheet : fw_Y := (⟨"FewTypesModel", "sheet", "(III)I"⟩, prog_11_method_63_code, 5, (some .int))
abbrev Y_M_drop : fw_Y := (⟨"FewTypesModel", "drop", "(I)I"⟩, prog_11_method_64_code, 2, (some .int))
abbrev Y_M_item : fw_Y := (⟨"FewTypesModel", "item", "(IIII)I"⟩, prog_11_method_65_code, 6, (some .int))
abbrev Y_M_copy : fw_Y := (⟨"FewTypesModel", "copy", "(IIIII)I"⟩, prog_11_method_66_code, 7, (some .int))
theorem ms_M_249 : fw_MS "FewTypesModel" 249 Y_M_isSheet 1 := ⟨fw_m 1199 (by decide +kernel) (by decide +kernel), fw_m 1200 (by decide +kernel) (by decide +kernel), fw_m 70 (by decide +kernel) (by decide +kernel), fw_m 1201 (by decide +kernel) (by decide +kernel), ⟨by decide +kernel, by decide +kernel, by decide +kernel⟩, by decide⟩
theorem ms_M_252 : fw_MS "FewTypesModel" 252 Y_M_isLane 1 := ⟨fw_m 1202 (by decide +kernel) (by decide +kernel), fw_m 1203 (by decide +kernel) (by decide +kernel), fw_m 70 (by decide +kernel) (by decide +kernel), fw_m 1204 (by decide +kernel) (by decide +kernel), ⟨by decide +kernel, by decide +kernel, by decide +kernel⟩, by decide⟩
theorem mv_M_255 : fw_MV "FewTypesModel" 255 Y_M_finds 9 4 := ⟨fw_m 1205 (by decide +kernel) (by decide +kernel), fw_m 1207 (by decide +kernel) (by decide +kernel), fw_m 57 (by decide +kernel) (by decide +kernel), fw_m 70 (by decide +kernel) (by decide +kernel), fw_m 1208 (by decide +kernel) (by decide +kernel), ⟨by decide +kernel, by decide +kernel, by decide +kernel⟩, by decide, _, _, rfl⟩
theorem fl_M_86 : fw_FL "FewTypesModel" 86 9 35 := ⟨_, _, _, rfl, fw_i9, by decide, fw_m 888 (by decide +kernel) (by decide +kernel)⟩
theorem fl_M_89 : fw_FL "FewTypesModel" 89 9 36 := ⟨_, _, _, rfl, fw_i9, by decide, fw_m 889 (by decide +kernel) (by decide +kernel)⟩
theorem d_M_leaf_0 : decode prog_11_method_61_code 0 = .ok (.iload_n 1, 1) := by decide +kernel
theorem d_M_leaf_1 : decode prog_11_method_61_code 1 = .ok (.invokestatic 249, 3) := by decide +kernel
theorem d_M_leaf_4 : decode prog_11_method_61_code 4 = .ok (.ifCond .eq 10, 3) := by decide +kernel
theorem d_M_leaf_7 : decode prog_11_method_61_code 7 = .ok (.iload_n 2, 1) := by decide +kernel
theorem d_M_leaf_8 : decode prog_11_method_61_code 8 = .ok (.invokestatic 252, 3) := by decide +kernel
theorem d_M_leaf_11 : decode prog_11_method_61_code 11 = .ok (.ifCond .ne 5, 3) := by decide +kernel
theorem d_M_leaf_14 : decode prog_11_method_61_code 14 = .ok (.iconst (-1), 1) := by decide +kernel
theorem d_M_leaf_15 : decode prog_11_method_61_code 15 = .ok (.ireturn, 1) := by decide +kernel
theorem d_M_leaf_16 : decode prog_11_method_61_code 16 = .ok (.aload_n 0, 1) := by decide +kernel
theorem d_M_leaf_17 : decode prog_11_method_61_code 17 = .ok (.iload_n 1, 1) := by decide +kernel
theorem d_M_leaf_18 : decode prog_11_method_61_code 18 = .ok (.iload_n 2, 1) := by decide +kernel
theorem d_M_leaf_19 : decode prog_11_method_61_code 19 = .ok (.iload_n 3, 1) := by decide +kernel
theorem d_M_leaf_20 : decode prog_11_method_61_code 20 = .ok (.aload_n 0, 1) := by decide +kernel
theorem d_M_leaf_21 : decode prog_11_method_61_code 21 = .ok (.getfield 158, 3) := by decide +kernel
theorem d_M_leaf_24 : decode prog_11_method_61_code 24 = .ok (.invokevirtual 255, 3) := by decide +kernel
theorem d_M_leaf_27 : decode prog_11_method_61_code 27 = .ok (.istore 4, 2) := by decide +kernel
theorem d_M_leaf_29 : decode prog_11_method_61_code 29 = .ok (.iload 4, 2) := by decide +kernel
theorem d_M_leaf_31 : decode prog_11_method_61_code 31 = .ok (.ifCond .ge 6, 3) := by decide +kernel
theorem d_M_leaf_34 : decode prog_11_method_61_code 34 = .ok (.iload 4, 2) := by decide +kernel
theorem d_M_leaf_36 : decode prog_11_method_61_code 36 = .ok (.ireturn, 1) := by decide +kernel
theorem d_M_leaf_37 : decode prog_11_method_61_code 37 = .ok (.aload_n 0, 1) := by decide +kernel
theorem d_M_leaf_38 : decode prog_11_method_61_code 38 = .ok (.getfield 158, 3) := by decide +kernel
theorem d_M_leaf_41 : decode prog_11_method_61_code 41 = .ok (.ifCond .eq 12, 3) := by decide +kernel
theorem d_M_leaf_44 : decode prog_11_method_61_code 44 = .ok (.aload_n 0, 1) := by decide +kernel
theorem d_M_leaf_45 : decode prog_11_method_61_code 45 = .ok (.getfield 22, 3) := by decide +kernel
theorem d_M_leaf_48 : decode prog_11_method_61_code 48 = .ok (.iconst 1, 1) := by decide +kernel
theorem d_M_leaf_49 : decode prog_11_method_61_code 49 = .ok (.iaload, 1) := by decide +kernel
theorem d_M_leaf_50 : decode prog_11_method_61_code 50 = .ok (.ifCond .ne 6, 3) := by decide +kernel
theorem d_M_leaf_53 : decode prog_11_method_61_code 53 = .ok (.bipush (-2), 2) := by decide +kernel
theorem d_M_leaf_55 : decode prog_11_method_61_code 55 = .ok (.ireturn, 1) := by decide +kernel
theorem d_M_leaf_56 : decode prog_11_method_61_code 56 = .ok (.iconst 1, 1) := by decide +kernel
theorem d_M_leaf_57 : decode prog_11_method_61_code 57 = .ok (.aload_n 0, 1) := by decide +kernel
theorem d_M_leaf_58 : decode prog_11_method_61_code 58 = .ok (.getfield 158, 3) := by decide +kernel
theorem d_M_leaf_61 : decode prog_11_method_61_code 61 = .ok (.ishl, 1) := by decide +kernel
theorem d_M_leaf_62 : decode prog_11_method_61_code 62 = .ok (.iconst 1, 1) := by decide +kernel
theorem d_M_leaf_63 : decode prog_11_method_61_code 63 = .ok (.isub, 1) := by decide +kernel
theorem d_M_leaf_64 : decode prog_11_method_61_code 64 = .ok (.istore 5, 2) := by decide +kernel
theorem d_M_leaf_66 : decode prog_11_method_61_code 66 = .ok (.iconst 0, 1) := by decide +kernel
theorem d_M_leaf_67 : decode prog_11_method_61_code 67 = .ok (.istore 6, 2) := by decide +kernel
theorem d_M_leaf_69 : decode prog_11_method_61_code 69 = .ok (.iload 5, 2) := by decide +kernel
theorem d_M_leaf_71 : decode prog_11_method_61_code 71 = .ok (.ifCond .eq 113, 3) := by decide +kernel
theorem d_M_leaf_74 : decode prog_11_method_61_code 74 = .ok (.iconst 0, 1) := by decide +kernel
theorem d_M_leaf_75 : decode prog_11_method_61_code 75 = .ok (.istore 7, 2) := by decide +kernel
theorem d_M_leaf_77 : decode prog_11_method_61_code 77 = .ok (.iconst 0, 1) := by decide +kernel
theorem d_M_leaf_78 : decode prog_11_method_61_code 78 = .ok (.istore 8, 2) := by decide +kernel
theorem d_M_leaf_80 : decode prog_11_method_61_code 80 = .ok (.iload 8, 2) := by decide +kernel
theorem d_M_leaf_82 : decode prog_11_method_61_code 82 = .ok (.aload_n 0, 1) := by decide +kernel
theorem d_M_leaf_83 : decode prog_11_method_61_code 83 = .ok (.getfield 158, 3) := by decide +kernel
theorem d_M_leaf_86 : decode prog_11_method_61_code 86 = .ok (.if_icmp .ge 66, 3) := by decide +kernel
theorem d_M_leaf_89 : decode prog_11_method_61_code 89 = .ok (.iload 7, 2) := by decide +kernel
theorem d_M_leaf_91 : decode prog_11_method_61_code 91 = .ok (.iload 5, 2) := by decide +kernel
theorem d_M_leaf_93 : decode prog_11_method_61_code 93 = .ok (.iload 8, 2) := by decide +kernel
theorem d_M_leaf_95 : decode prog_11_method_61_code 95 = .ok (.ishr, 1) := by decide +kernel
theorem d_M_leaf_96 : decode prog_11_method_61_code 96 = .ok (.iconst 1, 1) := by decide +kernel
theorem d_M_leaf_97 : decode prog_11_method_61_code 97 = .ok (.iand, 1) := by decide +kernel
theorem d_M_leaf_98 : decode prog_11_method_61_code 98 = .ok (.iconst 1, 1) := by decide +kernel
theorem d_M_leaf_99 : decode prog_11_method_61_code 99 = .ok (.if_icmp .ne 43, 3) := by decide +kernel
theorem d_M_leaf_102 : decode prog_11_method_61_code 102 = .ok (.aload_n 0, 1) := by decide +kernel
theorem d_M_leaf_103 : decode prog_11_method_61_code 103 = .ok (.getfield 86, 3) := by decide +kernel
theorem d_M_leaf_106 : decode prog_11_method_61_code 106 = .ok (.bipush 24, 2) := by decide +kernel
theorem d_M_leaf_108 : decode prog_11_method_61_code 108 = .ok (.iload_n 1, 1) := by decide +kernel
theorem d_M_leaf_109 : decode prog_11_method_61_code 109 = .ok (.imul, 1) := by decide +kernel
theorem d_M_leaf_110 : decode prog_11_method_61_code 110 = .ok (.iload_n 3, 1) := by decide +kernel
theorem d_M_leaf_111 : decode prog_11_method_61_code 111 = .ok (.iadd, 1) := by decide +kernel
theorem d_M_leaf_112 : decode prog_11_method_61_code 112 = .ok (.iload 8, 2) := by decide +kernel
theorem d_M_leaf_114 : decode prog_11_method_61_code 114 = .ok (.iadd, 1) := by decide +kernel
theorem d_M_leaf_115 : decode prog_11_method_61_code 115 = .ok (.iaload, 1) := by decide +kernel
theorem d_M_leaf_116 : decode prog_11_method_61_code 116 = .ok (.aload_n 0, 1) := by decide +kernel
theorem d_M_leaf_117 : decode prog_11_method_61_code 117 = .ok (.iload 8, 2) := by decide +kernel
theorem d_M_leaf_119 : decode prog_11_method_61_code 119 = .ok (.invokevirtual 167, 3) := by decide +kernel
theorem d_M_leaf_122 : decode prog_11_method_61_code 122 = .ok (.iload 6, 2) := by decide +kernel
theorem d_M_leaf_124 : decode prog_11_method_61_code 124 = .ok (.aload_n 0, 1) := by decide +kernel
theorem d_M_leaf_125 : decode prog_11_method_61_code 125 = .ok (.getfield 22, 3) := by decide +kernel
theorem d_M_leaf_128 : decode prog_11_method_61_code 128 = .ok (.iconst 1, 1) := by decide +kernel
theorem d_M_leaf_129 : decode prog_11_method_61_code 129 = .ok (.iaload, 1) := by decide +kernel
theorem d_M_leaf_130 : decode prog_11_method_61_code 130 = .ok (.imul, 1) := by decide +kernel
theorem d_M_leaf_131 : decode prog_11_method_61_code 131 = .ok (.iadd, 1) := by decide +kernel
theorem d_M_leaf_132 : decode prog_11_method_61_code 132 = .ok (.if_icmp .ne 10, 3) := by decide +kernel
theorem d_M_leaf_135 : decode prog_11_method_61_code 135 = .ok (.iconst 1, 1) := by decide +kernel
theorem d_M_leaf_136 : decode prog_11_method_61_code 136 = .ok (.iload 8, 2) := by decide +kernel
theorem d_M_leaf_138 : decode prog_11_method_61_code 138 = .ok (.ishl, 1) := by decide +kernel
theorem d_M_leaf_139 : decode prog_11_method_61_code 139 = .ok (.goto 4, 3) := by decide +kernel
theorem d_M_leaf_142 : decode prog_11_method_61_code 142 = .ok (.iconst 0, 1) := by decide +kernel
theorem d_M_leaf_143 : decode prog_11_method_61_code 143 = .ok (.ior, 1) := by decide +kernel
theorem d_M_leaf_144 : decode prog_11_method_61_code 144 = .ok (.istore 7, 2) := by decide +kernel
theorem d_M_leaf_146 : decode prog_11_method_61_code 146 = .ok (.iinc 8 1, 3) := by decide +kernel
theorem d_M_leaf_149 : decode prog_11_method_61_code 149 = .ok (.goto (-69), 3) := by decide +kernel
theorem d_M_leaf_152 : decode prog_11_method_61_code 152 = .ok (.iload 7, 2) := by decide +kernel
theorem d_M_leaf_154 : decode prog_11_method_61_code 154 = .ok (.ifCond .eq 12, 3) := by decide +kernel
theorem d_M_leaf_157 : decode prog_11_method_61_code 157 = .ok (.aload_n 0, 1) := by decide +kernel
theorem d_M_leaf_158 : decode prog_11_method_61_code 158 = .ok (.iload 7, 2) := by decide +kernel
theorem d_M_leaf_160 : decode prog_11_method_61_code 160 = .ok (.invokevirtual 200, 3) := by decide +kernel
theorem d_M_leaf_163 : decode prog_11_method_61_code 163 = .ok (.ifCond .ne 6, 3) := by decide +kernel
theorem d_M_leaf_166 : decode prog_11_method_61_code 166 = .ok (.bipush (-4), 2) := by decide +kernel
theorem d_M_leaf_168 : decode prog_11_method_61_code 168 = .ok (.ireturn, 1) := by decide +kernel
theorem d_M_leaf_169 : decode prog_11_method_61_code 169 = .ok (.iload 5, 2) := by decide +kernel
theorem d_M_leaf_171 : decode prog_11_method_61_code 171 = .ok (.iload 7, 2) := by decide +kernel
theorem d_M_leaf_173 : decode prog_11_method_61_code 173 = .ok (.iconst (-1), 1) := by decide +kernel
theorem d_M_leaf_174 : decode prog_11_method_61_code 174 = .ok (.ixor, 1) := by decide +kernel
theorem d_M_leaf_175 : decode prog_11_method_61_code 175 = .ok (.iand, 1) := by decide +kernel
theorem d_M_leaf_176 : decode prog_11_method_61_code 176 = .ok (.istore 5, 2) := by decide +kernel
theorem d_M_leaf_178 : decode prog_11_method_61_code 178 = .ok (.iinc 6 1, 3) := by decide +kernel
theorem d_M_leaf_181 : decode prog_11_method_61_code 181 = .ok (.goto (-112), 3) := by decide +kernel
theorem d_M_leaf_184 : decode prog_11_method_61_code 184 = .ok (.iload 6, 2) := by decide +kernel
theorem d_M_leaf_186 : decode prog_11_method_61_code 186 = .ok (.ireturn, 1) := by decide +kernel
theorem d_M_alike_0 : decode prog_11_method_62_code 0 = .ok (.iload_n 1, 1) := by decide +kernel
theorem d_M_alike_1 : decode prog_11_method_62_code 1 = .ok (.invokestatic 249, 3) := by decide +kernel
theorem d_M_alike_4 : decode prog_11_method_62_code 4 = .ok (.ifCond .eq 33, 3) := by decide +kernel
theorem d_M_alike_7 : decode prog_11_method_62_code 7 = .ok (.iload_n 2, 1) := by decide +kernel
theorem d_M_alike_8 : decode prog_11_method_62_code 8 = .ok (.invokestatic 249, 3) := by decide +kernel
theorem d_M_alike_11 : decode prog_11_method_62_code 11 = .ok (.ifCond .eq 26, 3) := by decide +kernel
theorem d_M_alike_14 : decode prog_11_method_62_code 14 = .ok (.iload_n 3, 1) := by decide +kernel
theorem d_M_alike_15 : decode prog_11_method_62_code 15 = .ok (.i2l, 1) := by decide +kernel
theorem d_M_alike_16 : decode prog_11_method_62_code 16 = .ok (.lconst 1, 1) := by decide +kernel
theorem d_M_alike_17 : decode prog_11_method_62_code 17 = .ok (.ldc2_w 228, 3) := by decide +kernel
theorem d_M_alike_20 : decode prog_11_method_62_code 20 = .ok (.invokestatic 94, 3) := by decide +kernel
theorem d_M_alike_23 : decode prog_11_method_62_code 23 = .ok (.ifCond .eq 14, 3) := by decide +kernel
theorem d_M_alike_26 : decode prog_11_method_62_code 26 = .ok (.iload 4, 2) := by decide +kernel
theorem d_M_alike_28 : decode prog_11_method_62_code 28 = .ok (.i2l, 1) := by decide +kernel
theorem d_M_alike_29 : decode prog_11_method_62_code 29 = .ok (.lconst 0, 1) := by decide +kernel
theorem d_M_alike_30 : decode prog_11_method_62_code 30 = .ok (.lconst 1, 1) := by decide +kernel
theorem d_M_alike_31 : decode prog_11_method_62_code 31 = .ok (.invokestatic 94, 3) := by decide +kernel
theorem d_M_alike_34 : decode prog_11_method_62_code 34 = .ok (.ifCond .ne 5, 3) := by decide +kernel
theorem d_M_alike_37 : decode prog_11_method_62_code 37 = .ok (.iconst (-1), 1) := by decide +kernel
theorem d_M_alike_38 : decode prog_11_method_62_code 38 = .ok (.ireturn, 1) := by decide +kernel
theorem d_M_alike_39 : decode prog_11_method_62_code 39 = .ok (.aload_n 0, 1) := by decide +kernel
theorem d_M_alike_40 : decode prog_11_method_62_code 40 = .ok (.getfield 80, 3) := by decide +kernel
theorem d_M_alike_43 : decode prog_11_method_62_code 43 = .ok (.iload_n 1, 1) := by decide +kernel
theorem d_M_alike_44 : decode prog_11_method_62_code 44 = .ok (.iaload, 1) := by decide +kernel
theorem d_M_alike_45 : decode prog_11_method_62_code 45 = .ok (.ifCond .lt 12, 3) := by decide +kernel
theorem d_M_alike_48 : decode prog_11_method_62_code 48 = .ok (.aload_n 0, 1) := by decide +kernel
theorem d_M_alike_49 : decode prog_11_method_62_code 49 = .ok (.getfield 80, 3) := by decide +kernel
theorem d_M_alike_52 : decode prog_11_method_62_code 52 = .ok (.iload_n 2, 1) := by decide +kernel
theorem d_M_alike_53 : decode prog_11_method_62_code 53 = .ok (.iaload, 1) := by decide +kernel
theorem d_M_alike_54 : decode prog_11_method_62_code 54 = .ok (.ifCond .ge 6, 3) := by decide +kernel
theorem d_M_alike_57 : decode prog_11_method_62_code 57 = .ok (.bipush (-11), 2) := by decide +kernel
theorem d_M_alike_59 : decode prog_11_method_62_code 59 = .ok (.ireturn, 1) := by decide +kernel
theorem d_M_alike_60 : decode prog_11_method_62_code 60 = .ok (.aload_n 0, 1) := by decide +kernel
theorem d_M_alike_61 : decode prog_11_method_62_code 61 = .ok (.getfield 80, 3) := by decide +kernel
theorem d_M_alike_64 : decode prog_11_method_62_code 64 = .ok (.iload_n 1, 1) := by decide +kernel
theorem d_M_alike_65 : decode prog_11_method_62_code 65 = .ok (.iaload, 1) := by decide +kernel
theorem d_M_alike_66 : decode prog_11_method_62_code 66 = .ok (.aload_n 0, 1) := by decide +kernel
theorem d_M_alike_67 : decode prog_11_method_62_code 67 = .ok (.getfield 80, 3) := by decide +kernel
theorem d_M_alike_70 : decode prog_11_method_62_code 70 = .ok (.iload_n 2, 1) := by decide +kernel
theorem d_M_alike_71 : decode prog_11_method_62_code 71 = .ok (.iaload, 1) := by decide +kernel
theorem d_M_alike_72 : decode prog_11_method_62_code 72 = .ok (.if_icmp .eq 6, 3) := by decide +kernel
theorem d_M_alike_75 : decode prog_11_method_62_code 75 = .ok (.bipush (-12), 2) := by decide +kernel
theorem d_M_alike_77 : decode prog_11_method_62_code 77 = .ok (.ireturn, 1) := by decide +kernel
theorem d_M_alike_78 : decode prog_11_method_62_code 78 = .ok (.iload_n 3, 1) := by decide +kernel
theorem d_M_alike_79 : decode prog_11_method_62_code 79 = .ok (.aload_n 0, 1) := by decide +kernel
theorem d_M_alike_80 : decode prog_11_method_62_code 80 = .ok (.getfield 83, 3) := by decide +kernel
theorem d_M_alike_83 : decode prog_11_method_62_code 83 = .ok (.iload_n 1, 1) := by decide +kernel
theorem d_M_alike_84 : decode prog_11_method_62_code 84 = .ok (.iaload, 1) := by decide +kernel
theorem d_M_alike_85 : decode prog_11_method_62_code 85 = .ok (.if_icmp .gt 13, 3) := by decide +kernel
theorem d_M_alike_88 : decode prog_11_method_62_code 88 = .ok (.iload_n 3, 1) := by decide +kernel
theorem d_M_alike_89 : decode prog_11_method_62_code 89 = .ok (.aload_n 0, 1) := by decide +kernel
theorem d_M_alike_90 : decode prog_11_method_62_code 90 = .ok (.getfield 83, 3) := by decide +kernel
theorem d_M_alike_93 : decode prog_11_method_62_code 93 = .ok (.iload_n 2, 1) := by decide +kernel
theorem d_M_alike_94 : decode prog_11_method_62_code 94 = .ok (.iaload, 1) := by decide +kernel
theorem d_M_alike_95 : decode prog_11_method_62_code 95 = .ok (.if_icmp .le 6, 3) := by decide +kernel
theorem d_M_alike_98 : decode prog_11_method_62_code 98 = .ok (.bipush (-13), 2) := by decide +kernel
theorem d_M_alike_100 : decode prog_11_method_62_code 100 = .ok (.ireturn, 1) := by decide +kernel
theorem d_M_alike_101 : decode prog_11_method_62_code 101 = .ok (.iconst 0, 1) := by decide +kernel
theorem d_M_alike_102 : decode prog_11_method_62_code 102 = .ok (.istore 5, 2) := by decide +kernel
theorem d_M_alike_104 : decode prog_11_method_62_code 104 = .ok (.iconst 0, 1) := by decide +kernel
theorem d_M_alike_105 : decode prog_11_method_62_code 105 = .ok (.istore 6, 2) := by decide +kernel
theorem d_M_alike_107 : decode prog_11_method_62_code 107 = .ok (.iload 6, 2) := by decide +kernel
theorem d_M_alike_109 : decode prog_11_method_62_code 109 = .ok (.iload_n 3, 1) := by decide +kernel
theorem d_M_alike_110 : decode prog_11_method_62_code 110 = .ok (.if_icmp .ge 46, 3) := by decide +kernel
theorem d_M_alike_113 : decode prog_11_method_62_code 113 = .ok (.iload 5, 2) := by decide +kernel
theorem d_M_alike_115 : decode prog_11_method_62_code 115 = .ok (.aload_n 0, 1) := by decide +kernel
theorem d_M_alike_116 : decode prog_11_method_62_code 116 = .ok (.getfield 86, 3) := by decide +kernel
theorem d_M_alike_119 : decode prog_11_method_62_code 119 = .ok (.bipush 24, 2) := by decide +kernel
theorem d_M_alike_121 : decode prog_11_method_62_code 121 = .ok (.iload_n 1, 1) := by decide +kernel
theorem d_M_alike_122 : decode prog_11_method_62_code 122 = .ok (.imul, 1) := by decide +kernel
theorem d_M_alike_123 : decode prog_11_method_62_code 123 = .ok (.iload 6, 2) := by decide +kernel
theorem d_M_alike_125 : decode prog_11_method_62_code 125 = .ok (.iadd, 1) := by decide +kernel
theorem d_M_alike_126 : decode prog_11_method_62_code 126 = .ok (.iaload, 1) := by decide +kernel
theorem d_M_alike_127 : decode prog_11_method_62_code 127 = .ok (.aload_n 0, 1) := by decide +kernel
theorem d_M_alike_128 : decode prog_11_method_62_code 128 = .ok (.getfield 86, 3) := by decide +kernel
theorem d_M_alike_131 : decode prog_11_method_62_code 131 = .ok (.bipush 24, 2) := by decide +kernel
theorem d_M_alike_133 : decode prog_11_method_62_code 133 = .ok (.iload_n 2, 1) := by decide +kernel
theorem d_M_alike_134 : decode prog_11_method_62_code 134 = .ok (.imul, 1) := by decide +kernel
theorem d_M_alike_135 : decode prog_11_method_62_code 135 = .ok (.iload 6, 2) := by decide +kernel
theorem d_M_alike_137 : decode prog_11_method_62_code 137 = .ok (.iadd, 1) := by decide +kernel
theorem d_M_alike_138 : decode prog_11_method_62_code 138 = .ok (.iaload, 1) := by decide +kernel
theorem d_M_alike_139 : decode prog_11_method_62_code 139 = .ok (.if_icmp .ne 7, 3) := by decide +kernel
theorem d_M_alike_142 : decode prog_11_method_62_code 142 = .ok (.iconst 1, 1) := by decide +kernel
theorem d_M_alike_143 : decode prog_11_method_62_code 143 = .ok (.goto 4, 3) := by decide +kernel
theorem d_M_alike_146 : decode prog_11_method_62_code 146 = .ok (.iconst 0, 1) := by decide +kernel
theorem d_M_alike_147 : decode prog_11_method_62_code 147 = .ok (.iadd, 1) := by decide +kernel
theorem d_M_alike_148 : decode prog_11_method_62_code 148 = .ok (.istore 5, 2) := by decide +kernel
theorem d_M_alike_150 : decode prog_11_method_62_code 150 = .ok (.iinc 6 1, 3) := by decide +kernel
theorem d_M_alike_153 : decode prog_11_method_62_code 153 = .ok (.goto (-46), 3) := by decide +kernel
theorem d_M_alike_156 : decode prog_11_method_62_code 156 = .ok (.iload 5, 2) := by decide +kernel
theorem d_M_alike_158 : decode prog_11_method_62_code 158 = .ok (.istore 6, 2) := by decide +kernel
theorem d_M_alike_160 : decode prog_11_method_62_code 160 = .ok (.iload_n 3, 1) := by decide +kernel
theorem d_M_alike_161 : decode prog_11_method_62_code 161 = .ok (.istore 7, 2) := by decide +kernel
theorem d_M_alike_163 : decode prog_11_method_62_code 163 = .ok (.iload 7, 2) := by decide +kernel
theorem d_M_alike_165 : decode prog_11_method_62_code 165 = .ok (.ifCond .le 21, 3) := by decide +kernel
theorem d_M_alike_168 : decode prog_11_method_62_code 168 = .ok (.iload 6, 2) := by decide +kernel
theorem d_M_alike_170 : decode prog_11_method_62_code 170 = .ok (.iload 7, 2) := by decide +kernel
theorem d_M_alike_172 : decode prog_11_method_62_code 172 = .ok (.irem, 1) := by decide +kernel
theorem d_M_alike_173 : decode prog_11_method_62_code 173 = .ok (.istore 8, 2) := by decide +kernel
theorem d_M_alike_175 : decode prog_11_method_62_code 175 = .ok (.iload 7, 2) := by decide +kernel
theorem d_M_alike_177 : decode prog_11_method_62_code 177 = .ok (.istore 6, 2) := by decide +kernel
theorem d_M_alike_179 : decode prog_11_method_62_code 179 = .ok (.iload 8, 2) := by decide +kernel
theorem d_M_alike_181 : decode prog_11_method_62_code 181 = .ok (.istore 7, 2) := by decide +kernel
theorem d_M_alike_183 : decode prog_11_method_62_code 183 = .ok (.goto (-20), 3) := by decide +kernel
theorem d_M_alike_186 : decode prog_11_method_62_code 186 = .ok (.iload 4, 2) := by decide +kernel
theorem d_M_alike_188 : decode prog_11_method_62_code 188 = .ok (.ifCond .ne 11, 3) := by decide +kernel
theorem d_M_alike_191 : decode prog_11_method_62_code 191 = .ok (.iload 5, 2) := by decide +kernel
theorem d_M_alike_193 : decode prog_11_method_62_code 193 = .ok (.iload 6, 2) := by decide +kernel
theorem d_M_alike_195 : decode prog_11_method_62_code 195 = .ok (.idiv, 1) := by decide +kernel
theorem d_M_alike_196 : decode prog_11_method_62_code 196 = .ok (.goto 7, 3) := by decide +kernel
theorem d_M_alike_199 : decode prog_11_method_62_code 199 = .ok (.iload_n 3, 1) := by decide +kernel
theorem d_M_alike_200 : decode prog_11_method_62_code 200 = .ok (.iload 6, 2) := by decide +kernel
theorem d_M_alike_202 : decode prog_11_method_62_code 202 = .ok (.idiv, 1) := by decide +kernel
theorem d_M_alike_203 : decode prog_11_method_62_code 203 = .ok (.ireturn, 1) := by decide +kernel
theorem d_M_sheet_0 : decode prog_11_method_63_code 0 = .ok (.iload_n 1, 1) := by decide +kernel
theorem d_M_sheet_1 : decode prog_11_method_63_code 1 = .ok (.invokestatic 249, 3) := by decide +kernel
theorem d_M_sheet_4 : decode prog_11_method_63_code 4 = .ok (.ifCond .eq 16, 3) := by decide +kernel
theorem d_M_sheet_7 : decode prog_11_method_63_code 7 = .ok (.iload_n 2, 1) := by decide +kernel
theorem d_M_sheet_8 : decode prog_11_method_63_code 8 = .ok (.invokestatic 252, 3) := by decide +kernel
theorem d_M_sheet_11 : decode prog_11_method_63_code 11 = .ok (.ifCond .eq 9, 3) := by decide +kernel
theorem d_M_sheet_14 : decode prog_11_method_63_code 14 = .ok (.iload_n 3, 1) := by decide +kernel
theorem d_M_sheet_15 : decode prog_11_method_63_code 15 = .ok (.bipush 24, 2) := by decide +kernel
theorem d_M_sheet_17 : decode prog_11_method_63_code 17 = .ok (.if_icmp .le 5, 3) := by decide +kernel
theorem d_M_sheet_20 : decode prog_11_method_63_code 20 = .ok (.iconst (-1), 1) := by decide +kernel
theorem d_M_sheet_21 : decode prog_11_method_63_code 21 = .ok (.ireturn, 1) := by decide +kernel
theorem d_M_sheet_22 : decode prog_11_method_63_code 22 = .ok (.iload_n 3, 1) := by decide +kernel
theorem d_M_sheet_23 : decode prog_11_method_63_code 23 = .ok (.ifCond .ge 6, 3) := by decide +kernel
theorem d_M_sheet_26 : decode prog_11_method_63_code 26 = .ok (.bipush (-14), 2) := by decide +kernel
theorem d_M_sheet_28 : decode prog_11_method_63_code 28 = .ok (.ireturn, 1) := by decide +kernel
theorem d_M_sheet_29 : decode prog_11_method_63_code 29 = .ok (.aload_n 0, 1) := by decide +kernel
theorem d_M_sheet_30 : decode prog_11_method_63_code 30 = .ok (.getfield 80, 3) := by decide +kernel
theorem d_M_sheet_33 : decode prog_11_method_63_code 33 = .ok (.iload_n 1, 1) := by decide +kernel
theorem d_M_sheet_34 : decode prog_11_method_63_code 34 = .ok (.iload_n 2, 1) := by decide +kernel
theorem d_M_sheet_35 : decode prog_11_method_63_code 35 = .ok (.iastore, 1) := by decide +kernel
theorem d_M_sheet_36 : decode prog_11_method_63_code 36 = .ok (.aload_n 0, 1) := by decide +kernel
theorem d_M_sheet_37 : decode prog_11_method_63_code 37 = .ok (.getfield 83, 3) := by decide +kernel
theorem d_M_sheet_40 : decode prog_11_method_63_code 40 = .ok (.iload_n 1, 1) := by decide +kernel
theorem d_M_sheet_41 : decode prog_11_method_63_code 41 = .ok (.iload_n 3, 1) := by decide +kernel
theorem d_M_sheet_42 : decode prog_11_method_63_code 42 = .ok (.iastore, 1) := by decide +kernel
theorem d_M_sheet_43 : decode prog_11_method_63_code 43 = .ok (.iconst 0, 1) := by decide +kernel
theorem d_M_sheet_44 : decode prog_11_method_63_code 44 = .ok (.istore 4, 2) := by decide +kernel
theorem d_M_sheet_46 : decode prog_11_method_63_code 46 = .ok (.iload 4, 2) := by decide +kernel
theorem d_M_sheet_48 : decode prog_11_method_63_code 48 = .ok (.bipush 24, 2) := by decide +kernel
theorem d_M_sheet_50 : decode prog_11_method_63_code 50 = .ok (.if_icmp .ge 22, 3) := by decide +kernel
theorem d_M_sheet_53 : decode prog_11_method_63_code 53 = .ok (.aload_n 0, 1) := by decide +kernel
theorem d_M_sheet_54 : decode prog_11_method_63_code 54 = .ok (.getfield 86, 3) := by decide +kernel
theorem d_M_sheet_57 : decode prog_11_method_63_code 57 = .ok (.bipush 24, 2) := by decide +kernel
theorem d_M_sheet_59 : decode prog_11_method_63_code 59 = .ok (.iload_n 1, 1) := by decide +kernel
theorem d_M_sheet_60 : decode prog_11_method_63_code 60 = .ok (.imul, 1) := by decide +kernel
theorem d_M_sheet_61 : decode prog_11_method_63_code 61 = .ok (.iload 4, 2) := by decide +kernel
theorem d_M_sheet_63 : decode prog_11_method_63_code 63 = .ok (.iadd, 1) := by decide +kernel
theorem d_M_sheet_64 : decode prog_11_method_63_code 64 = .ok (.iconst 0, 1) := by decide +kernel
theorem d_M_sheet_65 : decode prog_11_method_63_code 65 = .ok (.iastore, 1) := by decide +kernel
theorem d_M_sheet_66 : decode prog_11_method_63_code 66 = .ok (.iinc 4 1, 3) := by decide +kernel
theorem d_M_sheet_69 : decode prog_11_method_63_code 69 = .ok (.goto (-23), 3) := by decide +kernel
theorem d_M_sheet_72 : decode prog_11_method_63_code 72 = .ok (.iload_n 3, 1) := by decide +kernel
theorem d_M_sheet_73 : decode prog_11_method_63_code 73 = .ok (.ireturn, 1) := by decide +kernel
theorem d_M_drop_0 : decode prog_11_method_64_code 0 = .ok (.iload_n 1, 1) := by decide +kernel
theorem d_M_drop_1 : decode prog_11_method_64_code 1 = .ok (.invokestatic 249, 3) := by decide +kernel
theorem d_M_drop_4 : decode prog_11_method_64_code 4 = .ok (.ifCond .ne 5, 3) := by decide +kernel
theorem d_M_drop_7 : decode prog_11_method_64_code 7 = .ok (.iconst (-1), 1) := by decide +kernel
theorem d_M_drop_8 : decode prog_11_method_64_code 8 = .ok (.ireturn, 1) := by decide +kernel
theorem d_M_drop_9 : decode prog_11_method_64_code 9 = .ok (.aload_n 0, 1) := by decide +kernel
theorem d_M_drop_10 : decode prog_11_method_64_code 10 = .ok (.getfield 80, 3) := by decide +kernel
theorem d_M_drop_13 : decode prog_11_method_64_code 13 = .ok (.iload_n 1, 1) := by decide +kernel
theorem d_M_drop_14 : decode prog_11_method_64_code 14 = .ok (.iaload, 1) := by decide +kernel
theorem d_M_drop_15 : decode prog_11_method_64_code 15 = .ok (.ifCond .ge 6, 3) := by decide +kernel
theorem d_M_drop_18 : decode prog_11_method_64_code 18 = .ok (.bipush (-11), 2) := by decide +kernel
theorem d_M_drop_20 : decode prog_11_method_64_code 20 = .ok (.ireturn, 1) := by decide +kernel
theorem d_M_drop_21 : decode prog_11_method_64_code 21 = .ok (.aload_n 0, 1) := by decide +kernel
theorem d_M_drop_22 : decode prog_11_method_64_code 22 = .ok (.getfield 80, 3) := by decide +kernel
theorem d_M_drop_25 : decode prog_11_method_64_code 25 = .ok (.iload_n 1, 1) := by decide +kernel
theorem d_M_drop_26 : decode prog_11_method_64_code 26 = .ok (.iconst (-1), 1) := by decide +kernel
theorem d_M_drop_27 : decode prog_11_method_64_code 27 = .ok (.iastore, 1) := by decide +kernel
theorem d_M_drop_28 : decode prog_11_method_64_code 28 = .ok (.aload_n 0, 1) := by decide +kernel
theorem d_M_drop_29 : decode prog_11_method_64_code 29 = .ok (.getfield 83, 3) := by decide +kernel
theorem d_M_drop_32 : decode prog_11_method_64_code 32 = .ok (.iload_n 1, 1) := by decide +kernel
theorem d_M_drop_33 : decode prog_11_method_64_code 33 = .ok (.iaload, 1) := by decide +kernel
theorem d_M_drop_34 : decode prog_11_method_64_code 34 = .ok (.ireturn, 1) := by decide +kernel
theorem d_M_item_0 : decode prog_11_method_65_code 0 = .ok (.iload_n 1, 1) := by decide +kernel
theorem d_M_item_1 : decode prog_11_method_65_code 1 = .ok (.invokestatic 249, 3) := by decide +kernel
theorem d_M_item_4 : decode prog_11_method_65_code 4 = .ok (.ifCond .eq 10, 3) := by decide +kernel
theorem d_M_item_7 : decode prog_11_method_65_code 7 = .ok (.iload_n 2, 1) := by decide +kernel
theorem d_M_item_8 : decode prog_11_method_65_code 8 = .ok (.invokestatic 252, 3) := by decide +kernel
theorem d_M_item_11 : decode prog_11_method_65_code 11 = .ok (.ifCond .ne 5, 3) := by decide +kernel
theorem d_M_item_14 : decode prog_11_method_65_code 14 = .ok (.iconst (-1), 1) := by decide +kernel
theorem d_M_item_15 : decode prog_11_method_65_code 15 = .ok (.ireturn, 1) := by decide +kernel
theorem d_M_item_16 : decode prog_11_method_65_code 16 = .ok (.aload_n 0, 1) := by decide +kernel
theorem d_M_item_17 : decode prog_11_method_65_code 17 = .ok (.iload_n 1, 1) := by decide +kernel
theorem d_M_item_18 : decode prog_11_method_65_code 18 = .ok (.iload_n 2, 1) := by decide +kernel
theorem d_M_item_19 : decode prog_11_method_65_code 19 = .ok (.iload_n 3, 1) := by decide +kernel
theorem d_M_item_20 : decode prog_11_method_65_code 20 = .ok (.iconst 1, 1) := by decide +kernel
theorem d_M_item_21 : decode prog_11_method_65_code 21 = .ok (.invokevirtual 255, 3) := by decide +kernel
theorem d_M_item_24 : decode prog_11_method_65_code 24 = .ok (.istore 5, 2) := by decide +kernel
theorem d_M_item_26 : decode prog_11_method_65_code 26 = .ok (.iload 5, 2) := by decide +kernel
theorem d_M_item_28 : decode prog_11_method_65_code 28 = .ok (.ifCond .ge 6, 3) := by decide +kernel
theorem d_M_item_31 : decode prog_11_method_65_code 31 = .ok (.iload 5, 2) := by decide +kernel
theorem d_M_item_33 : decode prog_11_method_65_code 33 = .ok (.ireturn, 1) := by decide +kernel
theorem d_M_item_34 : decode prog_11_method_65_code 34 = .ok (.aload_n 0, 1) := by decide +kernel
theorem d_M_item_35 : decode prog_11_method_65_code 35 = .ok (.getfield 86, 3) := by decide +kernel
theorem d_M_item_38 : decode prog_11_method_65_code 38 = .ok (.bipush 24, 2) := by decide +kernel
theorem d_M_item_40 : decode prog_11_method_65_code 40 = .ok (.iload_n 1, 1) := by decide +kernel
theorem d_M_item_41 : decode prog_11_method_65_code 41 = .ok (.imul, 1) := by decide +kernel
theorem d_M_item_42 : decode prog_11_method_65_code 42 = .ok (.iload_n 3, 1) := by decide +kernel
theorem d_M_item_43 : decode prog_11_method_65_code 43 = .ok (.iadd, 1) := by decide +kernel
theorem d_M_item_44 : decode prog_11_method_65_code 44 = .ok (.iload_n 2, 1) := by decide +kernel
theorem d_M_item_45 : decode prog_11_method_65_code 45 = .ok (.ifCond .ne 9, 3) := by decide +kernel
theorem d_M_item_48 : decode prog_11_method_65_code 48 = .ok (.iload 4, 2) := by decide +kernel
theorem d_M_item_50 : decode prog_11_method_65_code 50 = .ok (.i2b, 1) := by decide +kernel
theorem d_M_item_51 : decode prog_11_method_65_code 51 = .ok (.goto 16, 3) := by decide +kernel
theorem d_M_item_54 : decode prog_11_method_65_code 54 = .ok (.iload_n 2, 1) := by decide +kernel
theorem d_M_item_55 : decode prog_11_method_65_code 55 = .ok (.iconst 1, 1) := by decide +kernel
theorem d_M_item_56 : decode prog_11_method_65_code 56 = .ok (.if_icmp .ne 9, 3) := by decide +kernel
theorem d_M_item_59 : decode prog_11_method_65_code 59 = .ok (.iload 4, 2) := by decide +kernel
theorem d_M_item_61 : decode prog_11_method_65_code 61 = .ok (.i2s, 1) := by decide +kernel
theorem d_M_item_62 : decode prog_11_method_65_code 62 = .ok (.goto 5, 3) := by decide +kernel
theorem d_M_item_65 : decode prog_11_method_65_code 65 = .ok (.iload 4, 2) := by decide +kernel
theorem d_M_item_67 : decode prog_11_method_65_code 67 = .ok (.iastore, 1) := by decide +kernel
theorem d_M_item_68 : decode prog_11_method_65_code 68 = .ok (.iconst 1, 1) := by decide +kernel
theorem d_M_item_69 : decode prog_11_method_65_code 69 = .ok (.ireturn, 1) := by decide +kernel
theorem d_M_copy_0 : decode prog_11_method_66_code 0 = .ok (.iload_n 1, 1) := by decide +kernel
theorem d_M_copy_1 : decode prog_11_method_66_code 1 = .ok (.invokestatic 249, 3) := by decide +kernel
theorem d_M_copy_4 : decode prog_11_method_66_code 4 = .ok (.ifCond .eq 10, 3) := by decide +kernel
theorem d_M_copy_7 : decode prog_11_method_66_code 7 = .ok (.iload_n 3, 1) := by decide +kernel
theorem d_M_copy_8 : decode prog_11_method_66_code 8 = .ok (.invokestatic 249, 3) := by decide +kernel
theorem d_M_copy_11 : decode prog_11_method_66_code 11 = .ok (.ifCond .ne 5, 3) := by decide +kernel
theorem d_M_copy_14 : decode prog_11_method_66_code 14 = .ok (.iconst (-1), 1) := by decide +kernel
theorem d_M_copy_15 : decode prog_11_method_66_code 15 = .ok (.ireturn, 1) := by decide +kernel
theorem d_M_copy_16 : decode prog_11_method_66_code 16 = .ok (.aload_n 0, 1) := by decide +kernel
theorem d_M_copy_17 : decode prog_11_method_66_code 17 = .ok (.getfield 80, 3) := by decide +kernel
theorem d_M_copy_20 : decode prog_11_method_66_code 20 = .ok (.iload_n 1, 1) := by decide +kernel
theorem d_M_copy_21 : decode prog_11_method_66_code 21 = .ok (.iaload, 1) := by decide +kernel
theorem d_M_copy_22 : decode prog_11_method_66_code 22 = .ok (.ifCond .lt 12, 3) := by decide +kernel
theorem d_M_copy_25 : decode prog_11_method_66_code 25 = .ok (.aload_n 0, 1) := by decide +kernel
theorem d_M_copy_26 : decode prog_11_method_66_code 26 = .ok (.getfield 80, 3) := by decide +kernel
theorem d_M_copy_29 : decode prog_11_method_66_code 29 = .ok (.iload_n 3, 1) := by decide +kernel
theorem d_M_copy_30 : decode prog_11_method_66_code 30 = .ok (.iaload, 1) := by decide +kernel
theorem d_M_copy_31 : decode prog_11_method_66_code 31 = .ok (.ifCond .ge 6, 3) := by decide +kernel
theorem d_M_copy_34 : decode prog_11_method_66_code 34 = .ok (.bipush (-11), 2) := by decide +kernel
theorem d_M_copy_36 : decode prog_11_method_66_code 36 = .ok (.ireturn, 1) := by decide +kernel
theorem d_M_copy_37 : decode prog_11_method_66_code 37 = .ok (.aload_n 0, 1) := by decide +kernel
theorem d_M_copy_38 : decode prog_11_method_66_code 38 = .ok (.getfield 80, 3) := by decide +kernel
theorem d_M_copy_41 : decode prog_11_method_66_code 41 = .ok (.iload_n 1, 1) := by decide +kernel
theorem d_M_copy_42 : decode prog_11_method_66_code 42 = .ok (.iaload, 1) := by decide +kernel
theorem d_M_copy_43 : decode prog_11_method_66_code 43 = .ok (.aload_n 0, 1) := by decide +kernel
theorem d_M_copy_44 : decode prog_11_method_66_code 44 = .ok (.getfield 80, 3) := by decide +kernel
theorem d_M_copy_47 : decode prog_11_method_66_code 47 = .ok (.iload_n 3, 1) := by decide +kernel
theorem d_M_copy_48 : decode prog_11_method_66_code 48 = .ok (.iaload, 1) := by decide +kernel
theorem d_M_copy_49 : decode prog_11_method_66_code 49 = .ok (.if_icmp .eq 6, 3) := by decide +kernel
theorem d_M_copy_52 : decode prog_11_method_66_code 52 = .ok (.bipush (-12), 2) := by decide +kernel
theorem d_M_copy_54 : decode prog_11_method_66_code 54 = .ok (.ireturn, 1) := by decide +kernel
theorem d_M_copy_55 : decode prog_11_method_66_code 55 = .ok (.iload 5, 2) := by decide +kernel
theorem d_M_copy_57 : decode prog_11_method_66_code 57 = .ok (.ifCond .lt 38, 3) := by decide +kernel
theorem d_M_copy_60 : decode prog_11_method_66_code 60 = .ok (.aload_n 0, 1) := by decide +kernel
theorem d_M_copy_61 : decode prog_11_method_66_code 61 = .ok (.iload_n 1, 1) := by decide +kernel
theorem d_M_copy_62 : decode prog_11_method_66_code 62 = .ok (.aload_n 0, 1) := by decide +kernel
theorem d_M_copy_63 : decode prog_11_method_66_code 63 = .ok (.getfield 80, 3) := by decide +kernel
theorem d_M_copy_66 : decode prog_11_method_66_code 66 = .ok (.iload_n 1, 1) := by decide +kernel
theorem d_M_copy_67 : decode prog_11_method_66_code 67 = .ok (.iaload, 1) := by decide +kernel
theorem d_M_copy_68 : decode prog_11_method_66_code 68 = .ok (.iload_n 2, 1) := by decide +kernel
theorem d_M_copy_69 : decode prog_11_method_66_code 69 = .ok (.iload 5, 2) := by decide +kernel
theorem d_M_copy_71 : decode prog_11_method_66_code 71 = .ok (.invokevirtual 255, 3) := by decide +kernel
theorem d_M_copy_74 : decode prog_11_method_66_code 74 = .ok (.ifCond .lt 21, 3) := by decide +kernel
theorem d_M_copy_77 : decode prog_11_method_66_code 77 = .ok (.aload_n 0, 1) := by decide +kernel
theorem d_M_copy_78 : decode prog_11_method_66_code 78 = .ok (.iload_n 3, 1) := by decide +kernel
theorem d_M_copy_79 : decode prog_11_method_66_code 79 = .ok (.aload_n 0, 1) := by decide +kernel
theorem d_M_copy_80 : decode prog_11_method_66_code 80 = .ok (.getfield 80, 3) := by decide +kernel
theorem d_M_copy_83 : decode prog_11_method_66_code 83 = .ok (.iload_n 3, 1) := by decide +kernel
theorem d_M_copy_84 : decode prog_11_method_66_code 84 = .ok (.iaload, 1) := by decide +kernel
theorem d_M_copy_85 : decode prog_11_method_66_code 85 = .ok (.iload 4, 2) := by decide +kernel
theorem d_M_copy_87 : decode prog_11_method_66_code 87 = .ok (.iload 5, 2) := by decide +kernel
theorem d_M_copy_89 : decode prog_11_method_66_code 89 = .ok (.invokevirtual 255, 3) := by decide +kernel
theorem d_M_copy_92 : decode prog_11_method_66_code 92 = .ok (.ifCond .ge 6, 3) := by decide +kernel
theorem d_M_copy_95 : decode prog_11_method_66_code 95 = .ok (.bipush (-13), 2) := by decide +kernel
theorem d_M_copy_97 : decode prog_11_method_66_code 97 = .ok (.ireturn, 1) := by decide +kernel
theorem d_M_copy_98 : decode prog_11_method_66_code 98 = .ok (.iconst 0, 1) := by decide +kernel
theorem d_M_copy_99 : decode prog_11_method_66_code 99 = .ok (.istore 6, 2) := by decide +kernel
theorem d_M_copy_101 : decode prog_11_method_66_code 101 = .ok (.iload 6, 2) := by decide +kernel
theorem d_M_copy_103 : decode prog_11_method_66_code 103 = .ok (.iload 5, 2) := by decide +kernel
theorem d_M_copy_105 : decode prog_11_method_66_code 105 = .ok (.if_icmp .ge 30, 3) := by decide +kernel
theorem d_M_copy_108 : decode prog_11_method_66_code 108 = .ok (.aload_n 0, 1) := by decide +kernel
theorem d_M_copy_109 : decode prog_11_method_66_code 109 = .ok (.getfield 89, 3) := by decide +kernel
theorem d_M_copy_112 : decode prog_11_method_66_code 112 = .ok (.iload 6, 2) := by decide +kernel
theorem d_M_copy_114 : decode prog_11_method_66_code 114 = .ok (.aload_n 0, 1) := by decide +kernel
theorem d_M_copy_115 : decode prog_11_method_66_code 115 = .ok (.getfield 86, 3) := by decide +kernel
theorem d_M_copy_118 : decode prog_11_method_66_code 118 = .ok (.bipush 24, 2) := by decide +kernel
theorem d_M_copy_120 : decode prog_11_method_66_code 120 = .ok (.iload_n 1, 1) := by decide +kernel
theorem d_M_copy_121 : decode prog_11_method_66_code 121 = .ok (.imul, 1) := by decide +kernel
theorem d_M_copy_122 : decode prog_11_method_66_code 122 = .ok (.iload_n 2, 1) := by decide +kernel
theorem d_M_copy_123 : decode prog_11_method_66_code 123 = .ok (.iadd, 1) := by decide +kernel
theorem d_M_copy_124 : decode prog_11_method_66_code 124 = .ok (.iload 6, 2) := by decide +kernel
theorem d_M_copy_126 : decode prog_11_method_66_code 126 = .ok (.iadd, 1) := by decide +kernel
theorem d_M_copy_127 : decode prog_11_method_66_code 127 = .ok (.iaload, 1) := by decide +kernel
theorem d_M_copy_128 : decode prog_11_method_66_code 128 = .ok (.iastore, 1) := by decide +kernel
theorem d_M_copy_129 : decode prog_11_method_66_code 129 = .ok (.iinc 6 1, 3) := by decide +kernel
theorem d_M_copy_132 : decode prog_11_method_66_code 132 = .ok (.goto (-31), 3) := by decide +kernel
theorem d_M_copy_135 : decode prog_11_method_66_code 135 = .ok (.iconst 0, 1) := by decide +kernel
theorem d_M_copy_136 : decode prog_11_method_66_code 136 = .ok (.istore 6, 2) := by decide +kernel
theorem d_M_copy_138 : decode prog_11_method_66_code 138 = .ok (.iload 6, 2) := by decide +kernel
theorem d_M_copy_140 : decode prog_11_method_66_code 140 = .ok (.iload 5, 2) := by decide +kernel
theorem d_M_copy_142 : decode prog_11_method_66_code 142 = .ok (.if_icmp .ge 31, 3) := by decide +kernel
theorem d_M_copy_145 : decode prog_11_method_66_code 145 = .ok (.aload_n 0, 1) := by decide +kernel
theorem d_M_copy_146 : decode prog_11_method_66_code 146 = .ok (.getfield 86, 3) := by decide +kernel
theorem d_M_copy_149 : decode prog_11_method_66_code 149 = .ok (.bipush 24, 2) := by decide +kernel
theorem d_M_copy_151 : decode prog_11_method_66_code 151 = .ok (.iload_n 3, 1) := by decide +kernel
theorem d_M_copy_152 : decode prog_11_method_66_code 152 = .ok (.imul, 1) := by decide +kernel
theorem d_M_copy_153 : decode prog_11_method_66_code 153 = .ok (.iload 4, 2) := by decide +kernel
theorem d_M_copy_155 : decode prog_11_method_66_code 155 = .ok (.iadd, 1) := by decide +kernel
theorem d_M_copy_156 : decode prog_11_method_66_code 156 = .ok (.iload 6, 2) := by decide +kernel
theorem d_M_copy_158 : decode prog_11_method_66_code 158 = .ok (.iadd, 1) := by decide +kernel
theorem d_M_copy_159 : decode prog_11_method_66_code 159 = .ok (.aload_n 0, 1) := by decide +kernel
theorem d_M_copy_160 : decode prog_11_method_66_code 160 = .ok (.getfield 89, 3) := by decide +kernel
theorem d_M_copy_163 : decode prog_11_method_66_code 163 = .ok (.iload 6, 2) := by decide +kernel
theorem d_M_copy_165 : decode prog_11_method_66_code 165 = .ok (.iaload, 1) := by decide +kernel
theorem d_M_copy_166 : decode prog_11_method_66_code 166 = .ok (.iastore, 1) := by decide +kernel
theorem d_M_copy_167 : decode prog_11_method_66_code 167 = .ok (.iinc 6 1, 3) := by decide +kernel
theorem d_M_copy_170 : decode prog_11_method_66_code 170 = .ok (.goto (-32), 3) := by decide +kernel
theorem d_M_copy_173 : decode prog_11_method_66_code 173 = .ok (.iload 5, 2) := by decide +kernel
theorem d_M_copy_175 : decode prog_11_method_66_code 175 = .ok (.ireturn, 1) := by decide +kernel
def f_M_leaf_L80 (a1 : Int32) (a3 : Int32) (x5_69 : Int32) (x6_69 : Int32) (μ69 : fw_M) : Int32 × Int32 → Option ((Int32 × Int32) ⊕ (Int32))
  | (x7_80, x8_80) =>
  if (μ69.1 0 6) ≤ x8_80 then
    some (.inr x7_80)
  else
    Option.bind (
      if ((x5_69 >>> (x8_80 &&& 31)) &&& 1) = 1 then
        (fw_rd 96 (μ69.1 26) (((24 * a1) + a3) + x8_80)).bind fun v115 =>
        (f_M_leftOf x8_80 μ69).bind fun (p119 : Int32) =>
        (fw_rd 3 (μ69.1 5) 1).bind fun v129 =>
        if v115 = (p119 + (x6_69 * v129)) then
          some ((1 : Int32) <<< (x8_80 &&& 31))
        else
          some 0
      else
        some 0) fun (j99 : Int32) =>
    fw_nm ((x7_80 ||| j99)) fun (v144 : Int32) =>
    fw_nm (x8_80 + 1) fun (v146 : Int32) =>
    some (.inl (v144, v146))
def f_M_leaf_L69 (a1 : Int32) (a3 : Int32) : Int32 × Int32 × fw_M → Option ((Int32 × Int32 × fw_M) ⊕ ((Int32 × fw_M) ⊕ (Int32 × fw_M)))
  | (x5_69, x6_69, μ69) =>
  if x5_69 = 0 then
    some (.inr (.inl (x6_69, μ69)))
  else
    (fw_wh (f_M_leaf_L80 a1 a3 x5_69 x6_69 μ69) fw_N (0, 0)).bind fun (e80x : Int32) =>
    if e80x = 0 then
      some (.inr (.inr ((-4), μ69)))
    else
      (f_M_canBe e80x μ69).bind fun (p160 : Int32 × fw_M) =>
      if p160.1 = 0 then
        some (.inr (.inr ((-4), p160.2)))
      else
        fw_nm ((x5_69 &&& (e80x ^^^ (-1)))) fun (v176 : Int32) =>
        fw_nm (x6_69 + 1) fun (v178 : Int32) =>
        some (.inl (v176, v178, p160.2))
def f_M_leaf (a1 : Int32) (a2 : Int32) (a3 : Int32) (μ : fw_M) : Option (Int32 × fw_M) :=
  (f_M_isSheet a1).bind fun (p1 : Int32) =>
  if p1 = 0 then
    some ((-1), μ)
  else
    (f_M_isLane a2).bind fun (p8 : Int32) =>
    if p8 = 0 then
      some ((-1), μ)
    else
      (f_M_finds a1 a2 a3 (μ.1 0 6) μ).bind fun (p24 : Int32) =>
      if 0 ≤ p24 then
        if (μ.1 0 6) = 0 then
          some ((-2), μ)
        else
          (fw_rd 3 (μ.1 5) 1).bind fun v49 =>
          if v49 = 0 then
            some ((-2), μ)
          else
            fw_nm ((((1 : Int32) <<< ((μ.1 0 6) &&& 31)) - 1)) fun (v64 : Int32) =>
            Option.bind (fw_wh (f_M_leaf_L69 a1 a3) fw_N (v64, 0, μ)) fun (q69 : (Int32 × fw_M) ⊕ (Int32 × fw_M)) => match q69 with
            | .inl e69x =>
              some (e69x.1, e69x.2)
            | .inr r69 => some r69
      else
        some (p24, μ)
set_option maxHeartbeats 4000000 in
set_option maxRecDepth 100000 in
theorem c_M_leaf {a1 : Int32} {a2 : Int32} {a3 : Int32} {μ : fw_M} {r : Int32 × fw_M} (h : f_M_leaf a1 a2 a3 μ = some r) : fw_Con Y_M_leaf fw_Mo 4 [.ref 0, .int a1, .int a2, .int a3] (some r.1) μ r.2 := by
  refine fw_con (by decide) (Nat.le_of_ble_eq_true rfl) ?_
  rw [f_M_leaf] at h
  show fw_R "FewTypesModel" prog_11_method_61_code 9 (some .int) fw_Mo 4 (some r.1) r.2 0 [(0, .ref 0), (1, .int a1), (2, .int a2), (3, .int a3)] [] μ
  refine fw_iload_n (pc := 0) d_M_leaf_0 1 rfl rfl ?_
  obtain ⟨p1, e1, h⟩ := fw_be h
  refine fw_callSi (pc := 1) d_M_leaf_1 ms_M_249 (c_M_isSheet e1) (by decide) rfl rfl (Nat.le_of_ble_eq_true rfl) ?_
  refine fw_if_eq (pc := 4) (tgt := 14) d_M_leaf_4 rfl (fun hc => ?_) (fun hc => ?_)
  · have h := fw_it hc h
    refine fw_iconst (pc := 14) d_M_leaf_14 fw_icm1 ?_
    obtain rfl := Option.some.inj h
    exact fw_iret (pc := 15) d_M_leaf_15 rfl
  · have h := fw_if hc h
    refine fw_iload_n (pc := 7) d_M_leaf_7 2 rfl rfl ?_
    obtain ⟨p8, e8, h⟩ := fw_be h
    refine fw_callSi (pc := 8) d_M_leaf_8 ms_M_252 (c_M_isLane e8) (by decide) rfl rfl (Nat.le_of_ble_eq_true rfl) ?_
    refine fw_if_ne (pc := 11) (tgt := 16) d_M_leaf_11 rfl (fun hc => ?_) (fun hc => ?_)
    · have h := fw_it hc h
      refine fw_iconst (pc := 14) d_M_leaf_14 fw_icm1 ?_
      obtain rfl := Option.some.inj h
      exact fw_iret (pc := 15) d_M_leaf_15 rfl
    · have h := fw_if hc h
      refine fw_aload_n (pc := 16) d_M_leaf_16 0 rfl rfl ?_
      refine fw_iload_n (pc := 17) d_M_leaf_17 1 rfl rfl ?_
      refine fw_iload_n (pc := 18) d_M_leaf_18 2 rfl rfl ?_
      refine fw_iload_n (pc := 19) d_M_leaf_19 3 rfl rfl ?_
      refine fw_aload_n (pc := 20) d_M_leaf_20 0 rfl rfl ?_
      refine fw_getI (pc := 21) d_M_leaf_21 fl_M_158 fw_Mo0 rfl ?_
      obtain ⟨p24, e24, h⟩ := fw_be h
      refine fw_callVi (pc := 24) d_M_leaf_24 mv_M_255 fw_Mo0 (c_M_finds e24) (by decide) rfl rfl (Nat.le_of_ble_eq_true rfl) ?_
      refine fw_istore (pc := 27) (lv1 := [(4, .int p24), (0, .ref 0), (1, .int a1), (2, .int a2), (3, .int a3)]) d_M_leaf_27 (by decide) rfl ?_
      refine fw_iload (pc := 29) d_M_leaf_29 0 rfl ?_
      refine fw_if_ge (pc := 31) (tgt := 37) d_M_leaf_31 rfl (fun hc => ?_) (fun hc => ?_)
      · have h := fw_it hc h
        refine fw_aload_n (pc := 37) d_M_leaf_37 1 rfl rfl ?_
        refine fw_getI (pc := 38) d_M_leaf_38 fl_M_158 fw_Mo0 rfl ?_
        refine fw_if_eq (pc := 41) (tgt := 53) d_M_leaf_41 rfl (fun hc => ?_) (fun hc => ?_)
        · have h := fw_it hc h
          refine fw_bipush (pc := 53) d_M_leaf_53 fw_bpm2 ?_
          obtain rfl := Option.some.inj h
          exact fw_iret (pc := 55) d_M_leaf_55 rfl
        · have h := fw_if hc h
          refine fw_aload_n (pc := 44) d_M_leaf_44 1 rfl rfl ?_
          refine fw_getR (pc := 45) d_M_leaf_45 fl_M_22 fw_Mo0 rfl ?_
          refine fw_iconst (pc := 48) d_M_leaf_48 fw_ic1 ?_
          obtain ⟨v49, e49, h⟩ := fw_be h
          refine fw_iald (pc := 49) d_M_leaf_49 fw_Mo5 e49 ?_
          refine fw_if_ne (pc := 50) (tgt := 56) d_M_leaf_50 rfl (fun hc => ?_) (fun hc => ?_)
          · have h := fw_it hc h
            refine fw_bipush (pc := 53) d_M_leaf_53 fw_bpm2 ?_
            obtain rfl := Option.some.inj h
            exact fw_iret (pc := 55) d_M_leaf_55 rfl
          · have h := fw_if hc h
            refine fw_iconst (pc := 56) d_M_leaf_56 fw_ic1 ?_
            refine fw_aload_n (pc := 57) d_M_leaf_57 1 rfl rfl ?_
            refine fw_getI (pc := 58) d_M_leaf_58 fl_M_158 fw_Mo0 rfl ?_
            refine fw_ishl (pc := 61) d_M_leaf_61 ?_
            refine fw_iconst (pc := 62) d_M_leaf_62 fw_ic1 ?_
            refine fw_isub (pc := 63) d_M_leaf_63 ?_
            obtain ⟨v64, e64, h⟩ := fw_ne h
            refine fw_top e64 ?_
            refine fw_istore (pc := 64) (lv1 := [(5, .int v64), (4, .int p24), (0, .ref 0), (1, .int a1), (2, .int a2), (3, .int a3)]) d_M_leaf_64 (by decide) rfl ?_
            refine fw_iconst (pc := 66) d_M_leaf_66 fw_ic0 ?_
            refine fw_istore (pc := 67) (lv1 := [(6, .int 0), (5, .int v64), (4, .int p24), (0, .ref 0), (1, .int a1), (2, .int a2), (3, .int a3)]) d_M_leaf_67 (by decide) rfl ?_
            obtain ⟨q69, w69, h⟩ := fw_be h
            have hE69 : ∀ e69x : Int32 × fw_M, q69 = .inl e69x → fw_R "FewTypesModel" prog_11_method_61_code 9 (some .int) fw_Mo 4 (some r.1) r.2 184 [(6, .int e69x.1)] [] e69x.2 := by
              intro e69x hq
              subst hq
              dsimp only at h
              refine fw_iload (pc := 184) d_M_leaf_184 0 rfl ?_
              obtain rfl := Option.some.inj h
              exact fw_iret (pc := 186) d_M_leaf_186 rfl
            have hR69 : ∀ r69, q69 = .inr r69 → r69 = r := by
              intro r69 hq
              subst hq
              exact Option.some.inj h
            clear h
            exact fw_sub [3, 4, 6, 1, 0] rfl (fw_we (e := q69) (fun (s : Int32 × Int32 × fw_M) => fw_R "FewTypesModel" prog_11_method_61_code 9 (some .int) fw_Mo 4 (some r.1) r.2 69 [(0, .ref 0), (1, .int a1), (3, .int a3), (5, .int s.1), (6, .int s.2.1)] [] s.2.2) (by
              intro s x h hl hr
              obtain ⟨x5_69, x6_69, μ69⟩ := s
              rw [f_M_leaf_L69] at h
              show fw_R "FewTypesModel" prog_11_method_61_code 9 (some .int) fw_Mo 4 (some r.1) r.2 69 [(0, .ref 0), (1, .int a1), (3, .int a3), (5, .int x5_69), (6, .int x6_69)] [] μ69
              refine fw_iload (pc := 69) d_M_leaf_69 3 rfl ?_
              refine fw_if_eq (pc := 71) (tgt := 184) d_M_leaf_71 rfl (fun hc => ?_) (fun hc => ?_)
              · have h := fw_it hc h
                obtain rfl := Option.some.inj h
                exact fw_sub [4] rfl (hE69 _ (hr _ rfl).symm)
              · have h := fw_if hc h
                refine fw_iconst (pc := 74) d_M_leaf_74 fw_ic0 ?_
                refine fw_istore (pc := 75) (lv1 := [(7, .int 0), (0, .ref 0), (1, .int a1), (3, .int a3), (5, .int x5_69), (6, .int x6_69)]) d_M_leaf_75 (by decide) rfl ?_
                refine fw_iconst (pc := 77) d_M_leaf_77 fw_ic0 ?_
                refine fw_istore (pc := 78) (lv1 := [(8, .int 0), (7, .int 0), (0, .ref 0), (1, .int a1), (3, .int a3), (5, .int x5_69), (6, .int x6_69)]) d_M_leaf_78 (by decide) rfl ?_
                obtain ⟨e80x, w80, h⟩ := fw_be h
                have hE80 : fw_R "FewTypesModel" prog_11_method_61_code 9 (some .int) fw_Mo 4 (some r.1) r.2 152 [(0, .ref 0), (1, .int a1), (3, .int a3), (5, .int x5_69), (6, .int x6_69), (7, .int e80x)] [] μ69 := by
                  refine fw_iload (pc := 152) d_M_leaf_152 5 rfl ?_
                  refine fw_if_eq (pc := 154) (tgt := 166) d_M_leaf_154 rfl (fun hc => ?_) (fun hc => ?_)
                  · have h := fw_it hc h
                    refine fw_bipush (pc := 166) d_M_leaf_166 fw_bpm4 ?_
                    obtain rfl := Option.some.inj h
                    have he := hR69 _ (hr _ rfl).symm
                    subst he
                    exact fw_iret (pc := 168) d_M_leaf_168 rfl
                  · have h := fw_if hc h
                    refine fw_aload_n (pc := 157) d_M_leaf_157 0 rfl rfl ?_
                    refine fw_iload (pc := 158) d_M_leaf_158 5 rfl ?_
                    obtain ⟨p160, e160, h⟩ := fw_be h
                    refine fw_callVi (pc := 160) d_M_leaf_160 mv_M_200 fw_Mo0 (c_M_canBe e160) (by decide) rfl rfl (Nat.le_of_ble_eq_true rfl) ?_
                    refine fw_if_ne (pc := 163) (tgt := 169) d_M_leaf_163 rfl (fun hc => ?_) (fun hc => ?_)
                    · have h := fw_it hc h
                      refine fw_bipush (pc := 166) d_M_leaf_166 fw_bpm4 ?_
                      obtain rfl := Option.some.inj h
                      have he := hR69 _ (hr _ rfl).symm
                      subst he
                      exact fw_iret (pc := 168) d_M_leaf_168 rfl
                    · have h := fw_if hc h
                      refine fw_iload (pc := 169) d_M_leaf_169 3 rfl ?_
                      refine fw_iload (pc := 171) d_M_leaf_171 5 rfl ?_
                      refine fw_iconst (pc := 173) d_M_leaf_173 fw_icm1 ?_
                      refine fw_ixor (pc := 174) d_M_leaf_174 ?_
                      refine fw_iand (pc := 175) d_M_leaf_175 ?_
                      obtain ⟨v176, e176, h⟩ := fw_ne h
                      refine fw_top e176 ?_
                      refine fw_istore (pc := 176) (lv1 := [(5, .int v176), (0, .ref 0), (1, .int a1), (3, .int a3), (6, .int x6_69), (7, .int e80x)]) d_M_leaf_176 (by decide) rfl ?_
                      obtain ⟨v178, e178, h⟩ := fw_ne h
                      refine fw_iinc2 (pc := 178) (j := 4) (lv1 := [(6, .int v178), (5, .int v176), (0, .ref 0), (1, .int a1), (3, .int a3), (7, .int e80x)]) d_M_leaf_178 rfl fw_ic1 e178 (by decide) rfl ?_
                      refine fw_goto (pc := 181) (tgt := 69) d_M_leaf_181 rfl ?_
                      obtain rfl := Option.some.inj h
                      exact fw_sub [2, 3, 4, 1, 0] rfl (hl _ rfl)
                clear h
                exact fw_sub [2, 3, 4, 5, 6, 1, 0] rfl (fw_we (e := e80x) (fun (s : Int32 × Int32) => fw_R "FewTypesModel" prog_11_method_61_code 9 (some .int) fw_Mo 4 (some r.1) r.2 80 [(0, .ref 0), (1, .int a1), (3, .int a3), (5, .int x5_69), (6, .int x6_69), (7, .int s.1), (8, .int s.2)] [] μ69) (by
                  intro s x h hl hr
                  obtain ⟨x7_80, x8_80⟩ := s
                  rw [f_M_leaf_L80] at h
                  show fw_R "FewTypesModel" prog_11_method_61_code 9 (some .int) fw_Mo 4 (some r.1) r.2 80 [(0, .ref 0), (1, .int a1), (3, .int a3), (5, .int x5_69), (6, .int x6_69), (7, .int x7_80), (8, .int x8_80)] [] μ69
                  refine fw_iload (pc := 80) d_M_leaf_80 6 rfl ?_
                  refine fw_aload_n (pc := 82) d_M_leaf_82 0 rfl rfl ?_
                  refine fw_getI (pc := 83) d_M_leaf_83 fl_M_158 fw_Mo0 rfl ?_
                  refine fw_icmp_ge (pc := 86) (tgt := 152) d_M_leaf_86 rfl (fun hc => ?_) (fun hc => ?_)
                  · have h := fw_it hc h
                    obtain rfl := Option.some.inj h
                    have he := hr _ rfl
                    subst he
                    exact fw_sub [0, 1, 2, 3, 4, 5] rfl hE80
                  · have h := fw_if hc h
                    refine fw_iload (pc := 89) d_M_leaf_89 5 rfl ?_
                    refine fw_iload (pc := 91) d_M_leaf_91 3 rfl ?_
                    refine fw_iload (pc := 93) d_M_leaf_93 6 rfl ?_
                    refine fw_ishr (pc := 95) d_M_leaf_95 ?_
                    refine fw_iconst (pc := 96) d_M_leaf_96 fw_ic1 ?_
                    refine fw_iand (pc := 97) d_M_leaf_97 ?_
                    refine fw_iconst (pc := 98) d_M_leaf_98 fw_ic1 ?_
                    obtain ⟨j99, w99, h⟩ := fw_be h
                    have hJ99 : fw_R "FewTypesModel" prog_11_method_61_code 9 (some .int) fw_Mo 4 (some r.1) r.2 143 [(0, .ref 0), (1, .int a1), (3, .int a3), (5, .int x5_69), (6, .int x6_69), (8, .int x8_80)] [.int j99, .int x7_80] μ69 := by
                      refine fw_ior (pc := 143) d_M_leaf_143 ?_
                      obtain ⟨v144, e144, h⟩ := fw_ne h
                      refine fw_top e144 ?_
                      refine fw_istore (pc := 144) (lv1 := [(7, .int v144), (0, .ref 0), (1, .int a1), (3, .int a3), (5, .int x5_69), (6, .int x6_69), (8, .int x8_80)]) d_M_leaf_144 (by decide) rfl ?_
                      obtain ⟨v146, e146, h⟩ := fw_ne h
                      refine fw_iinc2 (pc := 146) (j := 6) (lv1 := [(8, .int v146), (7, .int v144), (0, .ref 0), (1, .int a1), (3, .int a3), (5, .int x5_69), (6, .int x6_69)]) d_M_leaf_146 rfl fw_ic1 e146 (by decide) rfl ?_
                      refine fw_goto (pc := 149) (tgt := 80) d_M_leaf_149 rfl ?_
                      obtain rfl := Option.some.inj h
                      exact fw_sub [2, 3, 4, 5, 6, 1, 0] rfl (hl _ rfl)
                    clear h
                    have h := w99
                    clear w99
                    refine fw_icmp_ne (pc := 99) (tgt := 142) d_M_leaf_99 rfl (fun hc => ?_) (fun hc => ?_)
                    · have h := fw_it hc h
                      refine fw_aload_n (pc := 102) d_M_leaf_102 0 rfl rfl ?_
                      refine fw_getR (pc := 103) d_M_leaf_103 fl_M_86 fw_Mo0 rfl ?_
                      refine fw_bipush (pc := 106) d_M_leaf_106 fw_bp24 ?_
                      refine fw_iload_n (pc := 108) d_M_leaf_108 1 rfl rfl ?_
                      refine fw_imul (pc := 109) d_M_leaf_109 ?_
                      refine fw_iload_n (pc := 110) d_M_leaf_110 2 rfl rfl ?_
                      refine fw_iadd (pc := 111) d_M_leaf_111 ?_
                      refine fw_iload (pc := 112) d_M_leaf_112 6 rfl ?_
                      refine fw_iadd (pc := 114) d_M_leaf_114 ?_
                      obtain ⟨v115, e115, h⟩ := fw_be h
                      refine fw_iald (pc := 115) d_M_leaf_115 fw_Mo26 e115 ?_
                      refine fw_aload_n (pc := 116) d_M_leaf_116 0 rfl rfl ?_
                      refine fw_iload (pc := 117) d_M_leaf_117 6 rfl ?_
                      obtain ⟨p119, e119, h⟩ := fw_be h
                      refine fw_callVi (pc := 119) d_M_leaf_119 mv_M_167 fw_Mo0 (c_M_leftOf e119) (by decide) rfl rfl (Nat.le_of_ble_eq_true rfl) ?_
                      refine fw_iload (pc := 122) d_M_leaf_122 4 rfl ?_
                      refine fw_aload_n (pc := 124) d_M_leaf_124 0 rfl rfl ?_
                      refine fw_getR (pc := 125) d_M_leaf_125 fl_M_22 fw_Mo0 rfl ?_
                      refine fw_iconst (pc := 128) d_M_leaf_128 fw_ic1 ?_
                      obtain ⟨v129, e129, h⟩ := fw_be h
                      refine fw_iald (pc := 129) d_M_leaf_129 fw_Mo5 e129 ?_
                      refine fw_imul (pc := 130) d_M_leaf_130 ?_
                      refine fw_iadd (pc := 131) d_M_leaf_131 ?_
                      refine fw_icmp_ne (pc := 132) (tgt := 142) d_M_leaf_132 rfl (fun hc => ?_) (fun hc => ?_)
                      · have h := fw_it hc h
                        refine fw_iconst (pc := 135) d_M_leaf_135 fw_ic1 ?_
                        refine fw_iload (pc := 136) d_M_leaf_136 6 rfl ?_
                        refine fw_ishl (pc := 138) d_M_leaf_138 ?_
                        refine fw_goto (pc := 139) (tgt := 143) d_M_leaf_139 rfl ?_
                        obtain rfl := Option.some.inj h
                        exact fw_sub [0, 1, 2, 3, 4, 6] rfl hJ99
                      · have h := fw_if hc h
                        refine fw_iconst (pc := 142) d_M_leaf_142 fw_ic0 ?_
                        obtain rfl := Option.some.inj h
                        exact fw_sub [0, 1, 2, 3, 4, 6] rfl hJ99
                    · have h := fw_if hc h
                      refine fw_iconst (pc := 142) d_M_leaf_142 fw_ic0 ?_
                      obtain rfl := Option.some.inj h
                      exact fw_sub [0, 1, 2, 3, 4, 6] rfl hJ99
                  ) _ _ w80)
              ) _ _ w69)
      · have h := fw_if hc h
        refine fw_iload (pc := 34) d_M_leaf_34 0 rfl ?_
        obtain rfl := Option.some.inj h
        exact fw_iret (pc := 36) d_M_leaf_36 rfl
def f_M_alike_L107 (a1 : Int32) (a2 : Int32) (a3 : Int32) (μ : fw_M) : Int32 × Int32 → Option ((Int32 × Int32) ⊕ (Int32))
  | (x5_107, x6_107) =>
  if a3 ≤ x6_107 then
    some (.inr x5_107)
  else
    (fw_rd 96 (μ.1 26) ((24 * a1) + x6_107)).bind fun v126 =>
    (fw_rd 96 (μ.1 26) ((24 * a2) + x6_107)).bind fun v138 =>
    fw_nm (
      if v126 = v138 then
        1
      else
        0) fun (j139 : Int32) =>
    fw_nm ((x5_107 + j139)) fun (v148 : Int32) =>
    fw_nm (x6_107 + 1) fun (v150 : Int32) =>
    some (.inl (v148, v150))
def f_M_alike_L163  : Int32 × Int32 → Option ((Int32 × Int32) ⊕ (Int32))
  | (x6_163, x7_163) =>
  if x7_163 ≤ 0 then
    some (.inr x6_163)
  else
    (fw_rm2 x6_163 x7_163).bind fun v172 =>
    some (.inl (x7_163, v172))
def f_M_alike (a1 : Int32) (a2 : Int32) (a3 : Int32) (a4 : Int32) (μ : fw_M) : Option (Int32) :=
  (f_M_isSheet a1).bind fun (p1 : Int32) =>
  if p1 = 0 then
    some (-1)
  else
    (f_M_isSheet a2).bind fun (p8 : Int32) =>
    if p8 = 0 then
      some (-1)
    else
      (f_M_in (Int32.toInt64 a3) 1 24).bind fun (p20 : Int32) =>
      if p20 = 0 then
        some (-1)
      else
        (f_M_in (Int32.toInt64 a4) 0 1).bind fun (p31 : Int32) =>
        if p31 = 0 then
          some (-1)
        else
          (fw_rd 4 (μ.1 24) a1).bind fun v44 =>
          if v44 < 0 then
            some (-11)
          else
            (fw_rd 4 (μ.1 24) a2).bind fun v53 =>
            if 0 ≤ v53 then
              (fw_rd 4 (μ.1 24) a1).bind fun v65 =>
              (fw_rd 4 (μ.1 24) a2).bind fun v71 =>
              if v65 = v71 then
                (fw_rd 4 (μ.1 25) a1).bind fun v84 =>
                if v84 < a3 then
                  some (-13)
                else
                  (fw_rd 4 (μ.1 25) a2).bind fun v94 =>
                  if a3 ≤ v94 then
                    (fw_wh (f_M_alike_L107 a1 a2 a3 μ) fw_N (0, 0)).bind fun (e107x : Int32) =>
                    (fw_wh (f_M_alike_L163) fw_N (e107x, a3)).bind fun (e163x : Int32) =>
                    Option.bind (
                      if a4 = 0 then
                        (fw_dv e107x e163x).bind fun v195 =>
                        some v195
                      else
                        (fw_dv a3 e163x).bind fun v202 =>
                        some v202) fun (j188 : Int32) =>
                    some j188
                  else
                    some (-13)
              else
                some (-12)
            else
              some (-11)
set_option maxHeartbeats 4000000 in
set_option maxRecDepth 100000 in
theorem c_M_alike {a1 : Int32} {a2 : Int32} {a3 : Int32} {a4 : Int32} {μ : fw_M} {r : Int32} (h : f_M_alike a1 a2 a3 a4 μ = some r) : fw_Con Y_M_alike fw_Mo 3 [.ref 0, .int a1, .int a2, .int a3, .int a4] (some r) μ μ := by
  refine fw_con (by decide) (Nat.le_of_ble_eq_true rfl) ?_
  rw [f_M_alike] at h
  show fw_R "FewTypesModel" prog_11_method_62_code 9 (some .int) fw_Mo 3 (some r) μ 0 [(0, .ref 0), (1, .int a1), (2, .int a2), (3, .int a3), (4, .int a4)] [] μ
  refine fw_iload_n (pc := 0) d_M_alike_0 1 rfl rfl ?_
  obtain ⟨p1, e1, h⟩ := fw_be h
  refine fw_callSi (pc := 1) d_M_alike_1 ms_M_249 (c_M_isSheet e1) (by decide) rfl rfl (Nat.le_of_ble_eq_true rfl) ?_
  refine fw_if_eq (pc := 4) (tgt := 37) d_M_alike_4 rfl (fun hc => ?_) (fun hc => ?_)
  · have h := fw_it hc h
    refine fw_iconst (pc := 37) d_M_alike_37 fw_icm1 ?_
    obtain rfl := Option.some.inj h
    exact fw_iret (pc := 38) d_M_alike_38 rfl
  · have h := fw_if hc h
    refine fw_iload_n (pc := 7) d_M_alike_7 2 rfl rfl ?_
    obtain ⟨p8, e8, h⟩ := fw_be h
    refine fw_callSi (pc := 8) d_M_alike_8 ms_M_249 (c_M_isSheet e8) (by decide) rfl rfl (Nat.le_of_ble_eq_true rfl) ?_
    refine fw_if_eq (pc := 11) (tgt := 37) d_M_alike_11 rfl (fun hc => ?_) (fun hc => ?_)
    · have h := fw_it hc h
      refine fw_iconst (pc := 37) d_M_alike_37 fw_icm1 ?_
      obtain rfl := Option.some.inj h
      exact fw_iret (pc := 38) d_M_alike_38 rfl
    · have h := fw_if hc h
      refine fw_iload_n (pc := 14) d_M_alike_14 3 rfl rfl ?_
      refine fw_i2l (pc := 15) d_M_alike_15 ?_
      refine fw_lconst (pc := 16) d_M_alike_16 (v := 1) (by decide) ?_
      refine fw_ldc2 (pc := 17) d_M_alike_17 cl_M_228 ?_
      obtain ⟨p20, e20, h⟩ := fw_be h
      refine fw_callSi (pc := 20) d_M_alike_20 ms_M_94 (c_M_in e20) (by decide) rfl rfl (Nat.le_of_ble_eq_true rfl) ?_
      refine fw_if_eq (pc := 23) (tgt := 37) d_M_alike_23 rfl (fun hc => ?_) (fun hc => ?_)
      · have h := fw_it hc h
        refine fw_iconst (pc := 37) d_M_alike_37 fw_icm1 ?_
        obtain rfl := Option.some.inj h
        exact fw_iret (pc := 38) d_M_alike_38 rfl
      · have h := fw_if hc h
        refine fw_iload (pc := 26) d_M_alike_26 4 rfl ?_
        refine fw_i2l (pc := 28) d_M_alike_28 ?_
        refine fw_lconst (pc := 29) d_M_alike_29 (v := 0) (by decide) ?_
        refine fw_lconst (pc := 30) d_M_alike_30 (v := 1) (by decide) ?_
        obtain ⟨p31, e31, h⟩ := fw_be h
        refine fw_callSi (pc := 31) d_M_alike_31 ms_M_94 (c_M_in e31) (by decide) rfl rfl (Nat.le_of_ble_eq_true rfl) ?_
        refine fw_if_ne (pc := 34) (tgt := 39) d_M_alike_34 rfl (fun hc => ?_) (fun hc => ?_)
        · have h := fw_it hc h
          refine fw_iconst (pc := 37) d_M_alike_37 fw_icm1 ?_
          obtain rfl := Option.some.inj h
          exact fw_iret (pc := 38) d_M_alike_38 rfl
        · have h := fw_if hc h
          refine fw_aload_n (pc := 39) d_M_alike_39 0 rfl rfl ?_
          refine fw_getR (pc := 40) d_M_alike_40 fl_M_80 fw_Mo0 rfl ?_
          refine fw_iload_n (pc := 43) d_M_alike_43 1 rfl rfl ?_
          obtain ⟨v44, e44, h⟩ := fw_be h
          refine fw_iald (pc := 44) d_M_alike_44 fw_Mo24 e44 ?_
          refine fw_if_lt (pc := 45) (tgt := 57) d_M_alike_45 rfl (fun hc => ?_) (fun hc => ?_)
          · have h := fw_it hc h
            refine fw_bipush (pc := 57) d_M_alike_57 fw_bpm11 ?_
            obtain rfl := Option.some.inj h
            exact fw_iret (pc := 59) d_M_alike_59 rfl
          · have h := fw_if hc h
            refine fw_aload_n (pc := 48) d_M_alike_48 0 rfl rfl ?_
            refine fw_getR (pc := 49) d_M_alike_49 fl_M_80 fw_Mo0 rfl ?_
            refine fw_iload_n (pc := 52) d_M_alike_52 2 rfl rfl ?_
            obtain ⟨v53, e53, h⟩ := fw_be h
            refine fw_iald (pc := 53) d_M_alike_53 fw_Mo24 e53 ?_
            refine fw_if_ge (pc := 54) (tgt := 60) d_M_alike_54 rfl (fun hc => ?_) (fun hc => ?_)
            · have h := fw_it hc h
              refine fw_aload_n (pc := 60) d_M_alike_60 0 rfl rfl ?_
              refine fw_getR (pc := 61) d_M_alike_61 fl_M_80 fw_Mo0 rfl ?_
              refine fw_iload_n (pc := 64) d_M_alike_64 1 rfl rfl ?_
              obtain ⟨v65, e65, h⟩ := fw_be h
              refine fw_iald (pc := 65) d_M_alike_65 fw_Mo24 e65 ?_
              refine fw_aload_n (pc := 66) d_M_alike_66 0 rfl rfl ?_
              refine fw_getR (pc := 67) d_M_alike_67 fl_M_80 fw_Mo0 rfl ?_
              refine fw_iload_n (pc := 70) d_M_alike_70 2 rfl rfl ?_
              obtain ⟨v71, e71, h⟩ := fw_be h
              refine fw_iald (pc := 71) d_M_alike_71 fw_Mo24 e71 ?_
              refine fw_icmp_eq (pc := 72) (tgt := 78) d_M_alike_72 rfl (fun hc => ?_) (fun hc => ?_)
              · have h := fw_it hc h
                refine fw_iload_n (pc := 78) d_M_alike_78 3 rfl rfl ?_
                refine fw_aload_n (pc := 79) d_M_alike_79 0 rfl rfl ?_
                refine fw_getR (pc := 80) d_M_alike_80 fl_M_83 fw_Mo0 rfl ?_
                refine fw_iload_n (pc := 83) d_M_alike_83 1 rfl rfl ?_
                obtain ⟨v84, e84, h⟩ := fw_be h
                refine fw_iald (pc := 84) d_M_alike_84 fw_Mo25 e84 ?_
                refine fw_icmp_gt (pc := 85) (tgt := 98) d_M_alike_85 rfl (fun hc => ?_) (fun hc => ?_)
                · have h := fw_it hc h
                  refine fw_bipush (pc := 98) d_M_alike_98 fw_bpm13 ?_
                  obtain rfl := Option.some.inj h
                  exact fw_iret (pc := 100) d_M_alike_100 rfl
                · have h := fw_if hc h
                  refine fw_iload_n (pc := 88) d_M_alike_88 3 rfl rfl ?_
                  refine fw_aload_n (pc := 89) d_M_alike_89 0 rfl rfl ?_
                  refine fw_getR (pc := 90) d_M_alike_90 fl_M_83 fw_Mo0 rfl ?_
                  refine fw_iload_n (pc := 93) d_M_alike_93 2 rfl rfl ?_
                  obtain ⟨v94, e94, h⟩ := fw_be h
                  refine fw_iald (pc := 94) d_M_alike_94 fw_Mo25 e94 ?_
                  refine fw_icmp_le (pc := 95) (tgt := 101) d_M_alike_95 rfl (fun hc => ?_) (fun hc => ?_)
                  · have h := fw_it hc h
                    refine fw_iconst (pc := 101) d_M_alike_101 fw_ic0 ?_
                    refine fw_istore (pc := 102) (lv1 := [(5, .int 0), (0, .ref 0), (1, .int a1), (2, .int a2), (3, .int a3), (4, .int a4)]) d_M_alike_102 (by decide) rfl ?_
                    refine fw_iconst (pc := 104) d_M_alike_104 fw_ic0 ?_
                    refine fw_istore (pc := 105) (lv1 := [(6, .int 0), (5, .int 0), (0, .ref 0), (1, .int a1), (2, .int a2), (3, .int a3), (4, .int a4)]) d_M_alike_105 (by decide) rfl ?_
                    obtain ⟨e107x, w107, h⟩ := fw_be h
                    have hE107 : fw_R "FewTypesModel" prog_11_method_62_code 9 (some .int) fw_Mo 3 (some r) μ 156 [(3, .int a3), (4, .int a4), (5, .int e107x)] [] μ := by
                      refine fw_iload (pc := 156) d_M_alike_156 2 rfl ?_
                      refine fw_istore (pc := 158) (lv1 := [(6, .int e107x), (3, .int a3), (4, .int a4), (5, .int e107x)]) d_M_alike_158 (by decide) rfl ?_
                      refine fw_iload_n (pc := 160) d_M_alike_160 1 rfl rfl ?_
                      refine fw_istore (pc := 161) (lv1 := [(7, .int a3), (6, .int e107x), (3, .int a3), (4, .int a4), (5, .int e107x)]) d_M_alike_161 (by decide) rfl ?_
                      obtain ⟨e163x, w163, h⟩ := fw_be h
                      have hE163 : fw_R "FewTypesModel" prog_11_method_62_code 9 (some .int) fw_Mo 3 (some r) μ 186 [(3, .int a3), (4, .int a4), (5, .int e107x), (6, .int e163x)] [] μ := by
                        refine fw_iload (pc := 186) d_M_alike_186 1 rfl ?_
                        obtain ⟨j188, w188, h⟩ := fw_be h
                        have hJ188 : fw_R "FewTypesModel" prog_11_method_62_code 9 (some .int) fw_Mo 3 (some r) μ 203 [] [.int j188] μ := by
                          obtain rfl := Option.some.inj h
                          exact fw_iret (pc := 203) d_M_alike_203 rfl
                        clear h
                        have h := w188
                        clear w188
                        refine fw_if_ne (pc := 188) (tgt := 199) d_M_alike_188 rfl (fun hc => ?_) (fun hc => ?_)
                        · have h := fw_it hc h
                          refine fw_iload (pc := 191) d_M_alike_191 2 rfl ?_
                          refine fw_iload (pc := 193) d_M_alike_193 3 rfl ?_
                          obtain ⟨v195, e195, h⟩ := fw_be h
                          refine fw_idiv (pc := 195) d_M_alike_195 e195 ?_
                          refine fw_goto (pc := 196) (tgt := 203) d_M_alike_196 rfl ?_
                          obtain rfl := Option.some.inj h
                          exact fw_sub [] rfl hJ188
                        · have h := fw_if hc h
                          refine fw_iload_n (pc := 199) d_M_alike_199 0 rfl rfl ?_
                          refine fw_iload (pc := 200) d_M_alike_200 3 rfl ?_
                          obtain ⟨v202, e202, h⟩ := fw_be h
                          refine fw_idiv (pc := 202) d_M_alike_202 e202 ?_
                          obtain rfl := Option.some.inj h
                          exact fw_sub [] rfl hJ188
                      clear h
                      exact fw_sub [2, 3, 4, 1, 0] rfl (fw_we (e := e163x) (fun (s : Int32 × Int32) => fw_R "FewTypesModel" prog_11_method_62_code 9 (some .int) fw_Mo 3 (some r) μ 163 [(3, .int a3), (4, .int a4), (5, .int e107x), (6, .int s.1), (7, .int s.2)] [] μ) (by
                        intro s x h hl hr
                        obtain ⟨x6_163, x7_163⟩ := s
                        rw [f_M_alike_L163] at h
                        show fw_R "FewTypesModel" prog_11_method_62_code 9 (some .int) fw_Mo 3 (some r) μ 163 [(3, .int a3), (4, .int a4), (5, .int e107x), (6, .int x6_163), (7, .int x7_163)] [] μ
                        refine fw_iload (pc := 163) d_M_alike_163 4 rfl ?_
                        refine fw_if_le (pc := 165) (tgt := 186) d_M_alike_165 rfl (fun hc => ?_) (fun hc => ?_)
                        · have h := fw_it hc h
                          obtain rfl := Option.some.inj h
                          have he := hr _ rfl
                          subst he
                          exact fw_sub [0, 1, 2, 3] rfl hE163
                        · have h := fw_if hc h
                          refine fw_iload (pc := 168) d_M_alike_168 3 rfl ?_
                          refine fw_iload (pc := 170) d_M_alike_170 4 rfl ?_
                          obtain ⟨v172, e172, h⟩ := fw_be h
                          refine fw_irem (pc := 172) d_M_alike_172 e172 ?_
                          refine fw_istore (pc := 173) (lv1 := [(8, .int v172), (3, .int a3), (4, .int a4), (5, .int e107x), (6, .int x6_163), (7, .int x7_163)]) d_M_alike_173 (by decide) rfl ?_
                          refine fw_iload (pc := 175) d_M_alike_175 5 rfl ?_
                          refine fw_istore (pc := 177) (lv1 := [(6, .int x7_163), (8, .int v172), (3, .int a3), (4, .int a4), (5, .int e107x), (7, .int x7_163)]) d_M_alike_177 (by decide) rfl ?_
                          refine fw_iload (pc := 179) d_M_alike_179 1 rfl ?_
                          refine fw_istore (pc := 181) (lv1 := [(7, .int v172), (6, .int x7_163), (8, .int v172), (3, .int a3), (4, .int a4), (5, .int e107x)]) d_M_alike_181 (by decide) rfl ?_
                          refine fw_goto (pc := 183) (tgt := 163) d_M_alike_183 rfl ?_
                          obtain rfl := Option.some.inj h
                          exact fw_sub [3, 4, 5, 1, 0] rfl (hl _ rfl)
                        ) _ _ w163)
                    clear h
                    exact fw_sub [2, 3, 4, 5, 6, 1, 0] rfl (fw_we (e := e107x) (fun (s : Int32 × Int32) => fw_R "FewTypesModel" prog_11_method_62_code 9 (some .int) fw_Mo 3 (some r) μ 107 [(0, .ref 0), (1, .int a1), (2, .int a2), (3, .int a3), (4, .int a4), (5, .int s.1), (6, .int s.2)] [] μ) (by
                      intro s x h hl hr
                      obtain ⟨x5_107, x6_107⟩ := s
                      rw [f_M_alike_L107] at h
                      show fw_R "FewTypesModel" prog_11_method_62_code 9 (some .int) fw_Mo 3 (some r) μ 107 [(0, .ref 0), (1, .int a1), (2, .int a2), (3, .int a3), (4, .int a4), (5, .int x5_107), (6, .int x6_107)] [] μ
                      refine fw_iload (pc := 107) d_M_alike_107 6 rfl ?_
                      refine fw_iload_n (pc := 109) d_M_alike_109 3 rfl rfl ?_
                      refine fw_icmp_ge (pc := 110) (tgt := 156) d_M_alike_110 rfl (fun hc => ?_) (fun hc => ?_)
                      · have h := fw_it hc h
                        obtain rfl := Option.some.inj h
                        have he := hr _ rfl
                        subst he
                        exact fw_sub [3, 4, 5] rfl hE107
                      · have h := fw_if hc h
                        refine fw_iload (pc := 113) d_M_alike_113 5 rfl ?_
                        refine fw_aload_n (pc := 115) d_M_alike_115 0 rfl rfl ?_
                        refine fw_getR (pc := 116) d_M_alike_116 fl_M_86 fw_Mo0 rfl ?_
                        refine fw_bipush (pc := 119) d_M_alike_119 fw_bp24 ?_
                        refine fw_iload_n (pc := 121) d_M_alike_121 1 rfl rfl ?_
                        refine fw_imul (pc := 122) d_M_alike_122 ?_
                        refine fw_iload (pc := 123) d_M_alike_123 6 rfl ?_
                        refine fw_iadd (pc := 125) d_M_alike_125 ?_
                        obtain ⟨v126, e126, h⟩ := fw_be h
                        refine fw_iald (pc := 126) d_M_alike_126 fw_Mo26 e126 ?_
                        refine fw_aload_n (pc := 127) d_M_alike_127 0 rfl rfl ?_
                        refine fw_getR (pc := 128) d_M_alike_128 fl_M_86 fw_Mo0 rfl ?_
                        refine fw_bipush (pc := 131) d_M_alike_131 fw_bp24 ?_
                        refine fw_iload_n (pc := 133) d_M_alike_133 2 rfl rfl ?_
                        refine fw_imul (pc := 134) d_M_alike_134 ?_
                        refine fw_iload (pc := 135) d_M_alike_135 6 rfl ?_
                        refine fw_iadd (pc := 137) d_M_alike_137 ?_
                        obtain ⟨v138, e138, h⟩ := fw_be h
                        refine fw_iald (pc := 138) d_M_alike_138 fw_Mo26 e138 ?_
                        obtain ⟨j139, w139, h⟩ := fw_ne h
                        have hJ139 : fw_R "FewTypesModel" prog_11_method_62_code 9 (some .int) fw_Mo 3 (some r) μ 147 [(0, .ref 0), (1, .int a1), (2, .int a2), (3, .int a3), (4, .int a4), (6, .int x6_107)] [.int j139, .int x5_107] μ := by
                          refine fw_iadd (pc := 147) d_M_alike_147 ?_
                          obtain ⟨v148, e148, h⟩ := fw_ne h
                          refine fw_top e148 ?_
                          refine fw_istore (pc := 148) (lv1 := [(5, .int v148), (0, .ref 0), (1, .int a1), (2, .int a2), (3, .int a3), (4, .int a4), (6, .int x6_107)]) d_M_alike_148 (by decide) rfl ?_
                          obtain ⟨v150, e150, h⟩ := fw_ne h
                          refine fw_iinc2 (pc := 150) (j := 6) (lv1 := [(6, .int v150), (5, .int v148), (0, .ref 0), (1, .int a1), (2, .int a2), (3, .int a3), (4, .int a4)]) d_M_alike_150 rfl fw_ic1 e150 (by decide) rfl ?_
                          refine fw_goto (pc := 153) (tgt := 107) d_M_alike_153 rfl ?_
                          obtain rfl := Option.some.inj h
                          exact fw_sub [2, 3, 4, 5, 6, 1, 0] rfl (hl _ rfl)
                        clear h
                        have h := w139
                        clear w139
                        refine fw_icmp_ne (pc := 139) (tgt := 146) d_M_alike_139 rfl (fun hc => ?_) (fun hc => ?_)
                        · have h := h.trans (if_pos hc)
                          refine fw_iconst (pc := 142) d_M_alike_142 fw_ic1 ?_
                          refine fw_goto (pc := 143) (tgt := 147) d_M_alike_143 rfl ?_
                          subst h
                          exact fw_sub [0, 1, 2, 3, 4, 6] rfl hJ139
                        · have h := h.trans (if_neg hc)
                          refine fw_iconst (pc := 146) d_M_alike_146 fw_ic0 ?_
                          subst h
                          exact fw_sub [0, 1, 2, 3, 4, 6] rfl hJ139
                      ) _ _ w107)
                  · have h := fw_if hc h
                    refine fw_bipush (pc := 98) d_M_alike_98 fw_bpm13 ?_
                    obtain rfl := Option.some.inj h
                    exact fw_iret (pc := 100) d_M_alike_100 rfl
              · have h := fw_if hc h
                refine fw_bipush (pc := 75) d_M_alike_75 fw_bpm12 ?_
                obtain rfl := Option.some.inj h
                exact fw_iret (pc := 77) d_M_alike_77 rfl
            · have h := fw_if hc h
              refine fw_bipush (pc := 57) d_M_alike_57 fw_bpm11 ?_
              obtain rfl := Option.some.inj h
              exact fw_iret (pc := 59) d_M_alike_59 rfl
def f_M_sheet_L46 (a1 : Int32) : Int32 × fw_M → Option ((Int32 × fw_M) ⊕ (fw_M))
  | (x4_46, μ46) =>
  if 24 ≤ x4_46 then
    some (.inr μ46)
  else
    (fw_si 96 μ46 26 ((24 * a1) + x4_46) 0).bind fun μ65 =>
    fw_nm (x4_46 + 1) fun (v66 : Int32) =>
    some (.inl (v66, μ65))
def f_M_sheet (a1 : Int32) (a2 : Int32) (a3 : Int32) (μ : fw_M) : Option (Int32 × fw_M) :=
  (f_M_isSheet a1).bind fun (p1 : Int32) =>
  if p1 = 0 then
    some ((-1), μ)
  else
    (f_M_isLane a2).bind fun (p8 : Int32) =>
    if p8 = 0 then
      some ((-1), μ)
    else
      if a3 ≤ 24 then
        if 0 ≤ a3 then
          (fw_si 4 μ 24 a1 a2).bind fun μ35 =>
          (fw_si 4 μ35 25 a1 a3).bind fun μ42 =>
          (fw_wh (f_M_sheet_L46 a1) fw_N (0, μ42)).bind fun (e46x : fw_M) =>
          some (a3, e46x)
        else
          some ((-14), μ)
      else
        some ((-1), μ)
set_option maxHeartbeats 4000000 in
set_option maxRecDepth 100000 in
theorem c_M_sheet {a1 : Int32} {a2 : Int32} {a3 : Int32} {μ : fw_M} {r : Int32 × fw_M} (h : f_M_sheet a1 a2 a3 μ = some r) : fw_Con Y_M_sheet fw_Mo 3 [.ref 0, .int a1, .int a2, .int a3] (some r.1) μ r.2 := by
  refine fw_con (by decide) (Nat.le_of_ble_eq_true rfl) ?_
  rw [f_M_sheet] at h
  show fw_R "FewTypesModel" prog_11_method_63_code 5 (some .int) fw_Mo 3 (some r.1) r.2 0 [(0, .ref 0), (1, .int a1), (2, .int a2), (3, .int a3)] [] μ
  refine fw_iload_n (pc := 0) d_M_sheet_0 1 rfl rfl ?_
  obtain ⟨p1, e1, h⟩ := fw_be h
  refine fw_callSi (pc := 1) d_M_sheet_1 ms_M_249 (c_M_isSheet e1) (by decide) rfl rfl (Nat.le_of_ble_eq_true rfl) ?_
  refine fw_if_eq (pc := 4) (tgt := 20) d_M_sheet_4 rfl (fun hc => ?_) (fun hc => ?_)
  · have h := fw_it hc h
    refine fw_iconst (pc := 20) d_M_sheet_20 fw_icm1 ?_
    obtain rfl := Option.some.inj h
    exact fw_iret (pc := 21) d_M_sheet_21 rfl
  · have h := fw_if hc h
    refine fw_iload_n (pc := 7) d_M_sheet_7 2 rfl rfl ?_
    obtain ⟨p8, e8, h⟩ := fw_be h
    refine fw_callSi (pc := 8) d_M_sheet_8 ms_M_252 (c_M_isLane e8) (by decide) rfl rfl (Nat.le_of_ble_eq_true rfl) ?_
    refine fw_if_eq (pc := 11) (tgt := 20) d_M_sheet_11 rfl (fun hc => ?_) (fun hc => ?_)
    · have h := fw_it hc h
      refine fw_iconst (pc := 20) d_M_sheet_20 fw_icm1 ?_
      obtain rfl := Option.some.inj h
      exact fw_iret (pc := 21) d_M_sheet_21 rfl
    · have h := fw_if hc h
      refine fw_iload_n (pc := 14) d_M_sheet_14 3 rfl rfl ?_
      refine fw_bipush (pc := 15) d_M_sheet_15 fw_bp24 ?_
      refine fw_icmp_le (pc := 17) (tgt := 22) d_M_sheet_17 rfl (fun hc => ?_) (fun hc => ?_)
      · have h := fw_it hc h
        refine fw_iload_n (pc := 22) d_M_sheet_22 3 rfl rfl ?_
        refine fw_if_ge (pc := 23) (tgt := 29) d_M_sheet_23 rfl (fun hc => ?_) (fun hc => ?_)
        · have h := fw_it hc h
          refine fw_aload_n (pc := 29) d_M_sheet_29 0 rfl rfl ?_
          refine fw_getR (pc := 30) d_M_sheet_30 fl_M_80 fw_Mo0 rfl ?_
          refine fw_iload_n (pc := 33) d_M_sheet_33 1 rfl rfl ?_
          refine fw_iload_n (pc := 34) d_M_sheet_34 2 rfl rfl ?_
          obtain ⟨μ35, e35, h⟩ := fw_be h
          refine fw_iast (pc := 35) d_M_sheet_35 fw_Mo24 e35 ?_
          refine fw_aload_n (pc := 36) d_M_sheet_36 0 rfl rfl ?_
          refine fw_getR (pc := 37) d_M_sheet_37 fl_M_83 fw_Mo0 rfl ?_
          refine fw_iload_n (pc := 40) d_M_sheet_40 1 rfl rfl ?_
          refine fw_iload_n (pc := 41) d_M_sheet_41 3 rfl rfl ?_
          obtain ⟨μ42, e42, h⟩ := fw_be h
          refine fw_iast (pc := 42) d_M_sheet_42 fw_Mo25 e42 ?_
          refine fw_iconst (pc := 43) d_M_sheet_43 fw_ic0 ?_
          refine fw_istore (pc := 44) (lv1 := [(4, .int 0), (0, .ref 0), (1, .int a1), (2, .int a2), (3, .int a3)]) d_M_sheet_44 (by decide) rfl ?_
          obtain ⟨e46x, w46, h⟩ := fw_be h
          have hE46 : fw_R "FewTypesModel" prog_11_method_63_code 5 (some .int) fw_Mo 3 (some r.1) r.2 72 [(3, .int a3)] [] e46x := by
            refine fw_iload_n (pc := 72) d_M_sheet_72 0 rfl rfl ?_
            obtain rfl := Option.some.inj h
            exact fw_iret (pc := 73) d_M_sheet_73 rfl
          clear h
          exact fw_sub [1, 2, 4, 0] rfl (fw_we (e := e46x) (fun (s : Int32 × fw_M) => fw_R "FewTypesModel" prog_11_method_63_code 5 (some .int) fw_Mo 3 (some r.1) r.2 46 [(0, .ref 0), (1, .int a1), (3, .int a3), (4, .int s.1)] [] s.2) (by
            intro s x h hl hr
            obtain ⟨x4_46, μ46⟩ := s
            rw [f_M_sheet_L46] at h
            show fw_R "FewTypesModel" prog_11_method_63_code 5 (some .int) fw_Mo 3 (some r.1) r.2 46 [(0, .ref 0), (1, .int a1), (3, .int a3), (4, .int x4_46)] [] μ46
            refine fw_iload (pc := 46) d_M_sheet_46 3 rfl ?_
            refine fw_bipush (pc := 48) d_M_sheet_48 fw_bp24 ?_
            refine fw_icmp_ge (pc := 50) (tgt := 72) d_M_sheet_50 rfl (fun hc => ?_) (fun hc => ?_)
            · have h := fw_it hc h
              obtain rfl := Option.some.inj h
              have he := hr _ rfl
              subst he
              exact fw_sub [2] rfl hE46
            · have h := fw_if hc h
              refine fw_aload_n (pc := 53) d_M_sheet_53 0 rfl rfl ?_
              refine fw_getR (pc := 54) d_M_sheet_54 fl_M_86 fw_Mo0 rfl ?_
              refine fw_bipush (pc := 57) d_M_sheet_57 fw_bp24 ?_
              refine fw_iload_n (pc := 59) d_M_sheet_59 1 rfl rfl ?_
              refine fw_imul (pc := 60) d_M_sheet_60 ?_
              refine fw_iload (pc := 61) d_M_sheet_61 3 rfl ?_
              refine fw_iadd (pc := 63) d_M_sheet_63 ?_
              refine fw_iconst (pc := 64) d_M_sheet_64 fw_ic0 ?_
              obtain ⟨μ65, e65, h⟩ := fw_be h
              refine fw_iast (pc := 65) d_M_sheet_65 fw_Mo26 e65 ?_
              obtain ⟨v66, e66, h⟩ := fw_ne h
              refine fw_iinc2 (pc := 66) (j := 3) (lv1 := [(4, .int v66), (0, .ref 0), (1, .int a1), (3, .int a3)]) d_M_sheet_66 rfl fw_ic1 e66 (by decide) rfl ?_
              refine fw_goto (pc := 69) (tgt := 46) d_M_sheet_69 rfl ?_
              obtain rfl := Option.some.inj h
              exact fw_sub [1, 2, 3, 0] rfl (hl _ rfl)
            ) _ _ w46)
        · have h := fw_if hc h
          refine fw_bipush (pc := 26) d_M_sheet_26 fw_bpm14 ?_
          obtain rfl := Option.some.inj h
          exact fw_iret (pc := 28) d_M_sheet_28 rfl
      · have h := fw_if hc h
        refine fw_iconst (pc := 20) d_M_sheet_20 fw_icm1 ?_
        obtain rfl := Option.some.inj h
        exact fw_iret (pc := 21) d_M_sheet_21 rfl
def f_M_drop (a1 : Int32) (μ : fw_M) : Option (Int32 × fw_M) :=
  (f_M_isSheet a1).bind fun (p1 : Int32) =>
  if p1 = 0 then
    some ((-1), μ)
  else
    (fw_rd 4 (μ.1 24) a1).bind fun v14 =>
    if 0 ≤ v14 then
      (fw_si 4 μ 24 a1 (-1)).bind fun μ27 =>
      (fw_rd 4 (μ27.1 25) a1).bind fun v33 =>
      some (v33, μ27)
    else
      some ((-11), μ)
set_option maxHeartbeats 4000000 in
set_option maxRecDepth 100000 in
theorem c_M_drop {a1 : Int32} {μ : fw_M} {r : Int32 × fw_M} (h : f_M_drop a1 μ = some r) : fw_Con Y_M_drop fw_Mo 3 [.ref 0, .int a1] (some r.1) μ r.2 := by
  refine fw_con (by decide) (Nat.le_of_ble_eq_true rfl) ?_
  rw [f_M_drop] at h
  show fw_R "FewTypesModel" prog_11_method_64_code 2 (some .int) fw_Mo 3 (some r.1) r.2 0 [(0, .ref 0), (1, .int a1)] [] μ
  refine fw_iload_n (pc := 0) d_M_drop_0 1 rfl rfl ?_
  obtain ⟨p1, e1, h⟩ := fw_be h
  refine fw_callSi (pc := 1) d_M_drop_1 ms_M_249 (c_M_isSheet e1) (by decide) rfl rfl (Nat.le_of_ble_eq_true rfl) ?_
  refine fw_if_ne (pc := 4) (tgt := 9) d_M_drop_4 rfl (fun hc => ?_) (fun hc => ?_)
  · have h := fw_it hc h
    refine fw_iconst (pc := 7) d_M_drop_7 fw_icm1 ?_
    obtain rfl := Option.some.inj h
    exact fw_iret (pc := 8) d_M_drop_8 rfl
  · have h := fw_if hc h
    refine fw_aload_n (pc := 9) d_M_drop_9 0 rfl rfl ?_
    refine fw_getR (pc := 10) d_M_drop_10 fl_M_80 fw_Mo0 rfl ?_
    refine fw_iload_n (pc := 13) d_M_drop_13 1 rfl rfl ?_
    obtain ⟨v14, e14, h⟩ := fw_be h
    refine fw_iald (pc := 14) d_M_drop_14 fw_Mo24 e14 ?_
    refine fw_if_ge (pc := 15) (tgt := 21) d_M_drop_15 rfl (fun hc => ?_) (fun hc => ?_)
    · have h := fw_it hc h
      refine fw_aload_n (pc := 21) d_M_drop_21 0 rfl rfl ?_
      refine fw_getR (pc := 22) d_M_drop_22 fl_M_80 fw_Mo0 rfl ?_
      refine fw_iload_n (pc := 25) d_M_drop_25 1 rfl rfl ?_
      refine fw_iconst (pc := 26) d_M_drop_26 fw_icm1 ?_
      obtain ⟨μ27, e27, h⟩ := fw_be h
      refine fw_iast (pc := 27) d_M_drop_27 fw_Mo24 e27 ?_
      refine fw_aload_n (pc := 28) d_M_drop_28 0 rfl rfl ?_
      refine fw_getR (pc := 29) d_M_drop_29 fl_M_83 fw_Mo0 rfl ?_
      refine fw_iload_n (pc := 32) d_M_drop_32 1 rfl rfl ?_
      obtain ⟨v33, e33, h⟩ := fw_be h
      refine fw_iald (pc := 33) d_M_drop_33 fw_Mo25 e33 ?_
      obtain rfl := Option.some.inj h
      exact fw_iret (pc := 34) d_M_drop_34 rfl
    · have h := fw_if hc h
      refine fw_bipush (pc := 18) d_M_drop_18 fw_bpm11 ?_
      obtain rfl := Option.some.inj h
      exact fw_iret (pc := 20) d_M_drop_20 rfl
def f_M_item (a1 : Int32) (a2 : Int32) (a3 : Int32) (a4 : Int32) (μ : fw_M) : Option (Int32 × fw_M) :=
  (f_M_isSheet a1).bind fun (p1 : Int32) =>
  if p1 = 0 then
    some ((-1), μ)
  else
    (f_M_isLane a2).bind fun (p8 : Int32) =>
    if p8 = 0 then
      some ((-1), μ)
    else
      (f_M_finds a1 a2 a3 1 μ).bind fun (p21 : Int32) =>
      if 0 ≤ p21 then
        fw_nm (
          if a2 = 0 then
            (Int8.toInt32 (Int32.toInt8 a4))
          else
            if a2 = 1 then
              (Int16.toInt32 (Int32.toInt16 a4))
            else
              a4) fun (j45 : Int32) =>
        (fw_si 96 μ 26 ((24 * a1) + a3) j45).bind fun μ67 =>
        some (1, μ67)
      else
        some (p21, μ)
set_option maxHeartbeats 4000000 in
set_option maxRecDepth 100000 in
theorem c_M_item {a1 : Int32} {a2 : Int32} {a3 : Int32} {a4 : Int32} {μ : fw_M} {r : Int32 × fw_M} (h : f_M_item a1 a2 a3 a4 μ = some r) : fw_Con Y_M_item fw_Mo 3 [.ref 0, .int a1, .int a2, .int a3, .int a4] (some r.1) μ r.2 := by
  refine fw_con (by decide) (Nat.le_of_ble_eq_true rfl) ?_
  rw [f_M_item] at h
  show fw_R "FewTypesModel" prog_11_method_65_code 6 (some .int) fw_Mo 3 (some r.1) r.2 0 [(0, .ref 0), (1, .int a1), (2, .int a2), (3, .int a3), (4, .int a4)] [] μ
  refine fw_iload_n (pc := 0) d_M_item_0 1 rfl rfl ?_
  obtain ⟨p1, e1, h⟩ := fw_be h
  refine fw_callSi (pc := 1) d_M_item_1 ms_M_249 (c_M_isSheet e1) (by decide) rfl rfl (Nat.le_of_ble_eq_true rfl) ?_
  refine fw_if_eq (pc := 4) (tgt := 14) d_M_item_4 rfl (fun hc => ?_) (fun hc => ?_)
  · have h := fw_it hc h
    refine fw_iconst (pc := 14) d_M_item_14 fw_icm1 ?_
    obtain rfl := Option.some.inj h
    exact fw_iret (pc := 15) d_M_item_15 rfl
  · have h := fw_if hc h
    refine fw_iload_n (pc := 7) d_M_item_7 2 rfl rfl ?_
    obtain ⟨p8, e8, h⟩ := fw_be h
    refine fw_callSi (pc := 8) d_M_item_8 ms_M_252 (c_M_isLane e8) (by decide) rfl rfl (Nat.le_of_ble_eq_true rfl) ?_
    refine fw_if_ne (pc := 11) (tgt := 16) d_M_item_11 rfl (fun hc => ?_) (fun hc => ?_)
    · have h := fw_it hc h
      refine fw_iconst (pc := 14) d_M_item_14 fw_icm1 ?_
      obtain rfl := Option.some.inj h
      exact fw_iret (pc := 15) d_M_item_15 rfl
    · have h := fw_if hc h
      refine fw_aload_n (pc := 16) d_M_item_16 0 rfl rfl ?_
      refine fw_iload_n (pc := 17) d_M_item_17 1 rfl rfl ?_
      refine fw_iload_n (pc := 18) d_M_item_18 2 rfl rfl ?_
      refine fw_iload_n (pc := 19) d_M_item_19 3 rfl rfl ?_
      refine fw_iconst (pc := 20) d_M_item_20 fw_ic1 ?_
      obtain ⟨p21, e21, h⟩ := fw_be h
      refine fw_callVi (pc := 21) d_M_item_21 mv_M_255 fw_Mo0 (c_M_finds e21) (by decide) rfl rfl (Nat.le_of_ble_eq_true rfl) ?_
      refine fw_istore (pc := 24) (lv1 := [(5, .int p21), (0, .ref 0), (1, .int a1), (2, .int a2), (3, .int a3), (4, .int a4)]) d_M_item_24 (by decide) rfl ?_
      refine fw_iload (pc := 26) d_M_item_26 0 rfl ?_
      refine fw_if_ge (pc := 28) (tgt := 34) d_M_item_28 rfl (fun hc => ?_) (fun hc => ?_)
      · have h := fw_it hc h
        refine fw_aload_n (pc := 34) d_M_item_34 1 rfl rfl ?_
        refine fw_getR (pc := 35) d_M_item_35 fl_M_86 fw_Mo0 rfl ?_
        refine fw_bipush (pc := 38) d_M_item_38 fw_bp24 ?_
        refine fw_iload_n (pc := 40) d_M_item_40 2 rfl rfl ?_
        refine fw_imul (pc := 41) d_M_item_41 ?_
        refine fw_iload_n (pc := 42) d_M_item_42 4 rfl rfl ?_
        refine fw_iadd (pc := 43) d_M_item_43 ?_
        refine fw_iload_n (pc := 44) d_M_item_44 3 rfl rfl ?_
        obtain ⟨j45, w45, h⟩ := fw_ne h
        have hJ45 : fw_R "FewTypesModel" prog_11_method_65_code 6 (some .int) fw_Mo 3 (some r.1) r.2 67 [] [.int j45, .int ((24 * a1) + a3), .ref 26] μ := by
          obtain ⟨μ67, e67, h⟩ := fw_be h
          refine fw_iast (pc := 67) d_M_item_67 fw_Mo26 e67 ?_
          refine fw_iconst (pc := 68) d_M_item_68 fw_ic1 ?_
          obtain rfl := Option.some.inj h
          exact fw_iret (pc := 69) d_M_item_69 rfl
        clear h
        have h := w45
        clear w45
        refine fw_if_ne (pc := 45) (tgt := 54) d_M_item_45 rfl (fun hc => ?_) (fun hc => ?_)
        · have h := h.trans (if_pos hc)
          refine fw_iload (pc := 48) d_M_item_48 5 rfl ?_
          refine fw_i2b (pc := 50) d_M_item_50 ?_
          refine fw_goto (pc := 51) (tgt := 67) d_M_item_51 rfl ?_
          subst h
          exact fw_sub [] rfl hJ45
        · have h := h.trans (if_neg hc)
          refine fw_iload_n (pc := 54) d_M_item_54 3 rfl rfl ?_
          refine fw_iconst (pc := 55) d_M_item_55 fw_ic1 ?_
          refine fw_icmp_ne (pc := 56) (tgt := 65) d_M_item_56 rfl (fun hc => ?_) (fun hc => ?_)
          · have h := h.trans (if_pos hc)
            refine fw_iload (pc := 59) d_M_item_59 5 rfl ?_
            refine fw_i2s (pc := 61) d_M_item_61 ?_
            refine fw_goto (pc := 62) (tgt := 67) d_M_item_62 rfl ?_
            subst h
            exact fw_sub [] rfl hJ45
          · have h := h.trans (if_neg hc)
            refine fw_iload (pc := 65) d_M_item_65 5 rfl ?_
            subst h
            exact fw_sub [] rfl hJ45
      · have h := fw_if hc h
        refine fw_iload (pc := 31) d_M_item_31 0 rfl ?_
        obtain rfl := Option.some.inj h
        exact fw_iret (pc := 33) d_M_item_33 rfl
def f_M_copy_L101 (a1 : Int32) (a2 : Int32) (a5 : Int32) : Int32 × fw_M → Option ((Int32 × fw_M) ⊕ (fw_M))
  | (x6_101, μ101) =>
  if a5 ≤ x6_101 then
    some (.inr μ101)
  else
    (fw_rd 96 (μ101.1 26) (((24 * a1) + a2) + x6_101)).bind fun v127 =>
    (fw_si 24 μ101 27 x6_101 v127).bind fun μ128 =>
    fw_nm (x6_101 + 1) fun (v129 : Int32) =>
    some (.inl (v129, μ128))
def f_M_copy_L138 (a3 : Int32) (a4 : Int32) (a5 : Int32) : Int32 × fw_M → Option ((Int32 × fw_M) ⊕ (fw_M))
  | (x6_138, μ138) =>
  if a5 ≤ x6_138 then
    some (.inr μ138)
  else
    (fw_rd 24 (μ138.1 27) x6_138).bind fun v165 =>
    (fw_si 96 μ138 26 (((24 * a3) + a4) + x6_138) v165).bind fun μ166 =>
    fw_nm (x6_138 + 1) fun (v167 : Int32) =>
    some (.inl (v167, μ166))
def f_M_copy (a1 : Int32) (a2 : Int32) (a3 : Int32) (a4 : Int32) (a5 : Int32) (μ : fw_M) : Option (Int32 × fw_M) :=
  (f_M_isSheet a1).bind fun (p1 : Int32) =>
  if p1 = 0 then
    some ((-1), μ)
  else
    (f_M_isSheet a3).bind fun (p8 : Int32) =>
    if p8 = 0 then
      some ((-1), μ)
    else
      (fw_rd 4 (μ.1 24) a1).bind fun v21 =>
      if v21 < 0 then
        some ((-11), μ)
      else
        (fw_rd 4 (μ.1 24) a3).bind fun v30 =>
        if 0 ≤ v30 then
          (fw_rd 4 (μ.1 24) a1).bind fun v42 =>
          (fw_rd 4 (μ.1 24) a3).bind fun v48 =>
          if v42 = v48 then
            if a5 < 0 then
              some ((-13), μ)
            else
              (fw_rd 4 (μ.1 24) a1).bind fun v67 =>
              (f_M_finds a1 v67 a2 a5 μ).bind fun (p71 : Int32) =>
              if p71 < 0 then
                some ((-13), μ)
              else
                (fw_rd 4 (μ.1 24) a3).bind fun v84 =>
                (f_M_finds a3 v84 a4 a5 μ).bind fun (p89 : Int32) =>
                if 0 ≤ p89 then
                  (fw_wh (f_M_copy_L101 a1 a2 a5) fw_N (0, μ)).bind fun (e101x : fw_M) =>
                  (fw_wh (f_M_copy_L138 a3 a4 a5) fw_N (0, e101x)).bind fun (e138x : fw_M) =>
                  some (a5, e138x)
                else
                  some ((-13), μ)
          else
            some ((-12), μ)
        else
          some ((-11), μ)
set_option maxHeartbeats 4000000 in
set_option maxRecDepth 100000 in
theorem c_M_copy {a1 : Int32} {a2 : Int32} {a3 : Int32} {a4 : Int32} {a5 : Int32} {μ : fw_M} {r : Int32 × fw_M} (h : f_M_copy a1 a2 a3 a4 a5 μ = some r) : fw_Con Y_M_copy fw_Mo 3 [.ref 0, .int a1, .int a2, .int a3, .int a4, .int a5] (some r.1) μ r.2 := by
  refine fw_con (by decide) (Nat.le_of_ble_eq_true rfl) ?_
  rw [f_M_copy] at h
  show fw_R "FewTypesModel" prog_11_method_66_code 7 (some .int) fw_Mo 3 (some r.1) r.2 0 [(0, .ref 0), (1, .int a1), (2, .int a2), (3, .int a3), (4, .int a4), (5, .int a5)] [] μ
  refine fw_iload_n (pc := 0) d_M_copy_0 1 rfl rfl ?_
  obtain ⟨p1, e1, h⟩ := fw_be h
  refine fw_callSi (pc := 1) d_M_copy_1 ms_M_249 (c_M_isSheet e1) (by decide) rfl rfl (Nat.le_of_ble_eq_true rfl) ?_
  refine fw_if_eq (pc := 4) (tgt := 14) d_M_copy_4 rfl (fun hc => ?_) (fun hc => ?_)
  · have h := fw_it hc h
    refine fw_iconst (pc := 14) d_M_copy_14 fw_icm1 ?_
    obtain rfl := Option.some.inj h
    exact fw_iret (pc := 15) d_M_copy_15 rfl
  · have h := fw_if hc h
    refine fw_iload_n (pc := 7) d_M_copy_7 3 rfl rfl ?_
    obtain ⟨p8, e8, h⟩ := fw_be h
    refine fw_callSi (pc := 8) d_M_copy_8 ms_M_249 (c_M_isSheet e8) (by decide) rfl rfl (Nat.le_of_ble_eq_true rfl) ?_
    refine fw_if_ne (pc := 11) (tgt := 16) d_M_copy_11 rfl (fun hc => ?_) (fun hc => ?_)
    · have h := fw_it hc h
      refine fw_iconst (pc := 14) d_M_copy_14 fw_icm1 ?_
      obtain rfl := Option.some.inj h
      exact fw_iret (pc := 15) d_M_copy_15 rfl
    · have h := fw_if hc h
      refine fw_aload_n (pc := 16) d_M_copy_16 0 rfl rfl ?_
      refine fw_getR (pc := 17) d_M_copy_17 fl_M_80 fw_Mo0 rfl ?_
      refine fw_iload_n (pc := 20) d_M_copy_20 1 rfl rfl ?_
      obtain ⟨v21, e21, h⟩ := fw_be h
      refine fw_iald (pc := 21) d_M_copy_21 fw_Mo24 e21 ?_
      refine fw_if_lt (pc := 22) (tgt := 34) d_M_copy_22 rfl (fun hc => ?_) (fun hc => ?_)
      · have h := fw_it hc h
        refine fw_bipush (pc := 34) d_M_copy_34 fw_bpm11 ?_
        obtain rfl := Option.some.inj h
        exact fw_iret (pc := 36) d_M_copy_36 rfl
      · have h := fw_if hc h
        refine fw_aload_n (pc := 25) d_M_copy_25 0 rfl rfl ?_
        refine fw_getR (pc := 26) d_M_copy_26 fl_M_80 fw_Mo0 rfl ?_
        refine fw_iload_n (pc := 29) d_M_copy_29 3 rfl rfl ?_
        obtain ⟨v30, e30, h⟩ := fw_be h
        refine fw_iald (pc := 30) d_M_copy_30 fw_Mo24 e30 ?_
        refine fw_if_ge (pc := 31) (tgt := 37) d_M_copy_31 rfl (fun hc => ?_) (fun hc => ?_)
        · have h := fw_it hc h
          refine fw_aload_n (pc := 37) d_M_copy_37 0 rfl rfl ?_
          refine fw_getR (pc := 38) d_M_copy_38 fl_M_80 fw_Mo0 rfl ?_
          refine fw_iload_n (pc := 41) d_M_copy_41 1 rfl rfl ?_
          obtain ⟨v42, e42, h⟩ := fw_be h
          refine fw_iald (pc := 42) d_M_copy_42 fw_Mo24 e42 ?_
          refine fw_aload_n (pc := 43) d_M_copy_43 0 rfl rfl ?_
          refine fw_getR (pc := 44) d_M_copy_44 fl_M_80 fw_Mo0 rfl ?_
          refine fw_iload_n (pc := 47) d_M_copy_47 3 rfl rfl ?_
          obtain ⟨v48, e48, h⟩ := fw_be h
          refine fw_iald (pc := 48) d_M_copy_48 fw_Mo24 e48 ?_
          refine fw_icmp_eq (pc := 49) (tgt := 55) d_M_copy_49 rfl (fun hc => ?_) (fun hc => ?_)
          · have h := fw_it hc h
            refine fw_iload (pc := 55) d_M_copy_55 5 rfl ?_
            refine fw_if_lt (pc := 57) (tgt := 95) d_M_copy_57 rfl (fun hc => ?_) (fun hc => ?_)
            · have h := fw_it hc h
              refine fw_bipush (pc := 95) d_M_copy_95 fw_bpm13 ?_
              obtain rfl := Option.some.inj h
              exact fw_iret (pc := 97) d_M_copy_97 rfl
            · have h := fw_if hc h
              refine fw_aload_n (pc := 60) d_M_copy_60 0 rfl rfl ?_
              refine fw_iload_n (pc := 61) d_M_copy_61 1 rfl rfl ?_
              refine fw_aload_n (pc := 62) d_M_copy_62 0 rfl rfl ?_
              refine fw_getR (pc := 63) d_M_copy_63 fl_M_80 fw_Mo0 rfl ?_
              refine fw_iload_n (pc := 66) d_M_copy_66 1 rfl rfl ?_
              obtain ⟨v67, e67, h⟩ := fw_be h
              refine fw_iald (pc := 67) d_M_copy_67 fw_Mo24 e67 ?_
              refine fw_iload_n (pc := 68) d_M_copy_68 2 rfl rfl ?_
              refine fw_iload (pc := 69) d_M_copy_69 5 rfl ?_
              obtain ⟨p71, e71, h⟩ := fw_be h
              refine fw_callVi (pc := 71) d_M_copy_71 mv_M_255 fw_Mo0 (c_M_finds e71) (by decide) rfl rfl (Nat.le_of_ble_eq_true rfl) ?_
              refine fw_if_lt (pc := 74) (tgt := 95) d_M_copy_74 rfl (fun hc => ?_) (fun hc => ?_)
              · have h := fw_it hc h
                refine fw_bipush (pc := 95) d_M_copy_95 fw_bpm13 ?_
                obtain rfl := Option.some.inj h
                exact fw_iret (pc := 97) d_M_copy_97 rfl
              · have h := fw_if hc h
                refine fw_aload_n (pc := 77) d_M_copy_77 0 rfl rfl ?_
                refine fw_iload_n (pc := 78) d_M_copy_78 3 rfl rfl ?_
                refine fw_aload_n (pc := 79) d_M_copy_79 0 rfl rfl ?_
                refine fw_getR (pc := 80) d_M_copy_80 fl_M_80 fw_Mo0 rfl ?_
                refine fw_iload_n (pc := 83) d_M_copy_83 3 rfl rfl ?_
                obtain ⟨v84, e84, h⟩ := fw_be h
                refine fw_iald (pc := 84) d_M_copy_84 fw_Mo24 e84 ?_
                refine fw_iload (pc := 85) d_M_copy_85 4 rfl ?_
                refine fw_iload (pc := 87) d_M_copy_87 5 rfl ?_
                obtain ⟨p89, e89, h⟩ := fw_be h
                refine fw_callVi (pc := 89) d_M_copy_89 mv_M_255 fw_Mo0 (c_M_finds e89) (by decide) rfl rfl (Nat.le_of_ble_eq_true rfl) ?_
                refine fw_if_ge (pc := 92) (tgt := 98) d_M_copy_92 rfl (fun hc => ?_) (fun hc => ?_)
                · have h := fw_it hc h
                  refine fw_iconst (pc := 98) d_M_copy_98 fw_ic0 ?_
                  refine fw_istore (pc := 99) (lv1 := [(6, .int 0), (0, .ref 0), (1, .int a1), (2, .int a2), (3, .int a3), (4, .int a4), (5, .int a5)]) d_M_copy_99 (by decide) rfl ?_
                  obtain ⟨e101x, w101, h⟩ := fw_be h
                  have hE101 : fw_R "FewTypesModel" prog_11_method_66_code 7 (some .int) fw_Mo 3 (some r.1) r.2 135 [(0, .ref 0), (3, .int a3), (4, .int a4), (5, .int a5)] [] e101x := by
                    refine fw_iconst (pc := 135) d_M_copy_135 fw_ic0 ?_
                    refine fw_istore (pc := 136) (lv1 := [(6, .int 0), (0, .ref 0), (3, .int a3), (4, .int a4), (5, .int a5)]) d_M_copy_136 (by decide) rfl ?_
                    obtain ⟨e138x, w138, h⟩ := fw_be h
                    have hE138 : fw_R "FewTypesModel" prog_11_method_66_code 7 (some .int) fw_Mo 3 (some r.1) r.2 173 [(5, .int a5)] [] e138x := by
                      refine fw_iload (pc := 173) d_M_copy_173 0 rfl ?_
                      obtain rfl := Option.some.inj h
                      exact fw_iret (pc := 175) d_M_copy_175 rfl
                    clear h
                    exact fw_sub [1, 2, 3, 4, 0] rfl (fw_we (e := e138x) (fun (s : Int32 × fw_M) => fw_R "FewTypesModel" prog_11_method_66_code 7 (some .int) fw_Mo 3 (some r.1) r.2 138 [(0, .ref 0), (3, .int a3), (4, .int a4), (5, .int a5), (6, .int s.1)] [] s.2) (by
                      intro s x h hl hr
                      obtain ⟨x6_138, μ138⟩ := s
                      rw [f_M_copy_L138] at h
                      show fw_R "FewTypesModel" prog_11_method_66_code 7 (some .int) fw_Mo 3 (some r.1) r.2 138 [(0, .ref 0), (3, .int a3), (4, .int a4), (5, .int a5), (6, .int x6_138)] [] μ138
                      refine fw_iload (pc := 138) d_M_copy_138 4 rfl ?_
                      refine fw_iload (pc := 140) d_M_copy_140 3 rfl ?_
                      refine fw_icmp_ge (pc := 142) (tgt := 173) d_M_copy_142 rfl (fun hc => ?_) (fun hc => ?_)
                      · have h := fw_it hc h
                        obtain rfl := Option.some.inj h
                        have he := hr _ rfl
                        subst he
                        exact fw_sub [3] rfl hE138
                      · have h := fw_if hc h
                        refine fw_aload_n (pc := 145) d_M_copy_145 0 rfl rfl ?_
                        refine fw_getR (pc := 146) d_M_copy_146 fl_M_86 fw_Mo0 rfl ?_
                        refine fw_bipush (pc := 149) d_M_copy_149 fw_bp24 ?_
                        refine fw_iload_n (pc := 151) d_M_copy_151 1 rfl rfl ?_
                        refine fw_imul (pc := 152) d_M_copy_152 ?_
                        refine fw_iload (pc := 153) d_M_copy_153 2 rfl ?_
                        refine fw_iadd (pc := 155) d_M_copy_155 ?_
                        refine fw_iload (pc := 156) d_M_copy_156 4 rfl ?_
                        refine fw_iadd (pc := 158) d_M_copy_158 ?_
                        refine fw_aload_n (pc := 159) d_M_copy_159 0 rfl rfl ?_
                        refine fw_getR (pc := 160) d_M_copy_160 fl_M_89 fw_Mo0 rfl ?_
                        refine fw_iload (pc := 163) d_M_copy_163 4 rfl ?_
                        obtain ⟨v165, e165, h⟩ := fw_be h
                        refine fw_iald (pc := 165) d_M_copy_165 fw_Mo27 e165 ?_
                        obtain ⟨μ166, e166, h⟩ := fw_be h
                        refine fw_iast (pc := 166) d_M_copy_166 fw_Mo26 e166 ?_
                        obtain ⟨v167, e167, h⟩ := fw_ne h
                        refine fw_iinc2 (pc := 167) (j := 4) (lv1 := [(6, .int v167), (0, .ref 0), (3, .int a3), (4, .int a4), (5, .int a5)]) d_M_copy_167 rfl fw_ic1 e167 (by decide) rfl ?_
                        refine fw_goto (pc := 170) (tgt := 138) d_M_copy_170 rfl ?_
                        obtain rfl := Option.some.inj h
                        exact fw_sub [1, 2, 3, 4, 0] rfl (hl _ rfl)
                      ) _ _ w138)
                  clear h
                  exact fw_sub [1, 2, 3, 4, 5, 6, 0] rfl (fw_we (e := e101x) (fun (s : Int32 × fw_M) => fw_R "FewTypesModel" prog_11_method_66_code 7 (some .int) fw_Mo 3 (some r.1) r.2 101 [(0, .ref 0), (1, .int a1), (2, .int a2), (3, .int a3), (4, .int a4), (5, .int a5), (6, .int s.1)] [] s.2) (by
                    intro s x h hl hr
                    obtain ⟨x6_101, μ101⟩ := s
                    rw [f_M_copy_L101] at h
                    show fw_R "FewTypesModel" prog_11_method_66_code 7 (some .int) fw_Mo 3 (some r.1) r.2 101 [(0, .ref 0), (1, .int a1), (2, .int a2), (3, .int a3), (4, .int a4), (5, .int a5), (6, .int x6_101)] [] μ101
                    refine fw_iload (pc := 101) d_M_copy_101 6 rfl ?_
                    refine fw_iload (pc := 103) d_M_copy_103 5 rfl ?_
                    refine fw_icmp_ge (pc := 105) (tgt := 135) d_M_copy_105 rfl (fun hc => ?_) (fun hc => ?_)
                    · have h := fw_it hc h
                      obtain rfl := Option.some.inj h
                      have he := hr _ rfl
                      subst he
                      exact fw_sub [0, 3, 4, 5] rfl hE101
                    · have h := fw_if hc h
                      refine fw_aload_n (pc := 108) d_M_copy_108 0 rfl rfl ?_
                      refine fw_getR (pc := 109) d_M_copy_109 fl_M_89 fw_Mo0 rfl ?_
                      refine fw_iload (pc := 112) d_M_copy_112 6 rfl ?_
                      refine fw_aload_n (pc := 114) d_M_copy_114 0 rfl rfl ?_
                      refine fw_getR (pc := 115) d_M_copy_115 fl_M_86 fw_Mo0 rfl ?_
                      refine fw_bipush (pc := 118) d_M_copy_118 fw_bp24 ?_
                      refine fw_iload_n (pc := 120) d_M_copy_120 1 rfl rfl ?_
                      refine fw_imul (pc := 121) d_M_copy_121 ?_
                      refine fw_iload_n (pc := 122) d_M_copy_122 2 rfl rfl ?_
                      refine fw_iadd (pc := 123) d_M_copy_123 ?_
                      refine fw_iload (pc := 124) d_M_copy_124 6 rfl ?_
                      refine fw_iadd (pc := 126) d_M_copy_126 ?_
                      obtain ⟨v127, e127, h⟩ := fw_be h
                      refine fw_iald (pc := 127) d_M_copy_127 fw_Mo26 e127 ?_
                      obtain ⟨μ128, e128, h⟩ := fw_be h
                      refine fw_iast (pc := 128) d_M_copy_128 fw_Mo27 e128 ?_
                      obtain ⟨v129, e129, h⟩ := fw_ne h
                      refine fw_iinc2 (pc := 129) (j := 6) (lv1 := [(6, .int v129), (0, .ref 0), (1, .int a1), (2, .int a2), (3, .int a3), (4, .int a4), (5, .int a5)]) d_M_copy_129 rfl fw_ic1 e129 (by decide) rfl ?_
                      refine fw_goto (pc := 132) (tgt := 101) d_M_copy_132 rfl ?_
                      obtain rfl := Option.some.inj h
                      exact fw_sub [1, 2, 3, 4, 5, 6, 0] rfl (hl _ rfl)
                    ) _ _ w101)
                · have h := fw_if hc h
                  refine fw_bipush (pc := 95) d_M_copy_95 fw_bpm13 ?_
                  obtain rfl := Option.some.inj h
                  exact fw_iret (pc := 97) d_M_copy_97 rfl
          · have h := fw_if hc h
            refine fw_bipush (pc := 52) d_M_copy_52 fw_bpm12 ?_
            obtain rfl := Option.some.inj h
            exact fw_iret (pc := 54) d_M_copy_54 rfl
        · have h := fw_if hc h
          refine fw_bipush (pc := 34) d_M_copy_34 fw_bpm11 ?_
          obtain rfl := Option.some.inj h
          exact fw_iret (pc := 36) d_M_copy_36 rfl
