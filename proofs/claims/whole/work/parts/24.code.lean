abbrev Y_M_make : fw_Y := (⟨"FewTypesModel", "make", "(I)I"⟩, prog_11_method_43_code, 6, (some .int))
abbrev Y_M_text : fw_Y := (⟨"FewTypesModel", "text", "(I)I"⟩, prog_11_method_44_code, 3, (some .int))
abbrev Y_M_needsOf : fw_Y := (⟨"FewTypesModel", "needsOf", "(I)I"⟩, prog_11_method_45_code, 4, (some .int))
abbrev Y_M_needs : fw_Y := (⟨"FewTypesModel", "needs", "(I)I"⟩, prog_11_method_46_code, 3, (some .int))
abbrev Y_M_lost : fw_Y := (⟨"FewTypesModel", "lost", "(I)I"⟩, prog_11_method_47_code, 8, (some .int))
theorem cl_M_223 : Cond.constantLong "FewTypesModel" 223 99 ∈ fw_tb := fw_m 1137 (by decide +kernel) (by decide +kernel)
theorem fl_M_71 : fw_FL "FewTypesModel" 71 9 29 := ⟨_, _, _, rfl, fw_i9, by decide, fw_m 882 (by decide +kernel) (by decide +kernel)⟩
theorem fl_M_28 : fw_FL "FewTypesModel" 28 9 10 := ⟨_, _, _, rfl, fw_i9, by decide, fw_m 863 (by decide +kernel) (by decide +kernel)⟩
theorem fp_M_174 : fw_FP "FewTypesModel" 174 9 9 .int := ⟨_, _, _, fw_t9, rfl, fw_i9, by decide, fw_m 862 (by decide +kernel) (by decide +kernel), fw_k9, fw_n9, rfl, by decide +kernel⟩
theorem mv_M_225 : fw_MV "FewTypesModel" 225 Y_M_needsOf 9 1 := ⟨fw_m 1146 (by decide +kernel) (by decide +kernel), fw_m 1148 (by decide +kernel) (by decide +kernel), fw_m 53 (by decide +kernel) (by decide +kernel), fw_m 70 (by decide +kernel) (by decide +kernel), fw_m 1149 (by decide +kernel) (by decide +kernel), ⟨by decide +kernel, by decide +kernel, by decide +kernel⟩, by decide, _, _, rfl⟩
theorem fl_M_74 : fw_FL "FewTypesModel" 74 9 30 := ⟨_, _, _, rfl, fw_i9, by decide, fw_m 883 (by decide +kernel) (by decide +kernel)⟩
theorem d_M_make_0 : decode prog_11_method_43_code 0 = .ok (.iload_n 1, 1) := by decide +kernel
theorem d_M_make_1 : decode prog_11_method_43_code 1 = .ok (.i2l, 1) := by decide +kernel
theorem d_M_make_2 : decode prog_11_method_43_code 2 = .ok (.lconst 1, 1) := by decide +kernel
theorem d_M_make_3 : decode prog_11_method_43_code 3 = .ok (.ldc2_w 223, 3) := by decide +kernel
theorem d_M_make_6 : decode prog_11_method_43_code 6 = .ok (.invokestatic 94, 3) := by decide +kernel
theorem d_M_make_9 : decode prog_11_method_43_code 9 = .ok (.ifCond .ne 5, 3) := by decide +kernel
theorem d_M_make_12 : decode prog_11_method_43_code 12 = .ok (.iconst (-1), 1) := by decide +kernel
theorem d_M_make_13 : decode prog_11_method_43_code 13 = .ok (.ireturn, 1) := by decide +kernel
theorem d_M_make_14 : decode prog_11_method_43_code 14 = .ok (.aload_n 0, 1) := by decide +kernel
theorem d_M_make_15 : decode prog_11_method_43_code 15 = .ok (.getfield 158, 3) := by decide +kernel
theorem d_M_make_18 : decode prog_11_method_43_code 18 = .ok (.ifCond .ne 6, 3) := by decide +kernel
theorem d_M_make_21 : decode prog_11_method_43_code 21 = .ok (.bipush (-2), 2) := by decide +kernel
theorem d_M_make_23 : decode prog_11_method_43_code 23 = .ok (.ireturn, 1) := by decide +kernel
theorem d_M_make_24 : decode prog_11_method_43_code 24 = .ok (.aload_n 0, 1) := by decide +kernel
theorem d_M_make_25 : decode prog_11_method_43_code 25 = .ok (.invokevirtual 212, 3) := by decide +kernel
theorem d_M_make_28 : decode prog_11_method_43_code 28 = .ok (.istore_n 2, 1) := by decide +kernel
theorem d_M_make_29 : decode prog_11_method_43_code 29 = .ok (.iload_n 2, 1) := by decide +kernel
theorem d_M_make_30 : decode prog_11_method_43_code 30 = .ok (.bipush 98, 2) := by decide +kernel
theorem d_M_make_32 : decode prog_11_method_43_code 32 = .ok (.if_icmp .le 6, 3) := by decide +kernel
theorem d_M_make_35 : decode prog_11_method_43_code 35 = .ok (.bipush (-4), 2) := by decide +kernel
theorem d_M_make_37 : decode prog_11_method_43_code 37 = .ok (.ireturn, 1) := by decide +kernel
theorem d_M_make_38 : decode prog_11_method_43_code 38 = .ok (.iconst 0, 1) := by decide +kernel
theorem d_M_make_39 : decode prog_11_method_43_code 39 = .ok (.istore_n 3, 1) := by decide +kernel
theorem d_M_make_40 : decode prog_11_method_43_code 40 = .ok (.iload_n 3, 1) := by decide +kernel
theorem d_M_make_41 : decode prog_11_method_43_code 41 = .ok (.aload_n 0, 1) := by decide +kernel
theorem d_M_make_42 : decode prog_11_method_43_code 42 = .ok (.getfield 108, 3) := by decide +kernel
theorem d_M_make_45 : decode prog_11_method_43_code 45 = .ok (.if_icmp .ge 16, 3) := by decide +kernel
theorem d_M_make_48 : decode prog_11_method_43_code 48 = .ok (.aload_n 0, 1) := by decide +kernel
theorem d_M_make_49 : decode prog_11_method_43_code 49 = .ok (.getfield 71, 3) := by decide +kernel
theorem d_M_make_52 : decode prog_11_method_43_code 52 = .ok (.iload_n 3, 1) := by decide +kernel
theorem d_M_make_53 : decode prog_11_method_43_code 53 = .ok (.iconst 0, 1) := by decide +kernel
theorem d_M_make_54 : decode prog_11_method_43_code 54 = .ok (.iastore, 1) := by decide +kernel
theorem d_M_make_55 : decode prog_11_method_43_code 55 = .ok (.iinc 3 1, 3) := by decide +kernel
theorem d_M_make_58 : decode prog_11_method_43_code 58 = .ok (.goto (-18), 3) := by decide +kernel
theorem d_M_make_61 : decode prog_11_method_43_code 61 = .ok (.iconst 0, 1) := by decide +kernel
theorem d_M_make_62 : decode prog_11_method_43_code 62 = .ok (.istore_n 3, 1) := by decide +kernel
theorem d_M_make_63 : decode prog_11_method_43_code 63 = .ok (.iload_n 3, 1) := by decide +kernel
theorem d_M_make_64 : decode prog_11_method_43_code 64 = .ok (.iload_n 2, 1) := by decide +kernel
theorem d_M_make_65 : decode prog_11_method_43_code 65 = .ok (.if_icmp .ge 124, 3) := by decide +kernel
theorem d_M_make_68 : decode prog_11_method_43_code 68 = .ok (.aload_n 0, 1) := by decide +kernel
theorem d_M_make_69 : decode prog_11_method_43_code 69 = .ok (.aload_n 0, 1) := by decide +kernel
theorem d_M_make_70 : decode prog_11_method_43_code 70 = .ok (.getfield 59, 3) := by decide +kernel
theorem d_M_make_73 : decode prog_11_method_43_code 73 = .ok (.iload_n 3, 1) := by decide +kernel
theorem d_M_make_74 : decode prog_11_method_43_code 74 = .ok (.iaload, 1) := by decide +kernel
theorem d_M_make_75 : decode prog_11_method_43_code 75 = .ok (.invokevirtual 206, 3) := by decide +kernel
theorem d_M_make_78 : decode prog_11_method_43_code 78 = .ok (.pop, 1) := by decide +kernel
theorem d_M_make_79 : decode prog_11_method_43_code 79 = .ok (.iconst 0, 1) := by decide +kernel
theorem d_M_make_80 : decode prog_11_method_43_code 80 = .ok (.istore 4, 2) := by decide +kernel
theorem d_M_make_82 : decode prog_11_method_43_code 82 = .ok (.iconst 0, 1) := by decide +kernel
theorem d_M_make_83 : decode prog_11_method_43_code 83 = .ok (.istore 5, 2) := by decide +kernel
theorem d_M_make_85 : decode prog_11_method_43_code 85 = .ok (.iload 5, 2) := by decide +kernel
theorem d_M_make_87 : decode prog_11_method_43_code 87 = .ok (.aload_n 0, 1) := by decide +kernel
theorem d_M_make_88 : decode prog_11_method_43_code 88 = .ok (.getfield 158, 3) := by decide +kernel
theorem d_M_make_91 : decode prog_11_method_43_code 91 = .ok (.if_icmp .ge 37, 3) := by decide +kernel
theorem d_M_make_94 : decode prog_11_method_43_code 94 = .ok (.iload 4, 2) := by decide +kernel
theorem d_M_make_96 : decode prog_11_method_43_code 96 = .ok (.aload_n 0, 1) := by decide +kernel
theorem d_M_make_97 : decode prog_11_method_43_code 97 = .ok (.getfield 50, 3) := by decide +kernel
theorem d_M_make_100 : decode prog_11_method_43_code 100 = .ok (.iload 5, 2) := by decide +kernel
theorem d_M_make_102 : decode prog_11_method_43_code 102 = .ok (.iaload, 1) := by decide +kernel
theorem d_M_make_103 : decode prog_11_method_43_code 103 = .ok (.ifCond .ge 7, 3) := by decide +kernel
theorem d_M_make_106 : decode prog_11_method_43_code 106 = .ok (.iconst 0, 1) := by decide +kernel
theorem d_M_make_107 : decode prog_11_method_43_code 107 = .ok (.goto 12, 3) := by decide +kernel
theorem d_M_make_110 : decode prog_11_method_43_code 110 = .ok (.iconst 1, 1) := by decide +kernel
theorem d_M_make_111 : decode prog_11_method_43_code 111 = .ok (.aload_n 0, 1) := by decide +kernel
theorem d_M_make_112 : decode prog_11_method_43_code 112 = .ok (.getfield 50, 3) := by decide +kernel
theorem d_M_make_115 : decode prog_11_method_43_code 115 = .ok (.iload 5, 2) := by decide +kernel
theorem d_M_make_117 : decode prog_11_method_43_code 117 = .ok (.iaload, 1) := by decide +kernel
theorem d_M_make_118 : decode prog_11_method_43_code 118 = .ok (.ishl, 1) := by decide +kernel
theorem d_M_make_119 : decode prog_11_method_43_code 119 = .ok (.ior, 1) := by decide +kernel
theorem d_M_make_120 : decode prog_11_method_43_code 120 = .ok (.istore 4, 2) := by decide +kernel
theorem d_M_make_122 : decode prog_11_method_43_code 122 = .ok (.iinc 5 1, 3) := by decide +kernel
theorem d_M_make_125 : decode prog_11_method_43_code 125 = .ok (.goto (-40), 3) := by decide +kernel
theorem d_M_make_128 : decode prog_11_method_43_code 128 = .ok (.iconst 0, 1) := by decide +kernel
theorem d_M_make_129 : decode prog_11_method_43_code 129 = .ok (.istore 5, 2) := by decide +kernel
theorem d_M_make_131 : decode prog_11_method_43_code 131 = .ok (.iload 5, 2) := by decide +kernel
theorem d_M_make_133 : decode prog_11_method_43_code 133 = .ok (.aload_n 0, 1) := by decide +kernel
theorem d_M_make_134 : decode prog_11_method_43_code 134 = .ok (.getfield 108, 3) := by decide +kernel
theorem d_M_make_137 : decode prog_11_method_43_code 137 = .ok (.if_icmp .ge 46, 3) := by decide +kernel
theorem d_M_make_140 : decode prog_11_method_43_code 140 = .ok (.aload_n 0, 1) := by decide +kernel
theorem d_M_make_141 : decode prog_11_method_43_code 141 = .ok (.getfield 71, 3) := by decide +kernel
theorem d_M_make_144 : decode prog_11_method_43_code 144 = .ok (.iload 5, 2) := by decide +kernel
theorem d_M_make_146 : decode prog_11_method_43_code 146 = .ok (.dup2, 1) := by decide +kernel
theorem d_M_make_147 : decode prog_11_method_43_code 147 = .ok (.iaload, 1) := by decide +kernel
theorem d_M_make_148 : decode prog_11_method_43_code 148 = .ok (.iload 4, 2) := by decide +kernel
theorem d_M_make_150 : decode prog_11_method_43_code 150 = .ok (.iload 5, 2) := by decide +kernel
theorem d_M_make_152 : decode prog_11_method_43_code 152 = .ok (.ishr, 1) := by decide +kernel
theorem d_M_make_153 : decode prog_11_method_43_code 153 = .ok (.iconst 1, 1) := by decide +kernel
theorem d_M_make_154 : decode prog_11_method_43_code 154 = .ok (.iand, 1) := by decide +kernel
theorem d_M_make_155 : decode prog_11_method_43_code 155 = .ok (.iconst 1, 1) := by decide +kernel
theorem d_M_make_156 : decode prog_11_method_43_code 156 = .ok (.if_icmp .ne 18, 3) := by decide +kernel
theorem d_M_make_159 : decode prog_11_method_43_code 159 = .ok (.aload_n 0, 1) := by decide +kernel
theorem d_M_make_160 : decode prog_11_method_43_code 160 = .ok (.getfield 7, 3) := by decide +kernel
theorem d_M_make_163 : decode prog_11_method_43_code 163 = .ok (.iload 5, 2) := by decide +kernel
theorem d_M_make_165 : decode prog_11_method_43_code 165 = .ok (.iaload, 1) := by decide +kernel
theorem d_M_make_166 : decode prog_11_method_43_code 166 = .ok (.iconst 3, 1) := by decide +kernel
theorem d_M_make_167 : decode prog_11_method_43_code 167 = .ok (.if_icmp .ne 7, 3) := by decide +kernel
theorem d_M_make_170 : decode prog_11_method_43_code 170 = .ok (.iload_n 1, 1) := by decide +kernel
theorem d_M_make_171 : decode prog_11_method_43_code 171 = .ok (.goto 4, 3) := by decide +kernel
theorem d_M_make_174 : decode prog_11_method_43_code 174 = .ok (.iconst 0, 1) := by decide +kernel
theorem d_M_make_175 : decode prog_11_method_43_code 175 = .ok (.iadd, 1) := by decide +kernel
theorem d_M_make_176 : decode prog_11_method_43_code 176 = .ok (.iastore, 1) := by decide +kernel
theorem d_M_make_177 : decode prog_11_method_43_code 177 = .ok (.iinc 5 1, 3) := by decide +kernel
theorem d_M_make_180 : decode prog_11_method_43_code 180 = .ok (.goto (-49), 3) := by decide +kernel
theorem d_M_make_183 : decode prog_11_method_43_code 183 = .ok (.iinc 3 1, 3) := by decide +kernel
theorem d_M_make_186 : decode prog_11_method_43_code 186 = .ok (.goto (-123), 3) := by decide +kernel
theorem d_M_make_189 : decode prog_11_method_43_code 189 = .ok (.aload_n 0, 1) := by decide +kernel
theorem d_M_make_190 : decode prog_11_method_43_code 190 = .ok (.getfield 108, 3) := by decide +kernel
theorem d_M_make_193 : decode prog_11_method_43_code 193 = .ok (.iconst 1, 1) := by decide +kernel
theorem d_M_make_194 : decode prog_11_method_43_code 194 = .ok (.isub, 1) := by decide +kernel
theorem d_M_make_195 : decode prog_11_method_43_code 195 = .ok (.istore_n 3, 1) := by decide +kernel
theorem d_M_make_196 : decode prog_11_method_43_code 196 = .ok (.iload_n 3, 1) := by decide +kernel
theorem d_M_make_197 : decode prog_11_method_43_code 197 = .ok (.ifCond .lt 49, 3) := by decide +kernel
theorem d_M_make_200 : decode prog_11_method_43_code 200 = .ok (.aload_n 0, 1) := by decide +kernel
theorem d_M_make_201 : decode prog_11_method_43_code 201 = .ok (.getfield 16, 3) := by decide +kernel
theorem d_M_make_204 : decode prog_11_method_43_code 204 = .ok (.iload_n 3, 1) := by decide +kernel
theorem d_M_make_205 : decode prog_11_method_43_code 205 = .ok (.dup2, 1) := by decide +kernel
theorem d_M_make_206 : decode prog_11_method_43_code 206 = .ok (.iaload, 1) := by decide +kernel
theorem d_M_make_207 : decode prog_11_method_43_code 207 = .ok (.aload_n 0, 1) := by decide +kernel
theorem d_M_make_208 : decode prog_11_method_43_code 208 = .ok (.getfield 71, 3) := by decide +kernel
theorem d_M_make_211 : decode prog_11_method_43_code 211 = .ok (.iload_n 3, 1) := by decide +kernel
theorem d_M_make_212 : decode prog_11_method_43_code 212 = .ok (.iaload, 1) := by decide +kernel
theorem d_M_make_213 : decode prog_11_method_43_code 213 = .ok (.isub, 1) := by decide +kernel
theorem d_M_make_214 : decode prog_11_method_43_code 214 = .ok (.iastore, 1) := by decide +kernel
theorem d_M_make_215 : decode prog_11_method_43_code 215 = .ok (.aload_n 0, 1) := by decide +kernel
theorem d_M_make_216 : decode prog_11_method_43_code 216 = .ok (.getfield 7, 3) := by decide +kernel
theorem d_M_make_219 : decode prog_11_method_43_code 219 = .ok (.iload_n 3, 1) := by decide +kernel
theorem d_M_make_220 : decode prog_11_method_43_code 220 = .ok (.iaload, 1) := by decide +kernel
theorem d_M_make_221 : decode prog_11_method_43_code 221 = .ok (.iconst 3, 1) := by decide +kernel
theorem d_M_make_222 : decode prog_11_method_43_code 222 = .ok (.if_icmp .ne 18, 3) := by decide +kernel
theorem d_M_make_225 : decode prog_11_method_43_code 225 = .ok (.aload_n 0, 1) := by decide +kernel
theorem d_M_make_226 : decode prog_11_method_43_code 226 = .ok (.getfield 16, 3) := by decide +kernel
theorem d_M_make_229 : decode prog_11_method_43_code 229 = .ok (.iload_n 3, 1) := by decide +kernel
theorem d_M_make_230 : decode prog_11_method_43_code 230 = .ok (.iaload, 1) := by decide +kernel
theorem d_M_make_231 : decode prog_11_method_43_code 231 = .ok (.iconst 1, 1) := by decide +kernel
theorem d_M_make_232 : decode prog_11_method_43_code 232 = .ok (.if_icmp .ge 8, 3) := by decide +kernel
theorem d_M_make_235 : decode prog_11_method_43_code 235 = .ok (.aload_n 0, 1) := by decide +kernel
theorem d_M_make_236 : decode prog_11_method_43_code 236 = .ok (.iload_n 3, 1) := by decide +kernel
theorem d_M_make_237 : decode prog_11_method_43_code 237 = .ok (.invokevirtual 121, 3) := by decide +kernel
theorem d_M_make_240 : decode prog_11_method_43_code 240 = .ok (.iinc 3 (-1), 3) := by decide +kernel
theorem d_M_make_243 : decode prog_11_method_43_code 243 = .ok (.goto (-47), 3) := by decide +kernel
theorem d_M_make_246 : decode prog_11_method_43_code 246 = .ok (.iload_n 2, 1) := by decide +kernel
theorem d_M_make_247 : decode prog_11_method_43_code 247 = .ok (.iload_n 1, 1) := by decide +kernel
theorem d_M_make_248 : decode prog_11_method_43_code 248 = .ok (.aload_n 0, 1) := by decide +kernel
theorem d_M_make_249 : decode prog_11_method_43_code 249 = .ok (.getfield 22, 3) := by decide +kernel
theorem d_M_make_252 : decode prog_11_method_43_code 252 = .ok (.iconst 2, 1) := by decide +kernel
theorem d_M_make_253 : decode prog_11_method_43_code 253 = .ok (.iaload, 1) := by decide +kernel
theorem d_M_make_254 : decode prog_11_method_43_code 254 = .ok (.iadd, 1) := by decide +kernel
theorem d_M_make_255 : decode prog_11_method_43_code 255 = .ok (.iconst 1, 1) := by decide +kernel
theorem d_M_make_256 : decode prog_11_method_43_code 256 = .ok (.isub, 1) := by decide +kernel
theorem d_M_make_257 : decode prog_11_method_43_code 257 = .ok (.aload_n 0, 1) := by decide +kernel
theorem d_M_make_258 : decode prog_11_method_43_code 258 = .ok (.getfield 22, 3) := by decide +kernel
theorem d_M_make_261 : decode prog_11_method_43_code 261 = .ok (.iconst 2, 1) := by decide +kernel
theorem d_M_make_262 : decode prog_11_method_43_code 262 = .ok (.iaload, 1) := by decide +kernel
theorem d_M_make_263 : decode prog_11_method_43_code 263 = .ok (.idiv, 1) := by decide +kernel
theorem d_M_make_264 : decode prog_11_method_43_code 264 = .ok (.imul, 1) := by decide +kernel
theorem d_M_make_265 : decode prog_11_method_43_code 265 = .ok (.ireturn, 1) := by decide +kernel
theorem d_M_text_0 : decode prog_11_method_44_code 0 = .ok (.iload_n 1, 1) := by decide +kernel
theorem d_M_text_1 : decode prog_11_method_44_code 1 = .ok (.i2l, 1) := by decide +kernel
theorem d_M_text_2 : decode prog_11_method_44_code 2 = .ok (.lconst 0, 1) := by decide +kernel
theorem d_M_text_3 : decode prog_11_method_44_code 3 = .ok (.ldc2_w 127, 3) := by decide +kernel
theorem d_M_text_6 : decode prog_11_method_44_code 6 = .ok (.invokestatic 94, 3) := by decide +kernel
theorem d_M_text_9 : decode prog_11_method_44_code 9 = .ok (.ifCond .ne 5, 3) := by decide +kernel
theorem d_M_text_12 : decode prog_11_method_44_code 12 = .ok (.iconst (-1), 1) := by decide +kernel
theorem d_M_text_13 : decode prog_11_method_44_code 13 = .ok (.ireturn, 1) := by decide +kernel
theorem d_M_text_14 : decode prog_11_method_44_code 14 = .ok (.aload_n 0, 1) := by decide +kernel
theorem d_M_text_15 : decode prog_11_method_44_code 15 = .ok (.getfield 158, 3) := by decide +kernel
theorem d_M_text_18 : decode prog_11_method_44_code 18 = .ok (.ifCond .ne 6, 3) := by decide +kernel
theorem d_M_text_21 : decode prog_11_method_44_code 21 = .ok (.bipush (-2), 2) := by decide +kernel
theorem d_M_text_23 : decode prog_11_method_44_code 23 = .ok (.ireturn, 1) := by decide +kernel
theorem d_M_text_24 : decode prog_11_method_44_code 24 = .ok (.aload_n 0, 1) := by decide +kernel
theorem d_M_text_25 : decode prog_11_method_44_code 25 = .ok (.getfield 174, 3) := by decide +kernel
theorem d_M_text_28 : decode prog_11_method_44_code 28 = .ok (.bipush 8, 2) := by decide +kernel
theorem d_M_text_30 : decode prog_11_method_44_code 30 = .ok (.if_icmp .ne 6, 3) := by decide +kernel
theorem d_M_text_33 : decode prog_11_method_44_code 33 = .ok (.bipush (-3), 2) := by decide +kernel
theorem d_M_text_35 : decode prog_11_method_44_code 35 = .ok (.ireturn, 1) := by decide +kernel
theorem d_M_text_36 : decode prog_11_method_44_code 36 = .ok (.aload_n 0, 1) := by decide +kernel
theorem d_M_text_37 : decode prog_11_method_44_code 37 = .ok (.getfield 28, 3) := by decide +kernel
theorem d_M_text_40 : decode prog_11_method_44_code 40 = .ok (.bipush 13, 2) := by decide +kernel
theorem d_M_text_42 : decode prog_11_method_44_code 42 = .ok (.aload_n 0, 1) := by decide +kernel
theorem d_M_text_43 : decode prog_11_method_44_code 43 = .ok (.getfield 174, 3) := by decide +kernel
theorem d_M_text_46 : decode prog_11_method_44_code 46 = .ok (.imul, 1) := by decide +kernel
theorem d_M_text_47 : decode prog_11_method_44_code 47 = .ok (.aload_n 0, 1) := by decide +kernel
theorem d_M_text_48 : decode prog_11_method_44_code 48 = .ok (.getfield 158, 3) := by decide +kernel
theorem d_M_text_51 : decode prog_11_method_44_code 51 = .ok (.iastore, 1) := by decide +kernel
theorem d_M_text_52 : decode prog_11_method_44_code 52 = .ok (.aload_n 0, 1) := by decide +kernel
theorem d_M_text_53 : decode prog_11_method_44_code 53 = .ok (.getfield 28, 3) := by decide +kernel
theorem d_M_text_56 : decode prog_11_method_44_code 56 = .ok (.bipush 13, 2) := by decide +kernel
theorem d_M_text_58 : decode prog_11_method_44_code 58 = .ok (.aload_n 0, 1) := by decide +kernel
theorem d_M_text_59 : decode prog_11_method_44_code 59 = .ok (.getfield 174, 3) := by decide +kernel
theorem d_M_text_62 : decode prog_11_method_44_code 62 = .ok (.imul, 1) := by decide +kernel
theorem d_M_text_63 : decode prog_11_method_44_code 63 = .ok (.iconst 1, 1) := by decide +kernel
theorem d_M_text_64 : decode prog_11_method_44_code 64 = .ok (.iadd, 1) := by decide +kernel
theorem d_M_text_65 : decode prog_11_method_44_code 65 = .ok (.aload_n 0, 1) := by decide +kernel
theorem d_M_text_66 : decode prog_11_method_44_code 66 = .ok (.getfield 161, 3) := by decide +kernel
theorem d_M_text_69 : decode prog_11_method_44_code 69 = .ok (.iastore, 1) := by decide +kernel
theorem d_M_text_70 : decode prog_11_method_44_code 70 = .ok (.aload_n 0, 1) := by decide +kernel
theorem d_M_text_71 : decode prog_11_method_44_code 71 = .ok (.getfield 28, 3) := by decide +kernel
theorem d_M_text_74 : decode prog_11_method_44_code 74 = .ok (.bipush 13, 2) := by decide +kernel
theorem d_M_text_76 : decode prog_11_method_44_code 76 = .ok (.aload_n 0, 1) := by decide +kernel
theorem d_M_text_77 : decode prog_11_method_44_code 77 = .ok (.getfield 174, 3) := by decide +kernel
theorem d_M_text_80 : decode prog_11_method_44_code 80 = .ok (.imul, 1) := by decide +kernel
theorem d_M_text_81 : decode prog_11_method_44_code 81 = .ok (.iconst 2, 1) := by decide +kernel
theorem d_M_text_82 : decode prog_11_method_44_code 82 = .ok (.iadd, 1) := by decide +kernel
theorem d_M_text_83 : decode prog_11_method_44_code 83 = .ok (.iload_n 1, 1) := by decide +kernel
theorem d_M_text_84 : decode prog_11_method_44_code 84 = .ok (.iastore, 1) := by decide +kernel
theorem d_M_text_85 : decode prog_11_method_44_code 85 = .ok (.iconst 0, 1) := by decide +kernel
theorem d_M_text_86 : decode prog_11_method_44_code 86 = .ok (.istore_n 2, 1) := by decide +kernel
theorem d_M_text_87 : decode prog_11_method_44_code 87 = .ok (.iload_n 2, 1) := by decide +kernel
theorem d_M_text_88 : decode prog_11_method_44_code 88 = .ok (.aload_n 0, 1) := by decide +kernel
theorem d_M_text_89 : decode prog_11_method_44_code 89 = .ok (.getfield 158, 3) := by decide +kernel
theorem d_M_text_92 : decode prog_11_method_44_code 92 = .ok (.if_icmp .ge 31, 3) := by decide +kernel
theorem d_M_text_95 : decode prog_11_method_44_code 95 = .ok (.aload_n 0, 1) := by decide +kernel
theorem d_M_text_96 : decode prog_11_method_44_code 96 = .ok (.getfield 28, 3) := by decide +kernel
theorem d_M_text_99 : decode prog_11_method_44_code 99 = .ok (.bipush 13, 2) := by decide +kernel
theorem d_M_text_101 : decode prog_11_method_44_code 101 = .ok (.aload_n 0, 1) := by decide +kernel
theorem d_M_text_102 : decode prog_11_method_44_code 102 = .ok (.getfield 174, 3) := by decide +kernel
theorem d_M_text_105 : decode prog_11_method_44_code 105 = .ok (.imul, 1) := by decide +kernel
theorem d_M_text_106 : decode prog_11_method_44_code 106 = .ok (.iconst 3, 1) := by decide +kernel
theorem d_M_text_107 : decode prog_11_method_44_code 107 = .ok (.iadd, 1) := by decide +kernel
theorem d_M_text_108 : decode prog_11_method_44_code 108 = .ok (.iload_n 2, 1) := by decide +kernel
theorem d_M_text_109 : decode prog_11_method_44_code 109 = .ok (.iadd, 1) := by decide +kernel
theorem d_M_text_110 : decode prog_11_method_44_code 110 = .ok (.aload_n 0, 1) := by decide +kernel
theorem d_M_text_111 : decode prog_11_method_44_code 111 = .ok (.getfield 25, 3) := by decide +kernel
theorem d_M_text_114 : decode prog_11_method_44_code 114 = .ok (.iload_n 2, 1) := by decide +kernel
theorem d_M_text_115 : decode prog_11_method_44_code 115 = .ok (.iaload, 1) := by decide +kernel
theorem d_M_text_116 : decode prog_11_method_44_code 116 = .ok (.iastore, 1) := by decide +kernel
theorem d_M_text_117 : decode prog_11_method_44_code 117 = .ok (.iinc 2 1, 3) := by decide +kernel
theorem d_M_text_120 : decode prog_11_method_44_code 120 = .ok (.goto (-33), 3) := by decide +kernel
theorem d_M_text_123 : decode prog_11_method_44_code 123 = .ok (.aload_n 0, 1) := by decide +kernel
theorem d_M_text_124 : decode prog_11_method_44_code 124 = .ok (.dup, 1) := by decide +kernel
theorem d_M_text_125 : decode prog_11_method_44_code 125 = .ok (.getfield 174, 3) := by decide +kernel
theorem d_M_text_128 : decode prog_11_method_44_code 128 = .ok (.iconst 1, 1) := by decide +kernel
theorem d_M_text_129 : decode prog_11_method_44_code 129 = .ok (.iadd, 1) := by decide +kernel
theorem d_M_text_130 : decode prog_11_method_44_code 130 = .ok (.putfield 174, 3) := by decide +kernel
theorem d_M_text_133 : decode prog_11_method_44_code 133 = .ok (.aload_n 0, 1) := by decide +kernel
theorem d_M_text_134 : decode prog_11_method_44_code 134 = .ok (.getfield 174, 3) := by decide +kernel
theorem d_M_text_137 : decode prog_11_method_44_code 137 = .ok (.iconst 1, 1) := by decide +kernel
theorem d_M_text_138 : decode prog_11_method_44_code 138 = .ok (.isub, 1) := by decide +kernel
theorem d_M_text_139 : decode prog_11_method_44_code 139 = .ok (.ireturn, 1) := by decide +kernel
theorem d_M_needsOf_0 : decode prog_11_method_45_code 0 = .ok (.aload_n 0, 1) := by decide +kernel
theorem d_M_needsOf_1 : decode prog_11_method_45_code 1 = .ok (.getfield 74, 3) := by decide +kernel
theorem d_M_needsOf_4 : decode prog_11_method_45_code 4 = .ok (.bipush 10, 2) := by decide +kernel
theorem d_M_needsOf_6 : decode prog_11_method_45_code 6 = .ok (.aload_n 0, 1) := by decide +kernel
theorem d_M_needsOf_7 : decode prog_11_method_45_code 7 = .ok (.getfield 158, 3) := by decide +kernel
theorem d_M_needsOf_10 : decode prog_11_method_45_code 10 = .ok (.iastore, 1) := by decide +kernel
theorem d_M_needsOf_11 : decode prog_11_method_45_code 11 = .ok (.aload_n 0, 1) := by decide +kernel
theorem d_M_needsOf_12 : decode prog_11_method_45_code 12 = .ok (.getfield 74, 3) := by decide +kernel
theorem d_M_needsOf_15 : decode prog_11_method_45_code 15 = .ok (.bipush 11, 2) := by decide +kernel
theorem d_M_needsOf_17 : decode prog_11_method_45_code 17 = .ok (.aload_n 0, 1) := by decide +kernel
theorem d_M_needsOf_18 : decode prog_11_method_45_code 18 = .ok (.getfield 161, 3) := by decide +kernel
theorem d_M_needsOf_21 : decode prog_11_method_45_code 21 = .ok (.iastore, 1) := by decide +kernel
theorem d_M_needsOf_22 : decode prog_11_method_45_code 22 = .ok (.iconst 0, 1) := by decide +kernel
theorem d_M_needsOf_23 : decode prog_11_method_45_code 23 = .ok (.istore_n 2, 1) := by decide +kernel
theorem d_M_needsOf_24 : decode prog_11_method_45_code 24 = .ok (.iload_n 2, 1) := by decide +kernel
theorem d_M_needsOf_25 : decode prog_11_method_45_code 25 = .ok (.bipush 10, 2) := by decide +kernel
theorem d_M_needsOf_27 : decode prog_11_method_45_code 27 = .ok (.if_icmp .ge 21, 3) := by decide +kernel
theorem d_M_needsOf_30 : decode prog_11_method_45_code 30 = .ok (.aload_n 0, 1) := by decide +kernel
theorem d_M_needsOf_31 : decode prog_11_method_45_code 31 = .ok (.getfield 74, 3) := by decide +kernel
theorem d_M_needsOf_34 : decode prog_11_method_45_code 34 = .ok (.iload_n 2, 1) := by decide +kernel
theorem d_M_needsOf_35 : decode prog_11_method_45_code 35 = .ok (.aload_n 0, 1) := by decide +kernel
theorem d_M_needsOf_36 : decode prog_11_method_45_code 36 = .ok (.getfield 25, 3) := by decide +kernel
theorem d_M_needsOf_39 : decode prog_11_method_45_code 39 = .ok (.iload_n 2, 1) := by decide +kernel
theorem d_M_needsOf_40 : decode prog_11_method_45_code 40 = .ok (.iaload, 1) := by decide +kernel
theorem d_M_needsOf_41 : decode prog_11_method_45_code 41 = .ok (.iastore, 1) := by decide +kernel
theorem d_M_needsOf_42 : decode prog_11_method_45_code 42 = .ok (.iinc 2 1, 3) := by decide +kernel
theorem d_M_needsOf_45 : decode prog_11_method_45_code 45 = .ok (.goto (-21), 3) := by decide +kernel
theorem d_M_needsOf_48 : decode prog_11_method_45_code 48 = .ok (.aload_n 0, 1) := by decide +kernel
theorem d_M_needsOf_49 : decode prog_11_method_45_code 49 = .ok (.aload_n 0, 1) := by decide +kernel
theorem d_M_needsOf_50 : decode prog_11_method_45_code 50 = .ok (.getfield 28, 3) := by decide +kernel
theorem d_M_needsOf_53 : decode prog_11_method_45_code 53 = .ok (.bipush 13, 2) := by decide +kernel
theorem d_M_needsOf_55 : decode prog_11_method_45_code 55 = .ok (.iload_n 1, 1) := by decide +kernel
theorem d_M_needsOf_56 : decode prog_11_method_45_code 56 = .ok (.imul, 1) := by decide +kernel
theorem d_M_needsOf_57 : decode prog_11_method_45_code 57 = .ok (.iaload, 1) := by decide +kernel
theorem d_M_needsOf_58 : decode prog_11_method_45_code 58 = .ok (.putfield 158, 3) := by decide +kernel
theorem d_M_needsOf_61 : decode prog_11_method_45_code 61 = .ok (.aload_n 0, 1) := by decide +kernel
theorem d_M_needsOf_62 : decode prog_11_method_45_code 62 = .ok (.aload_n 0, 1) := by decide +kernel
theorem d_M_needsOf_63 : decode prog_11_method_45_code 63 = .ok (.getfield 28, 3) := by decide +kernel
theorem d_M_needsOf_66 : decode prog_11_method_45_code 66 = .ok (.bipush 13, 2) := by decide +kernel
theorem d_M_needsOf_68 : decode prog_11_method_45_code 68 = .ok (.iload_n 1, 1) := by decide +kernel
theorem d_M_needsOf_69 : decode prog_11_method_45_code 69 = .ok (.imul, 1) := by decide +kernel
theorem d_M_needsOf_70 : decode prog_11_method_45_code 70 = .ok (.iconst 1, 1) := by decide +kernel
theorem d_M_needsOf_71 : decode prog_11_method_45_code 71 = .ok (.iadd, 1) := by decide +kernel
theorem d_M_needsOf_72 : decode prog_11_method_45_code 72 = .ok (.iaload, 1) := by decide +kernel
theorem d_M_needsOf_73 : decode prog_11_method_45_code 73 = .ok (.putfield 161, 3) := by decide +kernel
theorem d_M_needsOf_76 : decode prog_11_method_45_code 76 = .ok (.iconst 0, 1) := by decide +kernel
theorem d_M_needsOf_77 : decode prog_11_method_45_code 77 = .ok (.istore_n 2, 1) := by decide +kernel
theorem d_M_needsOf_78 : decode prog_11_method_45_code 78 = .ok (.iload_n 2, 1) := by decide +kernel
theorem d_M_needsOf_79 : decode prog_11_method_45_code 79 = .ok (.aload_n 0, 1) := by decide +kernel
theorem d_M_needsOf_80 : decode prog_11_method_45_code 80 = .ok (.getfield 158, 3) := by decide +kernel
theorem d_M_needsOf_83 : decode prog_11_method_45_code 83 = .ok (.if_icmp .ge 28, 3) := by decide +kernel
theorem d_M_needsOf_86 : decode prog_11_method_45_code 86 = .ok (.aload_n 0, 1) := by decide +kernel
theorem d_M_needsOf_87 : decode prog_11_method_45_code 87 = .ok (.getfield 25, 3) := by decide +kernel
theorem d_M_needsOf_90 : decode prog_11_method_45_code 90 = .ok (.iload_n 2, 1) := by decide +kernel
theorem d_M_needsOf_91 : decode prog_11_method_45_code 91 = .ok (.aload_n 0, 1) := by decide +kernel
theorem d_M_needsOf_92 : decode prog_11_method_45_code 92 = .ok (.getfield 28, 3) := by decide +kernel
theorem d_M_needsOf_95 : decode prog_11_method_45_code 95 = .ok (.bipush 13, 2) := by decide +kernel
theorem d_M_needsOf_97 : decode prog_11_method_45_code 97 = .ok (.iload_n 1, 1) := by decide +kernel
theorem d_M_needsOf_98 : decode prog_11_method_45_code 98 = .ok (.imul, 1) := by decide +kernel
theorem d_M_needsOf_99 : decode prog_11_method_45_code 99 = .ok (.iconst 3, 1) := by decide +kernel
theorem d_M_needsOf_100 : decode prog_11_method_45_code 100 = .ok (.iadd, 1) := by decide +kernel
theorem d_M_needsOf_101 : decode prog_11_method_45_code 101 = .ok (.iload_n 2, 1) := by decide +kernel
theorem d_M_needsOf_102 : decode prog_11_method_45_code 102 = .ok (.iadd, 1) := by decide +kernel
theorem d_M_needsOf_103 : decode prog_11_method_45_code 103 = .ok (.iaload, 1) := by decide +kernel
theorem d_M_needsOf_104 : decode prog_11_method_45_code 104 = .ok (.iastore, 1) := by decide +kernel
theorem d_M_needsOf_105 : decode prog_11_method_45_code 105 = .ok (.iinc 2 1, 3) := by decide +kernel
theorem d_M_needsOf_108 : decode prog_11_method_45_code 108 = .ok (.goto (-30), 3) := by decide +kernel
theorem d_M_needsOf_111 : decode prog_11_method_45_code 111 = .ok (.aload_n 0, 1) := by decide +kernel
theorem d_M_needsOf_112 : decode prog_11_method_45_code 112 = .ok (.invokevirtual 209, 3) := by decide +kernel
theorem d_M_needsOf_115 : decode prog_11_method_45_code 115 = .ok (.istore_n 2, 1) := by decide +kernel
theorem d_M_needsOf_116 : decode prog_11_method_45_code 116 = .ok (.aload_n 0, 1) := by decide +kernel
theorem d_M_needsOf_117 : decode prog_11_method_45_code 117 = .ok (.aload_n 0, 1) := by decide +kernel
theorem d_M_needsOf_118 : decode prog_11_method_45_code 118 = .ok (.getfield 74, 3) := by decide +kernel
theorem d_M_needsOf_121 : decode prog_11_method_45_code 121 = .ok (.bipush 10, 2) := by decide +kernel
theorem d_M_needsOf_123 : decode prog_11_method_45_code 123 = .ok (.iaload, 1) := by decide +kernel
theorem d_M_needsOf_124 : decode prog_11_method_45_code 124 = .ok (.putfield 158, 3) := by decide +kernel
theorem d_M_needsOf_127 : decode prog_11_method_45_code 127 = .ok (.aload_n 0, 1) := by decide +kernel
theorem d_M_needsOf_128 : decode prog_11_method_45_code 128 = .ok (.aload_n 0, 1) := by decide +kernel
theorem d_M_needsOf_129 : decode prog_11_method_45_code 129 = .ok (.getfield 74, 3) := by decide +kernel
theorem d_M_needsOf_132 : decode prog_11_method_45_code 132 = .ok (.bipush 11, 2) := by decide +kernel
theorem d_M_needsOf_134 : decode prog_11_method_45_code 134 = .ok (.iaload, 1) := by decide +kernel
theorem d_M_needsOf_135 : decode prog_11_method_45_code 135 = .ok (.putfield 161, 3) := by decide +kernel
theorem d_M_needsOf_138 : decode prog_11_method_45_code 138 = .ok (.iconst 0, 1) := by decide +kernel
theorem d_M_needsOf_139 : decode prog_11_method_45_code 139 = .ok (.istore_n 3, 1) := by decide +kernel
theorem d_M_needsOf_140 : decode prog_11_method_45_code 140 = .ok (.iload_n 3, 1) := by decide +kernel
theorem d_M_needsOf_141 : decode prog_11_method_45_code 141 = .ok (.bipush 10, 2) := by decide +kernel
theorem d_M_needsOf_143 : decode prog_11_method_45_code 143 = .ok (.if_icmp .ge 21, 3) := by decide +kernel
theorem d_M_needsOf_146 : decode prog_11_method_45_code 146 = .ok (.aload_n 0, 1) := by decide +kernel
theorem d_M_needsOf_147 : decode prog_11_method_45_code 147 = .ok (.getfield 25, 3) := by decide +kernel
theorem d_M_needsOf_150 : decode prog_11_method_45_code 150 = .ok (.iload_n 3, 1) := by decide +kernel
theorem d_M_needsOf_151 : decode prog_11_method_45_code 151 = .ok (.aload_n 0, 1) := by decide +kernel
theorem d_M_needsOf_152 : decode prog_11_method_45_code 152 = .ok (.getfield 74, 3) := by decide +kernel
theorem d_M_needsOf_155 : decode prog_11_method_45_code 155 = .ok (.iload_n 3, 1) := by decide +kernel
theorem d_M_needsOf_156 : decode prog_11_method_45_code 156 = .ok (.iaload, 1) := by decide +kernel
theorem d_M_needsOf_157 : decode prog_11_method_45_code 157 = .ok (.iastore, 1) := by decide +kernel
theorem d_M_needsOf_158 : decode prog_11_method_45_code 158 = .ok (.iinc 3 1, 3) := by decide +kernel
theorem d_M_needsOf_161 : decode prog_11_method_45_code 161 = .ok (.goto (-21), 3) := by decide +kernel
theorem d_M_needsOf_164 : decode prog_11_method_45_code 164 = .ok (.iload_n 2, 1) := by decide +kernel
theorem d_M_needsOf_165 : decode prog_11_method_45_code 165 = .ok (.ireturn, 1) := by decide +kernel
theorem d_M_needs_0 : decode prog_11_method_46_code 0 = .ok (.iload_n 1, 1) := by decide +kernel
theorem d_M_needs_1 : decode prog_11_method_46_code 1 = .ok (.i2l, 1) := by decide +kernel
theorem d_M_needs_2 : decode prog_11_method_46_code 2 = .ok (.lconst 0, 1) := by decide +kernel
theorem d_M_needs_3 : decode prog_11_method_46_code 3 = .ok (.aload_n 0, 1) := by decide +kernel
theorem d_M_needs_4 : decode prog_11_method_46_code 4 = .ok (.getfield 174, 3) := by decide +kernel
theorem d_M_needs_7 : decode prog_11_method_46_code 7 = .ok (.iconst 1, 1) := by decide +kernel
theorem d_M_needs_8 : decode prog_11_method_46_code 8 = .ok (.isub, 1) := by decide +kernel
theorem d_M_needs_9 : decode prog_11_method_46_code 9 = .ok (.i2l, 1) := by decide +kernel
theorem d_M_needs_10 : decode prog_11_method_46_code 10 = .ok (.invokestatic 94, 3) := by decide +kernel
theorem d_M_needs_13 : decode prog_11_method_46_code 13 = .ok (.ifCond .ne 5, 3) := by decide +kernel
theorem d_M_needs_16 : decode prog_11_method_46_code 16 = .ok (.iconst (-1), 1) := by decide +kernel
theorem d_M_needs_17 : decode prog_11_method_46_code 17 = .ok (.ireturn, 1) := by decide +kernel
theorem d_M_needs_18 : decode prog_11_method_46_code 18 = .ok (.aload_n 0, 1) := by decide +kernel
theorem d_M_needs_19 : decode prog_11_method_46_code 19 = .ok (.iload_n 1, 1) := by decide +kernel
theorem d_M_needs_20 : decode prog_11_method_46_code 20 = .ok (.invokevirtual 225, 3) := by decide +kernel
theorem d_M_needs_23 : decode prog_11_method_46_code 23 = .ok (.istore_n 2, 1) := by decide +kernel
theorem d_M_needs_24 : decode prog_11_method_46_code 24 = .ok (.iload_n 2, 1) := by decide +kernel
theorem d_M_needs_25 : decode prog_11_method_46_code 25 = .ok (.bipush 98, 2) := by decide +kernel
theorem d_M_needs_27 : decode prog_11_method_46_code 27 = .ok (.if_icmp .le 8, 3) := by decide +kernel
theorem d_M_needs_30 : decode prog_11_method_46_code 30 = .ok (.bipush (-4), 2) := by decide +kernel
theorem d_M_needs_32 : decode prog_11_method_46_code 32 = .ok (.goto 4, 3) := by decide +kernel
theorem d_M_needs_35 : decode prog_11_method_46_code 35 = .ok (.iload_n 2, 1) := by decide +kernel
theorem d_M_needs_36 : decode prog_11_method_46_code 36 = .ok (.ireturn, 1) := by decide +kernel
theorem d_M_lost_0 : decode prog_11_method_47_code 0 = .ok (.aload_n 0, 1) := by decide +kernel
theorem d_M_lost_1 : decode prog_11_method_47_code 1 = .ok (.iload_n 1, 1) := by decide +kernel
theorem d_M_lost_2 : decode prog_11_method_47_code 2 = .ok (.invokevirtual 116, 3) := by decide +kernel
theorem d_M_lost_5 : decode prog_11_method_47_code 5 = .ok (.ifCond .ne 5, 3) := by decide +kernel
theorem d_M_lost_8 : decode prog_11_method_47_code 8 = .ok (.iconst (-1), 1) := by decide +kernel
theorem d_M_lost_9 : decode prog_11_method_47_code 9 = .ok (.ireturn, 1) := by decide +kernel
theorem d_M_lost_10 : decode prog_11_method_47_code 10 = .ok (.iconst 0, 1) := by decide +kernel
theorem d_M_lost_11 : decode prog_11_method_47_code 11 = .ok (.istore_n 2, 1) := by decide +kernel
theorem d_M_lost_12 : decode prog_11_method_47_code 12 = .ok (.iconst 0, 1) := by decide +kernel
theorem d_M_lost_13 : decode prog_11_method_47_code 13 = .ok (.istore_n 3, 1) := by decide +kernel
theorem d_M_lost_14 : decode prog_11_method_47_code 14 = .ok (.iload_n 3, 1) := by decide +kernel
theorem d_M_lost_15 : decode prog_11_method_47_code 15 = .ok (.aload_n 0, 1) := by decide +kernel
theorem d_M_lost_16 : decode prog_11_method_47_code 16 = .ok (.getfield 174, 3) := by decide +kernel
theorem d_M_lost_19 : decode prog_11_method_47_code 19 = .ok (.if_icmp .ge 29, 3) := by decide +kernel
theorem d_M_lost_22 : decode prog_11_method_47_code 22 = .ok (.iload_n 2, 1) := by decide +kernel
theorem d_M_lost_23 : decode prog_11_method_47_code 23 = .ok (.aload_n 0, 1) := by decide +kernel
theorem d_M_lost_24 : decode prog_11_method_47_code 24 = .ok (.iload_n 3, 1) := by decide +kernel
theorem d_M_lost_25 : decode prog_11_method_47_code 25 = .ok (.invokevirtual 225, 3) := by decide +kernel
theorem d_M_lost_28 : decode prog_11_method_47_code 28 = .ok (.bipush 99, 2) := by decide +kernel
theorem d_M_lost_30 : decode prog_11_method_47_code 30 = .ok (.if_icmp .ge 9, 3) := by decide +kernel
theorem d_M_lost_33 : decode prog_11_method_47_code 33 = .ok (.iconst 1, 1) := by decide +kernel
theorem d_M_lost_34 : decode prog_11_method_47_code 34 = .ok (.iload_n 3, 1) := by decide +kernel
theorem d_M_lost_35 : decode prog_11_method_47_code 35 = .ok (.ishl, 1) := by decide +kernel
theorem d_M_lost_36 : decode prog_11_method_47_code 36 = .ok (.goto 4, 3) := by decide +kernel
theorem d_M_lost_39 : decode prog_11_method_47_code 39 = .ok (.iconst 0, 1) := by decide +kernel
theorem d_M_lost_40 : decode prog_11_method_47_code 40 = .ok (.ior, 1) := by decide +kernel
theorem d_M_lost_41 : decode prog_11_method_47_code 41 = .ok (.istore_n 2, 1) := by decide +kernel
theorem d_M_lost_42 : decode prog_11_method_47_code 42 = .ok (.iinc 3 1, 3) := by decide +kernel
theorem d_M_lost_45 : decode prog_11_method_47_code 45 = .ok (.goto (-31), 3) := by decide +kernel
theorem d_M_lost_48 : decode prog_11_method_47_code 48 = .ok (.aload_n 0, 1) := by decide +kernel
theorem d_M_lost_49 : decode prog_11_method_47_code 49 = .ok (.getfield 7, 3) := by decide +kernel
theorem d_M_lost_52 : decode prog_11_method_47_code 52 = .ok (.iload_n 1, 1) := by decide +kernel
theorem d_M_lost_53 : decode prog_11_method_47_code 53 = .ok (.iaload, 1) := by decide +kernel
theorem d_M_lost_54 : decode prog_11_method_47_code 54 = .ok (.istore_n 3, 1) := by decide +kernel
theorem d_M_lost_55 : decode prog_11_method_47_code 55 = .ok (.aload_n 0, 1) := by decide +kernel
theorem d_M_lost_56 : decode prog_11_method_47_code 56 = .ok (.getfield 13, 3) := by decide +kernel
theorem d_M_lost_59 : decode prog_11_method_47_code 59 = .ok (.iload_n 1, 1) := by decide +kernel
theorem d_M_lost_60 : decode prog_11_method_47_code 60 = .ok (.iaload, 1) := by decide +kernel
theorem d_M_lost_61 : decode prog_11_method_47_code 61 = .ok (.istore 4, 2) := by decide +kernel
theorem d_M_lost_63 : decode prog_11_method_47_code 63 = .ok (.aload_n 0, 1) := by decide +kernel
theorem d_M_lost_64 : decode prog_11_method_47_code 64 = .ok (.getfield 16, 3) := by decide +kernel
theorem d_M_lost_67 : decode prog_11_method_47_code 67 = .ok (.iload_n 1, 1) := by decide +kernel
theorem d_M_lost_68 : decode prog_11_method_47_code 68 = .ok (.iaload, 1) := by decide +kernel
theorem d_M_lost_69 : decode prog_11_method_47_code 69 = .ok (.istore 5, 2) := by decide +kernel
theorem d_M_lost_71 : decode prog_11_method_47_code 71 = .ok (.aload_n 0, 1) := by decide +kernel
theorem d_M_lost_72 : decode prog_11_method_47_code 72 = .ok (.iload_n 1, 1) := by decide +kernel
theorem d_M_lost_73 : decode prog_11_method_47_code 73 = .ok (.iconst 0, 1) := by decide +kernel
theorem d_M_lost_74 : decode prog_11_method_47_code 74 = .ok (.iconst (-1), 1) := by decide +kernel
theorem d_M_lost_75 : decode prog_11_method_47_code 75 = .ok (.iconst 0, 1) := by decide +kernel
theorem d_M_lost_76 : decode prog_11_method_47_code 76 = .ok (.invokevirtual 112, 3) := by decide +kernel
theorem d_M_lost_79 : decode prog_11_method_47_code 79 = .ok (.iconst 0, 1) := by decide +kernel
theorem d_M_lost_80 : decode prog_11_method_47_code 80 = .ok (.istore 6, 2) := by decide +kernel
theorem d_M_lost_82 : decode prog_11_method_47_code 82 = .ok (.iconst 0, 1) := by decide +kernel
theorem d_M_lost_83 : decode prog_11_method_47_code 83 = .ok (.istore 7, 2) := by decide +kernel
theorem d_M_lost_85 : decode prog_11_method_47_code 85 = .ok (.iload 7, 2) := by decide +kernel
theorem d_M_lost_87 : decode prog_11_method_47_code 87 = .ok (.aload_n 0, 1) := by decide +kernel
theorem d_M_lost_88 : decode prog_11_method_47_code 88 = .ok (.getfield 174, 3) := by decide +kernel
theorem d_M_lost_91 : decode prog_11_method_47_code 91 = .ok (.if_icmp .ge 33, 3) := by decide +kernel
theorem d_M_lost_94 : decode prog_11_method_47_code 94 = .ok (.iload 6, 2) := by decide +kernel
theorem d_M_lost_96 : decode prog_11_method_47_code 96 = .ok (.aload_n 0, 1) := by decide +kernel
theorem d_M_lost_97 : decode prog_11_method_47_code 97 = .ok (.iload 7, 2) := by decide +kernel
theorem d_M_lost_99 : decode prog_11_method_47_code 99 = .ok (.invokevirtual 225, 3) := by decide +kernel
theorem d_M_lost_102 : decode prog_11_method_47_code 102 = .ok (.bipush 99, 2) := by decide +kernel
theorem d_M_lost_104 : decode prog_11_method_47_code 104 = .ok (.if_icmp .ge 10, 3) := by decide +kernel
theorem d_M_lost_107 : decode prog_11_method_47_code 107 = .ok (.iconst 1, 1) := by decide +kernel
theorem d_M_lost_108 : decode prog_11_method_47_code 108 = .ok (.iload 7, 2) := by decide +kernel
theorem d_M_lost_110 : decode prog_11_method_47_code 110 = .ok (.ishl, 1) := by decide +kernel
theorem d_M_lost_111 : decode prog_11_method_47_code 111 = .ok (.goto 4, 3) := by decide +kernel
theorem d_M_lost_114 : decode prog_11_method_47_code 114 = .ok (.iconst 0, 1) := by decide +kernel
theorem d_M_lost_115 : decode prog_11_method_47_code 115 = .ok (.ior, 1) := by decide +kernel
theorem d_M_lost_116 : decode prog_11_method_47_code 116 = .ok (.istore 6, 2) := by decide +kernel
theorem d_M_lost_118 : decode prog_11_method_47_code 118 = .ok (.iinc 7 1, 3) := by decide +kernel
theorem d_M_lost_121 : decode prog_11_method_47_code 121 = .ok (.goto (-36), 3) := by decide +kernel
theorem d_M_lost_124 : decode prog_11_method_47_code 124 = .ok (.aload_n 0, 1) := by decide +kernel
theorem d_M_lost_125 : decode prog_11_method_47_code 125 = .ok (.iload_n 1, 1) := by decide +kernel
theorem d_M_lost_126 : decode prog_11_method_47_code 126 = .ok (.iload_n 3, 1) := by decide +kernel
theorem d_M_lost_127 : decode prog_11_method_47_code 127 = .ok (.iload 4, 2) := by decide +kernel
theorem d_M_lost_129 : decode prog_11_method_47_code 129 = .ok (.iload 5, 2) := by decide +kernel
theorem d_M_lost_131 : decode prog_11_method_47_code 131 = .ok (.invokevirtual 112, 3) := by decide +kernel
theorem d_M_lost_134 : decode prog_11_method_47_code 134 = .ok (.iload_n 2, 1) := by decide +kernel
theorem d_M_lost_135 : decode prog_11_method_47_code 135 = .ok (.iload 6, 2) := by decide +kernel
theorem d_M_lost_137 : decode prog_11_method_47_code 137 = .ok (.iconst (-1), 1) := by decide +kernel
theorem d_M_lost_138 : decode prog_11_method_47_code 138 = .ok (.ixor, 1) := by decide +kernel
theorem d_M_lost_139 : decode prog_11_method_47_code 139 = .ok (.iand, 1) := by decide +kernel
theorem d_M_lost_140 : decode prog_11_method_47_code 140 = .ok (.ireturn, 1) := by decide +kernel
def f_M_make_L40  : Int32 × fw_M → Option ((Int32 × fw_M) ⊕ (fw_M))
  | (x3_40, μ40) =>
  if (μ40.1 0 0) ≤ x3_40 then
    some (.inr μ40)
  else
    (fw_si 10 μ40 21 x3_40 0).bind fun μ54 =>
    fw_nm (x3_40 + 1) fun (v55 : Int32) =>
    some (.inl (v55, μ54))
def f_M_make_L85 (p75 : Int32 × fw_M) : Int32 × Int32 → Option ((Int32 × Int32) ⊕ (Int32))
  | (x4_85, x5_85) =>
  if (p75.2.1 0 6) ≤ x5_85 then
    some (.inr x4_85)
  else
    (fw_rd 10 (p75.2.1 14) x5_85).bind fun v102 =>
    Option.bind (
      if 0 ≤ v102 then
        (fw_rd 10 (p75.2.1 14) x5_85).bind fun v117 =>
        some ((1 : Int32) <<< (v117 &&& 31))
      else
        some 0) fun (j103 : Int32) =>
    fw_nm ((x4_85 ||| j103)) fun (v120 : Int32) =>
    fw_nm (x5_85 + 1) fun (v122 : Int32) =>
    some (.inl (v120, v122))
def f_M_make_L131 (a1 : Int32) (e85x : Int32) : Int32 × fw_M → Option ((Int32 × fw_M) ⊕ (fw_M))
  | (x5_131, μ131) =>
  if (μ131.1 0 0) ≤ x5_131 then
    some (.inr μ131)
  else
    (fw_rd 10 (μ131.1 21) x5_131).bind fun v147 =>
    Option.bind (
      if ((e85x >>> (x5_131 &&& 31)) &&& 1) = 1 then
        (fw_rd 10 (μ131.1 1) x5_131).bind fun v165 =>
        if v165 = 3 then
          some a1
        else
          some 0
      else
        some 0) fun (j156 : Int32) =>
    (fw_si 10 μ131 21 x5_131 (v147 + j156)).bind fun μ176 =>
    fw_nm (x5_131 + 1) fun (v177 : Int32) =>
    some (.inl (v177, μ176))
def f_M_make_L63 (a1 : Int32) (p25 : Int32 × fw_M) : Int32 × fw_M → Option ((Int32 × fw_M) ⊕ (fw_M))
  | (x3_63, μ63) =>
  if p25.1 ≤ x3_63 then
    some (.inr μ63)
  else
    (fw_rd 10 (μ63.1 17) x3_63).bind fun v74 =>
    (f_M_least v74 μ63).bind fun (p75 : Int32 × fw_M) =>
    (fw_wh (f_M_make_L85 p75) fw_N (0, 0)).bind fun (e85x : Int32) =>
    (fw_wh (f_M_make_L131 a1 e85x) fw_N (0, p75.2)).bind fun (e131x : fw_M) =>
    fw_nm (x3_63 + 1) fun (v183 : Int32) =>
    some (.inl (v183, e131x))
def f_M_make_L196  : Int32 × fw_M → Option ((Int32 × fw_M) ⊕ (fw_M))
  | (x3_196, μ196) =>
  if x3_196 < 0 then
    some (.inr μ196)
  else
    (fw_rd 10 (μ196.1 3) x3_196).bind fun v206 =>
    (fw_rd 10 (μ196.1 21) x3_196).bind fun v212 =>
    (fw_si 10 μ196 3 x3_196 (v206 - v212)).bind fun μ214 =>
    (fw_rd 10 (μ214.1 1) x3_196).bind fun v220 =>
    Option.bind (
      if v220 = 3 then
        (fw_rd 10 (μ214.1 3) x3_196).bind fun v230 =>
        if 1 ≤ v230 then
          some μ214
        else
          (f_M_goes x3_196 μ214).bind fun (p237 : fw_M) =>
          some p237
      else
        some μ214) fun (j222 : fw_M) =>
    fw_nm (x3_196 + (-1)) fun (v240 : Int32) =>
    some (.inl (v240, j222))
def f_M_make (a1 : Int32) (μ : fw_M) : Option (Int32 × fw_M) :=
  (f_M_in (Int32.toInt64 a1) 1 99).bind fun (p6 : Int32) =>
  if p6 = 0 then
    some ((-1), μ)
  else
    if (μ.1 0 6) = 0 then
      some ((-2), μ)
    else
      (f_M_plans μ).bind fun (p25 : Int32 × fw_M) =>
      if p25.1 ≤ 98 then
        (fw_wh (f_M_make_L40) fw_N (0, p25.2)).bind fun (e40x : fw_M) =>
        (fw_wh (f_M_make_L63 a1 p25) fw_N (0, e40x)).bind fun (e63x : fw_M) =>
        fw_nm (((e63x.1 0 0) - 1)) fun (v195 : Int32) =>
        (fw_wh (f_M_make_L196) fw_N (v195, e63x)).bind fun (e196x : fw_M) =>
        (fw_rd 3 (e196x.1 5) 2).bind fun v253 =>
        (fw_rd 3 (e196x.1 5) 2).bind fun v262 =>
        (fw_dv ((a1 + v253) - 1) v262).bind fun v263 =>
        some ((p25.1 * v263), e196x)
      else
        some ((-4), p25.2)
set_option maxHeartbeats 4000000 in
set_option maxRecDepth 100000 in
theorem c_M_make {a1 : Int32} {μ : fw_M} {r : Int32 × fw_M} (h : f_M_make a1 μ = some r) : fw_Con Y_M_make fw_Mo 6 [.ref 0, .int a1] (some r.1) μ r.2 := by
  refine fw_con (by decide) (Nat.le_of_ble_eq_true rfl) ?_
  rw [f_M_make] at h
  show fw_R "FewTypesModel" prog_11_method_43_code 6 (some .int) fw_Mo 6 (some r.1) r.2 0 [(0, .ref 0), (1, .int a1)] [] μ
  refine fw_iload_n (pc := 0) d_M_make_0 1 rfl rfl ?_
  refine fw_i2l (pc := 1) d_M_make_1 ?_
  refine fw_lconst (pc := 2) d_M_make_2 (v := 1) (by decide) ?_
  refine fw_ldc2 (pc := 3) d_M_make_3 cl_M_223 ?_
  obtain ⟨p6, e6, h⟩ := fw_be h
  refine fw_callSi (pc := 6) d_M_make_6 ms_M_94 (c_M_in e6) (by decide) rfl rfl (Nat.le_of_ble_eq_true rfl) ?_
  refine fw_if_ne (pc := 9) (tgt := 14) d_M_make_9 rfl (fun hc => ?_) (fun hc => ?_)
  · have h := fw_it hc h
    refine fw_iconst (pc := 12) d_M_make_12 fw_icm1 ?_
    obtain rfl := Option.some.inj h
    exact fw_iret (pc := 13) d_M_make_13 rfl
  · have h := fw_if hc h
    refine fw_aload_n (pc := 14) d_M_make_14 0 rfl rfl ?_
    refine fw_getI (pc := 15) d_M_make_15 fl_M_158 fw_Mo0 rfl ?_
    refine fw_if_ne (pc := 18) (tgt := 24) d_M_make_18 rfl (fun hc => ?_) (fun hc => ?_)
    · have h := fw_it hc h
      refine fw_bipush (pc := 21) d_M_make_21 fw_bpm2 ?_
      obtain rfl := Option.some.inj h
      exact fw_iret (pc := 23) d_M_make_23 rfl
    · have h := fw_if hc h
      refine fw_aload_n (pc := 24) d_M_make_24 0 rfl rfl ?_
      obtain ⟨p25, e25, h⟩ := fw_be h
      refine fw_callVi (pc := 25) d_M_make_25 mv_M_212 fw_Mo0 (c_M_plans e25) (by decide) rfl rfl (Nat.le_of_ble_eq_true rfl) ?_
      refine fw_istore_n (pc := 28) (lv1 := [(2, .int p25.1), (0, .ref 0), (1, .int a1)]) d_M_make_28 rfl (by decide) rfl ?_
      refine fw_iload_n (pc := 29) d_M_make_29 0 rfl rfl ?_
      refine fw_bipush (pc := 30) d_M_make_30 fw_bp98 ?_
      refine fw_icmp_le (pc := 32) (tgt := 38) d_M_make_32 rfl (fun hc => ?_) (fun hc => ?_)
      · have h := fw_it hc h
        refine fw_iconst (pc := 38) d_M_make_38 fw_ic0 ?_
        refine fw_istore_n (pc := 39) (lv1 := [(3, .int 0), (2, .int p25.1), (0, .ref 0), (1, .int a1)]) d_M_make_39 rfl (by decide) rfl ?_
        obtain ⟨e40x, w40, h⟩ := fw_be h
        have hE40 : fw_R "FewTypesModel" prog_11_method_43_code 6 (some .int) fw_Mo 6 (some r.1) r.2 61 [(0, .ref 0), (1, .int a1), (2, .int p25.1)] [] e40x := by
          refine fw_iconst (pc := 61) d_M_make_61 fw_ic0 ?_
          refine fw_istore_n (pc := 62) (lv1 := [(3, .int 0), (0, .ref 0), (1, .int a1), (2, .int p25.1)]) d_M_make_62 rfl (by decide) rfl ?_
          obtain ⟨e63x, w63, h⟩ := fw_be h
          have hE63 : fw_R "FewTypesModel" prog_11_method_43_code 6 (some .int) fw_Mo 6 (some r.1) r.2 189 [(0, .ref 0), (1, .int a1), (2, .int p25.1)] [] e63x := by
            refine fw_aload_n (pc := 189) d_M_make_189 0 rfl rfl ?_
            refine fw_getI (pc := 190) d_M_make_190 fl_M_108 fw_Mo0 rfl ?_
            refine fw_iconst (pc := 193) d_M_make_193 fw_ic1 ?_
            refine fw_isub (pc := 194) d_M_make_194 ?_
            obtain ⟨v195, e195, h⟩ := fw_ne h
            refine fw_top e195 ?_
            refine fw_istore_n (pc := 195) (lv1 := [(3, .int v195), (0, .ref 0), (1, .int a1), (2, .int p25.1)]) d_M_make_195 rfl (by decide) rfl ?_
            obtain ⟨e196x, w196, h⟩ := fw_be h
            have hE196 : fw_R "FewTypesModel" prog_11_method_43_code 6 (some .int) fw_Mo 6 (some r.1) r.2 246 [(0, .ref 0), (1, .int a1), (2, .int p25.1)] [] e196x := by
              refine fw_iload_n (pc := 246) d_M_make_246 2 rfl rfl ?_
              refine fw_iload_n (pc := 247) d_M_make_247 1 rfl rfl ?_
              refine fw_aload_n (pc := 248) d_M_make_248 0 rfl rfl ?_
              refine fw_getR (pc := 249) d_M_make_249 fl_M_22 fw_Mo0 rfl ?_
              refine fw_iconst (pc := 252) d_M_make_252 fw_ic2 ?_
              obtain ⟨v253, e253, h⟩ := fw_be h
              refine fw_iald (pc := 253) d_M_make_253 fw_Mo5 e253 ?_
              refine fw_iadd (pc := 254) d_M_make_254 ?_
              refine fw_iconst (pc := 255) d_M_make_255 fw_ic1 ?_
              refine fw_isub (pc := 256) d_M_make_256 ?_
              refine fw_aload_n (pc := 257) d_M_make_257 0 rfl rfl ?_
              refine fw_getR (pc := 258) d_M_make_258 fl_M_22 fw_Mo0 rfl ?_
              refine fw_iconst (pc := 261) d_M_make_261 fw_ic2 ?_
              obtain ⟨v262, e262, h⟩ := fw_be h
              refine fw_iald (pc := 262) d_M_make_262 fw_Mo5 e262 ?_
              obtain ⟨v263, e263, h⟩ := fw_be h
              refine fw_idiv (pc := 263) d_M_make_263 e263 ?_
              refine fw_imul (pc := 264) d_M_make_264 ?_
              obtain rfl := Option.some.inj h
              exact fw_iret (pc := 265) d_M_make_265 rfl
            clear h
            exact fw_sub [1, 2, 3, 0] rfl (fw_we (e := e196x) (fun (s : Int32 × fw_M) => fw_R "FewTypesModel" prog_11_method_43_code 6 (some .int) fw_Mo 6 (some r.1) r.2 196 [(0, .ref 0), (1, .int a1), (2, .int p25.1), (3, .int s.1)] [] s.2) (by
              intro s x h hl hr
              obtain ⟨x3_196, μ196⟩ := s
              rw [f_M_make_L196] at h
              show fw_R "FewTypesModel" prog_11_method_43_code 6 (some .int) fw_Mo 6 (some r.1) r.2 196 [(0, .ref 0), (1, .int a1), (2, .int p25.1), (3, .int x3_196)] [] μ196
              refine fw_iload_n (pc := 196) d_M_make_196 3 rfl rfl ?_
              refine fw_if_lt (pc := 197) (tgt := 246) d_M_make_197 rfl (fun hc => ?_) (fun hc => ?_)
              · have h := fw_it hc h
                obtain rfl := Option.some.inj h
                have he := hr _ rfl
                subst he
                exact fw_sub [0, 1, 2] rfl hE196
              · have h := fw_if hc h
                refine fw_aload_n (pc := 200) d_M_make_200 0 rfl rfl ?_
                refine fw_getR (pc := 201) d_M_make_201 fl_M_16 fw_Mo0 rfl ?_
                refine fw_iload_n (pc := 204) d_M_make_204 3 rfl rfl ?_
                refine fw_dup2 (pc := 205) d_M_make_205 rfl rfl ?_
                obtain ⟨v206, e206, h⟩ := fw_be h
                refine fw_iald (pc := 206) d_M_make_206 fw_Mo3 e206 ?_
                refine fw_aload_n (pc := 207) d_M_make_207 0 rfl rfl ?_
                refine fw_getR (pc := 208) d_M_make_208 fl_M_71 fw_Mo0 rfl ?_
                refine fw_iload_n (pc := 211) d_M_make_211 3 rfl rfl ?_
                obtain ⟨v212, e212, h⟩ := fw_be h
                refine fw_iald (pc := 212) d_M_make_212 fw_Mo21 e212 ?_
                refine fw_isub (pc := 213) d_M_make_213 ?_
                obtain ⟨μ214, e214, h⟩ := fw_be h
                refine fw_iast (pc := 214) d_M_make_214 fw_Mo3 e214 ?_
                refine fw_aload_n (pc := 215) d_M_make_215 0 rfl rfl ?_
                refine fw_getR (pc := 216) d_M_make_216 fl_M_7 fw_Mo0 rfl ?_
                refine fw_iload_n (pc := 219) d_M_make_219 3 rfl rfl ?_
                obtain ⟨v220, e220, h⟩ := fw_be h
                refine fw_iald (pc := 220) d_M_make_220 fw_Mo1 e220 ?_
                refine fw_iconst (pc := 221) d_M_make_221 fw_ic3 ?_
                obtain ⟨j222, w222, h⟩ := fw_be h
                have hJ222 : fw_R "FewTypesModel" prog_11_method_43_code 6 (some .int) fw_Mo 6 (some r.1) r.2 240 [(0, .ref 0), (1, .int a1), (2, .int p25.1), (3, .int x3_196)] [] j222 := by
                  obtain ⟨v240, e240, h⟩ := fw_ne h
                  refine fw_iinc2 (pc := 240) (j := 3) (lv1 := [(3, .int v240), (0, .ref 0), (1, .int a1), (2, .int p25.1)]) d_M_make_240 rfl fw_icm1 e240 (by decide) rfl ?_
                  refine fw_goto (pc := 243) (tgt := 196) d_M_make_243 rfl ?_
                  obtain rfl := Option.some.inj h
                  exact fw_sub [1, 2, 3, 0] rfl (hl _ rfl)
                clear h
                have h := w222
                clear w222
                refine fw_icmp_ne (pc := 222) (tgt := 240) d_M_make_222 rfl (fun hc => ?_) (fun hc => ?_)
                · have h := fw_it hc h
                  refine fw_aload_n (pc := 225) d_M_make_225 0 rfl rfl ?_
                  refine fw_getR (pc := 226) d_M_make_226 fl_M_16 fw_Mo0 rfl ?_
                  refine fw_iload_n (pc := 229) d_M_make_229 3 rfl rfl ?_
                  obtain ⟨v230, e230, h⟩ := fw_be h
                  refine fw_iald (pc := 230) d_M_make_230 fw_Mo3 e230 ?_
                  refine fw_iconst (pc := 231) d_M_make_231 fw_ic1 ?_
                  refine fw_icmp_ge (pc := 232) (tgt := 240) d_M_make_232 rfl (fun hc => ?_) (fun hc => ?_)
                  · have h := fw_it hc h
                    obtain rfl := Option.some.inj h
                    exact fw_sub [0, 1, 2, 3] rfl hJ222
                  · have h := fw_if hc h
                    refine fw_aload_n (pc := 235) d_M_make_235 0 rfl rfl ?_
                    refine fw_iload_n (pc := 236) d_M_make_236 3 rfl rfl ?_
                    obtain ⟨p237, e237, h⟩ := fw_be h
                    refine fw_callVv (pc := 237) d_M_make_237 mv_M_121 fw_Mo0 (c_M_goes e237) (by decide) rfl rfl (Nat.le_of_ble_eq_true rfl) ?_
                    obtain rfl := Option.some.inj h
                    exact fw_sub [0, 1, 2, 3] rfl hJ222
                · have h := fw_if hc h
                  obtain rfl := Option.some.inj h
                  exact fw_sub [0, 1, 2, 3] rfl hJ222
              ) _ _ w196)
          clear h
          exact fw_sub [1, 2, 3, 0] rfl (fw_we (e := e63x) (fun (s : Int32 × fw_M) => fw_R "FewTypesModel" prog_11_method_43_code 6 (some .int) fw_Mo 6 (some r.1) r.2 63 [(0, .ref 0), (1, .int a1), (2, .int p25.1), (3, .int s.1)] [] s.2) (by
            intro s x h hl hr
            obtain ⟨x3_63, μ63⟩ := s
            rw [f_M_make_L63] at h
            show fw_R "FewTypesModel" prog_11_method_43_code 6 (some .int) fw_Mo 6 (some r.1) r.2 63 [(0, .ref 0), (1, .int a1), (2, .int p25.1), (3, .int x3_63)] [] μ63
            refine fw_iload_n (pc := 63) d_M_make_63 3 rfl rfl ?_
            refine fw_iload_n (pc := 64) d_M_make_64 2 rfl rfl ?_
            refine fw_icmp_ge (pc := 65) (tgt := 189) d_M_make_65 rfl (fun hc => ?_) (fun hc => ?_)
            · have h := fw_it hc h
              obtain rfl := Option.some.inj h
              have he := hr _ rfl
              subst he
              exact fw_sub [0, 1, 2] rfl hE63
            · have h := fw_if hc h
              refine fw_aload_n (pc := 68) d_M_make_68 0 rfl rfl ?_
              refine fw_aload_n (pc := 69) d_M_make_69 0 rfl rfl ?_
              refine fw_getR (pc := 70) d_M_make_70 fl_M_59 fw_Mo0 rfl ?_
              refine fw_iload_n (pc := 73) d_M_make_73 3 rfl rfl ?_
              obtain ⟨v74, e74, h⟩ := fw_be h
              refine fw_iald (pc := 74) d_M_make_74 fw_Mo17 e74 ?_
              obtain ⟨p75, e75, h⟩ := fw_be h
              refine fw_callVi (pc := 75) d_M_make_75 mv_M_206 fw_Mo0 (c_M_least e75) (by decide) rfl rfl (Nat.le_of_ble_eq_true rfl) ?_
              refine fw_pop (pc := 78) d_M_make_78 rfl ?_
              refine fw_iconst (pc := 79) d_M_make_79 fw_ic0 ?_
              refine fw_istore (pc := 80) (lv1 := [(4, .int 0), (0, .ref 0), (1, .int a1), (2, .int p25.1), (3, .int x3_63)]) d_M_make_80 (by decide) rfl ?_
              refine fw_iconst (pc := 82) d_M_make_82 fw_ic0 ?_
              refine fw_istore (pc := 83) (lv1 := [(5, .int 0), (4, .int 0), (0, .ref 0), (1, .int a1), (2, .int p25.1), (3, .int x3_63)]) d_M_make_83 (by decide) rfl ?_
              obtain ⟨e85x, w85, h⟩ := fw_be h
              have hE85 : fw_R "FewTypesModel" prog_11_method_43_code 6 (some .int) fw_Mo 6 (some r.1) r.2 128 [(0, .ref 0), (1, .int a1), (2, .int p25.1), (3, .int x3_63), (4, .int e85x)] [] p75.2 := by
                refine fw_iconst (pc := 128) d_M_make_128 fw_ic0 ?_
                refine fw_istore (pc := 129) (lv1 := [(5, .int 0), (0, .ref 0), (1, .int a1), (2, .int p25.1), (3, .int x3_63), (4, .int e85x)]) d_M_make_129 (by decide) rfl ?_
                obtain ⟨e131x, w131, h⟩ := fw_be h
                have hE131 : fw_R "FewTypesModel" prog_11_method_43_code 6 (some .int) fw_Mo 6 (some r.1) r.2 183 [(0, .ref 0), (1, .int a1), (2, .int p25.1), (3, .int x3_63)] [] e131x := by
                  obtain ⟨v183, e183, h⟩ := fw_ne h
                  refine fw_iinc2 (pc := 183) (j := 3) (lv1 := [(3, .int v183), (0, .ref 0), (1, .int a1), (2, .int p25.1)]) d_M_make_183 rfl fw_ic1 e183 (by decide) rfl ?_
                  refine fw_goto (pc := 186) (tgt := 63) d_M_make_186 rfl ?_
                  obtain rfl := Option.some.inj h
                  exact fw_sub [1, 2, 3, 0] rfl (hl _ rfl)
                clear h
                exact fw_sub [1, 2, 3, 4, 5, 0] rfl (fw_we (e := e131x) (fun (s : Int32 × fw_M) => fw_R "FewTypesModel" prog_11_method_43_code 6 (some .int) fw_Mo 6 (some r.1) r.2 131 [(0, .ref 0), (1, .int a1), (2, .int p25.1), (3, .int x3_63), (4, .int e85x), (5, .int s.1)] [] s.2) (by
                  intro s x h hl hr
                  obtain ⟨x5_131, μ131⟩ := s
                  rw [f_M_make_L131] at h
                  show fw_R "FewTypesModel" prog_11_method_43_code 6 (some .int) fw_Mo 6 (some r.1) r.2 131 [(0, .ref 0), (1, .int a1), (2, .int p25.1), (3, .int x3_63), (4, .int e85x), (5, .int x5_131)] [] μ131
                  refine fw_iload (pc := 131) d_M_make_131 5 rfl ?_
                  refine fw_aload_n (pc := 133) d_M_make_133 0 rfl rfl ?_
                  refine fw_getI (pc := 134) d_M_make_134 fl_M_108 fw_Mo0 rfl ?_
                  refine fw_icmp_ge (pc := 137) (tgt := 183) d_M_make_137 rfl (fun hc => ?_) (fun hc => ?_)
                  · have h := fw_it hc h
                    obtain rfl := Option.some.inj h
                    have he := hr _ rfl
                    subst he
                    exact fw_sub [0, 1, 2, 3] rfl hE131
                  · have h := fw_if hc h
                    refine fw_aload_n (pc := 140) d_M_make_140 0 rfl rfl ?_
                    refine fw_getR (pc := 141) d_M_make_141 fl_M_71 fw_Mo0 rfl ?_
                    refine fw_iload (pc := 144) d_M_make_144 5 rfl ?_
                    refine fw_dup2 (pc := 146) d_M_make_146 rfl rfl ?_
                    obtain ⟨v147, e147, h⟩ := fw_be h
                    refine fw_iald (pc := 147) d_M_make_147 fw_Mo21 e147 ?_
                    refine fw_iload (pc := 148) d_M_make_148 4 rfl ?_
                    refine fw_iload (pc := 150) d_M_make_150 5 rfl ?_
                    refine fw_ishr (pc := 152) d_M_make_152 ?_
                    refine fw_iconst (pc := 153) d_M_make_153 fw_ic1 ?_
                    refine fw_iand (pc := 154) d_M_make_154 ?_
                    refine fw_iconst (pc := 155) d_M_make_155 fw_ic1 ?_
                    obtain ⟨j156, w156, h⟩ := fw_be h
                    have hJ156 : fw_R "FewTypesModel" prog_11_method_43_code 6 (some .int) fw_Mo 6 (some r.1) r.2 175 [(0, .ref 0), (1, .int a1), (2, .int p25.1), (3, .int x3_63), (4, .int e85x), (5, .int x5_131)] [.int j156, .int v147, .int x5_131, .ref 21] μ131 := by
                      refine fw_iadd (pc := 175) d_M_make_175 ?_
                      obtain ⟨μ176, e176, h⟩ := fw_be h
                      refine fw_iast (pc := 176) d_M_make_176 fw_Mo21 e176 ?_
                      obtain ⟨v177, e177, h⟩ := fw_ne h
                      refine fw_iinc2 (pc := 177) (j := 5) (lv1 := [(5, .int v177), (0, .ref 0), (1, .int a1), (2, .int p25.1), (3, .int x3_63), (4, .int e85x)]) d_M_make_177 rfl fw_ic1 e177 (by decide) rfl ?_
                      refine fw_goto (pc := 180) (tgt := 131) d_M_make_180 rfl ?_
                      obtain rfl := Option.some.inj h
                      exact fw_sub [1, 2, 3, 4, 5, 0] rfl (hl _ rfl)
                    clear h
                    have h := w156
                    clear w156
                    refine fw_icmp_ne (pc := 156) (tgt := 174) d_M_make_156 rfl (fun hc => ?_) (fun hc => ?_)
                    · have h := fw_it hc h
                      refine fw_aload_n (pc := 159) d_M_make_159 0 rfl rfl ?_
                      refine fw_getR (pc := 160) d_M_make_160 fl_M_7 fw_Mo0 rfl ?_
                      refine fw_iload (pc := 163) d_M_make_163 5 rfl ?_
                      obtain ⟨v165, e165, h⟩ := fw_be h
                      refine fw_iald (pc := 165) d_M_make_165 fw_Mo1 e165 ?_
                      refine fw_iconst (pc := 166) d_M_make_166 fw_ic3 ?_
                      refine fw_icmp_ne (pc := 167) (tgt := 174) d_M_make_167 rfl (fun hc => ?_) (fun hc => ?_)
                      · have h := fw_it hc h
                        refine fw_iload_n (pc := 170) d_M_make_170 1 rfl rfl ?_
                        refine fw_goto (pc := 171) (tgt := 175) d_M_make_171 rfl ?_
                        obtain rfl := Option.some.inj h
                        exact fw_sub [0, 1, 2, 3, 4, 5] rfl hJ156
                      · have h := fw_if hc h
                        refine fw_iconst (pc := 174) d_M_make_174 fw_ic0 ?_
                        obtain rfl := Option.some.inj h
                        exact fw_sub [0, 1, 2, 3, 4, 5] rfl hJ156
                    · have h := fw_if hc h
                      refine fw_iconst (pc := 174) d_M_make_174 fw_ic0 ?_
                      obtain rfl := Option.some.inj h
                      exact fw_sub [0, 1, 2, 3, 4, 5] rfl hJ156
                  ) _ _ w131)
              clear h
              exact fw_sub [2, 3, 4, 5, 1, 0] rfl (fw_we (e := e85x) (fun (s : Int32 × Int32) => fw_R "FewTypesModel" prog_11_method_43_code 6 (some .int) fw_Mo 6 (some r.1) r.2 85 [(0, .ref 0), (1, .int a1), (2, .int p25.1), (3, .int x3_63), (4, .int s.1), (5, .int s.2)] [] p75.2) (by
                intro s x h hl hr
                obtain ⟨x4_85, x5_85⟩ := s
                rw [f_M_make_L85] at h
                show fw_R "FewTypesModel" prog_11_method_43_code 6 (some .int) fw_Mo 6 (some r.1) r.2 85 [(0, .ref 0), (1, .int a1), (2, .int p25.1), (3, .int x3_63), (4, .int x4_85), (5, .int x5_85)] [] p75.2
                refine fw_iload (pc := 85) d_M_make_85 5 rfl ?_
                refine fw_aload_n (pc := 87) d_M_make_87 0 rfl rfl ?_
                refine fw_getI (pc := 88) d_M_make_88 fl_M_158 fw_Mo0 rfl ?_
                refine fw_icmp_ge (pc := 91) (tgt := 128) d_M_make_91 rfl (fun hc => ?_) (fun hc => ?_)
                · have h := fw_it hc h
                  obtain rfl := Option.some.inj h
                  have he := hr _ rfl
                  subst he
                  exact fw_sub [0, 1, 2, 3, 4] rfl hE85
                · have h := fw_if hc h
                  refine fw_iload (pc := 94) d_M_make_94 4 rfl ?_
                  refine fw_aload_n (pc := 96) d_M_make_96 0 rfl rfl ?_
                  refine fw_getR (pc := 97) d_M_make_97 fl_M_50 fw_Mo0 rfl ?_
                  refine fw_iload (pc := 100) d_M_make_100 5 rfl ?_
                  obtain ⟨v102, e102, h⟩ := fw_be h
                  refine fw_iald (pc := 102) d_M_make_102 fw_Mo14 e102 ?_
                  obtain ⟨j103, w103, h⟩ := fw_be h
                  have hJ103 : fw_R "FewTypesModel" prog_11_method_43_code 6 (some .int) fw_Mo 6 (some r.1) r.2 119 [(0, .ref 0), (1, .int a1), (2, .int p25.1), (3, .int x3_63), (5, .int x5_85)] [.int j103, .int x4_85] p75.2 := by
                    refine fw_ior (pc := 119) d_M_make_119 ?_
                    obtain ⟨v120, e120, h⟩ := fw_ne h
                    refine fw_top e120 ?_
                    refine fw_istore (pc := 120) (lv1 := [(4, .int v120), (0, .ref 0), (1, .int a1), (2, .int p25.1), (3, .int x3_63), (5, .int x5_85)]) d_M_make_120 (by decide) rfl ?_
                    obtain ⟨v122, e122, h⟩ := fw_ne h
                    refine fw_iinc2 (pc := 122) (j := 5) (lv1 := [(5, .int v122), (4, .int v120), (0, .ref 0), (1, .int a1), (2, .int p25.1), (3, .int x3_63)]) d_M_make_122 rfl fw_ic1 e122 (by decide) rfl ?_
                    refine fw_goto (pc := 125) (tgt := 85) d_M_make_125 rfl ?_
                    obtain rfl := Option.some.inj h
                    exact fw_sub [2, 3, 4, 5, 1, 0] rfl (hl _ rfl)
                  clear h
                  have h := w103
                  clear w103
                  refine fw_if_ge (pc := 103) (tgt := 110) d_M_make_103 rfl (fun hc => ?_) (fun hc => ?_)
                  · have h := fw_it hc h
                    refine fw_iconst (pc := 110) d_M_make_110 fw_ic1 ?_
                    refine fw_aload_n (pc := 111) d_M_make_111 0 rfl rfl ?_
                    refine fw_getR (pc := 112) d_M_make_112 fl_M_50 fw_Mo0 rfl ?_
                    refine fw_iload (pc := 115) d_M_make_115 5 rfl ?_
                    obtain ⟨v117, e117, h⟩ := fw_be h
                    refine fw_iald (pc := 117) d_M_make_117 fw_Mo14 e117 ?_
                    refine fw_ishl (pc := 118) d_M_make_118 ?_
                    obtain rfl := Option.some.inj h
                    exact fw_sub [0, 1, 2, 3, 5] rfl hJ103
                  · have h := fw_if hc h
                    refine fw_iconst (pc := 106) d_M_make_106 fw_ic0 ?_
                    refine fw_goto (pc := 107) (tgt := 119) d_M_make_107 rfl ?_
                    obtain rfl := Option.some.inj h
                    exact fw_sub [0, 1, 2, 3, 5] rfl hJ103
                ) _ _ w85)
            ) _ _ w63)
        clear h
        exact fw_sub [2, 3, 1, 0] rfl (fw_we (e := e40x) (fun (s : Int32 × fw_M) => fw_R "FewTypesModel" prog_11_method_43_code 6 (some .int) fw_Mo 6 (some r.1) r.2 40 [(0, .ref 0), (1, .int a1), (2, .int p25.1), (3, .int s.1)] [] s.2) (by
          intro s x h hl hr
          obtain ⟨x3_40, μ40⟩ := s
          rw [f_M_make_L40] at h
          show fw_R "FewTypesModel" prog_11_method_43_code 6 (some .int) fw_Mo 6 (some r.1) r.2 40 [(0, .ref 0), (1, .int a1), (2, .int p25.1), (3, .int x3_40)] [] μ40
          refine fw_iload_n (pc := 40) d_M_make_40 3 rfl rfl ?_
          refine fw_aload_n (pc := 41) d_M_make_41 0 rfl rfl ?_
          refine fw_getI (pc := 42) d_M_make_42 fl_M_108 fw_Mo0 rfl ?_
          refine fw_icmp_ge (pc := 45) (tgt := 61) d_M_make_45 rfl (fun hc => ?_) (fun hc => ?_)
          · have h := fw_it hc h
            obtain rfl := Option.some.inj h
            have he := hr _ rfl
            subst he
            exact fw_sub [0, 1, 2] rfl hE40
          · have h := fw_if hc h
            refine fw_aload_n (pc := 48) d_M_make_48 0 rfl rfl ?_
            refine fw_getR (pc := 49) d_M_make_49 fl_M_71 fw_Mo0 rfl ?_
            refine fw_iload_n (pc := 52) d_M_make_52 3 rfl rfl ?_
            refine fw_iconst (pc := 53) d_M_make_53 fw_ic0 ?_
            obtain ⟨μ54, e54, h⟩ := fw_be h
            refine fw_iast (pc := 54) d_M_make_54 fw_Mo21 e54 ?_
            obtain ⟨v55, e55, h⟩ := fw_ne h
            refine fw_iinc2 (pc := 55) (j := 3) (lv1 := [(3, .int v55), (0, .ref 0), (1, .int a1), (2, .int p25.1)]) d_M_make_55 rfl fw_ic1 e55 (by decide) rfl ?_
            refine fw_goto (pc := 58) (tgt := 40) d_M_make_58 rfl ?_
            obtain rfl := Option.some.inj h
            exact fw_sub [1, 2, 3, 0] rfl (hl _ rfl)
          ) _ _ w40)
      · have h := fw_if hc h
        refine fw_bipush (pc := 35) d_M_make_35 fw_bpm4 ?_
        obtain rfl := Option.some.inj h
        exact fw_iret (pc := 37) d_M_make_37 rfl
def f_M_text_L87  : Int32 × fw_M → Option ((Int32 × fw_M) ⊕ (fw_M))
  | (x2_87, μ87) =>
  if (μ87.1 0 6) ≤ x2_87 then
    some (.inr μ87)
  else
    (fw_rd 10 (μ87.1 6) x2_87).bind fun v115 =>
    (fw_si 104 μ87 7 (((13 * (μ87.1 0 9)) + 3) + x2_87) v115).bind fun μ116 =>
    fw_nm (x2_87 + 1) fun (v117 : Int32) =>
    some (.inl (v117, μ116))
def f_M_text (a1 : Int32) (μ : fw_M) : Option (Int32 × fw_M) :=
  (f_M_in (Int32.toInt64 a1) 0 3).bind fun (p6 : Int32) =>
  if p6 = 0 then
    some ((-1), μ)
  else
    if (μ.1 0 6) = 0 then
      some ((-2), μ)
    else
      if (μ.1 0 9) = 8 then
        some ((-3), μ)
      else
        (fw_si 104 μ 7 (13 * (μ.1 0 9)) (μ.1 0 6)).bind fun μ51 =>
        (fw_si 104 μ51 7 ((13 * (μ51.1 0 9)) + 1) (μ51.1 0 8)).bind fun μ69 =>
        (fw_si 104 μ69 7 ((13 * (μ69.1 0 9)) + 2) a1).bind fun μ84 =>
        (fw_wh (f_M_text_L87) fw_N (0, μ84)).bind fun (e87x : fw_M) =>
        fw_nm (fw_wr e87x 0 9 ((e87x.1 0 9) + 1)) fun (μ130 : fw_M) =>
        some (((μ130.1 0 9) - 1), μ130)
set_option maxHeartbeats 4000000 in
set_option maxRecDepth 100000 in
theorem c_M_text {a1 : Int32} {μ : fw_M} {r : Int32 × fw_M} (h : f_M_text a1 μ = some r) : fw_Con Y_M_text fw_Mo 2 [.ref 0, .int a1] (some r.1) μ r.2 := by
  refine fw_con (by decide) (Nat.le_of_ble_eq_true rfl) ?_
  rw [f_M_text] at h
  show fw_R "FewTypesModel" prog_11_method_44_code 3 (some .int) fw_Mo 2 (some r.1) r.2 0 [(0, .ref 0), (1, .int a1)] [] μ
  refine fw_iload_n (pc := 0) d_M_text_0 1 rfl rfl ?_
  refine fw_i2l (pc := 1) d_M_text_1 ?_
  refine fw_lconst (pc := 2) d_M_text_2 (v := 0) (by decide) ?_
  refine fw_ldc2 (pc := 3) d_M_text_3 cl_M_127 ?_
  obtain ⟨p6, e6, h⟩ := fw_be h
  refine fw_callSi (pc := 6) d_M_text_6 ms_M_94 (c_M_in e6) (by decide) rfl rfl (Nat.le_of_ble_eq_true rfl) ?_
  refine fw_if_ne (pc := 9) (tgt := 14) d_M_text_9 rfl (fun hc => ?_) (fun hc => ?_)
  · have h := fw_it hc h
    refine fw_iconst (pc := 12) d_M_text_12 fw_icm1 ?_
    obtain rfl := Option.some.inj h
    exact fw_iret (pc := 13) d_M_text_13 rfl
  · have h := fw_if hc h
    refine fw_aload_n (pc := 14) d_M_text_14 0 rfl rfl ?_
    refine fw_getI (pc := 15) d_M_text_15 fl_M_158 fw_Mo0 rfl ?_
    refine fw_if_ne (pc := 18) (tgt := 24) d_M_text_18 rfl (fun hc => ?_) (fun hc => ?_)
    · have h := fw_it hc h
      refine fw_bipush (pc := 21) d_M_text_21 fw_bpm2 ?_
      obtain rfl := Option.some.inj h
      exact fw_iret (pc := 23) d_M_text_23 rfl
    · have h := fw_if hc h
      refine fw_aload_n (pc := 24) d_M_text_24 0 rfl rfl ?_
      refine fw_getI (pc := 25) d_M_text_25 fl_M_174 fw_Mo0 rfl ?_
      refine fw_bipush (pc := 28) d_M_text_28 fw_bp8 ?_
      refine fw_icmp_ne (pc := 30) (tgt := 36) d_M_text_30 rfl (fun hc => ?_) (fun hc => ?_)
      · have h := fw_it hc h
        refine fw_bipush (pc := 33) d_M_text_33 fw_bpm3 ?_
        obtain rfl := Option.some.inj h
        exact fw_iret (pc := 35) d_M_text_35 rfl
      · have h := fw_if hc h
        refine fw_aload_n (pc := 36) d_M_text_36 0 rfl rfl ?_
        refine fw_getR (pc := 37) d_M_text_37 fl_M_28 fw_Mo0 rfl ?_
        refine fw_bipush (pc := 40) d_M_text_40 fw_bp13 ?_
        refine fw_aload_n (pc := 42) d_M_text_42 0 rfl rfl ?_
        refine fw_getI (pc := 43) d_M_text_43 fl_M_174 fw_Mo0 rfl ?_
        refine fw_imul (pc := 46) d_M_text_46 ?_
        refine fw_aload_n (pc := 47) d_M_text_47 0 rfl rfl ?_
        refine fw_getI (pc := 48) d_M_text_48 fl_M_158 fw_Mo0 rfl ?_
        obtain ⟨μ51, e51, h⟩ := fw_be h
        refine fw_iast (pc := 51) d_M_text_51 fw_Mo7 e51 ?_
        refine fw_aload_n (pc := 52) d_M_text_52 0 rfl rfl ?_
        refine fw_getR (pc := 53) d_M_text_53 fl_M_28 fw_Mo0 rfl ?_
        refine fw_bipush (pc := 56) d_M_text_56 fw_bp13 ?_
        refine fw_aload_n (pc := 58) d_M_text_58 0 rfl rfl ?_
        refine fw_getI (pc := 59) d_M_text_59 fl_M_174 fw_Mo0 rfl ?_
        refine fw_imul (pc := 62) d_M_text_62 ?_
        refine fw_iconst (pc := 63) d_M_text_63 fw_ic1 ?_
        refine fw_iadd (pc := 64) d_M_text_64 ?_
        refine fw_aload_n (pc := 65) d_M_text_65 0 rfl rfl ?_
        refine fw_getI (pc := 66) d_M_text_66 fl_M_161 fw_Mo0 rfl ?_
        obtain ⟨μ69, e69, h⟩ := fw_be h
        refine fw_iast (pc := 69) d_M_text_69 fw_Mo7 e69 ?_
        refine fw_aload_n (pc := 70) d_M_text_70 0 rfl rfl ?_
        refine fw_getR (pc := 71) d_M_text_71 fl_M_28 fw_Mo0 rfl ?_
        refine fw_bipush (pc := 74) d_M_text_74 fw_bp13 ?_
        refine fw_aload_n (pc := 76) d_M_text_76 0 rfl rfl ?_
        refine fw_getI (pc := 77) d_M_text_77 fl_M_174 fw_Mo0 rfl ?_
        refine fw_imul (pc := 80) d_M_text_80 ?_
        refine fw_iconst (pc := 81) d_M_text_81 fw_ic2 ?_
        refine fw_iadd (pc := 82) d_M_text_82 ?_
        refine fw_iload_n (pc := 83) d_M_text_83 1 rfl rfl ?_
        obtain ⟨μ84, e84, h⟩ := fw_be h
        refine fw_iast (pc := 84) d_M_text_84 fw_Mo7 e84 ?_
        refine fw_iconst (pc := 85) d_M_text_85 fw_ic0 ?_
        refine fw_istore_n (pc := 86) (lv1 := [(2, .int 0), (0, .ref 0), (1, .int a1)]) d_M_text_86 rfl (by decide) rfl ?_
        obtain ⟨e87x, w87, h⟩ := fw_be h
        have hE87 : fw_R "FewTypesModel" prog_11_method_44_code 3 (some .int) fw_Mo 2 (some r.1) r.2 123 [(0, .ref 0)] [] e87x := by
          refine fw_aload_n (pc := 123) d_M_text_123 0 rfl rfl ?_
          refine fw_dup (pc := 124) d_M_text_124 rfl ?_
          refine fw_getI (pc := 125) d_M_text_125 fl_M_174 fw_Mo0 rfl ?_
          refine fw_iconst (pc := 128) d_M_text_128 fw_ic1 ?_
          refine fw_iadd (pc := 129) d_M_text_129 ?_
          obtain ⟨μ130, e130, h⟩ := fw_ne h
          refine fw_putI (pc := 130) d_M_text_130 fp_M_174 fw_Mo0 rfl (fw_mem e130 ?_)
          refine fw_aload_n (pc := 133) d_M_text_133 0 rfl rfl ?_
          refine fw_getI (pc := 134) d_M_text_134 fl_M_174 fw_Mo0 rfl ?_
          refine fw_iconst (pc := 137) d_M_text_137 fw_ic1 ?_
          refine fw_isub (pc := 138) d_M_text_138 ?_
          obtain rfl := Option.some.inj h
          exact fw_iret (pc := 139) d_M_text_139 rfl
        clear h
        exact fw_sub [1, 0] rfl (fw_we (e := e87x) (fun (s : Int32 × fw_M) => fw_R "FewTypesModel" prog_11_method_44_code 3 (some .int) fw_Mo 2 (some r.1) r.2 87 [(0, .ref 0), (2, .int s.1)] [] s.2) (by
          intro s x h hl hr
          obtain ⟨x2_87, μ87⟩ := s
          rw [f_M_text_L87] at h
          show fw_R "FewTypesModel" prog_11_method_44_code 3 (some .int) fw_Mo 2 (some r.1) r.2 87 [(0, .ref 0), (2, .int x2_87)] [] μ87
          refine fw_iload_n (pc := 87) d_M_text_87 1 rfl rfl ?_
          refine fw_aload_n (pc := 88) d_M_text_88 0 rfl rfl ?_
          refine fw_getI (pc := 89) d_M_text_89 fl_M_158 fw_Mo0 rfl ?_
          refine fw_icmp_ge (pc := 92) (tgt := 123) d_M_text_92 rfl (fun hc => ?_) (fun hc => ?_)
          · have h := fw_it hc h
            obtain rfl := Option.some.inj h
            have he := hr _ rfl
            subst he
            exact fw_sub [0] rfl hE87
          · have h := fw_if hc h
            refine fw_aload_n (pc := 95) d_M_text_95 0 rfl rfl ?_
            refine fw_getR (pc := 96) d_M_text_96 fl_M_28 fw_Mo0 rfl ?_
            refine fw_bipush (pc := 99) d_M_text_99 fw_bp13 ?_
            refine fw_aload_n (pc := 101) d_M_text_101 0 rfl rfl ?_
            refine fw_getI (pc := 102) d_M_text_102 fl_M_174 fw_Mo0 rfl ?_
            refine fw_imul (pc := 105) d_M_text_105 ?_
            refine fw_iconst (pc := 106) d_M_text_106 fw_ic3 ?_
            refine fw_iadd (pc := 107) d_M_text_107 ?_
            refine fw_iload_n (pc := 108) d_M_text_108 1 rfl rfl ?_
            refine fw_iadd (pc := 109) d_M_text_109 ?_
            refine fw_aload_n (pc := 110) d_M_text_110 0 rfl rfl ?_
            refine fw_getR (pc := 111) d_M_text_111 fl_M_25 fw_Mo0 rfl ?_
            refine fw_iload_n (pc := 114) d_M_text_114 1 rfl rfl ?_
            obtain ⟨v115, e115, h⟩ := fw_be h
            refine fw_iald (pc := 115) d_M_text_115 fw_Mo6 e115 ?_
            obtain ⟨μ116, e116, h⟩ := fw_be h
            refine fw_iast (pc := 116) d_M_text_116 fw_Mo7 e116 ?_
            obtain ⟨v117, e117, h⟩ := fw_ne h
            refine fw_iinc2 (pc := 117) (j := 1) (lv1 := [(2, .int v117), (0, .ref 0)]) d_M_text_117 rfl fw_ic1 e117 (by decide) rfl ?_
            refine fw_goto (pc := 120) (tgt := 87) d_M_text_120 rfl ?_
            obtain rfl := Option.some.inj h
            exact fw_sub [1, 0] rfl (hl _ rfl)
          ) _ _ w87)
def f_M_needsOf_L24  : Int32 × fw_M → Option ((Int32 × fw_M) ⊕ (fw_M))
  | (x2_24, μ24) =>
  if 10 ≤ x2_24 then
    some (.inr μ24)
  else
    (fw_rd 10 (μ24.1 6) x2_24).bind fun v40 =>
    (fw_si 12 μ24 22 x2_24 v40).bind fun μ41 =>
    fw_nm (x2_24 + 1) fun (v42 : Int32) =>
    some (.inl (v42, μ41))
def f_M_needsOf_L78 (a1 : Int32) : Int32 × fw_M → Option ((Int32 × fw_M) ⊕ (fw_M))
  | (x2_78, μ78) =>
  if (μ78.1 0 6) ≤ x2_78 then
    some (.inr μ78)
  else
    (fw_rd 104 (μ78.1 7) (((13 * a1) + 3) + x2_78)).bind fun v103 =>
    (fw_si 10 μ78 6 x2_78 v103).bind fun μ104 =>
    fw_nm (x2_78 + 1) fun (v105 : Int32) =>
    some (.inl (v105, μ104))
def f_M_needsOf_L140  : Int32 × fw_M → Option ((Int32 × fw_M) ⊕ (fw_M))
  | (x3_140, μ140) =>
  if 10 ≤ x3_140 then
    some (.inr μ140)
  else
    (fw_rd 12 (μ140.1 22) x3_140).bind fun v156 =>
    (fw_si 10 μ140 6 x3_140 v156).bind fun μ157 =>
    fw_nm (x3_140 + 1) fun (v158 : Int32) =>
    some (.inl (v158, μ157))
def f_M_needsOf (a1 : Int32) (μ : fw_M) : Option (Int32 × fw_M) :=
  (fw_si 12 μ 22 10 (μ.1 0 6)).bind fun μ10 =>
  (fw_si 12 μ10 22 11 (μ10.1 0 8)).bind fun μ21 =>
  (fw_wh (f_M_needsOf_L24) fw_N (0, μ21)).bind fun (e24x : fw_M) =>
  (fw_rd 104 (e24x.1 7) (13 * a1)).bind fun v57 =>
  fw_nm (fw_wr e24x 0 6 v57) fun (μ58 : fw_M) =>
  (fw_rd 104 (μ58.1 7) ((13 * a1) + 1)).bind fun v72 =>
  fw_nm (fw_wr μ58 0 8 v72) fun (μ73 : fw_M) =>
  (fw_wh (f_M_needsOf_L78 a1) fw_N (0, μ73)).bind fun (e78x : fw_M) =>
  (f_M_fewestOf e78x).bind fun (p112 : Int32 × fw_M) =>
  (fw_rd 12 (p112.2.1 22) 10).bind fun v123 =>
  fw_nm (fw_wr p112.2 0 6 v123) fun (μ124 : fw_M) =>
  (fw_rd 12 (μ124.1 22) 11).bind fun v134 =>
  fw_nm (fw_wr μ124 0 8 v134) fun (μ135 : fw_M) =>
  (fw_wh (f_M_needsOf_L140) fw_N (0, μ135)).bind fun (e140x : fw_M) =>
  some (p112.1, e140x)
set_option maxHeartbeats 4000000 in
set_option maxRecDepth 100000 in
theorem c_M_needsOf {a1 : Int32} {μ : fw_M} {r : Int32 × fw_M} (h : f_M_needsOf a1 μ = some r) : fw_Con Y_M_needsOf fw_Mo 5 [.ref 0, .int a1] (some r.1) μ r.2 := by
  refine fw_con (by decide) (Nat.le_of_ble_eq_true rfl) ?_
  rw [f_M_needsOf] at h
  show fw_R "FewTypesModel" prog_11_method_45_code 4 (some .int) fw_Mo 5 (some r.1) r.2 0 [(0, .ref 0), (1, .int a1)] [] μ
  refine fw_aload_n (pc := 0) d_M_needsOf_0 0 rfl rfl ?_
  refine fw_getR (pc := 1) d_M_needsOf_1 fl_M_74 fw_Mo0 rfl ?_
  refine fw_bipush (pc := 4) d_M_needsOf_4 fw_bp10 ?_
  refine fw_aload_n (pc := 6) d_M_needsOf_6 0 rfl rfl ?_
  refine fw_getI (pc := 7) d_M_needsOf_7 fl_M_158 fw_Mo0 rfl ?_
  obtain ⟨μ10, e10, h⟩ := fw_be h
  refine fw_iast (pc := 10) d_M_needsOf_10 fw_Mo22 e10 ?_
  refine fw_aload_n (pc := 11) d_M_needsOf_11 0 rfl rfl ?_
  refine fw_getR (pc := 12) d_M_needsOf_12 fl_M_74 fw_Mo0 rfl ?_
  refine fw_bipush (pc := 15) d_M_needsOf_15 fw_bp11 ?_
  refine fw_aload_n (pc := 17) d_M_needsOf_17 0 rfl rfl ?_
  refine fw_getI (pc := 18) d_M_needsOf_18 fl_M_161 fw_Mo0 rfl ?_
  obtain ⟨μ21, e21, h⟩ := fw_be h
  refine fw_iast (pc := 21) d_M_needsOf_21 fw_Mo22 e21 ?_
  refine fw_iconst (pc := 22) d_M_needsOf_22 fw_ic0 ?_
  refine fw_istore_n (pc := 23) (lv1 := [(2, .int 0), (0, .ref 0), (1, .int a1)]) d_M_needsOf_23 rfl (by decide) rfl ?_
  obtain ⟨e24x, w24, h⟩ := fw_be h
  have hE24 : fw_R "FewTypesModel" prog_11_method_45_code 4 (some .int) fw_Mo 5 (some r.1) r.2 48 [(0, .ref 0), (1, .int a1)] [] e24x := by
    refine fw_aload_n (pc := 48) d_M_needsOf_48 0 rfl rfl ?_
    refine fw_aload_n (pc := 49) d_M_needsOf_49 0 rfl rfl ?_
    refine fw_getR (pc := 50) d_M_needsOf_50 fl_M_28 fw_Mo0 rfl ?_
    refine fw_bipush (pc := 53) d_M_needsOf_53 fw_bp13 ?_
    refine fw_iload_n (pc := 55) d_M_needsOf_55 1 rfl rfl ?_
    refine fw_imul (pc := 56) d_M_needsOf_56 ?_
    obtain ⟨v57, e57, h⟩ := fw_be h
    refine fw_iald (pc := 57) d_M_needsOf_57 fw_Mo7 e57 ?_
    obtain ⟨μ58, e58, h⟩ := fw_ne h
    refine fw_putI (pc := 58) d_M_needsOf_58 fp_M_158 fw_Mo0 rfl (fw_mem e58 ?_)
    refine fw_aload_n (pc := 61) d_M_needsOf_61 0 rfl rfl ?_
    refine fw_aload_n (pc := 62) d_M_needsOf_62 0 rfl rfl ?_
    refine fw_getR (pc := 63) d_M_needsOf_63 fl_M_28 fw_Mo0 rfl ?_
    refine fw_bipush (pc := 66) d_M_needsOf_66 fw_bp13 ?_
    refine fw_iload_n (pc := 68) d_M_needsOf_68 1 rfl rfl ?_
    refine fw_imul (pc := 69) d_M_needsOf_69 ?_
    refine fw_iconst (pc := 70) d_M_needsOf_70 fw_ic1 ?_
    refine fw_iadd (pc := 71) d_M_needsOf_71 ?_
    obtain ⟨v72, e72, h⟩ := fw_be h
    refine fw_iald (pc := 72) d_M_needsOf_72 fw_Mo7 e72 ?_
    obtain ⟨μ73, e73, h⟩ := fw_ne h
    refine fw_putI (pc := 73) d_M_needsOf_73 fp_M_161 fw_Mo0 rfl (fw_mem e73 ?_)
    refine fw_iconst (pc := 76) d_M_needsOf_76 fw_ic0 ?_
    refine fw_istore_n (pc := 77) (lv1 := [(2, .int 0), (0, .ref 0), (1, .int a1)]) d_M_needsOf_77 rfl (by decide) rfl ?_
    obtain ⟨e78x, w78, h⟩ := fw_be h
    have hE78 : fw_R "FewTypesModel" prog_11_method_45_code 4 (some .int) fw_Mo 5 (some r.1) r.2 111 [(0, .ref 0)] [] e78x := by
      refine fw_aload_n (pc := 111) d_M_needsOf_111 0 rfl rfl ?_
      obtain ⟨p112, e112, h⟩ := fw_be h
      refine fw_callVi (pc := 112) d_M_needsOf_112 mv_M_209 fw_Mo0 (c_M_fewestOf e112) (by decide) rfl rfl (Nat.le_of_ble_eq_true rfl) ?_
      refine fw_istore_n (pc := 115) (lv1 := [(2, .int p112.1), (0, .ref 0)]) d_M_needsOf_115 rfl (by decide) rfl ?_
      refine fw_aload_n (pc := 116) d_M_needsOf_116 1 rfl rfl ?_
      refine fw_aload_n (pc := 117) d_M_needsOf_117 1 rfl rfl ?_
      refine fw_getR (pc := 118) d_M_needsOf_118 fl_M_74 fw_Mo0 rfl ?_
      refine fw_bipush (pc := 121) d_M_needsOf_121 fw_bp10 ?_
      obtain ⟨v123, e123, h⟩ := fw_be h
      refine fw_iald (pc := 123) d_M_needsOf_123 fw_Mo22 e123 ?_
      obtain ⟨μ124, e124, h⟩ := fw_ne h
      refine fw_putI (pc := 124) d_M_needsOf_124 fp_M_158 fw_Mo0 rfl (fw_mem e124 ?_)
      refine fw_aload_n (pc := 127) d_M_needsOf_127 1 rfl rfl ?_
      refine fw_aload_n (pc := 128) d_M_needsOf_128 1 rfl rfl ?_
      refine fw_getR (pc := 129) d_M_needsOf_129 fl_M_74 fw_Mo0 rfl ?_
      refine fw_bipush (pc := 132) d_M_needsOf_132 fw_bp11 ?_
      obtain ⟨v134, e134, h⟩ := fw_be h
      refine fw_iald (pc := 134) d_M_needsOf_134 fw_Mo22 e134 ?_
      obtain ⟨μ135, e135, h⟩ := fw_ne h
      refine fw_putI (pc := 135) d_M_needsOf_135 fp_M_161 fw_Mo0 rfl (fw_mem e135 ?_)
      refine fw_iconst (pc := 138) d_M_needsOf_138 fw_ic0 ?_
      refine fw_istore_n (pc := 139) (lv1 := [(3, .int 0), (2, .int p112.1), (0, .ref 0)]) d_M_needsOf_139 rfl (by decide) rfl ?_
      obtain ⟨e140x, w140, h⟩ := fw_be h
      have hE140 : fw_R "FewTypesModel" prog_11_method_45_code 4 (some .int) fw_Mo 5 (some r.1) r.2 164 [(2, .int p112.1)] [] e140x := by
        refine fw_iload_n (pc := 164) d_M_needsOf_164 0 rfl rfl ?_
        obtain rfl := Option.some.inj h
        exact fw_iret (pc := 165) d_M_needsOf_165 rfl
      clear h
      exact fw_sub [2, 1, 0] rfl (fw_we (e := e140x) (fun (s : Int32 × fw_M) => fw_R "FewTypesModel" prog_11_method_45_code 4 (some .int) fw_Mo 5 (some r.1) r.2 140 [(0, .ref 0), (2, .int p112.1), (3, .int s.1)] [] s.2) (by
        intro s x h hl hr
        obtain ⟨x3_140, μ140⟩ := s
        rw [f_M_needsOf_L140] at h
        show fw_R "FewTypesModel" prog_11_method_45_code 4 (some .int) fw_Mo 5 (some r.1) r.2 140 [(0, .ref 0), (2, .int p112.1), (3, .int x3_140)] [] μ140
        refine fw_iload_n (pc := 140) d_M_needsOf_140 2 rfl rfl ?_
        refine fw_bipush (pc := 141) d_M_needsOf_141 fw_bp10 ?_
        refine fw_icmp_ge (pc := 143) (tgt := 164) d_M_needsOf_143 rfl (fun hc => ?_) (fun hc => ?_)
        · have h := fw_it hc h
          obtain rfl := Option.some.inj h
          have he := hr _ rfl
          subst he
          exact fw_sub [1] rfl hE140
        · have h := fw_if hc h
          refine fw_aload_n (pc := 146) d_M_needsOf_146 0 rfl rfl ?_
          refine fw_getR (pc := 147) d_M_needsOf_147 fl_M_25 fw_Mo0 rfl ?_
          refine fw_iload_n (pc := 150) d_M_needsOf_150 2 rfl rfl ?_
          refine fw_aload_n (pc := 151) d_M_needsOf_151 0 rfl rfl ?_
          refine fw_getR (pc := 152) d_M_needsOf_152 fl_M_74 fw_Mo0 rfl ?_
          refine fw_iload_n (pc := 155) d_M_needsOf_155 2 rfl rfl ?_
          obtain ⟨v156, e156, h⟩ := fw_be h
          refine fw_iald (pc := 156) d_M_needsOf_156 fw_Mo22 e156 ?_
          obtain ⟨μ157, e157, h⟩ := fw_be h
          refine fw_iast (pc := 157) d_M_needsOf_157 fw_Mo6 e157 ?_
          obtain ⟨v158, e158, h⟩ := fw_ne h
          refine fw_iinc2 (pc := 158) (j := 2) (lv1 := [(3, .int v158), (0, .ref 0), (2, .int p112.1)]) d_M_needsOf_158 rfl fw_ic1 e158 (by decide) rfl ?_
          refine fw_goto (pc := 161) (tgt := 140) d_M_needsOf_161 rfl ?_
          obtain rfl := Option.some.inj h
          exact fw_sub [1, 2, 0] rfl (hl _ rfl)
        ) _ _ w140)
    clear h
    exact fw_sub [1, 2, 0] rfl (fw_we (e := e78x) (fun (s : Int32 × fw_M) => fw_R "FewTypesModel" prog_11_method_45_code 4 (some .int) fw_Mo 5 (some r.1) r.2 78 [(0, .ref 0), (1, .int a1), (2, .int s.1)] [] s.2) (by
      intro s x h hl hr
      obtain ⟨x2_78, μ78⟩ := s
      rw [f_M_needsOf_L78] at h
      show fw_R "FewTypesModel" prog_11_method_45_code 4 (some .int) fw_Mo 5 (some r.1) r.2 78 [(0, .ref 0), (1, .int a1), (2, .int x2_78)] [] μ78
      refine fw_iload_n (pc := 78) d_M_needsOf_78 2 rfl rfl ?_
      refine fw_aload_n (pc := 79) d_M_needsOf_79 0 rfl rfl ?_
      refine fw_getI (pc := 80) d_M_needsOf_80 fl_M_158 fw_Mo0 rfl ?_
      refine fw_icmp_ge (pc := 83) (tgt := 111) d_M_needsOf_83 rfl (fun hc => ?_) (fun hc => ?_)
      · have h := fw_it hc h
        obtain rfl := Option.some.inj h
        have he := hr _ rfl
        subst he
        exact fw_sub [0] rfl hE78
      · have h := fw_if hc h
        refine fw_aload_n (pc := 86) d_M_needsOf_86 0 rfl rfl ?_
        refine fw_getR (pc := 87) d_M_needsOf_87 fl_M_25 fw_Mo0 rfl ?_
        refine fw_iload_n (pc := 90) d_M_needsOf_90 2 rfl rfl ?_
        refine fw_aload_n (pc := 91) d_M_needsOf_91 0 rfl rfl ?_
        refine fw_getR (pc := 92) d_M_needsOf_92 fl_M_28 fw_Mo0 rfl ?_
        refine fw_bipush (pc := 95) d_M_needsOf_95 fw_bp13 ?_
        refine fw_iload_n (pc := 97) d_M_needsOf_97 1 rfl rfl ?_
        refine fw_imul (pc := 98) d_M_needsOf_98 ?_
        refine fw_iconst (pc := 99) d_M_needsOf_99 fw_ic3 ?_
        refine fw_iadd (pc := 100) d_M_needsOf_100 ?_
        refine fw_iload_n (pc := 101) d_M_needsOf_101 2 rfl rfl ?_
        refine fw_iadd (pc := 102) d_M_needsOf_102 ?_
        obtain ⟨v103, e103, h⟩ := fw_be h
        refine fw_iald (pc := 103) d_M_needsOf_103 fw_Mo7 e103 ?_
        obtain ⟨μ104, e104, h⟩ := fw_be h
        refine fw_iast (pc := 104) d_M_needsOf_104 fw_Mo6 e104 ?_
        obtain ⟨v105, e105, h⟩ := fw_ne h
        refine fw_iinc2 (pc := 105) (j := 2) (lv1 := [(2, .int v105), (0, .ref 0), (1, .int a1)]) d_M_needsOf_105 rfl fw_ic1 e105 (by decide) rfl ?_
        refine fw_goto (pc := 108) (tgt := 78) d_M_needsOf_108 rfl ?_
        obtain rfl := Option.some.inj h
        exact fw_sub [1, 2, 0] rfl (hl _ rfl)
      ) _ _ w78)
  clear h
  exact fw_sub [1, 2, 0] rfl (fw_we (e := e24x) (fun (s : Int32 × fw_M) => fw_R "FewTypesModel" prog_11_method_45_code 4 (some .int) fw_Mo 5 (some r.1) r.2 24 [(0, .ref 0), (1, .int a1), (2, .int s.1)] [] s.2) (by
    intro s x h hl hr
    obtain ⟨x2_24, μ24⟩ := s
    rw [f_M_needsOf_L24] at h
    show fw_R "FewTypesModel" prog_11_method_45_code 4 (some .int) fw_Mo 5 (some r.1) r.2 24 [(0, .ref 0), (1, .int a1), (2, .int x2_24)] [] μ24
    refine fw_iload_n (pc := 24) d_M_needsOf_24 2 rfl rfl ?_
    refine fw_bipush (pc := 25) d_M_needsOf_25 fw_bp10 ?_
    refine fw_icmp_ge (pc := 27) (tgt := 48) d_M_needsOf_27 rfl (fun hc => ?_) (fun hc => ?_)
    · have h := fw_it hc h
      obtain rfl := Option.some.inj h
      have he := hr _ rfl
      subst he
      exact fw_sub [0, 1] rfl hE24
    · have h := fw_if hc h
      refine fw_aload_n (pc := 30) d_M_needsOf_30 0 rfl rfl ?_
      refine fw_getR (pc := 31) d_M_needsOf_31 fl_M_74 fw_Mo0 rfl ?_
      refine fw_iload_n (pc := 34) d_M_needsOf_34 2 rfl rfl ?_
      refine fw_aload_n (pc := 35) d_M_needsOf_35 0 rfl rfl ?_
      refine fw_getR (pc := 36) d_M_needsOf_36 fl_M_25 fw_Mo0 rfl ?_
      refine fw_iload_n (pc := 39) d_M_needsOf_39 2 rfl rfl ?_
      obtain ⟨v40, e40, h⟩ := fw_be h
      refine fw_iald (pc := 40) d_M_needsOf_40 fw_Mo6 e40 ?_
      obtain ⟨μ41, e41, h⟩ := fw_be h
      refine fw_iast (pc := 41) d_M_needsOf_41 fw_Mo22 e41 ?_
      obtain ⟨v42, e42, h⟩ := fw_ne h
      refine fw_iinc2 (pc := 42) (j := 2) (lv1 := [(2, .int v42), (0, .ref 0), (1, .int a1)]) d_M_needsOf_42 rfl fw_ic1 e42 (by decide) rfl ?_
      refine fw_goto (pc := 45) (tgt := 24) d_M_needsOf_45 rfl ?_
      obtain rfl := Option.some.inj h
      exact fw_sub [1, 2, 0] rfl (hl _ rfl)
    ) _ _ w24)
def f_M_needs (a1 : Int32) (μ : fw_M) : Option (Int32 × fw_M) :=
  (f_M_in (Int32.toInt64 a1) 0 (Int32.toInt64 ((μ.1 0 9) - 1))).bind fun (p10 : Int32) =>
  if p10 = 0 then
    some ((-1), μ)
  else
    (f_M_needsOf a1 μ).bind fun (p20 : Int32 × fw_M) =>
    fw_nm (
      if p20.1 ≤ 98 then
        p20.1
      else
        (-4)) fun (j27 : Int32) =>
    some (j27, p20.2)
set_option maxHeartbeats 4000000 in
set_option maxRecDepth 100000 in
theorem c_M_needs {a1 : Int32} {μ : fw_M} {r : Int32 × fw_M} (h : f_M_needs a1 μ = some r) : fw_Con Y_M_needs fw_Mo 6 [.ref 0, .int a1] (some r.1) μ r.2 := by
  refine fw_con (by decide) (Nat.le_of_ble_eq_true rfl) ?_
  rw [f_M_needs] at h
  show fw_R "FewTypesModel" prog_11_method_46_code 3 (some .int) fw_Mo 6 (some r.1) r.2 0 [(0, .ref 0), (1, .int a1)] [] μ
  refine fw_iload_n (pc := 0) d_M_needs_0 1 rfl rfl ?_
  refine fw_i2l (pc := 1) d_M_needs_1 ?_
  refine fw_lconst (pc := 2) d_M_needs_2 (v := 0) (by decide) ?_
  refine fw_aload_n (pc := 3) d_M_needs_3 0 rfl rfl ?_
  refine fw_getI (pc := 4) d_M_needs_4 fl_M_174 fw_Mo0 rfl ?_
  refine fw_iconst (pc := 7) d_M_needs_7 fw_ic1 ?_
  refine fw_isub (pc := 8) d_M_needs_8 ?_
  refine fw_i2l (pc := 9) d_M_needs_9 ?_
  obtain ⟨p10, e10, h⟩ := fw_be h
  refine fw_callSi (pc := 10) d_M_needs_10 ms_M_94 (c_M_in e10) (by decide) rfl rfl (Nat.le_of_ble_eq_true rfl) ?_
  refine fw_if_ne (pc := 13) (tgt := 18) d_M_needs_13 rfl (fun hc => ?_) (fun hc => ?_)
  · have h := fw_it hc h
    refine fw_iconst (pc := 16) d_M_needs_16 fw_icm1 ?_
    obtain rfl := Option.some.inj h
    exact fw_iret (pc := 17) d_M_needs_17 rfl
  · have h := fw_if hc h
    refine fw_aload_n (pc := 18) d_M_needs_18 0 rfl rfl ?_
    refine fw_iload_n (pc := 19) d_M_needs_19 1 rfl rfl ?_
    obtain ⟨p20, e20, h⟩ := fw_be h
    refine fw_callVi (pc := 20) d_M_needs_20 mv_M_225 fw_Mo0 (c_M_needsOf e20) (by decide) rfl rfl (Nat.le_of_ble_eq_true rfl) ?_
    refine fw_istore_n (pc := 23) (lv1 := [(2, .int p20.1), (0, .ref 0), (1, .int a1)]) d_M_needs_23 rfl (by decide) rfl ?_
    refine fw_iload_n (pc := 24) d_M_needs_24 0 rfl rfl ?_
    refine fw_bipush (pc := 25) d_M_needs_25 fw_bp98 ?_
    obtain ⟨j27, w27, h⟩ := fw_ne h
    have hJ27 : fw_R "FewTypesModel" prog_11_method_46_code 3 (some .int) fw_Mo 6 (some r.1) r.2 36 [] [.int j27] p20.2 := by
      obtain rfl := Option.some.inj h
      exact fw_iret (pc := 36) d_M_needs_36 rfl
    clear h
    have h := w27
    clear w27
    refine fw_icmp_le (pc := 27) (tgt := 35) d_M_needs_27 rfl (fun hc => ?_) (fun hc => ?_)
    · have h := h.trans (if_pos hc)
      refine fw_iload_n (pc := 35) d_M_needs_35 0 rfl rfl ?_
      subst h
      exact fw_sub [] rfl hJ27
    · have h := h.trans (if_neg hc)
      refine fw_bipush (pc := 30) d_M_needs_30 fw_bpm4 ?_
      refine fw_goto (pc := 32) (tgt := 36) d_M_needs_32 rfl ?_
      subst h
      exact fw_sub [] rfl hJ27
def f_M_lost_L14  : Int32 × Int32 × fw_M → Option ((Int32 × Int32 × fw_M) ⊕ (Int32 × fw_M))
  | (x2_14, x3_14, μ14) =>
  if (μ14.1 0 9) ≤ x3_14 then
    some (.inr (x2_14, μ14))
  else
    (f_M_needsOf x3_14 μ14).bind fun (p25 : Int32 × fw_M) =>
    fw_nm (
      if 99 ≤ p25.1 then
        0
      else
        ((1 : Int32) <<< (x3_14 &&& 31))) fun (j30 : Int32) =>
    fw_nm ((x2_14 ||| j30)) fun (v41 : Int32) =>
    fw_nm (x3_14 + 1) fun (v42 : Int32) =>
    some (.inl (v41, v42, p25.2))
def f_M_lost_L85  : Int32 × Int32 × fw_M → Option ((Int32 × Int32 × fw_M) ⊕ (Int32 × fw_M))
  | (x6_85, x7_85, μ85) =>
  if (μ85.1 0 9) ≤ x7_85 then
    some (.inr (x6_85, μ85))
  else
    (f_M_needsOf x7_85 μ85).bind fun (p99 : Int32 × fw_M) =>
    fw_nm (
      if 99 ≤ p99.1 then
        0
      else
        ((1 : Int32) <<< (x7_85 &&& 31))) fun (j104 : Int32) =>
    fw_nm ((x6_85 ||| j104)) fun (v116 : Int32) =>
    fw_nm (x7_85 + 1) fun (v118 : Int32) =>
    some (.inl (v116, v118, p99.2))
def f_M_lost (a1 : Int32) (μ : fw_M) : Option (Int32 × fw_M) :=
  (f_M_isOne a1 μ).bind fun (p2 : Int32) =>
  if p2 = 0 then
    some ((-1), μ)
  else
    (fw_wh (f_M_lost_L14) fw_N (0, 0, μ)).bind fun (e14x : Int32 × fw_M) =>
    (fw_rd 10 (e14x.2.1 1) a1).bind fun v53 =>
    (fw_rd 10 (e14x.2.1 2) a1).bind fun v60 =>
    (fw_rd 10 (e14x.2.1 3) a1).bind fun v68 =>
    (f_M_comes a1 0 (-1) 0 e14x.2).bind fun (p76 : fw_M) =>
    (fw_wh (f_M_lost_L85) fw_N (0, 0, p76)).bind fun (e85x : Int32 × fw_M) =>
    (f_M_comes a1 v53 v60 v68 e85x.2).bind fun (p131 : fw_M) =>
    some ((e14x.1 &&& (e85x.1 ^^^ (-1))), p131)
set_option maxHeartbeats 4000000 in
set_option maxRecDepth 100000 in
theorem c_M_lost {a1 : Int32} {μ : fw_M} {r : Int32 × fw_M} (h : f_M_lost a1 μ = some r) : fw_Con Y_M_lost fw_Mo 6 [.ref 0, .int a1] (some r.1) μ r.2 := by
  refine fw_con (by decide) (Nat.le_of_ble_eq_true rfl) ?_
  rw [f_M_lost] at h
  show fw_R "FewTypesModel" prog_11_method_47_code 8 (some .int) fw_Mo 6 (some r.1) r.2 0 [(0, .ref 0), (1, .int a1)] [] μ
  refine fw_aload_n (pc := 0) d_M_lost_0 0 rfl rfl ?_
  refine fw_iload_n (pc := 1) d_M_lost_1 1 rfl rfl ?_
  obtain ⟨p2, e2, h⟩ := fw_be h
  refine fw_callVi (pc := 2) d_M_lost_2 mv_M_116 fw_Mo0 (c_M_isOne e2) (by decide) rfl rfl (Nat.le_of_ble_eq_true rfl) ?_
  refine fw_if_ne (pc := 5) (tgt := 10) d_M_lost_5 rfl (fun hc => ?_) (fun hc => ?_)
  · have h := fw_it hc h
    refine fw_iconst (pc := 8) d_M_lost_8 fw_icm1 ?_
    obtain rfl := Option.some.inj h
    exact fw_iret (pc := 9) d_M_lost_9 rfl
  · have h := fw_if hc h
    refine fw_iconst (pc := 10) d_M_lost_10 fw_ic0 ?_
    refine fw_istore_n (pc := 11) (lv1 := [(2, .int 0), (0, .ref 0), (1, .int a1)]) d_M_lost_11 rfl (by decide) rfl ?_
    refine fw_iconst (pc := 12) d_M_lost_12 fw_ic0 ?_
    refine fw_istore_n (pc := 13) (lv1 := [(3, .int 0), (2, .int 0), (0, .ref 0), (1, .int a1)]) d_M_lost_13 rfl (by decide) rfl ?_
    obtain ⟨e14x, w14, h⟩ := fw_be h
    have hE14 : fw_R "FewTypesModel" prog_11_method_47_code 8 (some .int) fw_Mo 6 (some r.1) r.2 48 [(0, .ref 0), (1, .int a1), (2, .int e14x.1)] [] e14x.2 := by
      refine fw_aload_n (pc := 48) d_M_lost_48 0 rfl rfl ?_
      refine fw_getR (pc := 49) d_M_lost_49 fl_M_7 fw_Mo0 rfl ?_
      refine fw_iload_n (pc := 52) d_M_lost_52 1 rfl rfl ?_
      obtain ⟨v53, e53, h⟩ := fw_be h
      refine fw_iald (pc := 53) d_M_lost_53 fw_Mo1 e53 ?_
      refine fw_istore_n (pc := 54) (lv1 := [(3, .int v53), (0, .ref 0), (1, .int a1), (2, .int e14x.1)]) d_M_lost_54 rfl (by decide) rfl ?_
      refine fw_aload_n (pc := 55) d_M_lost_55 1 rfl rfl ?_
      refine fw_getR (pc := 56) d_M_lost_56 fl_M_13 fw_Mo0 rfl ?_
      refine fw_iload_n (pc := 59) d_M_lost_59 2 rfl rfl ?_
      obtain ⟨v60, e60, h⟩ := fw_be h
      refine fw_iald (pc := 60) d_M_lost_60 fw_Mo2 e60 ?_
      refine fw_istore (pc := 61) (lv1 := [(4, .int v60), (3, .int v53), (0, .ref 0), (1, .int a1), (2, .int e14x.1)]) d_M_lost_61 (by decide) rfl ?_
      refine fw_aload_n (pc := 63) d_M_lost_63 2 rfl rfl ?_
      refine fw_getR (pc := 64) d_M_lost_64 fl_M_16 fw_Mo0 rfl ?_
      refine fw_iload_n (pc := 67) d_M_lost_67 3 rfl rfl ?_
      obtain ⟨v68, e68, h⟩ := fw_be h
      refine fw_iald (pc := 68) d_M_lost_68 fw_Mo3 e68 ?_
      refine fw_istore (pc := 69) (lv1 := [(5, .int v68), (4, .int v60), (3, .int v53), (0, .ref 0), (1, .int a1), (2, .int e14x.1)]) d_M_lost_69 (by decide) rfl ?_
      refine fw_aload_n (pc := 71) d_M_lost_71 3 rfl rfl ?_
      refine fw_iload_n (pc := 72) d_M_lost_72 4 rfl rfl ?_
      refine fw_iconst (pc := 73) d_M_lost_73 fw_ic0 ?_
      refine fw_iconst (pc := 74) d_M_lost_74 fw_icm1 ?_
      refine fw_iconst (pc := 75) d_M_lost_75 fw_ic0 ?_
      obtain ⟨p76, e76, h⟩ := fw_be h
      refine fw_callVv (pc := 76) d_M_lost_76 mv_M_112 fw_Mo0 (c_M_comes e76) (by decide) rfl rfl (Nat.le_of_ble_eq_true rfl) ?_
      refine fw_iconst (pc := 79) d_M_lost_79 fw_ic0 ?_
      refine fw_istore (pc := 80) (lv1 := [(6, .int 0), (5, .int v68), (4, .int v60), (3, .int v53), (0, .ref 0), (1, .int a1), (2, .int e14x.1)]) d_M_lost_80 (by decide) rfl ?_
      refine fw_iconst (pc := 82) d_M_lost_82 fw_ic0 ?_
      refine fw_istore (pc := 83) (lv1 := [(7, .int 0), (6, .int 0), (5, .int v68), (4, .int v60), (3, .int v53), (0, .ref 0), (1, .int a1), (2, .int e14x.1)]) d_M_lost_83 (by decide) rfl ?_
      obtain ⟨e85x, w85, h⟩ := fw_be h
      have hE85 : fw_R "FewTypesModel" prog_11_method_47_code 8 (some .int) fw_Mo 6 (some r.1) r.2 124 [(0, .ref 0), (1, .int a1), (2, .int e14x.1), (3, .int v53), (4, .int v60), (5, .int v68), (6, .int e85x.1)] [] e85x.2 := by
        refine fw_aload_n (pc := 124) d_M_lost_124 0 rfl rfl ?_
        refine fw_iload_n (pc := 125) d_M_lost_125 1 rfl rfl ?_
        refine fw_iload_n (pc := 126) d_M_lost_126 3 rfl rfl ?_
        refine fw_iload (pc := 127) d_M_lost_127 4 rfl ?_
        refine fw_iload (pc := 129) d_M_lost_129 5 rfl ?_
        obtain ⟨p131, e131, h⟩ := fw_be h
        refine fw_callVv (pc := 131) d_M_lost_131 mv_M_112 fw_Mo0 (c_M_comes e131) (by decide) rfl rfl (Nat.le_of_ble_eq_true rfl) ?_
        refine fw_iload_n (pc := 134) d_M_lost_134 2 rfl rfl ?_
        refine fw_iload (pc := 135) d_M_lost_135 6 rfl ?_
        refine fw_iconst (pc := 137) d_M_lost_137 fw_icm1 ?_
        refine fw_ixor (pc := 138) d_M_lost_138 ?_
        refine fw_iand (pc := 139) d_M_lost_139 ?_
        obtain rfl := Option.some.inj h
        exact fw_iret (pc := 140) d_M_lost_140 rfl
      clear h
      exact fw_sub [5, 6, 7, 4, 3, 2, 1, 0] rfl (fw_we (e := e85x) (fun (s : Int32 × Int32 × fw_M) => fw_R "FewTypesModel" prog_11_method_47_code 8 (some .int) fw_Mo 6 (some r.1) r.2 85 [(0, .ref 0), (1, .int a1), (2, .int e14x.1), (3, .int v53), (4, .int v60), (5, .int v68), (6, .int s.1), (7, .int s.2.1)] [] s.2.2) (by
        intro s x h hl hr
        obtain ⟨x6_85, x7_85, μ85⟩ := s
        rw [f_M_lost_L85] at h
        show fw_R "FewTypesModel" prog_11_method_47_code 8 (some .int) fw_Mo 6 (some r.1) r.2 85 [(0, .ref 0), (1, .int a1), (2, .int e14x.1), (3, .int v53), (4, .int v60), (5, .int v68), (6, .int x6_85), (7, .int x7_85)] [] μ85
        refine fw_iload (pc := 85) d_M_lost_85 7 rfl ?_
        refine fw_aload_n (pc := 87) d_M_lost_87 0 rfl rfl ?_
        refine fw_getI (pc := 88) d_M_lost_88 fl_M_174 fw_Mo0 rfl ?_
        refine fw_icmp_ge (pc := 91) (tgt := 124) d_M_lost_91 rfl (fun hc => ?_) (fun hc => ?_)
        · have h := fw_it hc h
          obtain rfl := Option.some.inj h
          have he := hr _ rfl
          subst he
          exact fw_sub [0, 1, 2, 3, 4, 5, 6] rfl hE85
        · have h := fw_if hc h
          refine fw_iload (pc := 94) d_M_lost_94 6 rfl ?_
          refine fw_aload_n (pc := 96) d_M_lost_96 0 rfl rfl ?_
          refine fw_iload (pc := 97) d_M_lost_97 7 rfl ?_
          obtain ⟨p99, e99, h⟩ := fw_be h
          refine fw_callVi (pc := 99) d_M_lost_99 mv_M_225 fw_Mo0 (c_M_needsOf e99) (by decide) rfl rfl (Nat.le_of_ble_eq_true rfl) ?_
          refine fw_bipush (pc := 102) d_M_lost_102 fw_bp99 ?_
          obtain ⟨j104, w104, h⟩ := fw_ne h
          have hJ104 : fw_R "FewTypesModel" prog_11_method_47_code 8 (some .int) fw_Mo 6 (some r.1) r.2 115 [(0, .ref 0), (1, .int a1), (2, .int e14x.1), (3, .int v53), (4, .int v60), (5, .int v68), (7, .int x7_85)] [.int j104, .int x6_85] p99.2 := by
            refine fw_ior (pc := 115) d_M_lost_115 ?_
            obtain ⟨v116, e116, h⟩ := fw_ne h
            refine fw_top e116 ?_
            refine fw_istore (pc := 116) (lv1 := [(6, .int v116), (0, .ref 0), (1, .int a1), (2, .int e14x.1), (3, .int v53), (4, .int v60), (5, .int v68), (7, .int x7_85)]) d_M_lost_116 (by decide) rfl ?_
            obtain ⟨v118, e118, h⟩ := fw_ne h
            refine fw_iinc2 (pc := 118) (j := 7) (lv1 := [(7, .int v118), (6, .int v116), (0, .ref 0), (1, .int a1), (2, .int e14x.1), (3, .int v53), (4, .int v60), (5, .int v68)]) d_M_lost_118 rfl fw_ic1 e118 (by decide) rfl ?_
            refine fw_goto (pc := 121) (tgt := 85) d_M_lost_121 rfl ?_
            obtain rfl := Option.some.inj h
            exact fw_sub [2, 3, 4, 5, 6, 7, 1, 0] rfl (hl _ rfl)
          clear h
          have h := w104
          clear w104
          refine fw_icmp_ge (pc := 104) (tgt := 114) d_M_lost_104 rfl (fun hc => ?_) (fun hc => ?_)
          · have h := h.trans (if_pos hc)
            refine fw_iconst (pc := 114) d_M_lost_114 fw_ic0 ?_
            subst h
            exact fw_sub [0, 1, 2, 3, 4, 5, 7] rfl hJ104
          · have h := h.trans (if_neg hc)
            refine fw_iconst (pc := 107) d_M_lost_107 fw_ic1 ?_
            refine fw_iload (pc := 108) d_M_lost_108 7 rfl ?_
            refine fw_ishl (pc := 110) d_M_lost_110 ?_
            refine fw_goto (pc := 111) (tgt := 115) d_M_lost_111 rfl ?_
            subst h
            exact fw_sub [0, 1, 2, 3, 4, 5, 7] rfl hJ104
        ) _ _ w85)
    clear h
    exact fw_sub [2, 3, 1, 0] rfl (fw_we (e := e14x) (fun (s : Int32 × Int32 × fw_M) => fw_R "FewTypesModel" prog_11_method_47_code 8 (some .int) fw_Mo 6 (some r.1) r.2 14 [(0, .ref 0), (1, .int a1), (2, .int s.1), (3, .int s.2.1)] [] s.2.2) (by
      intro s x h hl hr
      obtain ⟨x2_14, x3_14, μ14⟩ := s
      rw [f_M_lost_L14] at h
      show fw_R "FewTypesModel" prog_11_method_47_code 8 (some .int) fw_Mo 6 (some r.1) r.2 14 [(0, .ref 0), (1, .int a1), (2, .int x2_14), (3, .int x3_14)] [] μ14
      refine fw_iload_n (pc := 14) d_M_lost_14 3 rfl rfl ?_
      refine fw_aload_n (pc := 15) d_M_lost_15 0 rfl rfl ?_
      refine fw_getI (pc := 16) d_M_lost_16 fl_M_174 fw_Mo0 rfl ?_
      refine fw_icmp_ge (pc := 19) (tgt := 48) d_M_lost_19 rfl (fun hc => ?_) (fun hc => ?_)
      · have h := fw_it hc h
        obtain rfl := Option.some.inj h
        have he := hr _ rfl
        subst he
        exact fw_sub [0, 1, 2] rfl hE14
      · have h := fw_if hc h
        refine fw_iload_n (pc := 22) d_M_lost_22 2 rfl rfl ?_
        refine fw_aload_n (pc := 23) d_M_lost_23 0 rfl rfl ?_
        refine fw_iload_n (pc := 24) d_M_lost_24 3 rfl rfl ?_
        obtain ⟨p25, e25, h⟩ := fw_be h
        refine fw_callVi (pc := 25) d_M_lost_25 mv_M_225 fw_Mo0 (c_M_needsOf e25) (by decide) rfl rfl (Nat.le_of_ble_eq_true rfl) ?_
        refine fw_bipush (pc := 28) d_M_lost_28 fw_bp99 ?_
        obtain ⟨j30, w30, h⟩ := fw_ne h
        have hJ30 : fw_R "FewTypesModel" prog_11_method_47_code 8 (some .int) fw_Mo 6 (some r.1) r.2 40 [(0, .ref 0), (1, .int a1), (3, .int x3_14)] [.int j30, .int x2_14] p25.2 := by
          refine fw_ior (pc := 40) d_M_lost_40 ?_
          obtain ⟨v41, e41, h⟩ := fw_ne h
          refine fw_top e41 ?_
          refine fw_istore_n (pc := 41) (lv1 := [(2, .int v41), (0, .ref 0), (1, .int a1), (3, .int x3_14)]) d_M_lost_41 rfl (by decide) rfl ?_
          obtain ⟨v42, e42, h⟩ := fw_ne h
          refine fw_iinc2 (pc := 42) (j := 3) (lv1 := [(3, .int v42), (2, .int v41), (0, .ref 0), (1, .int a1)]) d_M_lost_42 rfl fw_ic1 e42 (by decide) rfl ?_
          refine fw_goto (pc := 45) (tgt := 14) d_M_lost_45 rfl ?_
          obtain rfl := Option.some.inj h
          exact fw_sub [2, 3, 1, 0] rfl (hl _ rfl)
        clear h
        have h := w30
        clear w30
        refine fw_icmp_ge (pc := 30) (tgt := 39) d_M_lost_30 rfl (fun hc => ?_) (fun hc => ?_)
        · have h := h.trans (if_pos hc)
          refine fw_iconst (pc := 39) d_M_lost_39 fw_ic0 ?_
          subst h
          exact fw_sub [0, 1, 3] rfl hJ30
        · have h := h.trans (if_neg hc)
          refine fw_iconst (pc := 33) d_M_lost_33 fw_ic1 ?_
          refine fw_iload_n (pc := 34) d_M_lost_34 3 rfl rfl ?_
          refine fw_ishl (pc := 35) d_M_lost_35 ?_
          refine fw_goto (pc := 36) (tgt := 40) d_M_lost_36 rfl ?_
          subst h
          exact fw_sub [0, 1, 3] rfl hJ30
      ) _ _ w14)
