abbrev Y_M_said : fw_Y := (⟨"FewTypesModel", "said", "(I)I"⟩, prog_11_method_48_code, 6, (some .int))
abbrev Y_M_job : fw_Y := (⟨"FewTypesModel", "job", "(II)I"⟩, prog_11_method_49_code, 3, (some .int))
abbrev Y_M_size : fw_Y := (⟨"FewTypesModel", "size", "(I)I"⟩, prog_11_method_50_code, 3, (some .int))
abbrev Y_M_isDone : fw_Y := (⟨"FewTypesModel", "isDone", "(I)Z"⟩, prog_11_method_51_code, 6, (some .boolean))
abbrev Y_M_done : fw_Y := (⟨"FewTypesModel", "done", "()I"⟩, prog_11_method_52_code, 3, (some .int))
abbrev Y_M_clear : fw_Y := (⟨"FewTypesModel", "clear", "()I"⟩, prog_11_method_53_code, 2, (some .int))
abbrev Y_M_lay : fw_Y := (⟨"FewTypesModel", "lay", "([II)I"⟩, prog_11_method_54_code, 4, (some .int))
abbrev Y_M_image : fw_Y := (⟨"FewTypesModel", "image", "()I"⟩, prog_11_method_56_code, 2, (some .int))
abbrev Y_M_gives : fw_Y := (⟨"FewTypesModel", "gives", "(I[I)I"⟩, prog_11_method_55_code, 4, (some .int))
abbrev Y_M_restore : fw_Y := (⟨"FewTypesModel", "restore", "()I"⟩, prog_11_method_57_code, 2, (some .int))
abbrev Y_M_isSheet : fw_Y := (⟨"FewTypesModel", "isSheet", "(I)Z"⟩, prog_11_method_58_code, 1, (some .boolean))
abbrev Y_M_isLane : fw_Y := (⟨"FewTypesModel", "isLane", "(I)Z"⟩, prog_11_method_59_code, 1, (some .boolean))
abbrev Y_M_finds : fw_Y := (⟨"FewTypesModel", "finds", "(IIII)I"⟩, prog_11_method_60_code, 5, (some .int))
theorem cl_M_228 : Cond.constantLong "FewTypesModel" 228 24 ∈ fw_tb := fw_m 1162 (by decide +kernel) (by decide +kernel)
theorem cl_M_230 : Cond.constantLong "FewTypesModel" 230 200 ∈ fw_tb := fw_m 1163 (by decide +kernel) (by decide +kernel)
theorem fl_M_31 : fw_FL "FewTypesModel" 31 9 12 := ⟨_, _, _, rfl, fw_i9, by decide, fw_m 865 (by decide +kernel) (by decide +kernel)⟩
theorem fl_M_34 : fw_FL "FewTypesModel" 34 9 13 := ⟨_, _, _, rfl, fw_i9, by decide, fw_m 866 (by decide +kernel) (by decide +kernel)⟩
theorem fp_M_177 : fw_FP "FewTypesModel" 177 9 11 .int := ⟨_, _, _, fw_t9, rfl, fw_i9, by decide, fw_m 864 (by decide +kernel) (by decide +kernel), fw_k9, fw_n9, rfl, by decide +kernel⟩
theorem ms_M_232 : fw_MS "FewTypesModel" 232 Y_M_size 1 := ⟨fw_m 1168 (by decide +kernel) (by decide +kernel), fw_m 1169 (by decide +kernel) (by decide +kernel), fw_m 70 (by decide +kernel) (by decide +kernel), fw_m 1170 (by decide +kernel) (by decide +kernel), ⟨by decide +kernel, by decide +kernel, by decide +kernel⟩, by decide⟩
theorem mv_M_235 : fw_MV "FewTypesModel" 235 Y_M_isDone 9 1 := ⟨fw_m 1171 (by decide +kernel) (by decide +kernel), fw_m 1173 (by decide +kernel) (by decide +kernel), fw_m 54 (by decide +kernel) (by decide +kernel), fw_m 70 (by decide +kernel) (by decide +kernel), fw_m 1174 (by decide +kernel) (by decide +kernel), ⟨by decide +kernel, by decide +kernel, by decide +kernel⟩, by decide, _, _, rfl⟩
theorem mv_M_238 : fw_MV "FewTypesModel" 238 Y_M_lay 9 2 := ⟨fw_m 1183 (by decide +kernel) (by decide +kernel), fw_m 1185 (by decide +kernel) (by decide +kernel), fw_m 55 (by decide +kernel) (by decide +kernel), fw_m 70 (by decide +kernel) (by decide +kernel), fw_m 1186 (by decide +kernel) (by decide +kernel), ⟨by decide +kernel, by decide +kernel, by decide +kernel⟩, by decide, _, _, rfl⟩
theorem fl_M_77 : fw_FL "FewTypesModel" 77 9 31 := ⟨_, _, _, rfl, fw_i9, by decide, fw_m 884 (by decide +kernel) (by decide +kernel)⟩
theorem fp_M_242 : fw_FP "FewTypesModel" 242 9 32 .boolean := ⟨_, _, _, fw_t9, rfl, fw_i9, by decide, fw_m 885 (by decide +kernel) (by decide +kernel), fw_k9, fw_n9, rfl, by decide +kernel⟩
theorem fl_M_242 : fw_FL "FewTypesModel" 242 9 32 := ⟨_, _, _, rfl, fw_i9, by decide, fw_m 885 (by decide +kernel) (by decide +kernel)⟩
theorem mv_M_245 : fw_MV "FewTypesModel" 245 Y_M_gives 9 2 := ⟨fw_m 1191 (by decide +kernel) (by decide +kernel), fw_m 1193 (by decide +kernel) (by decide +kernel), fw_m 56 (by decide +kernel) (by decide +kernel), fw_m 70 (by decide +kernel) (by decide +kernel), fw_m 1194 (by decide +kernel) (by decide +kernel), ⟨by decide +kernel, by decide +kernel, by decide +kernel⟩, by decide, _, _, rfl⟩
theorem fl_M_80 : fw_FL "FewTypesModel" 80 9 33 := ⟨_, _, _, rfl, fw_i9, by decide, fw_m 886 (by decide +kernel) (by decide +kernel)⟩
theorem fl_M_83 : fw_FL "FewTypesModel" 83 9 34 := ⟨_, _, _, rfl, fw_i9, by decide, fw_m 887 (by decide +kernel) (by decide +kernel)⟩
theorem d_M_said_0 : decode prog_11_method_48_code 0 = .ok (.iload_n 1, 1) := by decide +kernel
theorem d_M_said_1 : decode prog_11_method_48_code 1 = .ok (.i2l, 1) := by decide +kernel
theorem d_M_said_2 : decode prog_11_method_48_code 2 = .ok (.lconst 0, 1) := by decide +kernel
theorem d_M_said_3 : decode prog_11_method_48_code 3 = .ok (.ldc2_w 127, 3) := by decide +kernel
theorem d_M_said_6 : decode prog_11_method_48_code 6 = .ok (.invokestatic 94, 3) := by decide +kernel
theorem d_M_said_9 : decode prog_11_method_48_code 9 = .ok (.ifCond .ne 5, 3) := by decide +kernel
theorem d_M_said_12 : decode prog_11_method_48_code 12 = .ok (.iconst (-1), 1) := by decide +kernel
theorem d_M_said_13 : decode prog_11_method_48_code 13 = .ok (.ireturn, 1) := by decide +kernel
theorem d_M_said_14 : decode prog_11_method_48_code 14 = .ok (.bipush (-4), 2) := by decide +kernel
theorem d_M_said_16 : decode prog_11_method_48_code 16 = .ok (.istore_n 2, 1) := by decide +kernel
theorem d_M_said_17 : decode prog_11_method_48_code 17 = .ok (.bipush 99, 2) := by decide +kernel
theorem d_M_said_19 : decode prog_11_method_48_code 19 = .ok (.istore_n 3, 1) := by decide +kernel
theorem d_M_said_20 : decode prog_11_method_48_code 20 = .ok (.iconst 0, 1) := by decide +kernel
theorem d_M_said_21 : decode prog_11_method_48_code 21 = .ok (.istore 4, 2) := by decide +kernel
theorem d_M_said_23 : decode prog_11_method_48_code 23 = .ok (.iload 4, 2) := by decide +kernel
theorem d_M_said_25 : decode prog_11_method_48_code 25 = .ok (.aload_n 0, 1) := by decide +kernel
theorem d_M_said_26 : decode prog_11_method_48_code 26 = .ok (.getfield 174, 3) := by decide +kernel
theorem d_M_said_29 : decode prog_11_method_48_code 29 = .ok (.if_icmp .ge 64, 3) := by decide +kernel
theorem d_M_said_32 : decode prog_11_method_48_code 32 = .ok (.aload_n 0, 1) := by decide +kernel
theorem d_M_said_33 : decode prog_11_method_48_code 33 = .ok (.getfield 28, 3) := by decide +kernel
theorem d_M_said_36 : decode prog_11_method_48_code 36 = .ok (.bipush 13, 2) := by decide +kernel
theorem d_M_said_38 : decode prog_11_method_48_code 38 = .ok (.iload 4, 2) := by decide +kernel
theorem d_M_said_40 : decode prog_11_method_48_code 40 = .ok (.imul, 1) := by decide +kernel
theorem d_M_said_41 : decode prog_11_method_48_code 41 = .ok (.iconst 2, 1) := by decide +kernel
theorem d_M_said_42 : decode prog_11_method_48_code 42 = .ok (.iadd, 1) := by decide +kernel
theorem d_M_said_43 : decode prog_11_method_48_code 43 = .ok (.iaload, 1) := by decide +kernel
theorem d_M_said_44 : decode prog_11_method_48_code 44 = .ok (.iload_n 1, 1) := by decide +kernel
theorem d_M_said_45 : decode prog_11_method_48_code 45 = .ok (.if_icmp .ne 12, 3) := by decide +kernel
theorem d_M_said_48 : decode prog_11_method_48_code 48 = .ok (.aload_n 0, 1) := by decide +kernel
theorem d_M_said_49 : decode prog_11_method_48_code 49 = .ok (.iload 4, 2) := by decide +kernel
theorem d_M_said_51 : decode prog_11_method_48_code 51 = .ok (.invokevirtual 225, 3) := by decide +kernel
theorem d_M_said_54 : decode prog_11_method_48_code 54 = .ok (.goto 5, 3) := by decide +kernel
theorem d_M_said_57 : decode prog_11_method_48_code 57 = .ok (.bipush 99, 2) := by decide +kernel
theorem d_M_said_59 : decode prog_11_method_48_code 59 = .ok (.istore 5, 2) := by decide +kernel
theorem d_M_said_61 : decode prog_11_method_48_code 61 = .ok (.iload 5, 2) := by decide +kernel
theorem d_M_said_63 : decode prog_11_method_48_code 63 = .ok (.iload_n 3, 1) := by decide +kernel
theorem d_M_said_64 : decode prog_11_method_48_code 64 = .ok (.if_icmp .ge 8, 3) := by decide +kernel
theorem d_M_said_67 : decode prog_11_method_48_code 67 = .ok (.iload 4, 2) := by decide +kernel
theorem d_M_said_69 : decode prog_11_method_48_code 69 = .ok (.goto 4, 3) := by decide +kernel
theorem d_M_said_72 : decode prog_11_method_48_code 72 = .ok (.iload_n 2, 1) := by decide +kernel
theorem d_M_said_73 : decode prog_11_method_48_code 73 = .ok (.istore_n 2, 1) := by decide +kernel
theorem d_M_said_74 : decode prog_11_method_48_code 74 = .ok (.iload 5, 2) := by decide +kernel
theorem d_M_said_76 : decode prog_11_method_48_code 76 = .ok (.iload_n 3, 1) := by decide +kernel
theorem d_M_said_77 : decode prog_11_method_48_code 77 = .ok (.if_icmp .ge 8, 3) := by decide +kernel
theorem d_M_said_80 : decode prog_11_method_48_code 80 = .ok (.iload 5, 2) := by decide +kernel
theorem d_M_said_82 : decode prog_11_method_48_code 82 = .ok (.goto 4, 3) := by decide +kernel
theorem d_M_said_85 : decode prog_11_method_48_code 85 = .ok (.iload_n 3, 1) := by decide +kernel
theorem d_M_said_86 : decode prog_11_method_48_code 86 = .ok (.istore_n 3, 1) := by decide +kernel
theorem d_M_said_87 : decode prog_11_method_48_code 87 = .ok (.iinc 4 1, 3) := by decide +kernel
theorem d_M_said_90 : decode prog_11_method_48_code 90 = .ok (.goto (-67), 3) := by decide +kernel
theorem d_M_said_93 : decode prog_11_method_48_code 93 = .ok (.iload_n 2, 1) := by decide +kernel
theorem d_M_said_94 : decode prog_11_method_48_code 94 = .ok (.ireturn, 1) := by decide +kernel
theorem d_M_job_0 : decode prog_11_method_49_code 0 = .ok (.iload_n 1, 1) := by decide +kernel
theorem d_M_job_1 : decode prog_11_method_49_code 1 = .ok (.i2l, 1) := by decide +kernel
theorem d_M_job_2 : decode prog_11_method_49_code 2 = .ok (.lconst 1, 1) := by decide +kernel
theorem d_M_job_3 : decode prog_11_method_49_code 3 = .ok (.ldc2_w 228, 3) := by decide +kernel
theorem d_M_job_6 : decode prog_11_method_49_code 6 = .ok (.invokestatic 94, 3) := by decide +kernel
theorem d_M_job_9 : decode prog_11_method_49_code 9 = .ok (.ifCond .eq 15, 3) := by decide +kernel
theorem d_M_job_12 : decode prog_11_method_49_code 12 = .ok (.iload_n 2, 1) := by decide +kernel
theorem d_M_job_13 : decode prog_11_method_49_code 13 = .ok (.i2l, 1) := by decide +kernel
theorem d_M_job_14 : decode prog_11_method_49_code 14 = .ok (.lconst 1, 1) := by decide +kernel
theorem d_M_job_15 : decode prog_11_method_49_code 15 = .ok (.ldc2_w 230, 3) := by decide +kernel
theorem d_M_job_18 : decode prog_11_method_49_code 18 = .ok (.invokestatic 94, 3) := by decide +kernel
theorem d_M_job_21 : decode prog_11_method_49_code 21 = .ok (.ifCond .ne 5, 3) := by decide +kernel
theorem d_M_job_24 : decode prog_11_method_49_code 24 = .ok (.iconst (-1), 1) := by decide +kernel
theorem d_M_job_25 : decode prog_11_method_49_code 25 = .ok (.ireturn, 1) := by decide +kernel
theorem d_M_job_26 : decode prog_11_method_49_code 26 = .ok (.aload_n 0, 1) := by decide +kernel
theorem d_M_job_27 : decode prog_11_method_49_code 27 = .ok (.getfield 177, 3) := by decide +kernel
theorem d_M_job_30 : decode prog_11_method_49_code 30 = .ok (.bipush 8, 2) := by decide +kernel
theorem d_M_job_32 : decode prog_11_method_49_code 32 = .ok (.if_icmp .ne 6, 3) := by decide +kernel
theorem d_M_job_35 : decode prog_11_method_49_code 35 = .ok (.bipush (-3), 2) := by decide +kernel
theorem d_M_job_37 : decode prog_11_method_49_code 37 = .ok (.ireturn, 1) := by decide +kernel
theorem d_M_job_38 : decode prog_11_method_49_code 38 = .ok (.aload_n 0, 1) := by decide +kernel
theorem d_M_job_39 : decode prog_11_method_49_code 39 = .ok (.getfield 31, 3) := by decide +kernel
theorem d_M_job_42 : decode prog_11_method_49_code 42 = .ok (.aload_n 0, 1) := by decide +kernel
theorem d_M_job_43 : decode prog_11_method_49_code 43 = .ok (.getfield 177, 3) := by decide +kernel
theorem d_M_job_46 : decode prog_11_method_49_code 46 = .ok (.iload_n 1, 1) := by decide +kernel
theorem d_M_job_47 : decode prog_11_method_49_code 47 = .ok (.iastore, 1) := by decide +kernel
theorem d_M_job_48 : decode prog_11_method_49_code 48 = .ok (.aload_n 0, 1) := by decide +kernel
theorem d_M_job_49 : decode prog_11_method_49_code 49 = .ok (.getfield 34, 3) := by decide +kernel
theorem d_M_job_52 : decode prog_11_method_49_code 52 = .ok (.aload_n 0, 1) := by decide +kernel
theorem d_M_job_53 : decode prog_11_method_49_code 53 = .ok (.getfield 177, 3) := by decide +kernel
theorem d_M_job_56 : decode prog_11_method_49_code 56 = .ok (.iload_n 2, 1) := by decide +kernel
theorem d_M_job_57 : decode prog_11_method_49_code 57 = .ok (.iastore, 1) := by decide +kernel
theorem d_M_job_58 : decode prog_11_method_49_code 58 = .ok (.aload_n 0, 1) := by decide +kernel
theorem d_M_job_59 : decode prog_11_method_49_code 59 = .ok (.dup, 1) := by decide +kernel
theorem d_M_job_60 : decode prog_11_method_49_code 60 = .ok (.getfield 177, 3) := by decide +kernel
theorem d_M_job_63 : decode prog_11_method_49_code 63 = .ok (.iconst 1, 1) := by decide +kernel
theorem d_M_job_64 : decode prog_11_method_49_code 64 = .ok (.iadd, 1) := by decide +kernel
theorem d_M_job_65 : decode prog_11_method_49_code 65 = .ok (.putfield 177, 3) := by decide +kernel
theorem d_M_job_68 : decode prog_11_method_49_code 68 = .ok (.aload_n 0, 1) := by decide +kernel
theorem d_M_job_69 : decode prog_11_method_49_code 69 = .ok (.getfield 177, 3) := by decide +kernel
theorem d_M_job_72 : decode prog_11_method_49_code 72 = .ok (.iconst 1, 1) := by decide +kernel
theorem d_M_job_73 : decode prog_11_method_49_code 73 = .ok (.isub, 1) := by decide +kernel
theorem d_M_job_74 : decode prog_11_method_49_code 74 = .ok (.ireturn, 1) := by decide +kernel
theorem d_M_size_0 : decode prog_11_method_50_code 0 = .ok (.iconst 0, 1) := by decide +kernel
theorem d_M_size_1 : decode prog_11_method_50_code 1 = .ok (.istore_n 1, 1) := by decide +kernel
theorem d_M_size_2 : decode prog_11_method_50_code 2 = .ok (.iload_n 0, 1) := by decide +kernel
theorem d_M_size_3 : decode prog_11_method_50_code 3 = .ok (.istore_n 2, 1) := by decide +kernel
theorem d_M_size_4 : decode prog_11_method_50_code 4 = .ok (.iload_n 2, 1) := by decide +kernel
theorem d_M_size_5 : decode prog_11_method_50_code 5 = .ok (.ifCond .eq 15, 3) := by decide +kernel
theorem d_M_size_8 : decode prog_11_method_50_code 8 = .ok (.iinc 1 1, 3) := by decide +kernel
theorem d_M_size_11 : decode prog_11_method_50_code 11 = .ok (.iload_n 2, 1) := by decide +kernel
theorem d_M_size_12 : decode prog_11_method_50_code 12 = .ok (.iload_n 2, 1) := by decide +kernel
theorem d_M_size_13 : decode prog_11_method_50_code 13 = .ok (.iconst 1, 1) := by decide +kernel
theorem d_M_size_14 : decode prog_11_method_50_code 14 = .ok (.isub, 1) := by decide +kernel
theorem d_M_size_15 : decode prog_11_method_50_code 15 = .ok (.iand, 1) := by decide +kernel
theorem d_M_size_16 : decode prog_11_method_50_code 16 = .ok (.istore_n 2, 1) := by decide +kernel
theorem d_M_size_17 : decode prog_11_method_50_code 17 = .ok (.goto (-13), 3) := by decide +kernel
theorem d_M_size_20 : decode prog_11_method_50_code 20 = .ok (.iload_n 1, 1) := by decide +kernel
theorem d_M_size_21 : decode prog_11_method_50_code 21 = .ok (.ireturn, 1) := by decide +kernel
theorem d_M_isDone_0 : decode prog_11_method_51_code 0 = .ok (.iconst 1, 1) := by decide +kernel
theorem d_M_isDone_1 : decode prog_11_method_51_code 1 = .ok (.istore_n 2, 1) := by decide +kernel
theorem d_M_isDone_2 : decode prog_11_method_51_code 2 = .ok (.iconst 0, 1) := by decide +kernel
theorem d_M_isDone_3 : decode prog_11_method_51_code 3 = .ok (.istore_n 3, 1) := by decide +kernel
theorem d_M_isDone_4 : decode prog_11_method_51_code 4 = .ok (.iload_n 3, 1) := by decide +kernel
theorem d_M_isDone_5 : decode prog_11_method_51_code 5 = .ok (.aload_n 0, 1) := by decide +kernel
theorem d_M_isDone_6 : decode prog_11_method_51_code 6 = .ok (.getfield 177, 3) := by decide +kernel
theorem d_M_isDone_9 : decode prog_11_method_51_code 9 = .ok (.if_icmp .ge 101, 3) := by decide +kernel
theorem d_M_isDone_12 : decode prog_11_method_51_code 12 = .ok (.iconst 0, 1) := by decide +kernel
theorem d_M_isDone_13 : decode prog_11_method_51_code 13 = .ok (.istore 4, 2) := by decide +kernel
theorem d_M_isDone_15 : decode prog_11_method_51_code 15 = .ok (.iconst 0, 1) := by decide +kernel
theorem d_M_isDone_16 : decode prog_11_method_51_code 16 = .ok (.istore 5, 2) := by decide +kernel
theorem d_M_isDone_18 : decode prog_11_method_51_code 18 = .ok (.iload 5, 2) := by decide +kernel
theorem d_M_isDone_20 : decode prog_11_method_51_code 20 = .ok (.aload_n 0, 1) := by decide +kernel
theorem d_M_isDone_21 : decode prog_11_method_51_code 21 = .ok (.getfield 177, 3) := by decide +kernel
theorem d_M_isDone_24 : decode prog_11_method_51_code 24 = .ok (.if_icmp .ge 51, 3) := by decide +kernel
theorem d_M_isDone_27 : decode prog_11_method_51_code 27 = .ok (.iload 4, 2) := by decide +kernel
theorem d_M_isDone_29 : decode prog_11_method_51_code 29 = .ok (.iload_n 1, 1) := by decide +kernel
theorem d_M_isDone_30 : decode prog_11_method_51_code 30 = .ok (.iload 5, 2) := by decide +kernel
theorem d_M_isDone_32 : decode prog_11_method_51_code 32 = .ok (.ishr, 1) := by decide +kernel
theorem d_M_isDone_33 : decode prog_11_method_51_code 33 = .ok (.iconst 1, 1) := by decide +kernel
theorem d_M_isDone_34 : decode prog_11_method_51_code 34 = .ok (.iand, 1) := by decide +kernel
theorem d_M_isDone_35 : decode prog_11_method_51_code 35 = .ok (.iconst 1, 1) := by decide +kernel
theorem d_M_isDone_36 : decode prog_11_method_51_code 36 = .ok (.if_icmp .ne 29, 3) := by decide +kernel
theorem d_M_isDone_39 : decode prog_11_method_51_code 39 = .ok (.aload_n 0, 1) := by decide +kernel
theorem d_M_isDone_40 : decode prog_11_method_51_code 40 = .ok (.getfield 34, 3) := by decide +kernel
theorem d_M_isDone_43 : decode prog_11_method_51_code 43 = .ok (.iload 5, 2) := by decide +kernel
theorem d_M_isDone_45 : decode prog_11_method_51_code 45 = .ok (.iaload, 1) := by decide +kernel
theorem d_M_isDone_46 : decode prog_11_method_51_code 46 = .ok (.aload_n 0, 1) := by decide +kernel
theorem d_M_isDone_47 : decode prog_11_method_51_code 47 = .ok (.getfield 34, 3) := by decide +kernel
theorem d_M_isDone_50 : decode prog_11_method_51_code 50 = .ok (.iload_n 3, 1) := by decide +kernel
theorem d_M_isDone_51 : decode prog_11_method_51_code 51 = .ok (.iaload, 1) := by decide +kernel
theorem d_M_isDone_52 : decode prog_11_method_51_code 52 = .ok (.if_icmp .gt 13, 3) := by decide +kernel
theorem d_M_isDone_55 : decode prog_11_method_51_code 55 = .ok (.aload_n 0, 1) := by decide +kernel
theorem d_M_isDone_56 : decode prog_11_method_51_code 56 = .ok (.getfield 31, 3) := by decide +kernel
theorem d_M_isDone_59 : decode prog_11_method_51_code 59 = .ok (.iload 5, 2) := by decide +kernel
theorem d_M_isDone_61 : decode prog_11_method_51_code 61 = .ok (.iaload, 1) := by decide +kernel
theorem d_M_isDone_62 : decode prog_11_method_51_code 62 = .ok (.goto 4, 3) := by decide +kernel
theorem d_M_isDone_65 : decode prog_11_method_51_code 65 = .ok (.iconst 0, 1) := by decide +kernel
theorem d_M_isDone_66 : decode prog_11_method_51_code 66 = .ok (.iadd, 1) := by decide +kernel
theorem d_M_isDone_67 : decode prog_11_method_51_code 67 = .ok (.istore 4, 2) := by decide +kernel
theorem d_M_isDone_69 : decode prog_11_method_51_code 69 = .ok (.iinc 5 1, 3) := by decide +kernel
theorem d_M_isDone_72 : decode prog_11_method_51_code 72 = .ok (.goto (-54), 3) := by decide +kernel
theorem d_M_isDone_75 : decode prog_11_method_51_code 75 = .ok (.iload_n 2, 1) := by decide +kernel
theorem d_M_isDone_76 : decode prog_11_method_51_code 76 = .ok (.ifCond .eq 26, 3) := by decide +kernel
theorem d_M_isDone_79 : decode prog_11_method_51_code 79 = .ok (.iload_n 1, 1) := by decide +kernel
theorem d_M_isDone_80 : decode prog_11_method_51_code 80 = .ok (.iload_n 3, 1) := by decide +kernel
theorem d_M_isDone_81 : decode prog_11_method_51_code 81 = .ok (.ishr, 1) := by decide +kernel
theorem d_M_isDone_82 : decode prog_11_method_51_code 82 = .ok (.iconst 1, 1) := by decide +kernel
theorem d_M_isDone_83 : decode prog_11_method_51_code 83 = .ok (.iand, 1) := by decide +kernel
theorem d_M_isDone_84 : decode prog_11_method_51_code 84 = .ok (.ifCond .eq 14, 3) := by decide +kernel
theorem d_M_isDone_87 : decode prog_11_method_51_code 87 = .ok (.iload 4, 2) := by decide +kernel
theorem d_M_isDone_89 : decode prog_11_method_51_code 89 = .ok (.aload_n 0, 1) := by decide +kernel
theorem d_M_isDone_90 : decode prog_11_method_51_code 90 = .ok (.getfield 34, 3) := by decide +kernel
theorem d_M_isDone_93 : decode prog_11_method_51_code 93 = .ok (.iload_n 3, 1) := by decide +kernel
theorem d_M_isDone_94 : decode prog_11_method_51_code 94 = .ok (.iaload, 1) := by decide +kernel
theorem d_M_isDone_95 : decode prog_11_method_51_code 95 = .ok (.if_icmp .gt 7, 3) := by decide +kernel
theorem d_M_isDone_98 : decode prog_11_method_51_code 98 = .ok (.iconst 1, 1) := by decide +kernel
theorem d_M_isDone_99 : decode prog_11_method_51_code 99 = .ok (.goto 4, 3) := by decide +kernel
theorem d_M_isDone_102 : decode prog_11_method_51_code 102 = .ok (.iconst 0, 1) := by decide +kernel
theorem d_M_isDone_103 : decode prog_11_method_51_code 103 = .ok (.istore_n 2, 1) := by decide +kernel
theorem d_M_isDone_104 : decode prog_11_method_51_code 104 = .ok (.iinc 3 1, 3) := by decide +kernel
theorem d_M_isDone_107 : decode prog_11_method_51_code 107 = .ok (.goto (-103), 3) := by decide +kernel
theorem d_M_isDone_110 : decode prog_11_method_51_code 110 = .ok (.iload_n 2, 1) := by decide +kernel
theorem d_M_isDone_111 : decode prog_11_method_51_code 111 = .ok (.ireturn, 1) := by decide +kernel
theorem d_M_done_0 : decode prog_11_method_52_code 0 = .ok (.iconst 0, 1) := by decide +kernel
theorem d_M_done_1 : decode prog_11_method_52_code 1 = .ok (.istore_n 1, 1) := by decide +kernel
theorem d_M_done_2 : decode prog_11_method_52_code 2 = .ok (.iconst 1, 1) := by decide +kernel
theorem d_M_done_3 : decode prog_11_method_52_code 3 = .ok (.istore_n 2, 1) := by decide +kernel
theorem d_M_done_4 : decode prog_11_method_52_code 4 = .ok (.iload_n 2, 1) := by decide +kernel
theorem d_M_done_5 : decode prog_11_method_52_code 5 = .ok (.iconst 1, 1) := by decide +kernel
theorem d_M_done_6 : decode prog_11_method_52_code 6 = .ok (.aload_n 0, 1) := by decide +kernel
theorem d_M_done_7 : decode prog_11_method_52_code 7 = .ok (.getfield 177, 3) := by decide +kernel
theorem d_M_done_10 : decode prog_11_method_52_code 10 = .ok (.ishl, 1) := by decide +kernel
theorem d_M_done_11 : decode prog_11_method_52_code 11 = .ok (.if_icmp .ge 34, 3) := by decide +kernel
theorem d_M_done_14 : decode prog_11_method_52_code 14 = .ok (.iload_n 2, 1) := by decide +kernel
theorem d_M_done_15 : decode prog_11_method_52_code 15 = .ok (.invokestatic 232, 3) := by decide +kernel
theorem d_M_done_18 : decode prog_11_method_52_code 18 = .ok (.iload_n 1, 1) := by decide +kernel
theorem d_M_done_19 : decode prog_11_method_52_code 19 = .ok (.invokestatic 232, 3) := by decide +kernel
theorem d_M_done_22 : decode prog_11_method_52_code 22 = .ok (.if_icmp .le 15, 3) := by decide +kernel
theorem d_M_done_25 : decode prog_11_method_52_code 25 = .ok (.aload_n 0, 1) := by decide +kernel
theorem d_M_done_26 : decode prog_11_method_52_code 26 = .ok (.iload_n 2, 1) := by decide +kernel
theorem d_M_done_27 : decode prog_11_method_52_code 27 = .ok (.invokevirtual 235, 3) := by decide +kernel
theorem d_M_done_30 : decode prog_11_method_52_code 30 = .ok (.ifCond .eq 7, 3) := by decide +kernel
theorem d_M_done_33 : decode prog_11_method_52_code 33 = .ok (.iload_n 2, 1) := by decide +kernel
theorem d_M_done_34 : decode prog_11_method_52_code 34 = .ok (.goto 4, 3) := by decide +kernel
theorem d_M_done_37 : decode prog_11_method_52_code 37 = .ok (.iload_n 1, 1) := by decide +kernel
theorem d_M_done_38 : decode prog_11_method_52_code 38 = .ok (.istore_n 1, 1) := by decide +kernel
theorem d_M_done_39 : decode prog_11_method_52_code 39 = .ok (.iinc 2 1, 3) := by decide +kernel
theorem d_M_done_42 : decode prog_11_method_52_code 42 = .ok (.goto (-38), 3) := by decide +kernel
theorem d_M_done_45 : decode prog_11_method_52_code 45 = .ok (.iload_n 1, 1) := by decide +kernel
theorem d_M_done_46 : decode prog_11_method_52_code 46 = .ok (.ireturn, 1) := by decide +kernel
theorem d_M_clear_0 : decode prog_11_method_53_code 0 = .ok (.aload_n 0, 1) := by decide +kernel
theorem d_M_clear_1 : decode prog_11_method_53_code 1 = .ok (.getfield 174, 3) := by decide +kernel
theorem d_M_clear_4 : decode prog_11_method_53_code 4 = .ok (.aload_n 0, 1) := by decide +kernel
theorem d_M_clear_5 : decode prog_11_method_53_code 5 = .ok (.getfield 177, 3) := by decide +kernel
theorem d_M_clear_8 : decode prog_11_method_53_code 8 = .ok (.iadd, 1) := by decide +kernel
theorem d_M_clear_9 : decode prog_11_method_53_code 9 = .ok (.istore_n 1, 1) := by decide +kernel
theorem d_M_clear_10 : decode prog_11_method_53_code 10 = .ok (.aload_n 0, 1) := by decide +kernel
theorem d_M_clear_11 : decode prog_11_method_53_code 11 = .ok (.iconst 0, 1) := by decide +kernel
theorem d_M_clear_12 : decode prog_11_method_53_code 12 = .ok (.putfield 174, 3) := by decide +kernel
theorem d_M_clear_15 : decode prog_11_method_53_code 15 = .ok (.aload_n 0, 1) := by decide +kernel
theorem d_M_clear_16 : decode prog_11_method_53_code 16 = .ok (.iconst 0, 1) := by decide +kernel
theorem d_M_clear_17 : decode prog_11_method_53_code 17 = .ok (.putfield 177, 3) := by decide +kernel
theorem d_M_clear_20 : decode prog_11_method_53_code 20 = .ok (.iload_n 1, 1) := by decide +kernel
theorem d_M_clear_21 : decode prog_11_method_53_code 21 = .ok (.ireturn, 1) := by decide +kernel
theorem d_M_lay_0 : decode prog_11_method_54_code 0 = .ok (.iconst 0, 1) := by decide +kernel
theorem d_M_lay_1 : decode prog_11_method_54_code 1 = .ok (.istore_n 3, 1) := by decide +kernel
theorem d_M_lay_2 : decode prog_11_method_54_code 2 = .ok (.iload_n 3, 1) := by decide +kernel
theorem d_M_lay_3 : decode prog_11_method_54_code 3 = .ok (.aload_n 1, 1) := by decide +kernel
theorem d_M_lay_4 : decode prog_11_method_54_code 4 = .ok (.arraylength, 1) := by decide +kernel
theorem d_M_lay_5 : decode prog_11_method_54_code 5 = .ok (.if_icmp .ge 20, 3) := by decide +kernel
theorem d_M_lay_8 : decode prog_11_method_54_code 8 = .ok (.aload_n 0, 1) := by decide +kernel
theorem d_M_lay_9 : decode prog_11_method_54_code 9 = .ok (.getfield 77, 3) := by decide +kernel
theorem d_M_lay_12 : decode prog_11_method_54_code 12 = .ok (.iload_n 2, 1) := by decide +kernel
theorem d_M_lay_13 : decode prog_11_method_54_code 13 = .ok (.iload_n 3, 1) := by decide +kernel
theorem d_M_lay_14 : decode prog_11_method_54_code 14 = .ok (.iadd, 1) := by decide +kernel
theorem d_M_lay_15 : decode prog_11_method_54_code 15 = .ok (.aload_n 1, 1) := by decide +kernel
theorem d_M_lay_16 : decode prog_11_method_54_code 16 = .ok (.iload_n 3, 1) := by decide +kernel
theorem d_M_lay_17 : decode prog_11_method_54_code 17 = .ok (.iaload, 1) := by decide +kernel
theorem d_M_lay_18 : decode prog_11_method_54_code 18 = .ok (.iastore, 1) := by decide +kernel
theorem d_M_lay_19 : decode prog_11_method_54_code 19 = .ok (.iinc 3 1, 3) := by decide +kernel
theorem d_M_lay_22 : decode prog_11_method_54_code 22 = .ok (.goto (-20), 3) := by decide +kernel
theorem d_M_lay_25 : decode prog_11_method_54_code 25 = .ok (.iload_n 2, 1) := by decide +kernel
theorem d_M_lay_26 : decode prog_11_method_54_code 26 = .ok (.aload_n 1, 1) := by decide +kernel
theorem d_M_lay_27 : decode prog_11_method_54_code 27 = .ok (.arraylength, 1) := by decide +kernel
theorem d_M_lay_28 : decode prog_11_method_54_code 28 = .ok (.iadd, 1) := by decide +kernel
theorem d_M_lay_29 : decode prog_11_method_54_code 29 = .ok (.ireturn, 1) := by decide +kernel
theorem d_M_image_0 : decode prog_11_method_56_code 0 = .ok (.aload_n 0, 1) := by decide +kernel
theorem d_M_image_1 : decode prog_11_method_56_code 1 = .ok (.aload_n 0, 1) := by decide +kernel
theorem d_M_image_2 : decode prog_11_method_56_code 2 = .ok (.getfield 7, 3) := by decide +kernel
theorem d_M_image_5 : decode prog_11_method_56_code 5 = .ok (.iconst 0, 1) := by decide +kernel
theorem d_M_image_6 : decode prog_11_method_56_code 6 = .ok (.invokevirtual 238, 3) := by decide +kernel
theorem d_M_image_9 : decode prog_11_method_56_code 9 = .ok (.istore_n 1, 1) := by decide +kernel
theorem d_M_image_10 : decode prog_11_method_56_code 10 = .ok (.aload_n 0, 1) := by decide +kernel
theorem d_M_image_11 : decode prog_11_method_56_code 11 = .ok (.aload_n 0, 1) := by decide +kernel
theorem d_M_image_12 : decode prog_11_method_56_code 12 = .ok (.getfield 13, 3) := by decide +kernel
theorem d_M_image_15 : decode prog_11_method_56_code 15 = .ok (.iload_n 1, 1) := by decide +kernel
theorem d_M_image_16 : decode prog_11_method_56_code 16 = .ok (.invokevirtual 238, 3) := by decide +kernel
theorem d_M_image_19 : decode prog_11_method_56_code 19 = .ok (.istore_n 1, 1) := by decide +kernel
theorem d_M_image_20 : decode prog_11_method_56_code 20 = .ok (.aload_n 0, 1) := by decide +kernel
theorem d_M_image_21 : decode prog_11_method_56_code 21 = .ok (.aload_n 0, 1) := by decide +kernel
theorem d_M_image_22 : decode prog_11_method_56_code 22 = .ok (.getfield 16, 3) := by decide +kernel
theorem d_M_image_25 : decode prog_11_method_56_code 25 = .ok (.iload_n 1, 1) := by decide +kernel
theorem d_M_image_26 : decode prog_11_method_56_code 26 = .ok (.invokevirtual 238, 3) := by decide +kernel
theorem d_M_image_29 : decode prog_11_method_56_code 29 = .ok (.istore_n 1, 1) := by decide +kernel
theorem d_M_image_30 : decode prog_11_method_56_code 30 = .ok (.aload_n 0, 1) := by decide +kernel
theorem d_M_image_31 : decode prog_11_method_56_code 31 = .ok (.aload_n 0, 1) := by decide +kernel
theorem d_M_image_32 : decode prog_11_method_56_code 32 = .ok (.getfield 19, 3) := by decide +kernel
theorem d_M_image_35 : decode prog_11_method_56_code 35 = .ok (.iload_n 1, 1) := by decide +kernel
theorem d_M_image_36 : decode prog_11_method_56_code 36 = .ok (.invokevirtual 238, 3) := by decide +kernel
theorem d_M_image_39 : decode prog_11_method_56_code 39 = .ok (.istore_n 1, 1) := by decide +kernel
theorem d_M_image_40 : decode prog_11_method_56_code 40 = .ok (.aload_n 0, 1) := by decide +kernel
theorem d_M_image_41 : decode prog_11_method_56_code 41 = .ok (.aload_n 0, 1) := by decide +kernel
theorem d_M_image_42 : decode prog_11_method_56_code 42 = .ok (.getfield 22, 3) := by decide +kernel
theorem d_M_image_45 : decode prog_11_method_56_code 45 = .ok (.iload_n 1, 1) := by decide +kernel
theorem d_M_image_46 : decode prog_11_method_56_code 46 = .ok (.invokevirtual 238, 3) := by decide +kernel
theorem d_M_image_49 : decode prog_11_method_56_code 49 = .ok (.istore_n 1, 1) := by decide +kernel
theorem d_M_image_50 : decode prog_11_method_56_code 50 = .ok (.aload_n 0, 1) := by decide +kernel
theorem d_M_image_51 : decode prog_11_method_56_code 51 = .ok (.aload_n 0, 1) := by decide +kernel
theorem d_M_image_52 : decode prog_11_method_56_code 52 = .ok (.getfield 25, 3) := by decide +kernel
theorem d_M_image_55 : decode prog_11_method_56_code 55 = .ok (.iload_n 1, 1) := by decide +kernel
theorem d_M_image_56 : decode prog_11_method_56_code 56 = .ok (.invokevirtual 238, 3) := by decide +kernel
theorem d_M_image_59 : decode prog_11_method_56_code 59 = .ok (.istore_n 1, 1) := by decide +kernel
theorem d_M_image_60 : decode prog_11_method_56_code 60 = .ok (.aload_n 0, 1) := by decide +kernel
theorem d_M_image_61 : decode prog_11_method_56_code 61 = .ok (.aload_n 0, 1) := by decide +kernel
theorem d_M_image_62 : decode prog_11_method_56_code 62 = .ok (.getfield 28, 3) := by decide +kernel
theorem d_M_image_65 : decode prog_11_method_56_code 65 = .ok (.iload_n 1, 1) := by decide +kernel
theorem d_M_image_66 : decode prog_11_method_56_code 66 = .ok (.invokevirtual 238, 3) := by decide +kernel
theorem d_M_image_69 : decode prog_11_method_56_code 69 = .ok (.istore_n 1, 1) := by decide +kernel
theorem d_M_image_70 : decode prog_11_method_56_code 70 = .ok (.aload_n 0, 1) := by decide +kernel
theorem d_M_image_71 : decode prog_11_method_56_code 71 = .ok (.aload_n 0, 1) := by decide +kernel
theorem d_M_image_72 : decode prog_11_method_56_code 72 = .ok (.getfield 31, 3) := by decide +kernel
theorem d_M_image_75 : decode prog_11_method_56_code 75 = .ok (.iload_n 1, 1) := by decide +kernel
theorem d_M_image_76 : decode prog_11_method_56_code 76 = .ok (.invokevirtual 238, 3) := by decide +kernel
theorem d_M_image_79 : decode prog_11_method_56_code 79 = .ok (.istore_n 1, 1) := by decide +kernel
theorem d_M_image_80 : decode prog_11_method_56_code 80 = .ok (.aload_n 0, 1) := by decide +kernel
theorem d_M_image_81 : decode prog_11_method_56_code 81 = .ok (.aload_n 0, 1) := by decide +kernel
theorem d_M_image_82 : decode prog_11_method_56_code 82 = .ok (.getfield 34, 3) := by decide +kernel
theorem d_M_image_85 : decode prog_11_method_56_code 85 = .ok (.iload_n 1, 1) := by decide +kernel
theorem d_M_image_86 : decode prog_11_method_56_code 86 = .ok (.invokevirtual 238, 3) := by decide +kernel
theorem d_M_image_89 : decode prog_11_method_56_code 89 = .ok (.istore_n 1, 1) := by decide +kernel
theorem d_M_image_90 : decode prog_11_method_56_code 90 = .ok (.aload_n 0, 1) := by decide +kernel
theorem d_M_image_91 : decode prog_11_method_56_code 91 = .ok (.getfield 77, 3) := by decide +kernel
theorem d_M_image_94 : decode prog_11_method_56_code 94 = .ok (.iload_n 1, 1) := by decide +kernel
theorem d_M_image_95 : decode prog_11_method_56_code 95 = .ok (.aload_n 0, 1) := by decide +kernel
theorem d_M_image_96 : decode prog_11_method_56_code 96 = .ok (.getfield 108, 3) := by decide +kernel
theorem d_M_image_99 : decode prog_11_method_56_code 99 = .ok (.iastore, 1) := by decide +kernel
theorem d_M_image_100 : decode prog_11_method_56_code 100 = .ok (.aload_n 0, 1) := by decide +kernel
theorem d_M_image_101 : decode prog_11_method_56_code 101 = .ok (.getfield 77, 3) := by decide +kernel
theorem d_M_image_104 : decode prog_11_method_56_code 104 = .ok (.iload_n 1, 1) := by decide +kernel
theorem d_M_image_105 : decode prog_11_method_56_code 105 = .ok (.iconst 1, 1) := by decide +kernel
theorem d_M_image_106 : decode prog_11_method_56_code 106 = .ok (.iadd, 1) := by decide +kernel
theorem d_M_image_107 : decode prog_11_method_56_code 107 = .ok (.aload_n 0, 1) := by decide +kernel
theorem d_M_image_108 : decode prog_11_method_56_code 108 = .ok (.getfield 158, 3) := by decide +kernel
theorem d_M_image_111 : decode prog_11_method_56_code 111 = .ok (.iastore, 1) := by decide +kernel
theorem d_M_image_112 : decode prog_11_method_56_code 112 = .ok (.aload_n 0, 1) := by decide +kernel
theorem d_M_image_113 : decode prog_11_method_56_code 113 = .ok (.getfield 77, 3) := by decide +kernel
theorem d_M_image_116 : decode prog_11_method_56_code 116 = .ok (.iload_n 1, 1) := by decide +kernel
theorem d_M_image_117 : decode prog_11_method_56_code 117 = .ok (.iconst 2, 1) := by decide +kernel
theorem d_M_image_118 : decode prog_11_method_56_code 118 = .ok (.iadd, 1) := by decide +kernel
theorem d_M_image_119 : decode prog_11_method_56_code 119 = .ok (.aload_n 0, 1) := by decide +kernel
theorem d_M_image_120 : decode prog_11_method_56_code 120 = .ok (.getfield 161, 3) := by decide +kernel
theorem d_M_image_123 : decode prog_11_method_56_code 123 = .ok (.iastore, 1) := by decide +kernel
theorem d_M_image_124 : decode prog_11_method_56_code 124 = .ok (.aload_n 0, 1) := by decide +kernel
theorem d_M_image_125 : decode prog_11_method_56_code 125 = .ok (.getfield 77, 3) := by decide +kernel
theorem d_M_image_128 : decode prog_11_method_56_code 128 = .ok (.iload_n 1, 1) := by decide +kernel
theorem d_M_image_129 : decode prog_11_method_56_code 129 = .ok (.iconst 3, 1) := by decide +kernel
theorem d_M_image_130 : decode prog_11_method_56_code 130 = .ok (.iadd, 1) := by decide +kernel
theorem d_M_image_131 : decode prog_11_method_56_code 131 = .ok (.aload_n 0, 1) := by decide +kernel
theorem d_M_image_132 : decode prog_11_method_56_code 132 = .ok (.getfield 174, 3) := by decide +kernel
theorem d_M_image_135 : decode prog_11_method_56_code 135 = .ok (.iastore, 1) := by decide +kernel
theorem d_M_image_136 : decode prog_11_method_56_code 136 = .ok (.aload_n 0, 1) := by decide +kernel
theorem d_M_image_137 : decode prog_11_method_56_code 137 = .ok (.getfield 77, 3) := by decide +kernel
theorem d_M_image_140 : decode prog_11_method_56_code 140 = .ok (.iload_n 1, 1) := by decide +kernel
theorem d_M_image_141 : decode prog_11_method_56_code 141 = .ok (.iconst 4, 1) := by decide +kernel
theorem d_M_image_142 : decode prog_11_method_56_code 142 = .ok (.iadd, 1) := by decide +kernel
theorem d_M_image_143 : decode prog_11_method_56_code 143 = .ok (.aload_n 0, 1) := by decide +kernel
theorem d_M_image_144 : decode prog_11_method_56_code 144 = .ok (.getfield 177, 3) := by decide +kernel
theorem d_M_image_147 : decode prog_11_method_56_code 147 = .ok (.iastore, 1) := by decide +kernel
theorem d_M_image_148 : decode prog_11_method_56_code 148 = .ok (.aload_n 0, 1) := by decide +kernel
theorem d_M_image_149 : decode prog_11_method_56_code 149 = .ok (.iconst 1, 1) := by decide +kernel
theorem d_M_image_150 : decode prog_11_method_56_code 150 = .ok (.putfield 242, 3) := by decide +kernel
theorem d_M_image_153 : decode prog_11_method_56_code 153 = .ok (.iconst 1, 1) := by decide +kernel
theorem d_M_image_154 : decode prog_11_method_56_code 154 = .ok (.ireturn, 1) := by decide +kernel
theorem d_M_gives_0 : decode prog_11_method_55_code 0 = .ok (.iconst 0, 1) := by decide +kernel
theorem d_M_gives_1 : decode prog_11_method_55_code 1 = .ok (.istore_n 3, 1) := by decide +kernel
theorem d_M_gives_2 : decode prog_11_method_55_code 2 = .ok (.iload_n 3, 1) := by decide +kernel
theorem d_M_gives_3 : decode prog_11_method_55_code 3 = .ok (.aload_n 2, 1) := by decide +kernel
theorem d_M_gives_4 : decode prog_11_method_55_code 4 = .ok (.arraylength, 1) := by decide +kernel
theorem d_M_gives_5 : decode prog_11_method_55_code 5 = .ok (.if_icmp .ge 20, 3) := by decide +kernel
theorem d_M_gives_8 : decode prog_11_method_55_code 8 = .ok (.aload_n 2, 1) := by decide +kernel
theorem d_M_gives_9 : decode prog_11_method_55_code 9 = .ok (.iload_n 3, 1) := by decide +kernel
theorem d_M_gives_10 : decode prog_11_method_55_code 10 = .ok (.aload_n 0, 1) := by decide +kernel
theorem d_M_gives_11 : decode prog_11_method_55_code 11 = .ok (.getfield 77, 3) := by decide +kernel
theorem d_M_gives_14 : decode prog_11_method_55_code 14 = .ok (.iload_n 1, 1) := by decide +kernel
theorem d_M_gives_15 : decode prog_11_method_55_code 15 = .ok (.iload_n 3, 1) := by decide +kernel
theorem d_M_gives_16 : decode prog_11_method_55_code 16 = .ok (.iadd, 1) := by decide +kernel
theorem d_M_gives_17 : decode prog_11_method_55_code 17 = .ok (.iaload, 1) := by decide +kernel
theorem d_M_gives_18 : decode prog_11_method_55_code 18 = .ok (.iastore, 1) := by decide +kernel
theorem d_M_gives_19 : decode prog_11_method_55_code 19 = .ok (.iinc 3 1, 3) := by decide +kernel
theorem d_M_gives_22 : decode prog_11_method_55_code 22 = .ok (.goto (-20), 3) := by decide +kernel
theorem d_M_gives_25 : decode prog_11_method_55_code 25 = .ok (.iload_n 1, 1) := by decide +kernel
theorem d_M_gives_26 : decode prog_11_method_55_code 26 = .ok (.aload_n 2, 1) := by decide +kernel
theorem d_M_gives_27 : decode prog_11_method_55_code 27 = .ok (.arraylength, 1) := by decide +kernel
theorem d_M_gives_28 : decode prog_11_method_55_code 28 = .ok (.iadd, 1) := by decide +kernel
theorem d_M_gives_29 : decode prog_11_method_55_code 29 = .ok (.ireturn, 1) := by decide +kernel
theorem d_M_restore_0 : decode prog_11_method_57_code 0 = .ok (.aload_n 0, 1) := by decide +kernel
theorem d_M_restore_1 : decode prog_11_method_57_code 1 = .ok (.getfield 242, 3) := by decide +kernel
theorem d_M_restore_4 : decode prog_11_method_57_code 4 = .ok (.ifCond .ne 6, 3) := by decide +kernel
theorem d_M_restore_7 : decode prog_11_method_57_code 7 = .ok (.bipush (-4), 2) := by decide +kernel
theorem d_M_restore_9 : decode prog_11_method_57_code 9 = .ok (.ireturn, 1) := by decide +kernel
theorem d_M_restore_10 : decode prog_11_method_57_code 10 = .ok (.aload_n 0, 1) := by decide +kernel
theorem d_M_restore_11 : decode prog_11_method_57_code 11 = .ok (.iconst 0, 1) := by decide +kernel
theorem d_M_restore_12 : decode prog_11_method_57_code 12 = .ok (.aload_n 0, 1) := by decide +kernel
theorem d_M_restore_13 : decode prog_11_method_57_code 13 = .ok (.getfield 7, 3) := by decide +kernel
theorem d_M_restore_16 : decode prog_11_method_57_code 16 = .ok (.invokevirtual 245, 3) := by decide +kernel
theorem d_M_restore_19 : decode prog_11_method_57_code 19 = .ok (.istore_n 1, 1) := by decide +kernel
theorem d_M_restore_20 : decode prog_11_method_57_code 20 = .ok (.aload_n 0, 1) := by decide +kernel
theorem d_M_restore_21 : decode prog_11_method_57_code 21 = .ok (.iload_n 1, 1) := by decide +kernel
theorem d_M_restore_22 : decode prog_11_method_57_code 22 = .ok (.aload_n 0, 1) := by decide +kernel
theorem d_M_restore_23 : decode prog_11_method_57_code 23 = .ok (.getfield 13, 3) := by decide +kernel
theorem d_M_restore_26 : decode prog_11_method_57_code 26 = .ok (.invokevirtual 245, 3) := by decide +kernel
theorem d_M_restore_29 : decode prog_11_method_57_code 29 = .ok (.istore_n 1, 1) := by decide +kernel
theorem d_M_restore_30 : decode prog_11_method_57_code 30 = .ok (.aload_n 0, 1) := by decide +kernel
theorem d_M_restore_31 : decode prog_11_method_57_code 31 = .ok (.iload_n 1, 1) := by decide +kernel
theorem d_M_restore_32 : decode prog_11_method_57_code 32 = .ok (.aload_n 0, 1) := by decide +kernel
theorem d_M_restore_33 : decode prog_11_method_57_code 33 = .ok (.getfield 16, 3) := by decide +kernel
theorem d_M_restore_36 : decode prog_11_method_57_code 36 = .ok (.invokevirtual 245, 3) := by decide +kernel
theorem d_M_restore_39 : decode prog_11_method_57_code 39 = .ok (.istore_n 1, 1) := by decide +kernel
theorem d_M_restore_40 : decode prog_11_method_57_code 40 = .ok (.aload_n 0, 1) := by decide +kernel
theorem d_M_restore_41 : decode prog_11_method_57_code 41 = .ok (.iload_n 1, 1) := by decide +kernel
theorem d_M_restore_42 : decode prog_11_method_57_code 42 = .ok (.aload_n 0, 1) := by decide +kernel
theorem d_M_restore_43 : decode prog_11_method_57_code 43 = .ok (.getfield 19, 3) := by decide +kernel
theorem d_M_restore_46 : decode prog_11_method_57_code 46 = .ok (.invokevirtual 245, 3) := by decide +kernel
theorem d_M_restore_49 : decode prog_11_method_57_code 49 = .ok (.istore_n 1, 1) := by decide +kernel
theorem d_M_restore_50 : decode prog_11_method_57_code 50 = .ok (.aload_n 0, 1) := by decide +kernel
theorem d_M_restore_51 : decode prog_11_method_57_code 51 = .ok (.iload_n 1, 1) := by decide +kernel
theorem d_M_restore_52 : decode prog_11_method_57_code 52 = .ok (.aload_n 0, 1) := by decide +kernel
theorem d_M_restore_53 : decode prog_11_method_57_code 53 = .ok (.getfield 22, 3) := by decide +kernel
theorem d_M_restore_56 : decode prog_11_method_57_code 56 = .ok (.invokevirtual 245, 3) := by decide +kernel
theorem d_M_restore_59 : decode prog_11_method_57_code 59 = .ok (.istore_n 1, 1) := by decide +kernel
theorem d_M_restore_60 : decode prog_11_method_57_code 60 = .ok (.aload_n 0, 1) := by decide +kernel
theorem d_M_restore_61 : decode prog_11_method_57_code 61 = .ok (.iload_n 1, 1) := by decide +kernel
theorem d_M_restore_62 : decode prog_11_method_57_code 62 = .ok (.aload_n 0, 1) := by decide +kernel
theorem d_M_restore_63 : decode prog_11_method_57_code 63 = .ok (.getfield 25, 3) := by decide +kernel
theorem d_M_restore_66 : decode prog_11_method_57_code 66 = .ok (.invokevirtual 245, 3) := by decide +kernel
theorem d_M_restore_69 : decode prog_11_method_57_code 69 = .ok (.istore_n 1, 1) := by decide +kernel
theorem d_M_restore_70 : decode prog_11_method_57_code 70 = .ok (.aload_n 0, 1) := by decide +kernel
theorem d_M_restore_71 : decode prog_11_method_57_code 71 = .ok (.iload_n 1, 1) := by decide +kernel
theorem d_M_restore_72 : decode prog_11_method_57_code 72 = .ok (.aload_n 0, 1) := by decide +kernel
theorem d_M_restore_73 : decode prog_11_method_57_code 73 = .ok (.getfield 28, 3) := by decide +kernel
theorem d_M_restore_76 : decode prog_11_method_57_code 76 = .ok (.invokevirtual 245, 3) := by decide +kernel
theorem d_M_restore_79 : decode prog_11_method_57_code 79 = .ok (.istore_n 1, 1) := by decide +kernel
theorem d_M_restore_80 : decode prog_11_method_57_code 80 = .ok (.aload_n 0, 1) := by decide +kernel
theorem d_M_restore_81 : decode prog_11_method_57_code 81 = .ok (.iload_n 1, 1) := by decide +kernel
theorem d_M_restore_82 : decode prog_11_method_57_code 82 = .ok (.aload_n 0, 1) := by decide +kernel
theorem d_M_restore_83 : decode prog_11_method_57_code 83 = .ok (.getfield 31, 3) := by decide +kernel
theorem d_M_restore_86 : decode prog_11_method_57_code 86 = .ok (.invokevirtual 245, 3) := by decide +kernel
theorem d_M_restore_89 : decode prog_11_method_57_code 89 = .ok (.istore_n 1, 1) := by decide +kernel
theorem d_M_restore_90 : decode prog_11_method_57_code 90 = .ok (.aload_n 0, 1) := by decide +kernel
theorem d_M_restore_91 : decode prog_11_method_57_code 91 = .ok (.iload_n 1, 1) := by decide +kernel
theorem d_M_restore_92 : decode prog_11_method_57_code 92 = .ok (.aload_n 0, 1) := by decide +kernel
theorem d_M_restore_93 : decode prog_11_method_57_code 93 = .ok (.getfield 34, 3) := by decide +kernel
theorem d_M_restore_96 : decode prog_11_method_57_code 96 = .ok (.invokevirtual 245, 3) := by decide +kernel
theorem d_M_restore_99 : decode prog_11_method_57_code 99 = .ok (.istore_n 1, 1) := by decide +kernel
theorem d_M_restore_100 : decode prog_11_method_57_code 100 = .ok (.aload_n 0, 1) := by decide +kernel
theorem d_M_restore_101 : decode prog_11_method_57_code 101 = .ok (.aload_n 0, 1) := by decide +kernel
theorem d_M_restore_102 : decode prog_11_method_57_code 102 = .ok (.getfield 77, 3) := by decide +kernel
theorem d_M_restore_105 : decode prog_11_method_57_code 105 = .ok (.iload_n 1, 1) := by decide +kernel
theorem d_M_restore_106 : decode prog_11_method_57_code 106 = .ok (.iaload, 1) := by decide +kernel
theorem d_M_restore_107 : decode prog_11_method_57_code 107 = .ok (.putfield 108, 3) := by decide +kernel
theorem d_M_restore_110 : decode prog_11_method_57_code 110 = .ok (.aload_n 0, 1) := by decide +kernel
theorem d_M_restore_111 : decode prog_11_method_57_code 111 = .ok (.aload_n 0, 1) := by decide +kernel
theorem d_M_restore_112 : decode prog_11_method_57_code 112 = .ok (.getfield 77, 3) := by decide +kernel
theorem d_M_restore_115 : decode prog_11_method_57_code 115 = .ok (.iload_n 1, 1) := by decide +kernel
theorem d_M_restore_116 : decode prog_11_method_57_code 116 = .ok (.iconst 1, 1) := by decide +kernel
theorem d_M_restore_117 : decode prog_11_method_57_code 117 = .ok (.iadd, 1) := by decide +kernel
theorem d_M_restore_118 : decode prog_11_method_57_code 118 = .ok (.iaload, 1) := by decide +kernel
theorem d_M_restore_119 : decode prog_11_method_57_code 119 = .ok (.putfield 158, 3) := by decide +kernel
theorem d_M_restore_122 : decode prog_11_method_57_code 122 = .ok (.aload_n 0, 1) := by decide +kernel
theorem d_M_restore_123 : decode prog_11_method_57_code 123 = .ok (.aload_n 0, 1) := by decide +kernel
theorem d_M_restore_124 : decode prog_11_method_57_code 124 = .ok (.getfield 77, 3) := by decide +kernel
theorem d_M_restore_127 : decode prog_11_method_57_code 127 = .ok (.iload_n 1, 1) := by decide +kernel
theorem d_M_restore_128 : decode prog_11_method_57_code 128 = .ok (.iconst 2, 1) := by decide +kernel
theorem d_M_restore_129 : decode prog_11_method_57_code 129 = .ok (.iadd, 1) := by decide +kernel
theorem d_M_restore_130 : decode prog_11_method_57_code 130 = .ok (.iaload, 1) := by decide +kernel
theorem d_M_restore_131 : decode prog_11_method_57_code 131 = .ok (.putfield 161, 3) := by decide +kernel
theorem d_M_restore_134 : decode prog_11_method_57_code 134 = .ok (.aload_n 0, 1) := by decide +kernel
theorem d_M_restore_135 : decode prog_11_method_57_code 135 = .ok (.aload_n 0, 1) := by decide +kernel
theorem d_M_restore_136 : decode prog_11_method_57_code 136 = .ok (.getfield 77, 3) := by decide +kernel
theorem d_M_restore_139 : decode prog_11_method_57_code 139 = .ok (.iload_n 1, 1) := by decide +kernel
theorem d_M_restore_140 : decode prog_11_method_57_code 140 = .ok (.iconst 3, 1) := by decide +kernel
theorem d_M_restore_141 : decode prog_11_method_57_code 141 = .ok (.iadd, 1) := by decide +kernel
theorem d_M_restore_142 : decode prog_11_method_57_code 142 = .ok (.iaload, 1) := by decide +kernel
theorem d_M_restore_143 : decode prog_11_method_57_code 143 = .ok (.putfield 174, 3) := by decide +kernel
theorem d_M_restore_146 : decode prog_11_method_57_code 146 = .ok (.aload_n 0, 1) := by decide +kernel
theorem d_M_restore_147 : decode prog_11_method_57_code 147 = .ok (.aload_n 0, 1) := by decide +kernel
theorem d_M_restore_148 : decode prog_11_method_57_code 148 = .ok (.getfield 77, 3) := by decide +kernel
theorem d_M_restore_151 : decode prog_11_method_57_code 151 = .ok (.iload_n 1, 1) := by decide +kernel
theorem d_M_restore_152 : decode prog_11_method_57_code 152 = .ok (.iconst 4, 1) := by decide +kernel
theorem d_M_restore_153 : decode prog_11_method_57_code 153 = .ok (.iadd, 1) := by decide +kernel
theorem d_M_restore_154 : decode prog_11_method_57_code 154 = .ok (.iaload, 1) := by decide +kernel
theorem d_M_restore_155 : decode prog_11_method_57_code 155 = .ok (.putfield 177, 3) := by decide +kernel
theorem d_M_restore_158 : decode prog_11_method_57_code 158 = .ok (.iconst 1, 1) := by decide +kernel
theorem d_M_restore_159 : decode prog_11_method_57_code 159 = .ok (.ireturn, 1) := by decide +kernel
theorem d_M_isSheet_0 : decode prog_11_method_58_code 0 = .ok (.iload_n 0, 1) := by decide +kernel
theorem d_M_isSheet_1 : decode prog_11_method_58_code 1 = .ok (.i2l, 1) := by decide +kernel
theorem d_M_isSheet_2 : decode prog_11_method_58_code 2 = .ok (.lconst 0, 1) := by decide +kernel
theorem d_M_isSheet_3 : decode prog_11_method_58_code 3 = .ok (.ldc2_w 127, 3) := by decide +kernel
theorem d_M_isSheet_6 : decode prog_11_method_58_code 6 = .ok (.invokestatic 94, 3) := by decide +kernel
theorem d_M_isSheet_9 : decode prog_11_method_58_code 9 = .ok (.ireturn, 1) := by decide +kernel
theorem d_M_isLane_0 : decode prog_11_method_59_code 0 = .ok (.iload_n 0, 1) := by decide +kernel
theorem d_M_isLane_1 : decode prog_11_method_59_code 1 = .ok (.i2l, 1) := by decide +kernel
theorem d_M_isLane_2 : decode prog_11_method_59_code 2 = .ok (.lconst 0, 1) := by decide +kernel
theorem d_M_isLane_3 : decode prog_11_method_59_code 3 = .ok (.ldc2_w 119, 3) := by decide +kernel
theorem d_M_isLane_6 : decode prog_11_method_59_code 6 = .ok (.invokestatic 94, 3) := by decide +kernel
theorem d_M_isLane_9 : decode prog_11_method_59_code 9 = .ok (.ireturn, 1) := by decide +kernel
theorem d_M_finds_0 : decode prog_11_method_60_code 0 = .ok (.aload_n 0, 1) := by decide +kernel
theorem d_M_finds_1 : decode prog_11_method_60_code 1 = .ok (.getfield 80, 3) := by decide +kernel
theorem d_M_finds_4 : decode prog_11_method_60_code 4 = .ok (.iload_n 1, 1) := by decide +kernel
theorem d_M_finds_5 : decode prog_11_method_60_code 5 = .ok (.iaload, 1) := by decide +kernel
theorem d_M_finds_6 : decode prog_11_method_60_code 6 = .ok (.ifCond .ge 6, 3) := by decide +kernel
theorem d_M_finds_9 : decode prog_11_method_60_code 9 = .ok (.bipush (-11), 2) := by decide +kernel
theorem d_M_finds_11 : decode prog_11_method_60_code 11 = .ok (.ireturn, 1) := by decide +kernel
theorem d_M_finds_12 : decode prog_11_method_60_code 12 = .ok (.aload_n 0, 1) := by decide +kernel
theorem d_M_finds_13 : decode prog_11_method_60_code 13 = .ok (.getfield 80, 3) := by decide +kernel
theorem d_M_finds_16 : decode prog_11_method_60_code 16 = .ok (.iload_n 1, 1) := by decide +kernel
theorem d_M_finds_17 : decode prog_11_method_60_code 17 = .ok (.iaload, 1) := by decide +kernel
theorem d_M_finds_18 : decode prog_11_method_60_code 18 = .ok (.iload_n 2, 1) := by decide +kernel
theorem d_M_finds_19 : decode prog_11_method_60_code 19 = .ok (.if_icmp .eq 6, 3) := by decide +kernel
theorem d_M_finds_22 : decode prog_11_method_60_code 22 = .ok (.bipush (-12), 2) := by decide +kernel
theorem d_M_finds_24 : decode prog_11_method_60_code 24 = .ok (.ireturn, 1) := by decide +kernel
theorem d_M_finds_25 : decode prog_11_method_60_code 25 = .ok (.iload_n 3, 1) := by decide +kernel
theorem d_M_finds_26 : decode prog_11_method_60_code 26 = .ok (.ifCond .lt 20, 3) := by decide +kernel
theorem d_M_finds_29 : decode prog_11_method_60_code 29 = .ok (.iload_n 3, 1) := by decide +kernel
theorem d_M_finds_30 : decode prog_11_method_60_code 30 = .ok (.i2l, 1) := by decide +kernel
theorem d_M_finds_31 : decode prog_11_method_60_code 31 = .ok (.iload 4, 2) := by decide +kernel
theorem d_M_finds_33 : decode prog_11_method_60_code 33 = .ok (.i2l, 1) := by decide +kernel
theorem d_M_finds_34 : decode prog_11_method_60_code 34 = .ok (.ladd, 1) := by decide +kernel
theorem d_M_finds_35 : decode prog_11_method_60_code 35 = .ok (.aload_n 0, 1) := by decide +kernel
theorem d_M_finds_36 : decode prog_11_method_60_code 36 = .ok (.getfield 83, 3) := by decide +kernel
theorem d_M_finds_39 : decode prog_11_method_60_code 39 = .ok (.iload_n 1, 1) := by decide +kernel
theorem d_M_finds_40 : decode prog_11_method_60_code 40 = .ok (.iaload, 1) := by decide +kernel
theorem d_M_finds_41 : decode prog_11_method_60_code 41 = .ok (.i2l, 1) := by decide +kernel
theorem d_M_finds_42 : decode prog_11_method_60_code 42 = .ok (.lcmp, 1) := by decide +kernel
theorem d_M_finds_43 : decode prog_11_method_60_code 43 = .ok (.ifCond .le 8, 3) := by decide +kernel
theorem d_M_finds_46 : decode prog_11_method_60_code 46 = .ok (.bipush (-13), 2) := by decide +kernel
theorem d_M_finds_48 : decode prog_11_method_60_code 48 = .ok (.goto 4, 3) := by decide +kernel
theorem d_M_finds_51 : decode prog_11_method_60_code 51 = .ok (.iconst 0, 1) := by decide +kernel
theorem d_M_finds_52 : decode prog_11_method_60_code 52 = .ok (.ireturn, 1) := by decide +kernel
def f_M_said_L23 (a1 : Int32) : Int32 × Int32 × Int32 × fw_M → Option ((Int32 × Int32 × Int32 × fw_M) ⊕ (Int32 × fw_M))
  | (x2_23, x3_23, x4_23, μ23) =>
  if (μ23.1 0 9) ≤ x4_23 then
    some (.inr (x2_23, μ23))
  else
    (fw_rd 104 (μ23.1 7) ((13 * x4_23) + 2)).bind fun v43 =>
    Option.bind (
      if v43 = a1 then
        (f_M_needsOf x4_23 μ23).bind fun (p51 : Int32 × fw_M) =>
        some (p51.1, p51.2)
      else
        some (99, μ23)) fun (j45 : Int32 × fw_M) =>
    fw_nm (
      if x3_23 ≤ j45.1 then
        x2_23
      else
        x4_23) fun (j64 : Int32) =>
    fw_nm (
      if x3_23 ≤ j45.1 then
        x3_23
      else
        j45.1) fun (j77 : Int32) =>
    fw_nm (x4_23 + 1) fun (v87 : Int32) =>
    some (.inl (j64, j77, v87, j45.2))
def f_M_said (a1 : Int32) (μ : fw_M) : Option (Int32 × fw_M) :=
  (f_M_in (Int32.toInt64 a1) 0 3).bind fun (p6 : Int32) =>
  if p6 = 0 then
    some ((-1), μ)
  else
    (fw_wh (f_M_said_L23 a1) fw_N ((-4), 99, 0, μ)).bind fun (e23x : Int32 × fw_M) =>
    some (e23x.1, e23x.2)
set_option maxHeartbeats 4000000 in
set_option maxRecDepth 100000 in
theorem c_M_said {a1 : Int32} {μ : fw_M} {r : Int32 × fw_M} (h : f_M_said a1 μ = some r) : fw_Con Y_M_said fw_Mo 6 [.ref 0, .int a1] (some r.1) μ r.2 := by
  refine fw_con (by decide) (Nat.le_of_ble_eq_true rfl) ?_
  rw [f_M_said] at h
  show fw_R "FewTypesModel" prog_11_method_48_code 6 (some .int) fw_Mo 6 (some r.1) r.2 0 [(0, .ref 0), (1, .int a1)] [] μ
  refine fw_iload_n (pc := 0) d_M_said_0 1 rfl rfl ?_
  refine fw_i2l (pc := 1) d_M_said_1 ?_
  refine fw_lconst (pc := 2) d_M_said_2 (v := 0) (by decide) ?_
  refine fw_ldc2 (pc := 3) d_M_said_3 cl_M_127 ?_
  obtain ⟨p6, e6, h⟩ := fw_be h
  refine fw_callSi (pc := 6) d_M_said_6 ms_M_94 (c_M_in e6) (by decide) rfl rfl (Nat.le_of_ble_eq_true rfl) ?_
  refine fw_if_ne (pc := 9) (tgt := 14) d_M_said_9 rfl (fun hc => ?_) (fun hc => ?_)
  · have h := fw_it hc h
    refine fw_iconst (pc := 12) d_M_said_12 fw_icm1 ?_
    obtain rfl := Option.some.inj h
    exact fw_iret (pc := 13) d_M_said_13 rfl
  · have h := fw_if hc h
    refine fw_bipush (pc := 14) d_M_said_14 fw_bpm4 ?_
    refine fw_istore_n (pc := 16) (lv1 := [(2, .int (-4)), (0, .ref 0), (1, .int a1)]) d_M_said_16 rfl (by decide) rfl ?_
    refine fw_bipush (pc := 17) d_M_said_17 fw_bp99 ?_
    refine fw_istore_n (pc := 19) (lv1 := [(3, .int 99), (2, .int (-4)), (0, .ref 0), (1, .int a1)]) d_M_said_19 rfl (by decide) rfl ?_
    refine fw_iconst (pc := 20) d_M_said_20 fw_ic0 ?_
    refine fw_istore (pc := 21) (lv1 := [(4, .int 0), (3, .int 99), (2, .int (-4)), (0, .ref 0), (1, .int a1)]) d_M_said_21 (by decide) rfl ?_
    obtain ⟨e23x, w23, h⟩ := fw_be h
    have hE23 : fw_R "FewTypesModel" prog_11_method_48_code 6 (some .int) fw_Mo 6 (some r.1) r.2 93 [(2, .int e23x.1)] [] e23x.2 := by
      refine fw_iload_n (pc := 93) d_M_said_93 0 rfl rfl ?_
      obtain rfl := Option.some.inj h
      exact fw_iret (pc := 94) d_M_said_94 rfl
    clear h
    exact fw_sub [3, 4, 2, 1, 0] rfl (fw_we (e := e23x) (fun (s : Int32 × Int32 × Int32 × fw_M) => fw_R "FewTypesModel" prog_11_method_48_code 6 (some .int) fw_Mo 6 (some r.1) r.2 23 [(0, .ref 0), (1, .int a1), (2, .int s.1), (3, .int s.2.1), (4, .int s.2.2.1)] [] s.2.2.2) (by
      intro s x h hl hr
      obtain ⟨x2_23, x3_23, x4_23, μ23⟩ := s
      rw [f_M_said_L23] at h
      show fw_R "FewTypesModel" prog_11_method_48_code 6 (some .int) fw_Mo 6 (some r.1) r.2 23 [(0, .ref 0), (1, .int a1), (2, .int x2_23), (3, .int x3_23), (4, .int x4_23)] [] μ23
      refine fw_iload (pc := 23) d_M_said_23 4 rfl ?_
      refine fw_aload_n (pc := 25) d_M_said_25 0 rfl rfl ?_
      refine fw_getI (pc := 26) d_M_said_26 fl_M_174 fw_Mo0 rfl ?_
      refine fw_icmp_ge (pc := 29) (tgt := 93) d_M_said_29 rfl (fun hc => ?_) (fun hc => ?_)
      · have h := fw_it hc h
        obtain rfl := Option.some.inj h
        have he := hr _ rfl
        subst he
        exact fw_sub [2] rfl hE23
      · have h := fw_if hc h
        refine fw_aload_n (pc := 32) d_M_said_32 0 rfl rfl ?_
        refine fw_getR (pc := 33) d_M_said_33 fl_M_28 fw_Mo0 rfl ?_
        refine fw_bipush (pc := 36) d_M_said_36 fw_bp13 ?_
        refine fw_iload (pc := 38) d_M_said_38 4 rfl ?_
        refine fw_imul (pc := 40) d_M_said_40 ?_
        refine fw_iconst (pc := 41) d_M_said_41 fw_ic2 ?_
        refine fw_iadd (pc := 42) d_M_said_42 ?_
        obtain ⟨v43, e43, h⟩ := fw_be h
        refine fw_iald (pc := 43) d_M_said_43 fw_Mo7 e43 ?_
        refine fw_iload_n (pc := 44) d_M_said_44 1 rfl rfl ?_
        obtain ⟨j45, w45, h⟩ := fw_be h
        have hJ45 : fw_R "FewTypesModel" prog_11_method_48_code 6 (some .int) fw_Mo 6 (some r.1) r.2 59 [(0, .ref 0), (1, .int a1), (2, .int x2_23), (3, .int x3_23), (4, .int x4_23)] [.int j45.1] j45.2 := by
          refine fw_istore (pc := 59) (lv1 := [(5, .int j45.1), (0, .ref 0), (1, .int a1), (2, .int x2_23), (3, .int x3_23), (4, .int x4_23)]) d_M_said_59 (by decide) rfl ?_
          refine fw_iload (pc := 61) d_M_said_61 0 rfl ?_
          refine fw_iload_n (pc := 63) d_M_said_63 4 rfl rfl ?_
          obtain ⟨j64, w64, h⟩ := fw_ne h
          have hJ64 : fw_R "FewTypesModel" prog_11_method_48_code 6 (some .int) fw_Mo 6 (some r.1) r.2 73 [(0, .ref 0), (1, .int a1), (3, .int x3_23), (4, .int x4_23), (5, .int j45.1)] [.int j64] j45.2 := by
            refine fw_istore_n (pc := 73) (lv1 := [(2, .int j64), (0, .ref 0), (1, .int a1), (3, .int x3_23), (4, .int x4_23), (5, .int j45.1)]) d_M_said_73 rfl (by decide) rfl ?_
            refine fw_iload (pc := 74) d_M_said_74 5 rfl ?_
            refine fw_iload_n (pc := 76) d_M_said_76 3 rfl rfl ?_
            obtain ⟨j77, w77, h⟩ := fw_ne h
            have hJ77 : fw_R "FewTypesModel" prog_11_method_48_code 6 (some .int) fw_Mo 6 (some r.1) r.2 86 [(0, .ref 0), (1, .int a1), (2, .int j64), (4, .int x4_23)] [.int j77] j45.2 := by
              refine fw_istore_n (pc := 86) (lv1 := [(3, .int j77), (0, .ref 0), (1, .int a1), (2, .int j64), (4, .int x4_23)]) d_M_said_86 rfl (by decide) rfl ?_
              obtain ⟨v87, e87, h⟩ := fw_ne h
              refine fw_iinc2 (pc := 87) (j := 4) (lv1 := [(4, .int v87), (3, .int j77), (0, .ref 0), (1, .int a1), (2, .int j64)]) d_M_said_87 rfl fw_ic1 e87 (by decide) rfl ?_
              refine fw_goto (pc := 90) (tgt := 23) d_M_said_90 rfl ?_
              obtain rfl := Option.some.inj h
              exact fw_sub [2, 3, 4, 1, 0] rfl (hl _ rfl)
            clear h
            have h := w77
            clear w77
            refine fw_icmp_ge (pc := 77) (tgt := 85) d_M_said_77 rfl (fun hc => ?_) (fun hc => ?_)
            · have h := h.trans (if_pos hc)
              refine fw_iload_n (pc := 85) d_M_said_85 3 rfl rfl ?_
              subst h
              exact fw_sub [1, 2, 0, 4] rfl hJ77
            · have h := h.trans (if_neg hc)
              refine fw_iload (pc := 80) d_M_said_80 5 rfl ?_
              refine fw_goto (pc := 82) (tgt := 86) d_M_said_82 rfl ?_
              subst h
              exact fw_sub [1, 2, 0, 4] rfl hJ77
          clear h
          have h := w64
          clear w64
          refine fw_icmp_ge (pc := 64) (tgt := 72) d_M_said_64 rfl (fun hc => ?_) (fun hc => ?_)
          · have h := h.trans (if_pos hc)
            refine fw_iload_n (pc := 72) d_M_said_72 3 rfl rfl ?_
            subst h
            exact fw_sub [1, 2, 4, 5, 0] rfl hJ64
          · have h := h.trans (if_neg hc)
            refine fw_iload (pc := 67) d_M_said_67 5 rfl ?_
            refine fw_goto (pc := 69) (tgt := 73) d_M_said_69 rfl ?_
            subst h
            exact fw_sub [1, 2, 4, 5, 0] rfl hJ64
        clear h
        have h := w45
        clear w45
        refine fw_icmp_ne (pc := 45) (tgt := 57) d_M_said_45 rfl (fun hc => ?_) (fun hc => ?_)
        · have h := fw_it hc h
          refine fw_aload_n (pc := 48) d_M_said_48 0 rfl rfl ?_
          refine fw_iload (pc := 49) d_M_said_49 4 rfl ?_
          obtain ⟨p51, e51, h⟩ := fw_be h
          refine fw_callVi (pc := 51) d_M_said_51 mv_M_225 fw_Mo0 (c_M_needsOf e51) (by decide) rfl rfl (Nat.le_of_ble_eq_true rfl) ?_
          refine fw_goto (pc := 54) (tgt := 59) d_M_said_54 rfl ?_
          obtain rfl := Option.some.inj h
          exact fw_sub [0, 1, 2, 3, 4] rfl hJ45
        · have h := fw_if hc h
          refine fw_bipush (pc := 57) d_M_said_57 fw_bp99 ?_
          obtain rfl := Option.some.inj h
          exact fw_sub [0, 1, 2, 3, 4] rfl hJ45
      ) _ _ w23)
def f_M_job (a1 : Int32) (a2 : Int32) (μ : fw_M) : Option (Int32 × fw_M) :=
  (f_M_in (Int32.toInt64 a1) 1 24).bind fun (p6 : Int32) =>
  if p6 = 0 then
    some ((-1), μ)
  else
    (f_M_in (Int32.toInt64 a2) 1 200).bind fun (p18 : Int32) =>
    if p18 = 0 then
      some ((-1), μ)
    else
      if (μ.1 0 11) = 8 then
        some ((-3), μ)
      else
        (fw_si 8 μ 8 (μ.1 0 11) a1).bind fun μ47 =>
        (fw_si 8 μ47 9 (μ47.1 0 11) a2).bind fun μ57 =>
        fw_nm (fw_wr μ57 0 11 ((μ57.1 0 11) + 1)) fun (μ65 : fw_M) =>
        some (((μ65.1 0 11) - 1), μ65)
set_option maxHeartbeats 4000000 in
set_option maxRecDepth 100000 in
theorem c_M_job {a1 : Int32} {a2 : Int32} {μ : fw_M} {r : Int32 × fw_M} (h : f_M_job a1 a2 μ = some r) : fw_Con Y_M_job fw_Mo 2 [.ref 0, .int a1, .int a2] (some r.1) μ r.2 := by
  refine fw_con (by decide) (Nat.le_of_ble_eq_true rfl) ?_
  rw [f_M_job] at h
  show fw_R "FewTypesModel" prog_11_method_49_code 3 (some .int) fw_Mo 2 (some r.1) r.2 0 [(0, .ref 0), (1, .int a1), (2, .int a2)] [] μ
  refine fw_iload_n (pc := 0) d_M_job_0 1 rfl rfl ?_
  refine fw_i2l (pc := 1) d_M_job_1 ?_
  refine fw_lconst (pc := 2) d_M_job_2 (v := 1) (by decide) ?_
  refine fw_ldc2 (pc := 3) d_M_job_3 cl_M_228 ?_
  obtain ⟨p6, e6, h⟩ := fw_be h
  refine fw_callSi (pc := 6) d_M_job_6 ms_M_94 (c_M_in e6) (by decide) rfl rfl (Nat.le_of_ble_eq_true rfl) ?_
  refine fw_if_eq (pc := 9) (tgt := 24) d_M_job_9 rfl (fun hc => ?_) (fun hc => ?_)
  · have h := fw_it hc h
    refine fw_iconst (pc := 24) d_M_job_24 fw_icm1 ?_
    obtain rfl := Option.some.inj h
    exact fw_iret (pc := 25) d_M_job_25 rfl
  · have h := fw_if hc h
    refine fw_iload_n (pc := 12) d_M_job_12 2 rfl rfl ?_
    refine fw_i2l (pc := 13) d_M_job_13 ?_
    refine fw_lconst (pc := 14) d_M_job_14 (v := 1) (by decide) ?_
    refine fw_ldc2 (pc := 15) d_M_job_15 cl_M_230 ?_
    obtain ⟨p18, e18, h⟩ := fw_be h
    refine fw_callSi (pc := 18) d_M_job_18 ms_M_94 (c_M_in e18) (by decide) rfl rfl (Nat.le_of_ble_eq_true rfl) ?_
    refine fw_if_ne (pc := 21) (tgt := 26) d_M_job_21 rfl (fun hc => ?_) (fun hc => ?_)
    · have h := fw_it hc h
      refine fw_iconst (pc := 24) d_M_job_24 fw_icm1 ?_
      obtain rfl := Option.some.inj h
      exact fw_iret (pc := 25) d_M_job_25 rfl
    · have h := fw_if hc h
      refine fw_aload_n (pc := 26) d_M_job_26 0 rfl rfl ?_
      refine fw_getI (pc := 27) d_M_job_27 fl_M_177 fw_Mo0 rfl ?_
      refine fw_bipush (pc := 30) d_M_job_30 fw_bp8 ?_
      refine fw_icmp_ne (pc := 32) (tgt := 38) d_M_job_32 rfl (fun hc => ?_) (fun hc => ?_)
      · have h := fw_it hc h
        refine fw_bipush (pc := 35) d_M_job_35 fw_bpm3 ?_
        obtain rfl := Option.some.inj h
        exact fw_iret (pc := 37) d_M_job_37 rfl
      · have h := fw_if hc h
        refine fw_aload_n (pc := 38) d_M_job_38 0 rfl rfl ?_
        refine fw_getR (pc := 39) d_M_job_39 fl_M_31 fw_Mo0 rfl ?_
        refine fw_aload_n (pc := 42) d_M_job_42 0 rfl rfl ?_
        refine fw_getI (pc := 43) d_M_job_43 fl_M_177 fw_Mo0 rfl ?_
        refine fw_iload_n (pc := 46) d_M_job_46 1 rfl rfl ?_
        obtain ⟨μ47, e47, h⟩ := fw_be h
        refine fw_iast (pc := 47) d_M_job_47 fw_Mo8 e47 ?_
        refine fw_aload_n (pc := 48) d_M_job_48 0 rfl rfl ?_
        refine fw_getR (pc := 49) d_M_job_49 fl_M_34 fw_Mo0 rfl ?_
        refine fw_aload_n (pc := 52) d_M_job_52 0 rfl rfl ?_
        refine fw_getI (pc := 53) d_M_job_53 fl_M_177 fw_Mo0 rfl ?_
        refine fw_iload_n (pc := 56) d_M_job_56 2 rfl rfl ?_
        obtain ⟨μ57, e57, h⟩ := fw_be h
        refine fw_iast (pc := 57) d_M_job_57 fw_Mo9 e57 ?_
        refine fw_aload_n (pc := 58) d_M_job_58 0 rfl rfl ?_
        refine fw_dup (pc := 59) d_M_job_59 rfl ?_
        refine fw_getI (pc := 60) d_M_job_60 fl_M_177 fw_Mo0 rfl ?_
        refine fw_iconst (pc := 63) d_M_job_63 fw_ic1 ?_
        refine fw_iadd (pc := 64) d_M_job_64 ?_
        obtain ⟨μ65, e65, h⟩ := fw_ne h
        refine fw_putI (pc := 65) d_M_job_65 fp_M_177 fw_Mo0 rfl (fw_mem e65 ?_)
        refine fw_aload_n (pc := 68) d_M_job_68 0 rfl rfl ?_
        refine fw_getI (pc := 69) d_M_job_69 fl_M_177 fw_Mo0 rfl ?_
        refine fw_iconst (pc := 72) d_M_job_72 fw_ic1 ?_
        refine fw_isub (pc := 73) d_M_job_73 ?_
        obtain rfl := Option.some.inj h
        exact fw_iret (pc := 74) d_M_job_74 rfl
def f_M_size_L4  : Int32 × Int32 → Option ((Int32 × Int32) ⊕ (Int32))
  | (x1_4, x2_4) =>
  if x2_4 = 0 then
    some (.inr x1_4)
  else
    fw_nm (x1_4 + 1) fun (v8 : Int32) =>
    fw_nm ((x2_4 &&& (x2_4 - 1))) fun (v16 : Int32) =>
    some (.inl (v8, v16))
def f_M_size (a0 : Int32) : Option (Int32) :=
  (fw_wh (f_M_size_L4) fw_N (0, a0)).bind fun (e4x : Int32) =>
  some e4x
set_option maxHeartbeats 4000000 in
set_option maxRecDepth 100000 in
theorem c_M_size {a0 : Int32} {μ : fw_M} {r : Int32} (h : f_M_size a0 = some r) : fw_Con Y_M_size fw_Mo 1 [.int a0] (some r) μ μ := by
  refine fw_con (by decide) (Nat.le_of_ble_eq_true rfl) ?_
  rw [f_M_size] at h
  show fw_R "FewTypesModel" prog_11_method_50_code 3 (some .int) fw_Mo 1 (some r) μ 0 [(0, .int a0)] [] μ
  refine fw_iconst (pc := 0) d_M_size_0 fw_ic0 ?_
  refine fw_istore_n (pc := 1) (lv1 := [(1, .int 0), (0, .int a0)]) d_M_size_1 rfl (by decide) rfl ?_
  refine fw_iload_n (pc := 2) d_M_size_2 1 rfl rfl ?_
  refine fw_istore_n (pc := 3) (lv1 := [(2, .int a0), (1, .int 0), (0, .int a0)]) d_M_size_3 rfl (by decide) rfl ?_
  obtain ⟨e4x, w4, h⟩ := fw_be h
  have hE4 : fw_R "FewTypesModel" prog_11_method_50_code 3 (some .int) fw_Mo 1 (some r) μ 20 [(1, .int e4x)] [] μ := by
    refine fw_iload_n (pc := 20) d_M_size_20 0 rfl rfl ?_
    obtain rfl := Option.some.inj h
    exact fw_iret (pc := 21) d_M_size_21 rfl
  clear h
  exact fw_sub [1, 0] rfl (fw_we (e := e4x) (fun (s : Int32 × Int32) => fw_R "FewTypesModel" prog_11_method_50_code 3 (some .int) fw_Mo 1 (some r) μ 4 [(1, .int s.1), (2, .int s.2)] [] μ) (by
    intro s x h hl hr
    obtain ⟨x1_4, x2_4⟩ := s
    rw [f_M_size_L4] at h
    show fw_R "FewTypesModel" prog_11_method_50_code 3 (some .int) fw_Mo 1 (some r) μ 4 [(1, .int x1_4), (2, .int x2_4)] [] μ
    refine fw_iload_n (pc := 4) d_M_size_4 1 rfl rfl ?_
    refine fw_if_eq (pc := 5) (tgt := 20) d_M_size_5 rfl (fun hc => ?_) (fun hc => ?_)
    · have h := fw_it hc h
      obtain rfl := Option.some.inj h
      have he := hr _ rfl
      subst he
      exact fw_sub [0] rfl hE4
    · have h := fw_if hc h
      obtain ⟨v8, e8, h⟩ := fw_ne h
      refine fw_iinc2 (pc := 8) (j := 0) (lv1 := [(1, .int v8), (2, .int x2_4)]) d_M_size_8 rfl fw_ic1 e8 (by decide) rfl ?_
      refine fw_iload_n (pc := 11) d_M_size_11 1 rfl rfl ?_
      refine fw_iload_n (pc := 12) d_M_size_12 1 rfl rfl ?_
      refine fw_iconst (pc := 13) d_M_size_13 fw_ic1 ?_
      refine fw_isub (pc := 14) d_M_size_14 ?_
      refine fw_iand (pc := 15) d_M_size_15 ?_
      obtain ⟨v16, e16, h⟩ := fw_ne h
      refine fw_top e16 ?_
      refine fw_istore_n (pc := 16) (lv1 := [(2, .int v16), (1, .int v8)]) d_M_size_16 rfl (by decide) rfl ?_
      refine fw_goto (pc := 17) (tgt := 4) d_M_size_17 rfl ?_
      obtain rfl := Option.some.inj h
      exact fw_sub [1, 0] rfl (hl _ rfl)
    ) _ _ w4)
def f_M_isDone_L18 (a1 : Int32) (μ : fw_M) (x3_4 : Int32) : Int32 × Int32 → Option ((Int32 × Int32) ⊕ (Int32))
  | (x4_18, x5_18) =>
  if (μ.1 0 11) ≤ x5_18 then
    some (.inr x4_18)
  else
    Option.bind (
      if ((a1 >>> (x5_18 &&& 31)) &&& 1) = 1 then
        (fw_rd 8 (μ.1 9) x5_18).bind fun v45 =>
        (fw_rd 8 (μ.1 9) x3_4).bind fun v51 =>
        if v51 < v45 then
          some 0
        else
          (fw_rd 8 (μ.1 8) x5_18).bind fun v61 =>
          some v61
      else
        some 0) fun (j36 : Int32) =>
    fw_nm ((x4_18 + j36)) fun (v67 : Int32) =>
    fw_nm (x5_18 + 1) fun (v69 : Int32) =>
    some (.inl (v67, v69))
def f_M_isDone_L4 (a1 : Int32) (μ : fw_M) : Int32 × Int32 → Option ((Int32 × Int32) ⊕ (Int32))
  | (x2_4, x3_4) =>
  if (μ.1 0 11) ≤ x3_4 then
    some (.inr x2_4)
  else
    (fw_wh (f_M_isDone_L18 a1 μ x3_4) fw_N (0, 0)).bind fun (e18x : Int32) =>
    Option.bind (
      if x2_4 = 0 then
        some 0
      else
        if ((a1 >>> (x3_4 &&& 31)) &&& 1) = 0 then
          some 1
        else
          (fw_rd 8 (μ.1 9) x3_4).bind fun v94 =>
          if v94 < e18x then
            some 0
          else
            some 1) fun (j76 : Int32) =>
    fw_nm (x3_4 + 1) fun (v104 : Int32) =>
    some (.inl (j76, v104))
def f_M_isDone (a1 : Int32) (μ : fw_M) : Option (Int32) :=
  (fw_wh (f_M_isDone_L4 a1 μ) fw_N (1, 0)).bind fun (e4x : Int32) =>
  (fw_bz e4x).bind fun b111 =>
  some b111
set_option maxHeartbeats 4000000 in
set_option maxRecDepth 100000 in
theorem c_M_isDone {a1 : Int32} {μ : fw_M} {r : Int32} (h : f_M_isDone a1 μ = some r) : fw_Con Y_M_isDone fw_Mo 1 [.ref 0, .int a1] (some r) μ μ := by
  refine fw_con (by decide) (Nat.le_of_ble_eq_true rfl) ?_
  rw [f_M_isDone] at h
  show fw_R "FewTypesModel" prog_11_method_51_code 6 (some .boolean) fw_Mo 1 (some r) μ 0 [(0, .ref 0), (1, .int a1)] [] μ
  refine fw_iconst (pc := 0) d_M_isDone_0 fw_ic1 ?_
  refine fw_istore_n (pc := 1) (lv1 := [(2, .int 1), (0, .ref 0), (1, .int a1)]) d_M_isDone_1 rfl (by decide) rfl ?_
  refine fw_iconst (pc := 2) d_M_isDone_2 fw_ic0 ?_
  refine fw_istore_n (pc := 3) (lv1 := [(3, .int 0), (2, .int 1), (0, .ref 0), (1, .int a1)]) d_M_isDone_3 rfl (by decide) rfl ?_
  obtain ⟨e4x, w4, h⟩ := fw_be h
  have hE4 : fw_R "FewTypesModel" prog_11_method_51_code 6 (some .boolean) fw_Mo 1 (some r) μ 110 [(2, .int e4x)] [] μ := by
    refine fw_iload_n (pc := 110) d_M_isDone_110 0 rfl rfl ?_
    obtain ⟨b111, e111, h⟩ := fw_be h
    obtain rfl := Option.some.inj h
    exact fw_zret (pc := 111) d_M_isDone_111 rfl e111
  clear h
  exact fw_sub [2, 3, 1, 0] rfl (fw_we (e := e4x) (fun (s : Int32 × Int32) => fw_R "FewTypesModel" prog_11_method_51_code 6 (some .boolean) fw_Mo 1 (some r) μ 4 [(0, .ref 0), (1, .int a1), (2, .int s.1), (3, .int s.2)] [] μ) (by
    intro s x h hl hr
    obtain ⟨x2_4, x3_4⟩ := s
    rw [f_M_isDone_L4] at h
    show fw_R "FewTypesModel" prog_11_method_51_code 6 (some .boolean) fw_Mo 1 (some r) μ 4 [(0, .ref 0), (1, .int a1), (2, .int x2_4), (3, .int x3_4)] [] μ
    refine fw_iload_n (pc := 4) d_M_isDone_4 3 rfl rfl ?_
    refine fw_aload_n (pc := 5) d_M_isDone_5 0 rfl rfl ?_
    refine fw_getI (pc := 6) d_M_isDone_6 fl_M_177 fw_Mo0 rfl ?_
    refine fw_icmp_ge (pc := 9) (tgt := 110) d_M_isDone_9 rfl (fun hc => ?_) (fun hc => ?_)
    · have h := fw_it hc h
      obtain rfl := Option.some.inj h
      have he := hr _ rfl
      subst he
      exact fw_sub [2] rfl hE4
    · have h := fw_if hc h
      refine fw_iconst (pc := 12) d_M_isDone_12 fw_ic0 ?_
      refine fw_istore (pc := 13) (lv1 := [(4, .int 0), (0, .ref 0), (1, .int a1), (2, .int x2_4), (3, .int x3_4)]) d_M_isDone_13 (by decide) rfl ?_
      refine fw_iconst (pc := 15) d_M_isDone_15 fw_ic0 ?_
      refine fw_istore (pc := 16) (lv1 := [(5, .int 0), (4, .int 0), (0, .ref 0), (1, .int a1), (2, .int x2_4), (3, .int x3_4)]) d_M_isDone_16 (by decide) rfl ?_
      obtain ⟨e18x, w18, h⟩ := fw_be h
      have hE18 : fw_R "FewTypesModel" prog_11_method_51_code 6 (some .boolean) fw_Mo 1 (some r) μ 75 [(0, .ref 0), (1, .int a1), (2, .int x2_4), (3, .int x3_4), (4, .int e18x)] [] μ := by
        refine fw_iload_n (pc := 75) d_M_isDone_75 2 rfl rfl ?_
        obtain ⟨j76, w76, h⟩ := fw_be h
        have hJ76 : fw_R "FewTypesModel" prog_11_method_51_code 6 (some .boolean) fw_Mo 1 (some r) μ 103 [(0, .ref 0), (1, .int a1), (3, .int x3_4)] [.int j76] μ := by
          refine fw_istore_n (pc := 103) (lv1 := [(2, .int j76), (0, .ref 0), (1, .int a1), (3, .int x3_4)]) d_M_isDone_103 rfl (by decide) rfl ?_
          obtain ⟨v104, e104, h⟩ := fw_ne h
          refine fw_iinc2 (pc := 104) (j := 3) (lv1 := [(3, .int v104), (2, .int j76), (0, .ref 0), (1, .int a1)]) d_M_isDone_104 rfl fw_ic1 e104 (by decide) rfl ?_
          refine fw_goto (pc := 107) (tgt := 4) d_M_isDone_107 rfl ?_
          obtain rfl := Option.some.inj h
          exact fw_sub [2, 3, 1, 0] rfl (hl _ rfl)
        clear h
        have h := w76
        clear w76
        refine fw_if_eq (pc := 76) (tgt := 102) d_M_isDone_76 rfl (fun hc => ?_) (fun hc => ?_)
        · have h := fw_it hc h
          refine fw_iconst (pc := 102) d_M_isDone_102 fw_ic0 ?_
          obtain rfl := Option.some.inj h
          exact fw_sub [0, 1, 3] rfl hJ76
        · have h := fw_if hc h
          refine fw_iload_n (pc := 79) d_M_isDone_79 1 rfl rfl ?_
          refine fw_iload_n (pc := 80) d_M_isDone_80 3 rfl rfl ?_
          refine fw_ishr (pc := 81) d_M_isDone_81 ?_
          refine fw_iconst (pc := 82) d_M_isDone_82 fw_ic1 ?_
          refine fw_iand (pc := 83) d_M_isDone_83 ?_
          refine fw_if_eq (pc := 84) (tgt := 98) d_M_isDone_84 rfl (fun hc => ?_) (fun hc => ?_)
          · have h := fw_it hc h
            refine fw_iconst (pc := 98) d_M_isDone_98 fw_ic1 ?_
            refine fw_goto (pc := 99) (tgt := 103) d_M_isDone_99 rfl ?_
            obtain rfl := Option.some.inj h
            exact fw_sub [0, 1, 3] rfl hJ76
          · have h := fw_if hc h
            refine fw_iload (pc := 87) d_M_isDone_87 4 rfl ?_
            refine fw_aload_n (pc := 89) d_M_isDone_89 0 rfl rfl ?_
            refine fw_getR (pc := 90) d_M_isDone_90 fl_M_34 fw_Mo0 rfl ?_
            refine fw_iload_n (pc := 93) d_M_isDone_93 3 rfl rfl ?_
            obtain ⟨v94, e94, h⟩ := fw_be h
            refine fw_iald (pc := 94) d_M_isDone_94 fw_Mo9 e94 ?_
            refine fw_icmp_gt (pc := 95) (tgt := 102) d_M_isDone_95 rfl (fun hc => ?_) (fun hc => ?_)
            · have h := fw_it hc h
              refine fw_iconst (pc := 102) d_M_isDone_102 fw_ic0 ?_
              obtain rfl := Option.some.inj h
              exact fw_sub [0, 1, 3] rfl hJ76
            · have h := fw_if hc h
              refine fw_iconst (pc := 98) d_M_isDone_98 fw_ic1 ?_
              refine fw_goto (pc := 99) (tgt := 103) d_M_isDone_99 rfl ?_
              obtain rfl := Option.some.inj h
              exact fw_sub [0, 1, 3] rfl hJ76
      clear h
      exact fw_sub [2, 3, 4, 5, 1, 0] rfl (fw_we (e := e18x) (fun (s : Int32 × Int32) => fw_R "FewTypesModel" prog_11_method_51_code 6 (some .boolean) fw_Mo 1 (some r) μ 18 [(0, .ref 0), (1, .int a1), (2, .int x2_4), (3, .int x3_4), (4, .int s.1), (5, .int s.2)] [] μ) (by
        intro s x h hl hr
        obtain ⟨x4_18, x5_18⟩ := s
        rw [f_M_isDone_L18] at h
        show fw_R "FewTypesModel" prog_11_method_51_code 6 (some .boolean) fw_Mo 1 (some r) μ 18 [(0, .ref 0), (1, .int a1), (2, .int x2_4), (3, .int x3_4), (4, .int x4_18), (5, .int x5_18)] [] μ
        refine fw_iload (pc := 18) d_M_isDone_18 5 rfl ?_
        refine fw_aload_n (pc := 20) d_M_isDone_20 0 rfl rfl ?_
        refine fw_getI (pc := 21) d_M_isDone_21 fl_M_177 fw_Mo0 rfl ?_
        refine fw_icmp_ge (pc := 24) (tgt := 75) d_M_isDone_24 rfl (fun hc => ?_) (fun hc => ?_)
        · have h := fw_it hc h
          obtain rfl := Option.some.inj h
          have he := hr _ rfl
          subst he
          exact fw_sub [0, 1, 2, 3, 4] rfl hE18
        · have h := fw_if hc h
          refine fw_iload (pc := 27) d_M_isDone_27 4 rfl ?_
          refine fw_iload_n (pc := 29) d_M_isDone_29 1 rfl rfl ?_
          refine fw_iload (pc := 30) d_M_isDone_30 5 rfl ?_
          refine fw_ishr (pc := 32) d_M_isDone_32 ?_
          refine fw_iconst (pc := 33) d_M_isDone_33 fw_ic1 ?_
          refine fw_iand (pc := 34) d_M_isDone_34 ?_
          refine fw_iconst (pc := 35) d_M_isDone_35 fw_ic1 ?_
          obtain ⟨j36, w36, h⟩ := fw_be h
          have hJ36 : fw_R "FewTypesModel" prog_11_method_51_code 6 (some .boolean) fw_Mo 1 (some r) μ 66 [(0, .ref 0), (1, .int a1), (2, .int x2_4), (3, .int x3_4), (5, .int x5_18)] [.int j36, .int x4_18] μ := by
            refine fw_iadd (pc := 66) d_M_isDone_66 ?_
            obtain ⟨v67, e67, h⟩ := fw_ne h
            refine fw_top e67 ?_
            refine fw_istore (pc := 67) (lv1 := [(4, .int v67), (0, .ref 0), (1, .int a1), (2, .int x2_4), (3, .int x3_4), (5, .int x5_18)]) d_M_isDone_67 (by decide) rfl ?_
            obtain ⟨v69, e69, h⟩ := fw_ne h
            refine fw_iinc2 (pc := 69) (j := 5) (lv1 := [(5, .int v69), (4, .int v67), (0, .ref 0), (1, .int a1), (2, .int x2_4), (3, .int x3_4)]) d_M_isDone_69 rfl fw_ic1 e69 (by decide) rfl ?_
            refine fw_goto (pc := 72) (tgt := 18) d_M_isDone_72 rfl ?_
            obtain rfl := Option.some.inj h
            exact fw_sub [2, 3, 4, 5, 1, 0] rfl (hl _ rfl)
          clear h
          have h := w36
          clear w36
          refine fw_icmp_ne (pc := 36) (tgt := 65) d_M_isDone_36 rfl (fun hc => ?_) (fun hc => ?_)
          · have h := fw_it hc h
            refine fw_aload_n (pc := 39) d_M_isDone_39 0 rfl rfl ?_
            refine fw_getR (pc := 40) d_M_isDone_40 fl_M_34 fw_Mo0 rfl ?_
            refine fw_iload (pc := 43) d_M_isDone_43 5 rfl ?_
            obtain ⟨v45, e45, h⟩ := fw_be h
            refine fw_iald (pc := 45) d_M_isDone_45 fw_Mo9 e45 ?_
            refine fw_aload_n (pc := 46) d_M_isDone_46 0 rfl rfl ?_
            refine fw_getR (pc := 47) d_M_isDone_47 fl_M_34 fw_Mo0 rfl ?_
            refine fw_iload_n (pc := 50) d_M_isDone_50 3 rfl rfl ?_
            obtain ⟨v51, e51, h⟩ := fw_be h
            refine fw_iald (pc := 51) d_M_isDone_51 fw_Mo9 e51 ?_
            refine fw_icmp_gt (pc := 52) (tgt := 65) d_M_isDone_52 rfl (fun hc => ?_) (fun hc => ?_)
            · have h := fw_it hc h
              refine fw_iconst (pc := 65) d_M_isDone_65 fw_ic0 ?_
              obtain rfl := Option.some.inj h
              exact fw_sub [0, 1, 2, 3, 5] rfl hJ36
            · have h := fw_if hc h
              refine fw_aload_n (pc := 55) d_M_isDone_55 0 rfl rfl ?_
              refine fw_getR (pc := 56) d_M_isDone_56 fl_M_31 fw_Mo0 rfl ?_
              refine fw_iload (pc := 59) d_M_isDone_59 5 rfl ?_
              obtain ⟨v61, e61, h⟩ := fw_be h
              refine fw_iald (pc := 61) d_M_isDone_61 fw_Mo8 e61 ?_
              refine fw_goto (pc := 62) (tgt := 66) d_M_isDone_62 rfl ?_
              obtain rfl := Option.some.inj h
              exact fw_sub [0, 1, 2, 3, 5] rfl hJ36
          · have h := fw_if hc h
            refine fw_iconst (pc := 65) d_M_isDone_65 fw_ic0 ?_
            obtain rfl := Option.some.inj h
            exact fw_sub [0, 1, 2, 3, 5] rfl hJ36
        ) _ _ w18)
    ) _ _ w4)
def f_M_done_L4 (μ : fw_M) : Int32 × Int32 → Option ((Int32 × Int32) ⊕ (Int32))
  | (x1_4, x2_4) =>
  if ((1 : Int32) <<< ((μ.1 0 11) &&& 31)) ≤ x2_4 then
    some (.inr x1_4)
  else
    (f_M_size x2_4).bind fun (p15 : Int32) =>
    (f_M_size x1_4).bind fun (p19 : Int32) =>
    Option.bind (
      if p15 ≤ p19 then
        some x1_4
      else
        (f_M_isDone x2_4 μ).bind fun (p27 : Int32) =>
        if p27 = 0 then
          some x1_4
        else
          some x2_4) fun (j22 : Int32) =>
    fw_nm (x2_4 + 1) fun (v39 : Int32) =>
    some (.inl (j22, v39))
def f_M_done  (μ : fw_M) : Option (Int32) :=
  (fw_wh (f_M_done_L4 μ) fw_N (0, 1)).bind fun (e4x : Int32) =>
  some e4x
set_option maxHeartbeats 4000000 in
set_option maxRecDepth 100000 in
theorem c_M_done  {μ : fw_M} {r : Int32} (h : f_M_done  μ = some r) : fw_Con Y_M_done fw_Mo 2 [.ref 0] (some r) μ μ := by
  refine fw_con (by decide) (Nat.le_of_ble_eq_true rfl) ?_
  rw [f_M_done] at h
  show fw_R "FewTypesModel" prog_11_method_52_code 3 (some .int) fw_Mo 2 (some r) μ 0 [(0, .ref 0)] [] μ
  refine fw_iconst (pc := 0) d_M_done_0 fw_ic0 ?_
  refine fw_istore_n (pc := 1) (lv1 := [(1, .int 0), (0, .ref 0)]) d_M_done_1 rfl (by decide) rfl ?_
  refine fw_iconst (pc := 2) d_M_done_2 fw_ic1 ?_
  refine fw_istore_n (pc := 3) (lv1 := [(2, .int 1), (1, .int 0), (0, .ref 0)]) d_M_done_3 rfl (by decide) rfl ?_
  obtain ⟨e4x, w4, h⟩ := fw_be h
  have hE4 : fw_R "FewTypesModel" prog_11_method_52_code 3 (some .int) fw_Mo 2 (some r) μ 45 [(1, .int e4x)] [] μ := by
    refine fw_iload_n (pc := 45) d_M_done_45 0 rfl rfl ?_
    obtain rfl := Option.some.inj h
    exact fw_iret (pc := 46) d_M_done_46 rfl
  clear h
  exact fw_sub [2, 1, 0] rfl (fw_we (e := e4x) (fun (s : Int32 × Int32) => fw_R "FewTypesModel" prog_11_method_52_code 3 (some .int) fw_Mo 2 (some r) μ 4 [(0, .ref 0), (1, .int s.1), (2, .int s.2)] [] μ) (by
    intro s x h hl hr
    obtain ⟨x1_4, x2_4⟩ := s
    rw [f_M_done_L4] at h
    show fw_R "FewTypesModel" prog_11_method_52_code 3 (some .int) fw_Mo 2 (some r) μ 4 [(0, .ref 0), (1, .int x1_4), (2, .int x2_4)] [] μ
    refine fw_iload_n (pc := 4) d_M_done_4 2 rfl rfl ?_
    refine fw_iconst (pc := 5) d_M_done_5 fw_ic1 ?_
    refine fw_aload_n (pc := 6) d_M_done_6 0 rfl rfl ?_
    refine fw_getI (pc := 7) d_M_done_7 fl_M_177 fw_Mo0 rfl ?_
    refine fw_ishl (pc := 10) d_M_done_10 ?_
    refine fw_icmp_ge (pc := 11) (tgt := 45) d_M_done_11 rfl (fun hc => ?_) (fun hc => ?_)
    · have h := fw_it hc h
      obtain rfl := Option.some.inj h
      have he := hr _ rfl
      subst he
      exact fw_sub [1] rfl hE4
    · have h := fw_if hc h
      refine fw_iload_n (pc := 14) d_M_done_14 2 rfl rfl ?_
      obtain ⟨p15, e15, h⟩ := fw_be h
      refine fw_callSi (pc := 15) d_M_done_15 ms_M_232 (c_M_size e15) (by decide) rfl rfl (Nat.le_of_ble_eq_true rfl) ?_
      refine fw_iload_n (pc := 18) d_M_done_18 1 rfl rfl ?_
      obtain ⟨p19, e19, h⟩ := fw_be h
      refine fw_callSi (pc := 19) d_M_done_19 ms_M_232 (c_M_size e19) (by decide) rfl rfl (Nat.le_of_ble_eq_true rfl) ?_
      obtain ⟨j22, w22, h⟩ := fw_be h
      have hJ22 : fw_R "FewTypesModel" prog_11_method_52_code 3 (some .int) fw_Mo 2 (some r) μ 38 [(0, .ref 0), (2, .int x2_4)] [.int j22] μ := by
        refine fw_istore_n (pc := 38) (lv1 := [(1, .int j22), (0, .ref 0), (2, .int x2_4)]) d_M_done_38 rfl (by decide) rfl ?_
        obtain ⟨v39, e39, h⟩ := fw_ne h
        refine fw_iinc2 (pc := 39) (j := 2) (lv1 := [(2, .int v39), (1, .int j22), (0, .ref 0)]) d_M_done_39 rfl fw_ic1 e39 (by decide) rfl ?_
        refine fw_goto (pc := 42) (tgt := 4) d_M_done_42 rfl ?_
        obtain rfl := Option.some.inj h
        exact fw_sub [2, 1, 0] rfl (hl _ rfl)
      clear h
      have h := w22
      clear w22
      refine fw_icmp_le (pc := 22) (tgt := 37) d_M_done_22 rfl (fun hc => ?_) (fun hc => ?_)
      · have h := fw_it hc h
        refine fw_iload_n (pc := 37) d_M_done_37 1 rfl rfl ?_
        obtain rfl := Option.some.inj h
        exact fw_sub [0, 2] rfl hJ22
      · have h := fw_if hc h
        refine fw_aload_n (pc := 25) d_M_done_25 0 rfl rfl ?_
        refine fw_iload_n (pc := 26) d_M_done_26 2 rfl rfl ?_
        obtain ⟨p27, e27, h⟩ := fw_be h
        refine fw_callVi (pc := 27) d_M_done_27 mv_M_235 fw_Mo0 (c_M_isDone e27) (by decide) rfl rfl (Nat.le_of_ble_eq_true rfl) ?_
        refine fw_if_eq (pc := 30) (tgt := 37) d_M_done_30 rfl (fun hc => ?_) (fun hc => ?_)
        · have h := fw_it hc h
          refine fw_iload_n (pc := 37) d_M_done_37 1 rfl rfl ?_
          obtain rfl := Option.some.inj h
          exact fw_sub [0, 2] rfl hJ22
        · have h := fw_if hc h
          refine fw_iload_n (pc := 33) d_M_done_33 2 rfl rfl ?_
          refine fw_goto (pc := 34) (tgt := 38) d_M_done_34 rfl ?_
          obtain rfl := Option.some.inj h
          exact fw_sub [0, 2] rfl hJ22
    ) _ _ w4)
def f_M_clear  (μ : fw_M) : Option (Int32 × fw_M) :=
  fw_nm (((μ.1 0 9) + (μ.1 0 11))) fun (v9 : Int32) =>
  fw_nm (fw_wr μ 0 9 0) fun (μ12 : fw_M) =>
  fw_nm (fw_wr μ12 0 11 0) fun (μ17 : fw_M) =>
  some (v9, μ17)
set_option maxHeartbeats 4000000 in
set_option maxRecDepth 100000 in
theorem c_M_clear  {μ : fw_M} {r : Int32 × fw_M} (h : f_M_clear  μ = some r) : fw_Con Y_M_clear fw_Mo 1 [.ref 0] (some r.1) μ r.2 := by
  refine fw_con (by decide) (Nat.le_of_ble_eq_true rfl) ?_
  rw [f_M_clear] at h
  show fw_R "FewTypesModel" prog_11_method_53_code 2 (some .int) fw_Mo 1 (some r.1) r.2 0 [(0, .ref 0)] [] μ
  refine fw_aload_n (pc := 0) d_M_clear_0 0 rfl rfl ?_
  refine fw_getI (pc := 1) d_M_clear_1 fl_M_174 fw_Mo0 rfl ?_
  refine fw_aload_n (pc := 4) d_M_clear_4 0 rfl rfl ?_
  refine fw_getI (pc := 5) d_M_clear_5 fl_M_177 fw_Mo0 rfl ?_
  refine fw_iadd (pc := 8) d_M_clear_8 ?_
  obtain ⟨v9, e9, h⟩ := fw_ne h
  refine fw_top e9 ?_
  refine fw_istore_n (pc := 9) (lv1 := [(1, .int v9), (0, .ref 0)]) d_M_clear_9 rfl (by decide) rfl ?_
  refine fw_aload_n (pc := 10) d_M_clear_10 1 rfl rfl ?_
  refine fw_iconst (pc := 11) d_M_clear_11 fw_ic0 ?_
  obtain ⟨μ12, e12, h⟩ := fw_ne h
  refine fw_putI (pc := 12) d_M_clear_12 fp_M_174 fw_Mo0 rfl (fw_mem e12 ?_)
  refine fw_aload_n (pc := 15) d_M_clear_15 1 rfl rfl ?_
  refine fw_iconst (pc := 16) d_M_clear_16 fw_ic0 ?_
  obtain ⟨μ17, e17, h⟩ := fw_ne h
  refine fw_putI (pc := 17) d_M_clear_17 fp_M_177 fw_Mo0 rfl (fw_mem e17 ?_)
  refine fw_iload_n (pc := 20) d_M_clear_20 0 rfl rfl ?_
  obtain rfl := Option.some.inj h
  exact fw_iret (pc := 21) d_M_clear_21 rfl
def f_M_lay_L2 (k1 : Nat) (n1 : Nat) (a2 : Int32) : Int32 × fw_M → Option ((Int32 × fw_M) ⊕ (fw_M))
  | (x3_2, μ2) =>
  if (nI n1) ≤ x3_2 then
    some (.inr μ2)
  else
    (fw_rd n1 (μ2.1 k1) x3_2).bind fun v17 =>
    (fw_si 190 μ2 23 (a2 + x3_2) v17).bind fun μ18 =>
    fw_nm (x3_2 + 1) fun (v19 : Int32) =>
    some (.inl (v19, μ18))
def f_M_lay (k1 : Nat) (n1 : Nat) (a2 : Int32) (μ : fw_M) : Option (Int32 × fw_M) :=
  if fw_Mo[k1]? = some (.inr (0, n1, [])) then
    (fw_wh (f_M_lay_L2 k1 n1 a2) fw_N (0, μ)).bind fun (e2x : fw_M) =>
    some ((a2 + (nI n1)), e2x)
  else none
set_option maxHeartbeats 4000000 in
set_option maxRecDepth 100000 in
theorem c_M_lay {k1 : Nat} {n1 : Nat} {a2 : Int32} {μ : fw_M} {r : Int32 × fw_M} (h : f_M_lay k1 n1 a2 μ = some r) : fw_Con Y_M_lay fw_Mo 1 [.ref 0, .ref k1, .int a2] (some r.1) μ r.2 := by
  refine fw_con (by decide) (Nat.le_of_ble_eq_true rfl) ?_
  rw [f_M_lay] at h
  show fw_R "FewTypesModel" prog_11_method_54_code 4 (some .int) fw_Mo 1 (some r.1) r.2 0 [(0, .ref 0), (1, .ref k1), (2, .int a2)] [] μ
  obtain ⟨g1, h⟩ := fw_gu h
  refine fw_iconst (pc := 0) d_M_lay_0 fw_ic0 ?_
  refine fw_istore_n (pc := 1) (lv1 := [(3, .int 0), (0, .ref 0), (1, .ref k1), (2, .int a2)]) d_M_lay_1 rfl (by decide) rfl ?_
  obtain ⟨e2x, w2, h⟩ := fw_be h
  have hE2 : fw_R "FewTypesModel" prog_11_method_54_code 4 (some .int) fw_Mo 1 (some r.1) r.2 25 [(1, .ref k1), (2, .int a2)] [] e2x := by
    refine fw_iload_n (pc := 25) d_M_lay_25 1 rfl rfl ?_
    refine fw_aload_n (pc := 26) d_M_lay_26 0 rfl rfl ?_
    refine fw_alen (pc := 27) d_M_lay_27 g1 (ty := fun _ => .int) (fun _ => rfl) ?_
    refine fw_iadd (pc := 28) d_M_lay_28 ?_
    obtain rfl := Option.some.inj h
    exact fw_iret (pc := 29) d_M_lay_29 rfl
  clear h
  exact fw_sub [1, 2, 3, 0] rfl (fw_we (e := e2x) (fun (s : Int32 × fw_M) => fw_R "FewTypesModel" prog_11_method_54_code 4 (some .int) fw_Mo 1 (some r.1) r.2 2 [(0, .ref 0), (1, .ref k1), (2, .int a2), (3, .int s.1)] [] s.2) (by
    intro s x h hl hr
    obtain ⟨x3_2, μ2⟩ := s
    rw [f_M_lay_L2] at h
    show fw_R "FewTypesModel" prog_11_method_54_code 4 (some .int) fw_Mo 1 (some r.1) r.2 2 [(0, .ref 0), (1, .ref k1), (2, .int a2), (3, .int x3_2)] [] μ2
    refine fw_iload_n (pc := 2) d_M_lay_2 3 rfl rfl ?_
    refine fw_aload_n (pc := 3) d_M_lay_3 1 rfl rfl ?_
    refine fw_alen (pc := 4) d_M_lay_4 g1 (ty := fun _ => .int) (fun _ => rfl) ?_
    refine fw_icmp_ge (pc := 5) (tgt := 25) d_M_lay_5 rfl (fun hc => ?_) (fun hc => ?_)
    · have h := fw_it hc h
      obtain rfl := Option.some.inj h
      have he := hr _ rfl
      subst he
      exact fw_sub [1, 2] rfl hE2
    · have h := fw_if hc h
      refine fw_aload_n (pc := 8) d_M_lay_8 0 rfl rfl ?_
      refine fw_getR (pc := 9) d_M_lay_9 fl_M_77 fw_Mo0 rfl ?_
      refine fw_iload_n (pc := 12) d_M_lay_12 2 rfl rfl ?_
      refine fw_iload_n (pc := 13) d_M_lay_13 3 rfl rfl ?_
      refine fw_iadd (pc := 14) d_M_lay_14 ?_
      refine fw_aload_n (pc := 15) d_M_lay_15 1 rfl rfl ?_
      refine fw_iload_n (pc := 16) d_M_lay_16 3 rfl rfl ?_
      obtain ⟨v17, e17, h⟩ := fw_be h
      refine fw_iald (pc := 17) d_M_lay_17 g1 e17 ?_
      obtain ⟨μ18, e18, h⟩ := fw_be h
      refine fw_iast (pc := 18) d_M_lay_18 fw_Mo23 e18 ?_
      obtain ⟨v19, e19, h⟩ := fw_ne h
      refine fw_iinc2 (pc := 19) (j := 3) (lv1 := [(3, .int v19), (0, .ref 0), (1, .ref k1), (2, .int a2)]) d_M_lay_19 rfl fw_ic1 e19 (by decide) rfl ?_
      refine fw_goto (pc := 22) (tgt := 2) d_M_lay_22 rfl ?_
      obtain rfl := Option.some.inj h
      exact fw_sub [1, 2, 3, 0] rfl (hl _ rfl)
    ) _ _ w2)
def f_M_image  (μ : fw_M) : Option (Int32 × fw_M) :=
  (f_M_lay 1 10 0 μ).bind fun (p6 : Int32 × fw_M) =>
  (f_M_lay 2 10 p6.1 p6.2).bind fun (p16 : Int32 × fw_M) =>
  (f_M_lay 3 10 p16.1 p16.2).bind fun (p26 : Int32 × fw_M) =>
  (f_M_lay 4 12 p26.1 p26.2).bind fun (p36 : Int32 × fw_M) =>
  (f_M_lay 5 3 p36.1 p36.2).bind fun (p46 : Int32 × fw_M) =>
  (f_M_lay 6 10 p46.1 p46.2).bind fun (p56 : Int32 × fw_M) =>
  (f_M_lay 7 104 p56.1 p56.2).bind fun (p66 : Int32 × fw_M) =>
  (f_M_lay 8 8 p66.1 p66.2).bind fun (p76 : Int32 × fw_M) =>
  (f_M_lay 9 8 p76.1 p76.2).bind fun (p86 : Int32 × fw_M) =>
  (fw_si 190 p86.2 23 p86.1 (p86.2.1 0 0)).bind fun μ99 =>
  (fw_si 190 μ99 23 (p86.1 + 1) (μ99.1 0 6)).bind fun μ111 =>
  (fw_si 190 μ111 23 (p86.1 + 2) (μ111.1 0 8)).bind fun μ123 =>
  (fw_si 190 μ123 23 (p86.1 + 3) (μ123.1 0 9)).bind fun μ135 =>
  (fw_si 190 μ135 23 (p86.1 + 4) (μ135.1 0 11)).bind fun μ147 =>
  fw_nm (fw_wr μ147 0 32 1) fun (μ150 : fw_M) =>
  some (1, μ150)
set_option maxHeartbeats 4000000 in
set_option maxRecDepth 100000 in
theorem c_M_image  {μ : fw_M} {r : Int32 × fw_M} (h : f_M_image  μ = some r) : fw_Con Y_M_image fw_Mo 2 [.ref 0] (some r.1) μ r.2 := by
  refine fw_con (by decide) (Nat.le_of_ble_eq_true rfl) ?_
  rw [f_M_image] at h
  show fw_R "FewTypesModel" prog_11_method_56_code 2 (some .int) fw_Mo 2 (some r.1) r.2 0 [(0, .ref 0)] [] μ
  refine fw_aload_n (pc := 0) d_M_image_0 0 rfl rfl ?_
  refine fw_aload_n (pc := 1) d_M_image_1 0 rfl rfl ?_
  refine fw_getR (pc := 2) d_M_image_2 fl_M_7 fw_Mo0 rfl ?_
  refine fw_iconst (pc := 5) d_M_image_5 fw_ic0 ?_
  obtain ⟨p6, e6, h⟩ := fw_be h
  refine fw_callVi (pc := 6) d_M_image_6 mv_M_238 fw_Mo0 (c_M_lay e6) (by decide) rfl rfl (Nat.le_of_ble_eq_true rfl) ?_
  refine fw_istore_n (pc := 9) (lv1 := [(1, .int p6.1), (0, .ref 0)]) d_M_image_9 rfl (by decide) rfl ?_
  refine fw_aload_n (pc := 10) d_M_image_10 1 rfl rfl ?_
  refine fw_aload_n (pc := 11) d_M_image_11 1 rfl rfl ?_
  refine fw_getR (pc := 12) d_M_image_12 fl_M_13 fw_Mo0 rfl ?_
  refine fw_iload_n (pc := 15) d_M_image_15 0 rfl rfl ?_
  obtain ⟨p16, e16, h⟩ := fw_be h
  refine fw_callVi (pc := 16) d_M_image_16 mv_M_238 fw_Mo0 (c_M_lay e16) (by decide) rfl rfl (Nat.le_of_ble_eq_true rfl) ?_
  refine fw_istore_n (pc := 19) (lv1 := [(1, .int p16.1), (0, .ref 0)]) d_M_image_19 rfl (by decide) rfl ?_
  refine fw_aload_n (pc := 20) d_M_image_20 1 rfl rfl ?_
  refine fw_aload_n (pc := 21) d_M_image_21 1 rfl rfl ?_
  refine fw_getR (pc := 22) d_M_image_22 fl_M_16 fw_Mo0 rfl ?_
  refine fw_iload_n (pc := 25) d_M_image_25 0 rfl rfl ?_
  obtain ⟨p26, e26, h⟩ := fw_be h
  refine fw_callVi (pc := 26) d_M_image_26 mv_M_238 fw_Mo0 (c_M_lay e26) (by decide) rfl rfl (Nat.le_of_ble_eq_true rfl) ?_
  refine fw_istore_n (pc := 29) (lv1 := [(1, .int p26.1), (0, .ref 0)]) d_M_image_29 rfl (by decide) rfl ?_
  refine fw_aload_n (pc := 30) d_M_image_30 1 rfl rfl ?_
  refine fw_aload_n (pc := 31) d_M_image_31 1 rfl rfl ?_
  refine fw_getR (pc := 32) d_M_image_32 fl_M_19 fw_Mo0 rfl ?_
  refine fw_iload_n (pc := 35) d_M_image_35 0 rfl rfl ?_
  obtain ⟨p36, e36, h⟩ := fw_be h
  refine fw_callVi (pc := 36) d_M_image_36 mv_M_238 fw_Mo0 (c_M_lay e36) (by decide) rfl rfl (Nat.le_of_ble_eq_true rfl) ?_
  refine fw_istore_n (pc := 39) (lv1 := [(1, .int p36.1), (0, .ref 0)]) d_M_image_39 rfl (by decide) rfl ?_
  refine fw_aload_n (pc := 40) d_M_image_40 1 rfl rfl ?_
  refine fw_aload_n (pc := 41) d_M_image_41 1 rfl rfl ?_
  refine fw_getR (pc := 42) d_M_image_42 fl_M_22 fw_Mo0 rfl ?_
  refine fw_iload_n (pc := 45) d_M_image_45 0 rfl rfl ?_
  obtain ⟨p46, e46, h⟩ := fw_be h
  refine fw_callVi (pc := 46) d_M_image_46 mv_M_238 fw_Mo0 (c_M_lay e46) (by decide) rfl rfl (Nat.le_of_ble_eq_true rfl) ?_
  refine fw_istore_n (pc := 49) (lv1 := [(1, .int p46.1), (0, .ref 0)]) d_M_image_49 rfl (by decide) rfl ?_
  refine fw_aload_n (pc := 50) d_M_image_50 1 rfl rfl ?_
  refine fw_aload_n (pc := 51) d_M_image_51 1 rfl rfl ?_
  refine fw_getR (pc := 52) d_M_image_52 fl_M_25 fw_Mo0 rfl ?_
  refine fw_iload_n (pc := 55) d_M_image_55 0 rfl rfl ?_
  obtain ⟨p56, e56, h⟩ := fw_be h
  refine fw_callVi (pc := 56) d_M_image_56 mv_M_238 fw_Mo0 (c_M_lay e56) (by decide) rfl rfl (Nat.le_of_ble_eq_true rfl) ?_
  refine fw_istore_n (pc := 59) (lv1 := [(1, .int p56.1), (0, .ref 0)]) d_M_image_59 rfl (by decide) rfl ?_
  refine fw_aload_n (pc := 60) d_M_image_60 1 rfl rfl ?_
  refine fw_aload_n (pc := 61) d_M_image_61 1 rfl rfl ?_
  refine fw_getR (pc := 62) d_M_image_62 fl_M_28 fw_Mo0 rfl ?_
  refine fw_iload_n (pc := 65) d_M_image_65 0 rfl rfl ?_
  obtain ⟨p66, e66, h⟩ := fw_be h
  refine fw_callVi (pc := 66) d_M_image_66 mv_M_238 fw_Mo0 (c_M_lay e66) (by decide) rfl rfl (Nat.le_of_ble_eq_true rfl) ?_
  refine fw_istore_n (pc := 69) (lv1 := [(1, .int p66.1), (0, .ref 0)]) d_M_image_69 rfl (by decide) rfl ?_
  refine fw_aload_n (pc := 70) d_M_image_70 1 rfl rfl ?_
  refine fw_aload_n (pc := 71) d_M_image_71 1 rfl rfl ?_
  refine fw_getR (pc := 72) d_M_image_72 fl_M_31 fw_Mo0 rfl ?_
  refine fw_iload_n (pc := 75) d_M_image_75 0 rfl rfl ?_
  obtain ⟨p76, e76, h⟩ := fw_be h
  refine fw_callVi (pc := 76) d_M_image_76 mv_M_238 fw_Mo0 (c_M_lay e76) (by decide) rfl rfl (Nat.le_of_ble_eq_true rfl) ?_
  refine fw_istore_n (pc := 79) (lv1 := [(1, .int p76.1), (0, .ref 0)]) d_M_image_79 rfl (by decide) rfl ?_
  refine fw_aload_n (pc := 80) d_M_image_80 1 rfl rfl ?_
  refine fw_aload_n (pc := 81) d_M_image_81 1 rfl rfl ?_
  refine fw_getR (pc := 82) d_M_image_82 fl_M_34 fw_Mo0 rfl ?_
  refine fw_iload_n (pc := 85) d_M_image_85 0 rfl rfl ?_
  obtain ⟨p86, e86, h⟩ := fw_be h
  refine fw_callVi (pc := 86) d_M_image_86 mv_M_238 fw_Mo0 (c_M_lay e86) (by decide) rfl rfl (Nat.le_of_ble_eq_true rfl) ?_
  refine fw_istore_n (pc := 89) (lv1 := [(1, .int p86.1), (0, .ref 0)]) d_M_image_89 rfl (by decide) rfl ?_
  refine fw_aload_n (pc := 90) d_M_image_90 1 rfl rfl ?_
  refine fw_getR (pc := 91) d_M_image_91 fl_M_77 fw_Mo0 rfl ?_
  refine fw_iload_n (pc := 94) d_M_image_94 0 rfl rfl ?_
  refine fw_aload_n (pc := 95) d_M_image_95 1 rfl rfl ?_
  refine fw_getI (pc := 96) d_M_image_96 fl_M_108 fw_Mo0 rfl ?_
  obtain ⟨μ99, e99, h⟩ := fw_be h
  refine fw_iast (pc := 99) d_M_image_99 fw_Mo23 e99 ?_
  refine fw_aload_n (pc := 100) d_M_image_100 1 rfl rfl ?_
  refine fw_getR (pc := 101) d_M_image_101 fl_M_77 fw_Mo0 rfl ?_
  refine fw_iload_n (pc := 104) d_M_image_104 0 rfl rfl ?_
  refine fw_iconst (pc := 105) d_M_image_105 fw_ic1 ?_
  refine fw_iadd (pc := 106) d_M_image_106 ?_
  refine fw_aload_n (pc := 107) d_M_image_107 1 rfl rfl ?_
  refine fw_getI (pc := 108) d_M_image_108 fl_M_158 fw_Mo0 rfl ?_
  obtain ⟨μ111, e111, h⟩ := fw_be h
  refine fw_iast (pc := 111) d_M_image_111 fw_Mo23 e111 ?_
  refine fw_aload_n (pc := 112) d_M_image_112 1 rfl rfl ?_
  refine fw_getR (pc := 113) d_M_image_113 fl_M_77 fw_Mo0 rfl ?_
  refine fw_iload_n (pc := 116) d_M_image_116 0 rfl rfl ?_
  refine fw_iconst (pc := 117) d_M_image_117 fw_ic2 ?_
  refine fw_iadd (pc := 118) d_M_image_118 ?_
  refine fw_aload_n (pc := 119) d_M_image_119 1 rfl rfl ?_
  refine fw_getI (pc := 120) d_M_image_120 fl_M_161 fw_Mo0 rfl ?_
  obtain ⟨μ123, e123, h⟩ := fw_be h
  refine fw_iast (pc := 123) d_M_image_123 fw_Mo23 e123 ?_
  refine fw_aload_n (pc := 124) d_M_image_124 1 rfl rfl ?_
  refine fw_getR (pc := 125) d_M_image_125 fl_M_77 fw_Mo0 rfl ?_
  refine fw_iload_n (pc := 128) d_M_image_128 0 rfl rfl ?_
  refine fw_iconst (pc := 129) d_M_image_129 fw_ic3 ?_
  refine fw_iadd (pc := 130) d_M_image_130 ?_
  refine fw_aload_n (pc := 131) d_M_image_131 1 rfl rfl ?_
  refine fw_getI (pc := 132) d_M_image_132 fl_M_174 fw_Mo0 rfl ?_
  obtain ⟨μ135, e135, h⟩ := fw_be h
  refine fw_iast (pc := 135) d_M_image_135 fw_Mo23 e135 ?_
  refine fw_aload_n (pc := 136) d_M_image_136 1 rfl rfl ?_
  refine fw_getR (pc := 137) d_M_image_137 fl_M_77 fw_Mo0 rfl ?_
  refine fw_iload_n (pc := 140) d_M_image_140 0 rfl rfl ?_
  refine fw_iconst (pc := 141) d_M_image_141 fw_ic4 ?_
  refine fw_iadd (pc := 142) d_M_image_142 ?_
  refine fw_aload_n (pc := 143) d_M_image_143 1 rfl rfl ?_
  refine fw_getI (pc := 144) d_M_image_144 fl_M_177 fw_Mo0 rfl ?_
  obtain ⟨μ147, e147, h⟩ := fw_be h
  refine fw_iast (pc := 147) d_M_image_147 fw_Mo23 e147 ?_
  refine fw_aload_n (pc := 148) d_M_image_148 1 rfl rfl ?_
  refine fw_iconst (pc := 149) d_M_image_149 fw_ic1 ?_
  obtain ⟨μ150, e150, h⟩ := fw_ne h
  refine fw_putZ (pc := 150) d_M_image_150 fw_bz1 fp_M_242 fw_Mo0 rfl (fw_mem e150 ?_)
  refine fw_iconst (pc := 153) d_M_image_153 fw_ic1 ?_
  obtain rfl := Option.some.inj h
  exact fw_iret (pc := 154) d_M_image_154 rfl
def f_M_gives_L2 (a1 : Int32) (k2 : Nat) (n2 : Nat) : Int32 × fw_M → Option ((Int32 × fw_M) ⊕ (fw_M))
  | (x3_2, μ2) =>
  if (nI n2) ≤ x3_2 then
    some (.inr μ2)
  else
    (fw_rd 190 (μ2.1 23) (a1 + x3_2)).bind fun v17 =>
    (fw_si n2 μ2 k2 x3_2 v17).bind fun μ18 =>
    fw_nm (x3_2 + 1) fun (v19 : Int32) =>
    some (.inl (v19, μ18))
def f_M_gives (a1 : Int32) (k2 : Nat) (n2 : Nat) (μ : fw_M) : Option (Int32 × fw_M) :=
  if fw_Mo[k2]? = some (.inr (0, n2, [])) then
    (fw_wh (f_M_gives_L2 a1 k2 n2) fw_N (0, μ)).bind fun (e2x : fw_M) =>
    some ((a1 + (nI n2)), e2x)
  else none
set_option maxHeartbeats 4000000 in
set_option maxRecDepth 100000 in
theorem c_M_gives {a1 : Int32} {k2 : Nat} {n2 : Nat} {μ : fw_M} {r : Int32 × fw_M} (h : f_M_gives a1 k2 n2 μ = some r) : fw_Con Y_M_gives fw_Mo 1 [.ref 0, .int a1, .ref k2] (some r.1) μ r.2 := by
  refine fw_con (by decide) (Nat.le_of_ble_eq_true rfl) ?_
  rw [f_M_gives] at h
  show fw_R "FewTypesModel" prog_11_method_55_code 4 (some .int) fw_Mo 1 (some r.1) r.2 0 [(0, .ref 0), (1, .int a1), (2, .ref k2)] [] μ
  obtain ⟨g2, h⟩ := fw_gu h
  refine fw_iconst (pc := 0) d_M_gives_0 fw_ic0 ?_
  refine fw_istore_n (pc := 1) (lv1 := [(3, .int 0), (0, .ref 0), (1, .int a1), (2, .ref k2)]) d_M_gives_1 rfl (by decide) rfl ?_
  obtain ⟨e2x, w2, h⟩ := fw_be h
  have hE2 : fw_R "FewTypesModel" prog_11_method_55_code 4 (some .int) fw_Mo 1 (some r.1) r.2 25 [(1, .int a1), (2, .ref k2)] [] e2x := by
    refine fw_iload_n (pc := 25) d_M_gives_25 0 rfl rfl ?_
    refine fw_aload_n (pc := 26) d_M_gives_26 1 rfl rfl ?_
    refine fw_alen (pc := 27) d_M_gives_27 g2 (ty := fun _ => .int) (fun _ => rfl) ?_
    refine fw_iadd (pc := 28) d_M_gives_28 ?_
    obtain rfl := Option.some.inj h
    exact fw_iret (pc := 29) d_M_gives_29 rfl
  clear h
  exact fw_sub [1, 2, 3, 0] rfl (fw_we (e := e2x) (fun (s : Int32 × fw_M) => fw_R "FewTypesModel" prog_11_method_55_code 4 (some .int) fw_Mo 1 (some r.1) r.2 2 [(0, .ref 0), (1, .int a1), (2, .ref k2), (3, .int s.1)] [] s.2) (by
    intro s x h hl hr
    obtain ⟨x3_2, μ2⟩ := s
    rw [f_M_gives_L2] at h
    show fw_R "FewTypesModel" prog_11_method_55_code 4 (some .int) fw_Mo 1 (some r.1) r.2 2 [(0, .ref 0), (1, .int a1), (2, .ref k2), (3, .int x3_2)] [] μ2
    refine fw_iload_n (pc := 2) d_M_gives_2 3 rfl rfl ?_
    refine fw_aload_n (pc := 3) d_M_gives_3 2 rfl rfl ?_
    refine fw_alen (pc := 4) d_M_gives_4 g2 (ty := fun _ => .int) (fun _ => rfl) ?_
    refine fw_icmp_ge (pc := 5) (tgt := 25) d_M_gives_5 rfl (fun hc => ?_) (fun hc => ?_)
    · have h := fw_it hc h
      obtain rfl := Option.some.inj h
      have he := hr _ rfl
      subst he
      exact fw_sub [1, 2] rfl hE2
    · have h := fw_if hc h
      refine fw_aload_n (pc := 8) d_M_gives_8 2 rfl rfl ?_
      refine fw_iload_n (pc := 9) d_M_gives_9 3 rfl rfl ?_
      refine fw_aload_n (pc := 10) d_M_gives_10 0 rfl rfl ?_
      refine fw_getR (pc := 11) d_M_gives_11 fl_M_77 fw_Mo0 rfl ?_
      refine fw_iload_n (pc := 14) d_M_gives_14 1 rfl rfl ?_
      refine fw_iload_n (pc := 15) d_M_gives_15 3 rfl rfl ?_
      refine fw_iadd (pc := 16) d_M_gives_16 ?_
      obtain ⟨v17, e17, h⟩ := fw_be h
      refine fw_iald (pc := 17) d_M_gives_17 fw_Mo23 e17 ?_
      obtain ⟨μ18, e18, h⟩ := fw_be h
      refine fw_iast (pc := 18) d_M_gives_18 g2 e18 ?_
      obtain ⟨v19, e19, h⟩ := fw_ne h
      refine fw_iinc2 (pc := 19) (j := 3) (lv1 := [(3, .int v19), (0, .ref 0), (1, .int a1), (2, .ref k2)]) d_M_gives_19 rfl fw_ic1 e19 (by decide) rfl ?_
      refine fw_goto (pc := 22) (tgt := 2) d_M_gives_22 rfl ?_
      obtain rfl := Option.some.inj h
      exact fw_sub [1, 2, 3, 0] rfl (hl _ rfl)
    ) _ _ w2)
def f_M_restore  (μ : fw_M) : Option (Int32 × fw_M) :=
  if (μ.1 0 32) = 0 then
    some ((-4), μ)
  else
    (f_M_gives 0 1 10 μ).bind fun (p16 : Int32 × fw_M) =>
    (f_M_gives p16.1 2 10 p16.2).bind fun (p26 : Int32 × fw_M) =>
    (f_M_gives p26.1 3 10 p26.2).bind fun (p36 : Int32 × fw_M) =>
    (f_M_gives p36.1 4 12 p36.2).bind fun (p46 : Int32 × fw_M) =>
    (f_M_gives p46.1 5 3 p46.2).bind fun (p56 : Int32 × fw_M) =>
    (f_M_gives p56.1 6 10 p56.2).bind fun (p66 : Int32 × fw_M) =>
    (f_M_gives p66.1 7 104 p66.2).bind fun (p76 : Int32 × fw_M) =>
    (f_M_gives p76.1 8 8 p76.2).bind fun (p86 : Int32 × fw_M) =>
    (f_M_gives p86.1 9 8 p86.2).bind fun (p96 : Int32 × fw_M) =>
    (fw_rd 190 (p96.2.1 23) p96.1).bind fun v106 =>
    fw_nm (fw_wr p96.2 0 0 v106) fun (μ107 : fw_M) =>
    (fw_rd 190 (μ107.1 23) (p96.1 + 1)).bind fun v118 =>
    fw_nm (fw_wr μ107 0 6 v118) fun (μ119 : fw_M) =>
    (fw_rd 190 (μ119.1 23) (p96.1 + 2)).bind fun v130 =>
    fw_nm (fw_wr μ119 0 8 v130) fun (μ131 : fw_M) =>
    (fw_rd 190 (μ131.1 23) (p96.1 + 3)).bind fun v142 =>
    fw_nm (fw_wr μ131 0 9 v142) fun (μ143 : fw_M) =>
    (fw_rd 190 (μ143.1 23) (p96.1 + 4)).bind fun v154 =>
    fw_nm (fw_wr μ143 0 11 v154) fun (μ155 : fw_M) =>
    some (1, μ155)
set_option maxHeartbeats 4000000 in
set_option maxRecDepth 100000 in
theorem c_M_restore  {μ : fw_M} {r : Int32 × fw_M} (h : f_M_restore  μ = some r) : fw_Con Y_M_restore fw_Mo 2 [.ref 0] (some r.1) μ r.2 := by
  refine fw_con (by decide) (Nat.le_of_ble_eq_true rfl) ?_
  rw [f_M_restore] at h
  show fw_R "FewTypesModel" prog_11_method_57_code 2 (some .int) fw_Mo 2 (some r.1) r.2 0 [(0, .ref 0)] [] μ
  refine fw_aload_n (pc := 0) d_M_restore_0 0 rfl rfl ?_
  refine fw_getI (pc := 1) d_M_restore_1 fl_M_242 fw_Mo0 rfl ?_
  refine fw_if_ne (pc := 4) (tgt := 10) d_M_restore_4 rfl (fun hc => ?_) (fun hc => ?_)
  · have h := fw_it hc h
    refine fw_bipush (pc := 7) d_M_restore_7 fw_bpm4 ?_
    obtain rfl := Option.some.inj h
    exact fw_iret (pc := 9) d_M_restore_9 rfl
  · have h := fw_if hc h
    refine fw_aload_n (pc := 10) d_M_restore_10 0 rfl rfl ?_
    refine fw_iconst (pc := 11) d_M_restore_11 fw_ic0 ?_
    refine fw_aload_n (pc := 12) d_M_restore_12 0 rfl rfl ?_
    refine fw_getR (pc := 13) d_M_restore_13 fl_M_7 fw_Mo0 rfl ?_
    obtain ⟨p16, e16, h⟩ := fw_be h
    refine fw_callVi (pc := 16) d_M_restore_16 mv_M_245 fw_Mo0 (c_M_gives e16) (by decide) rfl rfl (Nat.le_of_ble_eq_true rfl) ?_
    refine fw_istore_n (pc := 19) (lv1 := [(1, .int p16.1), (0, .ref 0)]) d_M_restore_19 rfl (by decide) rfl ?_
    refine fw_aload_n (pc := 20) d_M_restore_20 1 rfl rfl ?_
    refine fw_iload_n (pc := 21) d_M_restore_21 0 rfl rfl ?_
    refine fw_aload_n (pc := 22) d_M_restore_22 1 rfl rfl ?_
    refine fw_getR (pc := 23) d_M_restore_23 fl_M_13 fw_Mo0 rfl ?_
    obtain ⟨p26, e26, h⟩ := fw_be h
    refine fw_callVi (pc := 26) d_M_restore_26 mv_M_245 fw_Mo0 (c_M_gives e26) (by decide) rfl rfl (Nat.le_of_ble_eq_true rfl) ?_
    refine fw_istore_n (pc := 29) (lv1 := [(1, .int p26.1), (0, .ref 0)]) d_M_restore_29 rfl (by decide) rfl ?_
    refine fw_aload_n (pc := 30) d_M_restore_30 1 rfl rfl ?_
    refine fw_iload_n (pc := 31) d_M_restore_31 0 rfl rfl ?_
    refine fw_aload_n (pc := 32) d_M_restore_32 1 rfl rfl ?_
    refine fw_getR (pc := 33) d_M_restore_33 fl_M_16 fw_Mo0 rfl ?_
    obtain ⟨p36, e36, h⟩ := fw_be h
    refine fw_callVi (pc := 36) d_M_restore_36 mv_M_245 fw_Mo0 (c_M_gives e36) (by decide) rfl rfl (Nat.le_of_ble_eq_true rfl) ?_
    refine fw_istore_n (pc := 39) (lv1 := [(1, .int p36.1), (0, .ref 0)]) d_M_restore_39 rfl (by decide) rfl ?_
    refine fw_aload_n (pc := 40) d_M_restore_40 1 rfl rfl ?_
    refine fw_iload_n (pc := 41) d_M_restore_41 0 rfl rfl ?_
    refine fw_aload_n (pc := 42) d_M_restore_42 1 rfl rfl ?_
    refine fw_getR (pc := 43) d_M_restore_43 fl_M_19 fw_Mo0 rfl ?_
    obtain ⟨p46, e46, h⟩ := fw_be h
    refine fw_callVi (pc := 46) d_M_restore_46 mv_M_245 fw_Mo0 (c_M_gives e46) (by decide) rfl rfl (Nat.le_of_ble_eq_true rfl) ?_
    refine fw_istore_n (pc := 49) (lv1 := [(1, .int p46.1), (0, .ref 0)]) d_M_restore_49 rfl (by decide) rfl ?_
    refine fw_aload_n (pc := 50) d_M_restore_50 1 rfl rfl ?_
    refine fw_iload_n (pc := 51) d_M_restore_51 0 rfl rfl ?_
    refine fw_aload_n (pc := 52) d_M_restore_52 1 rfl rfl ?_
    refine fw_getR (pc := 53) d_M_restore_53 fl_M_22 fw_Mo0 rfl ?_
    obtain ⟨p56, e56, h⟩ := fw_be h
    refine fw_callVi (pc := 56) d_M_restore_56 mv_M_245 fw_Mo0 (c_M_gives e56) (by decide) rfl rfl (Nat.le_of_ble_eq_true rfl) ?_
    refine fw_istore_n (pc := 59) (lv1 := [(1, .int p56.1), (0, .ref 0)]) d_M_restore_59 rfl (by decide) rfl ?_
    refine fw_aload_n (pc := 60) d_M_restore_60 1 rfl rfl ?_
    refine fw_iload_n (pc := 61) d_M_restore_61 0 rfl rfl ?_
    refine fw_aload_n (pc := 62) d_M_restore_62 1 rfl rfl ?_
    refine fw_getR (pc := 63) d_M_restore_63 fl_M_25 fw_Mo0 rfl ?_
    obtain ⟨p66, e66, h⟩ := fw_be h
    refine fw_callVi (pc := 66) d_M_restore_66 mv_M_245 fw_Mo0 (c_M_gives e66) (by decide) rfl rfl (Nat.le_of_ble_eq_true rfl) ?_
    refine fw_istore_n (pc := 69) (lv1 := [(1, .int p66.1), (0, .ref 0)]) d_M_restore_69 rfl (by decide) rfl ?_
    refine fw_aload_n (pc := 70) d_M_restore_70 1 rfl rfl ?_
    refine fw_iload_n (pc := 71) d_M_restore_71 0 rfl rfl ?_
    refine fw_aload_n (pc := 72) d_M_restore_72 1 rfl rfl ?_
    refine fw_getR (pc := 73) d_M_restore_73 fl_M_28 fw_Mo0 rfl ?_
    obtain ⟨p76, e76, h⟩ := fw_be h
    refine fw_callVi (pc := 76) d_M_restore_76 mv_M_245 fw_Mo0 (c_M_gives e76) (by decide) rfl rfl (Nat.le_of_ble_eq_true rfl) ?_
    refine fw_istore_n (pc := 79) (lv1 := [(1, .int p76.1), (0, .ref 0)]) d_M_restore_79 rfl (by decide) rfl ?_
    refine fw_aload_n (pc := 80) d_M_restore_80 1 rfl rfl ?_
    refine fw_iload_n (pc := 81) d_M_restore_81 0 rfl rfl ?_
    refine fw_aload_n (pc := 82) d_M_restore_82 1 rfl rfl ?_
    refine fw_getR (pc := 83) d_M_restore_83 fl_M_31 fw_Mo0 rfl ?_
    obtain ⟨p86, e86, h⟩ := fw_be h
    refine fw_callVi (pc := 86) d_M_restore_86 mv_M_245 fw_Mo0 (c_M_gives e86) (by decide) rfl rfl (Nat.le_of_ble_eq_true rfl) ?_
    refine fw_istore_n (pc := 89) (lv1 := [(1, .int p86.1), (0, .ref 0)]) d_M_restore_89 rfl (by decide) rfl ?_
    refine fw_aload_n (pc := 90) d_M_restore_90 1 rfl rfl ?_
    refine fw_iload_n (pc := 91) d_M_restore_91 0 rfl rfl ?_
    refine fw_aload_n (pc := 92) d_M_restore_92 1 rfl rfl ?_
    refine fw_getR (pc := 93) d_M_restore_93 fl_M_34 fw_Mo0 rfl ?_
    obtain ⟨p96, e96, h⟩ := fw_be h
    refine fw_callVi (pc := 96) d_M_restore_96 mv_M_245 fw_Mo0 (c_M_gives e96) (by decide) rfl rfl (Nat.le_of_ble_eq_true rfl) ?_
    refine fw_istore_n (pc := 99) (lv1 := [(1, .int p96.1), (0, .ref 0)]) d_M_restore_99 rfl (by decide) rfl ?_
    refine fw_aload_n (pc := 100) d_M_restore_100 1 rfl rfl ?_
    refine fw_aload_n (pc := 101) d_M_restore_101 1 rfl rfl ?_
    refine fw_getR (pc := 102) d_M_restore_102 fl_M_77 fw_Mo0 rfl ?_
    refine fw_iload_n (pc := 105) d_M_restore_105 0 rfl rfl ?_
    obtain ⟨v106, e106, h⟩ := fw_be h
    refine fw_iald (pc := 106) d_M_restore_106 fw_Mo23 e106 ?_
    obtain ⟨μ107, e107, h⟩ := fw_ne h
    refine fw_putI (pc := 107) d_M_restore_107 fp_M_108 fw_Mo0 rfl (fw_mem e107 ?_)
    refine fw_aload_n (pc := 110) d_M_restore_110 1 rfl rfl ?_
    refine fw_aload_n (pc := 111) d_M_restore_111 1 rfl rfl ?_
    refine fw_getR (pc := 112) d_M_restore_112 fl_M_77 fw_Mo0 rfl ?_
    refine fw_iload_n (pc := 115) d_M_restore_115 0 rfl rfl ?_
    refine fw_iconst (pc := 116) d_M_restore_116 fw_ic1 ?_
    refine fw_iadd (pc := 117) d_M_restore_117 ?_
    obtain ⟨v118, e118, h⟩ := fw_be h
    refine fw_iald (pc := 118) d_M_restore_118 fw_Mo23 e118 ?_
    obtain ⟨μ119, e119, h⟩ := fw_ne h
    refine fw_putI (pc := 119) d_M_restore_119 fp_M_158 fw_Mo0 rfl (fw_mem e119 ?_)
    refine fw_aload_n (pc := 122) d_M_restore_122 1 rfl rfl ?_
    refine fw_aload_n (pc := 123) d_M_restore_123 1 rfl rfl ?_
    refine fw_getR (pc := 124) d_M_restore_124 fl_M_77 fw_Mo0 rfl ?_
    refine fw_iload_n (pc := 127) d_M_restore_127 0 rfl rfl ?_
    refine fw_iconst (pc := 128) d_M_restore_128 fw_ic2 ?_
    refine fw_iadd (pc := 129) d_M_restore_129 ?_
    obtain ⟨v130, e130, h⟩ := fw_be h
    refine fw_iald (pc := 130) d_M_restore_130 fw_Mo23 e130 ?_
    obtain ⟨μ131, e131, h⟩ := fw_ne h
    refine fw_putI (pc := 131) d_M_restore_131 fp_M_161 fw_Mo0 rfl (fw_mem e131 ?_)
    refine fw_aload_n (pc := 134) d_M_restore_134 1 rfl rfl ?_
    refine fw_aload_n (pc := 135) d_M_restore_135 1 rfl rfl ?_
    refine fw_getR (pc := 136) d_M_restore_136 fl_M_77 fw_Mo0 rfl ?_
    refine fw_iload_n (pc := 139) d_M_restore_139 0 rfl rfl ?_
    refine fw_iconst (pc := 140) d_M_restore_140 fw_ic3 ?_
    refine fw_iadd (pc := 141) d_M_restore_141 ?_
    obtain ⟨v142, e142, h⟩ := fw_be h
    refine fw_iald (pc := 142) d_M_restore_142 fw_Mo23 e142 ?_
    obtain ⟨μ143, e143, h⟩ := fw_ne h
    refine fw_putI (pc := 143) d_M_restore_143 fp_M_174 fw_Mo0 rfl (fw_mem e143 ?_)
    refine fw_aload_n (pc := 146) d_M_restore_146 1 rfl rfl ?_
    refine fw_aload_n (pc := 147) d_M_restore_147 1 rfl rfl ?_
    refine fw_getR (pc := 148) d_M_restore_148 fl_M_77 fw_Mo0 rfl ?_
    refine fw_iload_n (pc := 151) d_M_restore_151 0 rfl rfl ?_
    refine fw_iconst (pc := 152) d_M_restore_152 fw_ic4 ?_
    refine fw_iadd (pc := 153) d_M_restore_153 ?_
    obtain ⟨v154, e154, h⟩ := fw_be h
    refine fw_iald (pc := 154) d_M_restore_154 fw_Mo23 e154 ?_
    obtain ⟨μ155, e155, h⟩ := fw_ne h
    refine fw_putI (pc := 155) d_M_restore_155 fp_M_177 fw_Mo0 rfl (fw_mem e155 ?_)
    refine fw_iconst (pc := 158) d_M_restore_158 fw_ic1 ?_
    obtain rfl := Option.some.inj h
    exact fw_iret (pc := 159) d_M_restore_159 rfl
def f_M_isSheet (a0 : Int32) : Option (Int32) :=
  (f_M_in (Int32.toInt64 a0) 0 3).bind fun (p6 : Int32) =>
  (fw_bz p6).bind fun b9 =>
  some b9
set_option maxHeartbeats 4000000 in
set_option maxRecDepth 100000 in
theorem c_M_isSheet {a0 : Int32} {μ : fw_M} {r : Int32} (h : f_M_isSheet a0 = some r) : fw_Con Y_M_isSheet fw_Mo 2 [.int a0] (some r) μ μ := by
  refine fw_con (by decide) (Nat.le_of_ble_eq_true rfl) ?_
  rw [f_M_isSheet] at h
  show fw_R "FewTypesModel" prog_11_method_58_code 1 (some .boolean) fw_Mo 2 (some r) μ 0 [(0, .int a0)] [] μ
  refine fw_iload_n (pc := 0) d_M_isSheet_0 0 rfl rfl ?_
  refine fw_i2l (pc := 1) d_M_isSheet_1 ?_
  refine fw_lconst (pc := 2) d_M_isSheet_2 (v := 0) (by decide) ?_
  refine fw_ldc2 (pc := 3) d_M_isSheet_3 cl_M_127 ?_
  obtain ⟨p6, e6, h⟩ := fw_be h
  refine fw_callSi (pc := 6) d_M_isSheet_6 ms_M_94 (c_M_in e6) (by decide) rfl rfl (Nat.le_of_ble_eq_true rfl) ?_
  obtain ⟨b9, e9, h⟩ := fw_be h
  obtain rfl := Option.some.inj h
  exact fw_zret (pc := 9) d_M_isSheet_9 rfl e9
def f_M_isLane (a0 : Int32) : Option (Int32) :=
  (f_M_in (Int32.toInt64 a0) 0 2).bind fun (p6 : Int32) =>
  (fw_bz p6).bind fun b9 =>
  some b9
set_option maxHeartbeats 4000000 in
set_option maxRecDepth 100000 in
theorem c_M_isLane {a0 : Int32} {μ : fw_M} {r : Int32} (h : f_M_isLane a0 = some r) : fw_Con Y_M_isLane fw_Mo 2 [.int a0] (some r) μ μ := by
  refine fw_con (by decide) (Nat.le_of_ble_eq_true rfl) ?_
  rw [f_M_isLane] at h
  show fw_R "FewTypesModel" prog_11_method_59_code 1 (some .boolean) fw_Mo 2 (some r) μ 0 [(0, .int a0)] [] μ
  refine fw_iload_n (pc := 0) d_M_isLane_0 0 rfl rfl ?_
  refine fw_i2l (pc := 1) d_M_isLane_1 ?_
  refine fw_lconst (pc := 2) d_M_isLane_2 (v := 0) (by decide) ?_
  refine fw_ldc2 (pc := 3) d_M_isLane_3 cl_M_119 ?_
  obtain ⟨p6, e6, h⟩ := fw_be h
  refine fw_callSi (pc := 6) d_M_isLane_6 ms_M_94 (c_M_in e6) (by decide) rfl rfl (Nat.le_of_ble_eq_true rfl) ?_
  obtain ⟨b9, e9, h⟩ := fw_be h
  obtain rfl := Option.some.inj h
  exact fw_zret (pc := 9) d_M_isLane_9 rfl e9
def f_M_finds (a1 : Int32) (a2 : Int32) (a3 : Int32) (a4 : Int32) (μ : fw_M) : Option (Int32) :=
  (fw_rd 4 (μ.1 24) a1).bind fun v5 =>
  if 0 ≤ v5 then
    (fw_rd 4 (μ.1 24) a1).bind fun v17 =>
    if v17 = a2 then
      Option.bind (
        if a3 < 0 then
          some (-13)
        else
          (fw_rd 4 (μ.1 25) a1).bind fun v40 =>
          if (lg_cmp ((Int32.toInt64 a3) + (Int32.toInt64 a4)) (Int32.toInt64 v40)) ≤ 0 then
            some 0
          else
            some (-13)) fun (j26 : Int32) =>
      some j26
    else
      some (-12)
  else
    some (-11)
set_option maxHeartbeats 4000000 in
set_option maxRecDepth 100000 in
theorem c_M_finds {a1 : Int32} {a2 : Int32} {a3 : Int32} {a4 : Int32} {μ : fw_M} {r : Int32} (h : f_M_finds a1 a2 a3 a4 μ = some r) : fw_Con Y_M_finds fw_Mo 1 [.ref 0, .int a1, .int a2, .int a3, .int a4] (some r) μ μ := by
  refine fw_con (by decide) (Nat.le_of_ble_eq_true rfl) ?_
  rw [f_M_finds] at h
  show fw_R "FewTypesModel" prog_11_method_60_code 5 (some .int) fw_Mo 1 (some r) μ 0 [(0, .ref 0), (1, .int a1), (2, .int a2), (3, .int a3), (4, .int a4)] [] μ
  refine fw_aload_n (pc := 0) d_M_finds_0 0 rfl rfl ?_
  refine fw_getR (pc := 1) d_M_finds_1 fl_M_80 fw_Mo0 rfl ?_
  refine fw_iload_n (pc := 4) d_M_finds_4 1 rfl rfl ?_
  obtain ⟨v5, e5, h⟩ := fw_be h
  refine fw_iald (pc := 5) d_M_finds_5 fw_Mo24 e5 ?_
  refine fw_if_ge (pc := 6) (tgt := 12) d_M_finds_6 rfl (fun hc => ?_) (fun hc => ?_)
  · have h := fw_it hc h
    refine fw_aload_n (pc := 12) d_M_finds_12 0 rfl rfl ?_
    refine fw_getR (pc := 13) d_M_finds_13 fl_M_80 fw_Mo0 rfl ?_
    refine fw_iload_n (pc := 16) d_M_finds_16 1 rfl rfl ?_
    obtain ⟨v17, e17, h⟩ := fw_be h
    refine fw_iald (pc := 17) d_M_finds_17 fw_Mo24 e17 ?_
    refine fw_iload_n (pc := 18) d_M_finds_18 2 rfl rfl ?_
    refine fw_icmp_eq (pc := 19) (tgt := 25) d_M_finds_19 rfl (fun hc => ?_) (fun hc => ?_)
    · have h := fw_it hc h
      refine fw_iload_n (pc := 25) d_M_finds_25 3 rfl rfl ?_
      obtain ⟨j26, w26, h⟩ := fw_be h
      have hJ26 : fw_R "FewTypesModel" prog_11_method_60_code 5 (some .int) fw_Mo 1 (some r) μ 52 [] [.int j26] μ := by
        obtain rfl := Option.some.inj h
        exact fw_iret (pc := 52) d_M_finds_52 rfl
      clear h
      have h := w26
      clear w26
      refine fw_if_lt (pc := 26) (tgt := 46) d_M_finds_26 rfl (fun hc => ?_) (fun hc => ?_)
      · have h := fw_it hc h
        refine fw_bipush (pc := 46) d_M_finds_46 fw_bpm13 ?_
        refine fw_goto (pc := 48) (tgt := 52) d_M_finds_48 rfl ?_
        obtain rfl := Option.some.inj h
        exact fw_sub [] rfl hJ26
      · have h := fw_if hc h
        refine fw_iload_n (pc := 29) d_M_finds_29 3 rfl rfl ?_
        refine fw_i2l (pc := 30) d_M_finds_30 ?_
        refine fw_iload (pc := 31) d_M_finds_31 4 rfl ?_
        refine fw_i2l (pc := 33) d_M_finds_33 ?_
        refine fw_ladd (pc := 34) d_M_finds_34 ?_
        refine fw_aload_n (pc := 35) d_M_finds_35 0 rfl rfl ?_
        refine fw_getR (pc := 36) d_M_finds_36 fl_M_83 fw_Mo0 rfl ?_
        refine fw_iload_n (pc := 39) d_M_finds_39 1 rfl rfl ?_
        obtain ⟨v40, e40, h⟩ := fw_be h
        refine fw_iald (pc := 40) d_M_finds_40 fw_Mo25 e40 ?_
        refine fw_i2l (pc := 41) d_M_finds_41 ?_
        refine fw_lcmp (pc := 42) d_M_finds_42 ?_
        refine fw_if_le (pc := 43) (tgt := 51) d_M_finds_43 rfl (fun hc => ?_) (fun hc => ?_)
        · have h := fw_it hc h
          refine fw_iconst (pc := 51) d_M_finds_51 fw_ic0 ?_
          obtain rfl := Option.some.inj h
          exact fw_sub [] rfl hJ26
        · have h := fw_if hc h
          refine fw_bipush (pc := 46) d_M_finds_46 fw_bpm13 ?_
          refine fw_goto (pc := 48) (tgt := 52) d_M_finds_48 rfl ?_
          obtain rfl := Option.some.inj h
          exact fw_sub [] rfl hJ26
    · have h := fw_if hc h
      refine fw_bipush (pc := 22) d_M_finds_22 fw_bpm12 ?_
      obtain rfl := Option.some.inj h
      exact fw_iret (pc := 24) d_M_finds_24 rfl
  · have h := fw_if hc h
    refine fw_bipush (pc := 9) d_M_finds_9 fw_bpm11 ?_
    obtain rfl := Option.some.inj h
    exact fw_iret (pc := 11) d_M_finds_11 rfl
