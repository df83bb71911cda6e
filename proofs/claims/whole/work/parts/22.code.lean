abbrev Y_M_least : fw_Y := (⟨"FewTypesModel", "least", "(I)Z"⟩, prog_11_method_33_code, 5, (some .boolean))
abbrev Y_M_by : fw_Y := (⟨"FewTypesModel", "by", "(II)I"⟩, prog_11_method_34_code, 3, (some .int))
abbrev Y_M_fewestOf : fw_Y := (⟨"FewTypesModel", "fewestOf", "()I"⟩, prog_11_method_35_code, 5, (some .int))
abbrev Y_M_fewest : fw_Y := (⟨"FewTypesModel", "fewest", "()I"⟩, prog_11_method_36_code, 2, (some .int))
abbrev Y_M_plans : fw_Y := (⟨"FewTypesModel", "plans", "()I"⟩, prog_11_method_37_code, 5, (some .int))
abbrev Y_M_plan : fw_Y := (⟨"FewTypesModel", "plan", "(I)I"⟩, prog_11_method_38_code, 3, (some .int))
abbrev Y_M_bound : fw_Y := (⟨"FewTypesModel", "bound", "()I"⟩, prog_11_method_39_code, 6, (some .int))
theorem mv_M_206 : fw_MV "FewTypesModel" 206 Y_M_least 9 1 := ⟨fw_m 1088 (by decide +kernel) (by decide +kernel), fw_m 1090 (by decide +kernel) (by decide +kernel), fw_m 46 (by decide +kernel) (by decide +kernel), fw_m 70 (by decide +kernel) (by decide +kernel), fw_m 1091 (by decide +kernel) (by decide +kernel), ⟨by decide +kernel, by decide +kernel, by decide +kernel⟩, by decide, _, _, rfl⟩
theorem mv_M_203 : fw_MV "FewTypesModel" 203 Y_M_looks 9 1 := ⟨fw_m 1092 (by decide +kernel) (by decide +kernel), fw_m 1094 (by decide +kernel) (by decide +kernel), fw_m 47 (by decide +kernel) (by decide +kernel), fw_m 70 (by decide +kernel) (by decide +kernel), fw_m 1095 (by decide +kernel) (by decide +kernel), ⟨by decide +kernel, by decide +kernel, by decide +kernel⟩, by decide, _, _, rfl⟩
theorem fl_M_50 : fw_FL "FewTypesModel" 50 9 22 := ⟨_, _, _, rfl, fw_i9, by decide, fw_m 875 (by decide +kernel) (by decide +kernel)⟩
theorem mv_M_209 : fw_MV "FewTypesModel" 209 Y_M_fewestOf 9 0 := ⟨fw_m 1104 (by decide +kernel) (by decide +kernel), fw_m 1106 (by decide +kernel) (by decide +kernel), fw_m 49 (by decide +kernel) (by decide +kernel), fw_m 70 (by decide +kernel) (by decide +kernel), fw_m 1107 (by decide +kernel) (by decide +kernel), ⟨by decide +kernel, by decide +kernel, by decide +kernel⟩, by decide, _, _, rfl⟩
theorem fl_M_56 : fw_FL "FewTypesModel" 56 9 24 := ⟨_, _, _, rfl, fw_i9, by decide, fw_m 877 (by decide +kernel) (by decide +kernel)⟩
theorem fl_M_53 : fw_FL "FewTypesModel" 53 9 23 := ⟨_, _, _, rfl, fw_i9, by decide, fw_m 876 (by decide +kernel) (by decide +kernel)⟩
theorem mv_M_212 : fw_MV "FewTypesModel" 212 Y_M_plans 9 0 := ⟨fw_m 1112 (by decide +kernel) (by decide +kernel), fw_m 1114 (by decide +kernel) (by decide +kernel), fw_m 50 (by decide +kernel) (by decide +kernel), fw_m 70 (by decide +kernel) (by decide +kernel), fw_m 1115 (by decide +kernel) (by decide +kernel), ⟨by decide +kernel, by decide +kernel, by decide +kernel⟩, by decide, _, _, rfl⟩
theorem fl_M_59 : fw_FL "FewTypesModel" 59 9 25 := ⟨_, _, _, rfl, fw_i9, by decide, fw_m 878 (by decide +kernel) (by decide +kernel)⟩
theorem d_M_least_0 : decode prog_11_method_33_code 0 = .ok (.aload_n 0, 1) := by decide +kernel
theorem d_M_least_1 : decode prog_11_method_33_code 1 = .ok (.iload_n 1, 1) := by decide +kernel
theorem d_M_least_2 : decode prog_11_method_33_code 2 = .ok (.invokevirtual 203, 3) := by decide +kernel
theorem d_M_least_5 : decode prog_11_method_33_code 5 = .ok (.aload_n 0, 1) := by decide +kernel
theorem d_M_least_6 : decode prog_11_method_33_code 6 = .ok (.getfield 43, 3) := by decide +kernel
theorem d_M_least_9 : decode prog_11_method_33_code 9 = .ok (.iconst 0, 1) := by decide +kernel
theorem d_M_least_10 : decode prog_11_method_33_code 10 = .ok (.baload, 1) := by decide +kernel
theorem d_M_least_11 : decode prog_11_method_33_code 11 = .ok (.ifCond .ne 5, 3) := by decide +kernel
theorem d_M_least_14 : decode prog_11_method_33_code 14 = .ok (.iconst 0, 1) := by decide +kernel
theorem d_M_least_15 : decode prog_11_method_33_code 15 = .ok (.ireturn, 1) := by decide +kernel
theorem d_M_least_16 : decode prog_11_method_33_code 16 = .ok (.iconst 0, 1) := by decide +kernel
theorem d_M_least_17 : decode prog_11_method_33_code 17 = .ok (.istore_n 2, 1) := by decide +kernel
theorem d_M_least_18 : decode prog_11_method_33_code 18 = .ok (.iconst 0, 1) := by decide +kernel
theorem d_M_least_19 : decode prog_11_method_33_code 19 = .ok (.istore_n 3, 1) := by decide +kernel
theorem d_M_least_20 : decode prog_11_method_33_code 20 = .ok (.iload_n 3, 1) := by decide +kernel
theorem d_M_least_21 : decode prog_11_method_33_code 21 = .ok (.aload_n 0, 1) := by decide +kernel
theorem d_M_least_22 : decode prog_11_method_33_code 22 = .ok (.getfield 158, 3) := by decide +kernel
theorem d_M_least_25 : decode prog_11_method_33_code 25 = .ok (.if_icmp .ge 17, 3) := by decide +kernel
theorem d_M_least_28 : decode prog_11_method_33_code 28 = .ok (.aload_n 0, 1) := by decide +kernel
theorem d_M_least_29 : decode prog_11_method_33_code 29 = .ok (.getfield 50, 3) := by decide +kernel
theorem d_M_least_32 : decode prog_11_method_33_code 32 = .ok (.iload_n 3, 1) := by decide +kernel
theorem d_M_least_33 : decode prog_11_method_33_code 33 = .ok (.bipush (-4), 2) := by decide +kernel
theorem d_M_least_35 : decode prog_11_method_33_code 35 = .ok (.iastore, 1) := by decide +kernel
theorem d_M_least_36 : decode prog_11_method_33_code 36 = .ok (.iinc 3 1, 3) := by decide +kernel
theorem d_M_least_39 : decode prog_11_method_33_code 39 = .ok (.goto (-19), 3) := by decide +kernel
theorem d_M_least_42 : decode prog_11_method_33_code 42 = .ok (.iconst 0, 1) := by decide +kernel
theorem d_M_least_43 : decode prog_11_method_33_code 43 = .ok (.istore_n 3, 1) := by decide +kernel
theorem d_M_least_44 : decode prog_11_method_33_code 44 = .ok (.iload_n 3, 1) := by decide +kernel
theorem d_M_least_45 : decode prog_11_method_33_code 45 = .ok (.aload_n 0, 1) := by decide +kernel
theorem d_M_least_46 : decode prog_11_method_33_code 46 = .ok (.getfield 158, 3) := by decide +kernel
theorem d_M_least_49 : decode prog_11_method_33_code 49 = .ok (.if_icmp .ge 84, 3) := by decide +kernel
theorem d_M_least_52 : decode prog_11_method_33_code 52 = .ok (.iload_n 1, 1) := by decide +kernel
theorem d_M_least_53 : decode prog_11_method_33_code 53 = .ok (.iload_n 3, 1) := by decide +kernel
theorem d_M_least_54 : decode prog_11_method_33_code 54 = .ok (.ishr, 1) := by decide +kernel
theorem d_M_least_55 : decode prog_11_method_33_code 55 = .ok (.iconst 1, 1) := by decide +kernel
theorem d_M_least_56 : decode prog_11_method_33_code 56 = .ok (.iand, 1) := by decide +kernel
theorem d_M_least_57 : decode prog_11_method_33_code 57 = .ok (.iconst 1, 1) := by decide +kernel
theorem d_M_least_58 : decode prog_11_method_33_code 58 = .ok (.if_icmp .ne 69, 3) := by decide +kernel
theorem d_M_least_61 : decode prog_11_method_33_code 61 = .ok (.aload_n 0, 1) := by decide +kernel
theorem d_M_least_62 : decode prog_11_method_33_code 62 = .ok (.getfield 50, 3) := by decide +kernel
theorem d_M_least_65 : decode prog_11_method_33_code 65 = .ok (.iload_n 3, 1) := by decide +kernel
theorem d_M_least_66 : decode prog_11_method_33_code 66 = .ok (.iaload, 1) := by decide +kernel
theorem d_M_least_67 : decode prog_11_method_33_code 67 = .ok (.ifCond .ge 60, 3) := by decide +kernel
theorem d_M_least_70 : decode prog_11_method_33_code 70 = .ok (.iconst 0, 1) := by decide +kernel
theorem d_M_least_71 : decode prog_11_method_33_code 71 = .ok (.istore 4, 2) := by decide +kernel
theorem d_M_least_73 : decode prog_11_method_33_code 73 = .ok (.aload_n 0, 1) := by decide +kernel
theorem d_M_least_74 : decode prog_11_method_33_code 74 = .ok (.iload 4, 2) := by decide +kernel
theorem d_M_least_76 : decode prog_11_method_33_code 76 = .ok (.iload_n 3, 1) := by decide +kernel
theorem d_M_least_77 : decode prog_11_method_33_code 77 = .ok (.iload_n 1, 1) := by decide +kernel
theorem d_M_least_78 : decode prog_11_method_33_code 78 = .ok (.iload_n 2, 1) := by decide +kernel
theorem d_M_least_79 : decode prog_11_method_33_code 79 = .ok (.invokevirtual 190, 3) := by decide +kernel
theorem d_M_least_82 : decode prog_11_method_33_code 82 = .ok (.ifCond .ne 9, 3) := by decide +kernel
theorem d_M_least_85 : decode prog_11_method_33_code 85 = .ok (.iinc 4 1, 3) := by decide +kernel
theorem d_M_least_88 : decode prog_11_method_33_code 88 = .ok (.goto (-15), 3) := by decide +kernel
theorem d_M_least_91 : decode prog_11_method_33_code 91 = .ok (.aload_n 0, 1) := by decide +kernel
theorem d_M_least_92 : decode prog_11_method_33_code 92 = .ok (.getfield 50, 3) := by decide +kernel
theorem d_M_least_95 : decode prog_11_method_33_code 95 = .ok (.iload_n 3, 1) := by decide +kernel
theorem d_M_least_96 : decode prog_11_method_33_code 96 = .ok (.iload 4, 2) := by decide +kernel
theorem d_M_least_98 : decode prog_11_method_33_code 98 = .ok (.iastore, 1) := by decide +kernel
theorem d_M_least_99 : decode prog_11_method_33_code 99 = .ok (.iload_n 2, 1) := by decide +kernel
theorem d_M_least_100 : decode prog_11_method_33_code 100 = .ok (.iconst 1, 1) := by decide +kernel
theorem d_M_least_101 : decode prog_11_method_33_code 101 = .ok (.iload 4, 2) := by decide +kernel
theorem d_M_least_103 : decode prog_11_method_33_code 103 = .ok (.ishl, 1) := by decide +kernel
theorem d_M_least_104 : decode prog_11_method_33_code 104 = .ok (.ior, 1) := by decide +kernel
theorem d_M_least_105 : decode prog_11_method_33_code 105 = .ok (.istore_n 2, 1) := by decide +kernel
theorem d_M_least_106 : decode prog_11_method_33_code 106 = .ok (.aload_n 0, 1) := by decide +kernel
theorem d_M_least_107 : decode prog_11_method_33_code 107 = .ok (.getfield 7, 3) := by decide +kernel
theorem d_M_least_110 : decode prog_11_method_33_code 110 = .ok (.iload 4, 2) := by decide +kernel
theorem d_M_least_112 : decode prog_11_method_33_code 112 = .ok (.iaload, 1) := by decide +kernel
theorem d_M_least_113 : decode prog_11_method_33_code 113 = .ok (.iconst 2, 1) := by decide +kernel
theorem d_M_least_114 : decode prog_11_method_33_code 114 = .ok (.if_icmp .ne 13, 3) := by decide +kernel
theorem d_M_least_117 : decode prog_11_method_33_code 117 = .ok (.aload_n 0, 1) := by decide +kernel
theorem d_M_least_118 : decode prog_11_method_33_code 118 = .ok (.getfield 50, 3) := by decide +kernel
theorem d_M_least_121 : decode prog_11_method_33_code 121 = .ok (.iload_n 3, 1) := by decide +kernel
theorem d_M_least_122 : decode prog_11_method_33_code 122 = .ok (.iconst 1, 1) := by decide +kernel
theorem d_M_least_123 : decode prog_11_method_33_code 123 = .ok (.iadd, 1) := by decide +kernel
theorem d_M_least_124 : decode prog_11_method_33_code 124 = .ok (.iload 4, 2) := by decide +kernel
theorem d_M_least_126 : decode prog_11_method_33_code 126 = .ok (.iastore, 1) := by decide +kernel
theorem d_M_least_127 : decode prog_11_method_33_code 127 = .ok (.iinc 3 1, 3) := by decide +kernel
theorem d_M_least_130 : decode prog_11_method_33_code 130 = .ok (.goto (-86), 3) := by decide +kernel
theorem d_M_least_133 : decode prog_11_method_33_code 133 = .ok (.iconst 1, 1) := by decide +kernel
theorem d_M_least_134 : decode prog_11_method_33_code 134 = .ok (.ireturn, 1) := by decide +kernel
theorem d_M_by_0 : decode prog_11_method_34_code 0 = .ok (.aload_n 0, 1) := by decide +kernel
theorem d_M_by_1 : decode prog_11_method_34_code 1 = .ok (.iload_n 1, 1) := by decide +kernel
theorem d_M_by_2 : decode prog_11_method_34_code 2 = .ok (.invokevirtual 197, 3) := by decide +kernel
theorem d_M_by_5 : decode prog_11_method_34_code 5 = .ok (.ifCond .eq 27, 3) := by decide +kernel
theorem d_M_by_8 : decode prog_11_method_34_code 8 = .ok (.iload_n 2, 1) := by decide +kernel
theorem d_M_by_9 : decode prog_11_method_34_code 9 = .ok (.i2l, 1) := by decide +kernel
theorem d_M_by_10 : decode prog_11_method_34_code 10 = .ok (.lconst 0, 1) := by decide +kernel
theorem d_M_by_11 : decode prog_11_method_34_code 11 = .ok (.aload_n 0, 1) := by decide +kernel
theorem d_M_by_12 : decode prog_11_method_34_code 12 = .ok (.getfield 158, 3) := by decide +kernel
theorem d_M_by_15 : decode prog_11_method_34_code 15 = .ok (.iconst 1, 1) := by decide +kernel
theorem d_M_by_16 : decode prog_11_method_34_code 16 = .ok (.isub, 1) := by decide +kernel
theorem d_M_by_17 : decode prog_11_method_34_code 17 = .ok (.i2l, 1) := by decide +kernel
theorem d_M_by_18 : decode prog_11_method_34_code 18 = .ok (.invokestatic 94, 3) := by decide +kernel
theorem d_M_by_21 : decode prog_11_method_34_code 21 = .ok (.ifCond .eq 11, 3) := by decide +kernel
theorem d_M_by_24 : decode prog_11_method_34_code 24 = .ok (.iload_n 1, 1) := by decide +kernel
theorem d_M_by_25 : decode prog_11_method_34_code 25 = .ok (.iload_n 2, 1) := by decide +kernel
theorem d_M_by_26 : decode prog_11_method_34_code 26 = .ok (.ishr, 1) := by decide +kernel
theorem d_M_by_27 : decode prog_11_method_34_code 27 = .ok (.iconst 1, 1) := by decide +kernel
theorem d_M_by_28 : decode prog_11_method_34_code 28 = .ok (.iand, 1) := by decide +kernel
theorem d_M_by_29 : decode prog_11_method_34_code 29 = .ok (.ifCond .ne 5, 3) := by decide +kernel
theorem d_M_by_32 : decode prog_11_method_34_code 32 = .ok (.iconst (-1), 1) := by decide +kernel
theorem d_M_by_33 : decode prog_11_method_34_code 33 = .ok (.ireturn, 1) := by decide +kernel
theorem d_M_by_34 : decode prog_11_method_34_code 34 = .ok (.aload_n 0, 1) := by decide +kernel
theorem d_M_by_35 : decode prog_11_method_34_code 35 = .ok (.iload_n 1, 1) := by decide +kernel
theorem d_M_by_36 : decode prog_11_method_34_code 36 = .ok (.invokevirtual 206, 3) := by decide +kernel
theorem d_M_by_39 : decode prog_11_method_34_code 39 = .ok (.ifCond .eq 12, 3) := by decide +kernel
theorem d_M_by_42 : decode prog_11_method_34_code 42 = .ok (.aload_n 0, 1) := by decide +kernel
theorem d_M_by_43 : decode prog_11_method_34_code 43 = .ok (.getfield 50, 3) := by decide +kernel
theorem d_M_by_46 : decode prog_11_method_34_code 46 = .ok (.iload_n 2, 1) := by decide +kernel
theorem d_M_by_47 : decode prog_11_method_34_code 47 = .ok (.iaload, 1) := by decide +kernel
theorem d_M_by_48 : decode prog_11_method_34_code 48 = .ok (.goto 5, 3) := by decide +kernel
theorem d_M_by_51 : decode prog_11_method_34_code 51 = .ok (.bipush (-4), 2) := by decide +kernel
theorem d_M_by_53 : decode prog_11_method_34_code 53 = .ok (.ireturn, 1) := by decide +kernel
theorem d_M_fewestOf_0 : decode prog_11_method_35_code 0 = .ok (.iconst 1, 1) := by decide +kernel
theorem d_M_fewestOf_1 : decode prog_11_method_35_code 1 = .ok (.aload_n 0, 1) := by decide +kernel
theorem d_M_fewestOf_2 : decode prog_11_method_35_code 2 = .ok (.getfield 158, 3) := by decide +kernel
theorem d_M_fewestOf_5 : decode prog_11_method_35_code 5 = .ok (.ishl, 1) := by decide +kernel
theorem d_M_fewestOf_6 : decode prog_11_method_35_code 6 = .ok (.istore_n 1, 1) := by decide +kernel
theorem d_M_fewestOf_7 : decode prog_11_method_35_code 7 = .ok (.aload_n 0, 1) := by decide +kernel
theorem d_M_fewestOf_8 : decode prog_11_method_35_code 8 = .ok (.getfield 56, 3) := by decide +kernel
theorem d_M_fewestOf_11 : decode prog_11_method_35_code 11 = .ok (.iconst 0, 1) := by decide +kernel
theorem d_M_fewestOf_12 : decode prog_11_method_35_code 12 = .ok (.iconst 0, 1) := by decide +kernel
theorem d_M_fewestOf_13 : decode prog_11_method_35_code 13 = .ok (.iastore, 1) := by decide +kernel
theorem d_M_fewestOf_14 : decode prog_11_method_35_code 14 = .ok (.iconst 1, 1) := by decide +kernel
theorem d_M_fewestOf_15 : decode prog_11_method_35_code 15 = .ok (.istore_n 2, 1) := by decide +kernel
theorem d_M_fewestOf_16 : decode prog_11_method_35_code 16 = .ok (.iload_n 2, 1) := by decide +kernel
theorem d_M_fewestOf_17 : decode prog_11_method_35_code 17 = .ok (.iload_n 1, 1) := by decide +kernel
theorem d_M_fewestOf_18 : decode prog_11_method_35_code 18 = .ok (.if_icmp .ge 99, 3) := by decide +kernel
theorem d_M_fewestOf_21 : decode prog_11_method_35_code 21 = .ok (.aload_n 0, 1) := by decide +kernel
theorem d_M_fewestOf_22 : decode prog_11_method_35_code 22 = .ok (.getfield 53, 3) := by decide +kernel
theorem d_M_fewestOf_25 : decode prog_11_method_35_code 25 = .ok (.iload_n 2, 1) := by decide +kernel
theorem d_M_fewestOf_26 : decode prog_11_method_35_code 26 = .ok (.aload_n 0, 1) := by decide +kernel
theorem d_M_fewestOf_27 : decode prog_11_method_35_code 27 = .ok (.iload_n 2, 1) := by decide +kernel
theorem d_M_fewestOf_28 : decode prog_11_method_35_code 28 = .ok (.invokevirtual 200, 3) := by decide +kernel
theorem d_M_fewestOf_31 : decode prog_11_method_35_code 31 = .ok (.bastore, 1) := by decide +kernel
theorem d_M_fewestOf_32 : decode prog_11_method_35_code 32 = .ok (.aload_n 0, 1) := by decide +kernel
theorem d_M_fewestOf_33 : decode prog_11_method_35_code 33 = .ok (.getfield 56, 3) := by decide +kernel
theorem d_M_fewestOf_36 : decode prog_11_method_35_code 36 = .ok (.iload_n 2, 1) := by decide +kernel
theorem d_M_fewestOf_37 : decode prog_11_method_35_code 37 = .ok (.bipush 99, 2) := by decide +kernel
theorem d_M_fewestOf_39 : decode prog_11_method_35_code 39 = .ok (.iastore, 1) := by decide +kernel
theorem d_M_fewestOf_40 : decode prog_11_method_35_code 40 = .ok (.iload_n 2, 1) := by decide +kernel
theorem d_M_fewestOf_41 : decode prog_11_method_35_code 41 = .ok (.istore_n 3, 1) := by decide +kernel
theorem d_M_fewestOf_42 : decode prog_11_method_35_code 42 = .ok (.iload_n 3, 1) := by decide +kernel
theorem d_M_fewestOf_43 : decode prog_11_method_35_code 43 = .ok (.ifCond .le 68, 3) := by decide +kernel
theorem d_M_fewestOf_46 : decode prog_11_method_35_code 46 = .ok (.aload_n 0, 1) := by decide +kernel
theorem d_M_fewestOf_47 : decode prog_11_method_35_code 47 = .ok (.getfield 53, 3) := by decide +kernel
theorem d_M_fewestOf_50 : decode prog_11_method_35_code 50 = .ok (.iload_n 3, 1) := by decide +kernel
theorem d_M_fewestOf_51 : decode prog_11_method_35_code 51 = .ok (.baload, 1) := by decide +kernel
theorem d_M_fewestOf_52 : decode prog_11_method_35_code 52 = .ok (.ifCond .eq 18, 3) := by decide +kernel
theorem d_M_fewestOf_55 : decode prog_11_method_35_code 55 = .ok (.iconst 1, 1) := by decide +kernel
theorem d_M_fewestOf_56 : decode prog_11_method_35_code 56 = .ok (.aload_n 0, 1) := by decide +kernel
theorem d_M_fewestOf_57 : decode prog_11_method_35_code 57 = .ok (.getfield 56, 3) := by decide +kernel
theorem d_M_fewestOf_60 : decode prog_11_method_35_code 60 = .ok (.iload_n 2, 1) := by decide +kernel
theorem d_M_fewestOf_61 : decode prog_11_method_35_code 61 = .ok (.iload_n 3, 1) := by decide +kernel
theorem d_M_fewestOf_62 : decode prog_11_method_35_code 62 = .ok (.iconst (-1), 1) := by decide +kernel
theorem d_M_fewestOf_63 : decode prog_11_method_35_code 63 = .ok (.ixor, 1) := by decide +kernel
theorem d_M_fewestOf_64 : decode prog_11_method_35_code 64 = .ok (.iand, 1) := by decide +kernel
theorem d_M_fewestOf_65 : decode prog_11_method_35_code 65 = .ok (.iaload, 1) := by decide +kernel
theorem d_M_fewestOf_66 : decode prog_11_method_35_code 66 = .ok (.iadd, 1) := by decide +kernel
theorem d_M_fewestOf_67 : decode prog_11_method_35_code 67 = .ok (.goto 5, 3) := by decide +kernel
theorem d_M_fewestOf_70 : decode prog_11_method_35_code 70 = .ok (.bipush 99, 2) := by decide +kernel
theorem d_M_fewestOf_72 : decode prog_11_method_35_code 72 = .ok (.istore 4, 2) := by decide +kernel
theorem d_M_fewestOf_74 : decode prog_11_method_35_code 74 = .ok (.aload_n 0, 1) := by decide +kernel
theorem d_M_fewestOf_75 : decode prog_11_method_35_code 75 = .ok (.getfield 56, 3) := by decide +kernel
theorem d_M_fewestOf_78 : decode prog_11_method_35_code 78 = .ok (.iload_n 2, 1) := by decide +kernel
theorem d_M_fewestOf_79 : decode prog_11_method_35_code 79 = .ok (.iload 4, 2) := by decide +kernel
theorem d_M_fewestOf_81 : decode prog_11_method_35_code 81 = .ok (.aload_n 0, 1) := by decide +kernel
theorem d_M_fewestOf_82 : decode prog_11_method_35_code 82 = .ok (.getfield 56, 3) := by decide +kernel
theorem d_M_fewestOf_85 : decode prog_11_method_35_code 85 = .ok (.iload_n 2, 1) := by decide +kernel
theorem d_M_fewestOf_86 : decode prog_11_method_35_code 86 = .ok (.iaload, 1) := by decide +kernel
theorem d_M_fewestOf_87 : decode prog_11_method_35_code 87 = .ok (.if_icmp .ge 8, 3) := by decide +kernel
theorem d_M_fewestOf_90 : decode prog_11_method_35_code 90 = .ok (.iload 4, 2) := by decide +kernel
theorem d_M_fewestOf_92 : decode prog_11_method_35_code 92 = .ok (.goto 9, 3) := by decide +kernel
theorem d_M_fewestOf_95 : decode prog_11_method_35_code 95 = .ok (.aload_n 0, 1) := by decide +kernel
theorem d_M_fewestOf_96 : decode prog_11_method_35_code 96 = .ok (.getfield 56, 3) := by decide +kernel
theorem d_M_fewestOf_99 : decode prog_11_method_35_code 99 = .ok (.iload_n 2, 1) := by decide +kernel
theorem d_M_fewestOf_100 : decode prog_11_method_35_code 100 = .ok (.iaload, 1) := by decide +kernel
theorem d_M_fewestOf_101 : decode prog_11_method_35_code 101 = .ok (.iastore, 1) := by decide +kernel
theorem d_M_fewestOf_102 : decode prog_11_method_35_code 102 = .ok (.iload_n 3, 1) := by decide +kernel
theorem d_M_fewestOf_103 : decode prog_11_method_35_code 103 = .ok (.iconst 1, 1) := by decide +kernel
theorem d_M_fewestOf_104 : decode prog_11_method_35_code 104 = .ok (.isub, 1) := by decide +kernel
theorem d_M_fewestOf_105 : decode prog_11_method_35_code 105 = .ok (.iload_n 2, 1) := by decide +kernel
theorem d_M_fewestOf_106 : decode prog_11_method_35_code 106 = .ok (.iand, 1) := by decide +kernel
theorem d_M_fewestOf_107 : decode prog_11_method_35_code 107 = .ok (.istore_n 3, 1) := by decide +kernel
theorem d_M_fewestOf_108 : decode prog_11_method_35_code 108 = .ok (.goto (-66), 3) := by decide +kernel
theorem d_M_fewestOf_111 : decode prog_11_method_35_code 111 = .ok (.iinc 2 1, 3) := by decide +kernel
theorem d_M_fewestOf_114 : decode prog_11_method_35_code 114 = .ok (.goto (-98), 3) := by decide +kernel
theorem d_M_fewestOf_117 : decode prog_11_method_35_code 117 = .ok (.aload_n 0, 1) := by decide +kernel
theorem d_M_fewestOf_118 : decode prog_11_method_35_code 118 = .ok (.getfield 56, 3) := by decide +kernel
theorem d_M_fewestOf_121 : decode prog_11_method_35_code 121 = .ok (.iload_n 1, 1) := by decide +kernel
theorem d_M_fewestOf_122 : decode prog_11_method_35_code 122 = .ok (.iconst 1, 1) := by decide +kernel
theorem d_M_fewestOf_123 : decode prog_11_method_35_code 123 = .ok (.isub, 1) := by decide +kernel
theorem d_M_fewestOf_124 : decode prog_11_method_35_code 124 = .ok (.iaload, 1) := by decide +kernel
theorem d_M_fewestOf_125 : decode prog_11_method_35_code 125 = .ok (.ireturn, 1) := by decide +kernel
theorem d_M_fewest_0 : decode prog_11_method_36_code 0 = .ok (.aload_n 0, 1) := by decide +kernel
theorem d_M_fewest_1 : decode prog_11_method_36_code 1 = .ok (.getfield 158, 3) := by decide +kernel
theorem d_M_fewest_4 : decode prog_11_method_36_code 4 = .ok (.ifCond .ne 6, 3) := by decide +kernel
theorem d_M_fewest_7 : decode prog_11_method_36_code 7 = .ok (.bipush (-2), 2) := by decide +kernel
theorem d_M_fewest_9 : decode prog_11_method_36_code 9 = .ok (.ireturn, 1) := by decide +kernel
theorem d_M_fewest_10 : decode prog_11_method_36_code 10 = .ok (.aload_n 0, 1) := by decide +kernel
theorem d_M_fewest_11 : decode prog_11_method_36_code 11 = .ok (.invokevirtual 209, 3) := by decide +kernel
theorem d_M_fewest_14 : decode prog_11_method_36_code 14 = .ok (.istore_n 1, 1) := by decide +kernel
theorem d_M_fewest_15 : decode prog_11_method_36_code 15 = .ok (.iload_n 1, 1) := by decide +kernel
theorem d_M_fewest_16 : decode prog_11_method_36_code 16 = .ok (.bipush 98, 2) := by decide +kernel
theorem d_M_fewest_18 : decode prog_11_method_36_code 18 = .ok (.if_icmp .le 8, 3) := by decide +kernel
theorem d_M_fewest_21 : decode prog_11_method_36_code 21 = .ok (.bipush (-4), 2) := by decide +kernel
theorem d_M_fewest_23 : decode prog_11_method_36_code 23 = .ok (.goto 4, 3) := by decide +kernel
theorem d_M_fewest_26 : decode prog_11_method_36_code 26 = .ok (.iload_n 1, 1) := by decide +kernel
theorem d_M_fewest_27 : decode prog_11_method_36_code 27 = .ok (.ireturn, 1) := by decide +kernel
theorem d_M_plans_0 : decode prog_11_method_37_code 0 = .ok (.aload_n 0, 1) := by decide +kernel
theorem d_M_plans_1 : decode prog_11_method_37_code 1 = .ok (.invokevirtual 209, 3) := by decide +kernel
theorem d_M_plans_4 : decode prog_11_method_37_code 4 = .ok (.istore_n 1, 1) := by decide +kernel
theorem d_M_plans_5 : decode prog_11_method_37_code 5 = .ok (.iconst 1, 1) := by decide +kernel
theorem d_M_plans_6 : decode prog_11_method_37_code 6 = .ok (.aload_n 0, 1) := by decide +kernel
theorem d_M_plans_7 : decode prog_11_method_37_code 7 = .ok (.getfield 158, 3) := by decide +kernel
theorem d_M_plans_10 : decode prog_11_method_37_code 10 = .ok (.ishl, 1) := by decide +kernel
theorem d_M_plans_11 : decode prog_11_method_37_code 11 = .ok (.iconst 1, 1) := by decide +kernel
theorem d_M_plans_12 : decode prog_11_method_37_code 12 = .ok (.isub, 1) := by decide +kernel
theorem d_M_plans_13 : decode prog_11_method_37_code 13 = .ok (.istore_n 2, 1) := by decide +kernel
theorem d_M_plans_14 : decode prog_11_method_37_code 14 = .ok (.iconst 0, 1) := by decide +kernel
theorem d_M_plans_15 : decode prog_11_method_37_code 15 = .ok (.istore_n 3, 1) := by decide +kernel
theorem d_M_plans_16 : decode prog_11_method_37_code 16 = .ok (.iload_n 3, 1) := by decide +kernel
theorem d_M_plans_17 : decode prog_11_method_37_code 17 = .ok (.iload_n 1, 1) := by decide +kernel
theorem d_M_plans_18 : decode prog_11_method_37_code 18 = .ok (.if_icmp .ge 77, 3) := by decide +kernel
theorem d_M_plans_21 : decode prog_11_method_37_code 21 = .ok (.iload_n 1, 1) := by decide +kernel
theorem d_M_plans_22 : decode prog_11_method_37_code 22 = .ok (.bipush 99, 2) := by decide +kernel
theorem d_M_plans_24 : decode prog_11_method_37_code 24 = .ok (.if_icmp .ge 71, 3) := by decide +kernel
theorem d_M_plans_27 : decode prog_11_method_37_code 27 = .ok (.iconst 1, 1) := by decide +kernel
theorem d_M_plans_28 : decode prog_11_method_37_code 28 = .ok (.istore 4, 2) := by decide +kernel
theorem d_M_plans_30 : decode prog_11_method_37_code 30 = .ok (.iload 4, 2) := by decide +kernel
theorem d_M_plans_32 : decode prog_11_method_37_code 32 = .ok (.iload_n 2, 1) := by decide +kernel
theorem d_M_plans_33 : decode prog_11_method_37_code 33 = .ok (.iconst (-1), 1) := by decide +kernel
theorem d_M_plans_34 : decode prog_11_method_37_code 34 = .ok (.ixor, 1) := by decide +kernel
theorem d_M_plans_35 : decode prog_11_method_37_code 35 = .ok (.iand, 1) := by decide +kernel
theorem d_M_plans_36 : decode prog_11_method_37_code 36 = .ok (.ifCond .ne 32, 3) := by decide +kernel
theorem d_M_plans_39 : decode prog_11_method_37_code 39 = .ok (.aload_n 0, 1) := by decide +kernel
theorem d_M_plans_40 : decode prog_11_method_37_code 40 = .ok (.getfield 53, 3) := by decide +kernel
theorem d_M_plans_43 : decode prog_11_method_37_code 43 = .ok (.iload 4, 2) := by decide +kernel
theorem d_M_plans_45 : decode prog_11_method_37_code 45 = .ok (.baload, 1) := by decide +kernel
theorem d_M_plans_46 : decode prog_11_method_37_code 46 = .ok (.ifCond .eq 22, 3) := by decide +kernel
theorem d_M_plans_49 : decode prog_11_method_37_code 49 = .ok (.aload_n 0, 1) := by decide +kernel
theorem d_M_plans_50 : decode prog_11_method_37_code 50 = .ok (.getfield 56, 3) := by decide +kernel
theorem d_M_plans_53 : decode prog_11_method_37_code 53 = .ok (.iload_n 2, 1) := by decide +kernel
theorem d_M_plans_54 : decode prog_11_method_37_code 54 = .ok (.iload 4, 2) := by decide +kernel
theorem d_M_plans_56 : decode prog_11_method_37_code 56 = .ok (.iconst (-1), 1) := by decide +kernel
theorem d_M_plans_57 : decode prog_11_method_37_code 57 = .ok (.ixor, 1) := by decide +kernel
theorem d_M_plans_58 : decode prog_11_method_37_code 58 = .ok (.iand, 1) := by decide +kernel
theorem d_M_plans_59 : decode prog_11_method_37_code 59 = .ok (.iaload, 1) := by decide +kernel
theorem d_M_plans_60 : decode prog_11_method_37_code 60 = .ok (.iload_n 1, 1) := by decide +kernel
theorem d_M_plans_61 : decode prog_11_method_37_code 61 = .ok (.iload_n 3, 1) := by decide +kernel
theorem d_M_plans_62 : decode prog_11_method_37_code 62 = .ok (.isub, 1) := by decide +kernel
theorem d_M_plans_63 : decode prog_11_method_37_code 63 = .ok (.iconst 1, 1) := by decide +kernel
theorem d_M_plans_64 : decode prog_11_method_37_code 64 = .ok (.isub, 1) := by decide +kernel
theorem d_M_plans_65 : decode prog_11_method_37_code 65 = .ok (.if_icmp .eq 9, 3) := by decide +kernel
theorem d_M_plans_68 : decode prog_11_method_37_code 68 = .ok (.iinc 4 1, 3) := by decide +kernel
theorem d_M_plans_71 : decode prog_11_method_37_code 71 = .ok (.goto (-41), 3) := by decide +kernel
theorem d_M_plans_74 : decode prog_11_method_37_code 74 = .ok (.aload_n 0, 1) := by decide +kernel
theorem d_M_plans_75 : decode prog_11_method_37_code 75 = .ok (.getfield 59, 3) := by decide +kernel
theorem d_M_plans_78 : decode prog_11_method_37_code 78 = .ok (.iload_n 3, 1) := by decide +kernel
theorem d_M_plans_79 : decode prog_11_method_37_code 79 = .ok (.iload 4, 2) := by decide +kernel
theorem d_M_plans_81 : decode prog_11_method_37_code 81 = .ok (.iastore, 1) := by decide +kernel
theorem d_M_plans_82 : decode prog_11_method_37_code 82 = .ok (.iload_n 2, 1) := by decide +kernel
theorem d_M_plans_83 : decode prog_11_method_37_code 83 = .ok (.iload 4, 2) := by decide +kernel
theorem d_M_plans_85 : decode prog_11_method_37_code 85 = .ok (.iconst (-1), 1) := by decide +kernel
theorem d_M_plans_86 : decode prog_11_method_37_code 86 = .ok (.ixor, 1) := by decide +kernel
theorem d_M_plans_87 : decode prog_11_method_37_code 87 = .ok (.iand, 1) := by decide +kernel
theorem d_M_plans_88 : decode prog_11_method_37_code 88 = .ok (.istore_n 2, 1) := by decide +kernel
theorem d_M_plans_89 : decode prog_11_method_37_code 89 = .ok (.iinc 3 1, 3) := by decide +kernel
theorem d_M_plans_92 : decode prog_11_method_37_code 92 = .ok (.goto (-76), 3) := by decide +kernel
theorem d_M_plans_95 : decode prog_11_method_37_code 95 = .ok (.iload_n 1, 1) := by decide +kernel
theorem d_M_plans_96 : decode prog_11_method_37_code 96 = .ok (.ireturn, 1) := by decide +kernel
theorem d_M_plan_0 : decode prog_11_method_38_code 0 = .ok (.iload_n 1, 1) := by decide +kernel
theorem d_M_plan_1 : decode prog_11_method_38_code 1 = .ok (.i2l, 1) := by decide +kernel
theorem d_M_plan_2 : decode prog_11_method_38_code 2 = .ok (.lconst 0, 1) := by decide +kernel
theorem d_M_plan_3 : decode prog_11_method_38_code 3 = .ok (.ldc2_w 102, 3) := by decide +kernel
theorem d_M_plan_6 : decode prog_11_method_38_code 6 = .ok (.invokestatic 94, 3) := by decide +kernel
theorem d_M_plan_9 : decode prog_11_method_38_code 9 = .ok (.ifCond .ne 5, 3) := by decide +kernel
theorem d_M_plan_12 : decode prog_11_method_38_code 12 = .ok (.iconst (-1), 1) := by decide +kernel
theorem d_M_plan_13 : decode prog_11_method_38_code 13 = .ok (.ireturn, 1) := by decide +kernel
theorem d_M_plan_14 : decode prog_11_method_38_code 14 = .ok (.aload_n 0, 1) := by decide +kernel
theorem d_M_plan_15 : decode prog_11_method_38_code 15 = .ok (.getfield 158, 3) := by decide +kernel
theorem d_M_plan_18 : decode prog_11_method_38_code 18 = .ok (.ifCond .ne 6, 3) := by decide +kernel
theorem d_M_plan_21 : decode prog_11_method_38_code 21 = .ok (.bipush (-2), 2) := by decide +kernel
theorem d_M_plan_23 : decode prog_11_method_38_code 23 = .ok (.ireturn, 1) := by decide +kernel
theorem d_M_plan_24 : decode prog_11_method_38_code 24 = .ok (.aload_n 0, 1) := by decide +kernel
theorem d_M_plan_25 : decode prog_11_method_38_code 25 = .ok (.invokevirtual 212, 3) := by decide +kernel
theorem d_M_plan_28 : decode prog_11_method_38_code 28 = .ok (.istore_n 2, 1) := by decide +kernel
theorem d_M_plan_29 : decode prog_11_method_38_code 29 = .ok (.iload_n 2, 1) := by decide +kernel
theorem d_M_plan_30 : decode prog_11_method_38_code 30 = .ok (.bipush 98, 2) := by decide +kernel
theorem d_M_plan_32 : decode prog_11_method_38_code 32 = .ok (.if_icmp .gt 8, 3) := by decide +kernel
theorem d_M_plan_35 : decode prog_11_method_38_code 35 = .ok (.iload_n 1, 1) := by decide +kernel
theorem d_M_plan_36 : decode prog_11_method_38_code 36 = .ok (.iload_n 2, 1) := by decide +kernel
theorem d_M_plan_37 : decode prog_11_method_38_code 37 = .ok (.if_icmp .lt 8, 3) := by decide +kernel
theorem d_M_plan_40 : decode prog_11_method_38_code 40 = .ok (.bipush (-4), 2) := by decide +kernel
theorem d_M_plan_42 : decode prog_11_method_38_code 42 = .ok (.goto 9, 3) := by decide +kernel
theorem d_M_plan_45 : decode prog_11_method_38_code 45 = .ok (.aload_n 0, 1) := by decide +kernel
theorem d_M_plan_46 : decode prog_11_method_38_code 46 = .ok (.getfield 59, 3) := by decide +kernel
theorem d_M_plan_49 : decode prog_11_method_38_code 49 = .ok (.iload_n 1, 1) := by decide +kernel
theorem d_M_plan_50 : decode prog_11_method_38_code 50 = .ok (.iaload, 1) := by decide +kernel
theorem d_M_plan_51 : decode prog_11_method_38_code 51 = .ok (.ireturn, 1) := by decide +kernel
theorem d_M_bound_0 : decode prog_11_method_39_code 0 = .ok (.aload_n 0, 1) := by decide +kernel
theorem d_M_bound_1 : decode prog_11_method_39_code 1 = .ok (.getfield 158, 3) := by decide +kernel
theorem d_M_bound_4 : decode prog_11_method_39_code 4 = .ok (.ifCond .ne 6, 3) := by decide +kernel
theorem d_M_bound_7 : decode prog_11_method_39_code 7 = .ok (.bipush (-2), 2) := by decide +kernel
theorem d_M_bound_9 : decode prog_11_method_39_code 9 = .ok (.ireturn, 1) := by decide +kernel
theorem d_M_bound_10 : decode prog_11_method_39_code 10 = .ok (.iconst 0, 1) := by decide +kernel
theorem d_M_bound_11 : decode prog_11_method_39_code 11 = .ok (.istore_n 1, 1) := by decide +kernel
theorem d_M_bound_12 : decode prog_11_method_39_code 12 = .ok (.iconst 0, 1) := by decide +kernel
theorem d_M_bound_13 : decode prog_11_method_39_code 13 = .ok (.istore_n 2, 1) := by decide +kernel
theorem d_M_bound_14 : decode prog_11_method_39_code 14 = .ok (.iload_n 2, 1) := by decide +kernel
theorem d_M_bound_15 : decode prog_11_method_39_code 15 = .ok (.bipush 12, 2) := by decide +kernel
theorem d_M_bound_17 : decode prog_11_method_39_code 17 = .ok (.if_icmp .ge 175, 3) := by decide +kernel
theorem d_M_bound_20 : decode prog_11_method_39_code 20 = .ok (.iconst 0, 1) := by decide +kernel
theorem d_M_bound_21 : decode prog_11_method_39_code 21 = .ok (.istore_n 3, 1) := by decide +kernel
theorem d_M_bound_22 : decode prog_11_method_39_code 22 = .ok (.iconst 0, 1) := by decide +kernel
theorem d_M_bound_23 : decode prog_11_method_39_code 23 = .ok (.istore 4, 2) := by decide +kernel
theorem d_M_bound_25 : decode prog_11_method_39_code 25 = .ok (.iconst 0, 1) := by decide +kernel
theorem d_M_bound_26 : decode prog_11_method_39_code 26 = .ok (.istore 5, 2) := by decide +kernel
theorem d_M_bound_28 : decode prog_11_method_39_code 28 = .ok (.iload 5, 2) := by decide +kernel
theorem d_M_bound_30 : decode prog_11_method_39_code 30 = .ok (.aload_n 0, 1) := by decide +kernel
theorem d_M_bound_31 : decode prog_11_method_39_code 31 = .ok (.getfield 158, 3) := by decide +kernel
theorem d_M_bound_34 : decode prog_11_method_39_code 34 = .ok (.if_icmp .ge 28, 3) := by decide +kernel
theorem d_M_bound_37 : decode prog_11_method_39_code 37 = .ok (.iload_n 3, 1) := by decide +kernel
theorem d_M_bound_38 : decode prog_11_method_39_code 38 = .ok (.aload_n 0, 1) := by decide +kernel
theorem d_M_bound_39 : decode prog_11_method_39_code 39 = .ok (.getfield 25, 3) := by decide +kernel
theorem d_M_bound_42 : decode prog_11_method_39_code 42 = .ok (.iload 5, 2) := by decide +kernel
theorem d_M_bound_44 : decode prog_11_method_39_code 44 = .ok (.iaload, 1) := by decide +kernel
theorem d_M_bound_45 : decode prog_11_method_39_code 45 = .ok (.iload_n 2, 1) := by decide +kernel
theorem d_M_bound_46 : decode prog_11_method_39_code 46 = .ok (.if_icmp .ne 7, 3) := by decide +kernel
theorem d_M_bound_49 : decode prog_11_method_39_code 49 = .ok (.iconst 1, 1) := by decide +kernel
theorem d_M_bound_50 : decode prog_11_method_39_code 50 = .ok (.goto 4, 3) := by decide +kernel
theorem d_M_bound_53 : decode prog_11_method_39_code 53 = .ok (.iconst 0, 1) := by decide +kernel
theorem d_M_bound_54 : decode prog_11_method_39_code 54 = .ok (.iadd, 1) := by decide +kernel
theorem d_M_bound_55 : decode prog_11_method_39_code 55 = .ok (.istore_n 3, 1) := by decide +kernel
theorem d_M_bound_56 : decode prog_11_method_39_code 56 = .ok (.iinc 5 1, 3) := by decide +kernel
theorem d_M_bound_59 : decode prog_11_method_39_code 59 = .ok (.goto (-31), 3) := by decide +kernel
theorem d_M_bound_62 : decode prog_11_method_39_code 62 = .ok (.iconst 0, 1) := by decide +kernel
theorem d_M_bound_63 : decode prog_11_method_39_code 63 = .ok (.istore 5, 2) := by decide +kernel
theorem d_M_bound_65 : decode prog_11_method_39_code 65 = .ok (.iload 5, 2) := by decide +kernel
theorem d_M_bound_67 : decode prog_11_method_39_code 67 = .ok (.aload_n 0, 1) := by decide +kernel
theorem d_M_bound_68 : decode prog_11_method_39_code 68 = .ok (.getfield 108, 3) := by decide +kernel
theorem d_M_bound_71 : decode prog_11_method_39_code 71 = .ok (.if_icmp .ge 73, 3) := by decide +kernel
theorem d_M_bound_74 : decode prog_11_method_39_code 74 = .ok (.iload 4, 2) := by decide +kernel
theorem d_M_bound_76 : decode prog_11_method_39_code 76 = .ok (.aload_n 0, 1) := by decide +kernel
theorem d_M_bound_77 : decode prog_11_method_39_code 77 = .ok (.getfield 13, 3) := by decide +kernel
theorem d_M_bound_80 : decode prog_11_method_39_code 80 = .ok (.iload 5, 2) := by decide +kernel
theorem d_M_bound_82 : decode prog_11_method_39_code 82 = .ok (.iaload, 1) := by decide +kernel
theorem d_M_bound_83 : decode prog_11_method_39_code 83 = .ok (.iload_n 2, 1) := by decide +kernel
theorem d_M_bound_84 : decode prog_11_method_39_code 84 = .ok (.if_icmp .ne 7, 3) := by decide +kernel
theorem d_M_bound_87 : decode prog_11_method_39_code 87 = .ok (.iconst 1, 1) := by decide +kernel
theorem d_M_bound_88 : decode prog_11_method_39_code 88 = .ok (.goto 4, 3) := by decide +kernel
theorem d_M_bound_91 : decode prog_11_method_39_code 91 = .ok (.iconst 0, 1) := by decide +kernel
theorem d_M_bound_92 : decode prog_11_method_39_code 92 = .ok (.iadd, 1) := by decide +kernel
theorem d_M_bound_93 : decode prog_11_method_39_code 93 = .ok (.istore 4, 2) := by decide +kernel
theorem d_M_bound_95 : decode prog_11_method_39_code 95 = .ok (.iload 4, 2) := by decide +kernel
theorem d_M_bound_97 : decode prog_11_method_39_code 97 = .ok (.aload_n 0, 1) := by decide +kernel
theorem d_M_bound_98 : decode prog_11_method_39_code 98 = .ok (.getfield 7, 3) := by decide +kernel
theorem d_M_bound_101 : decode prog_11_method_39_code 101 = .ok (.iload 5, 2) := by decide +kernel
theorem d_M_bound_103 : decode prog_11_method_39_code 103 = .ok (.iaload, 1) := by decide +kernel
theorem d_M_bound_104 : decode prog_11_method_39_code 104 = .ok (.iconst 1, 1) := by decide +kernel
theorem d_M_bound_105 : decode prog_11_method_39_code 105 = .ok (.if_icmp .eq 14, 3) := by decide +kernel
theorem d_M_bound_108 : decode prog_11_method_39_code 108 = .ok (.aload_n 0, 1) := by decide +kernel
theorem d_M_bound_109 : decode prog_11_method_39_code 109 = .ok (.getfield 7, 3) := by decide +kernel
theorem d_M_bound_112 : decode prog_11_method_39_code 112 = .ok (.iload 5, 2) := by decide +kernel
theorem d_M_bound_114 : decode prog_11_method_39_code 114 = .ok (.iaload, 1) := by decide +kernel
theorem d_M_bound_115 : decode prog_11_method_39_code 115 = .ok (.iconst 2, 1) := by decide +kernel
theorem d_M_bound_116 : decode prog_11_method_39_code 116 = .ok (.if_icmp .ne 18, 3) := by decide +kernel
theorem d_M_bound_119 : decode prog_11_method_39_code 119 = .ok (.aload_n 0, 1) := by decide +kernel
theorem d_M_bound_120 : decode prog_11_method_39_code 120 = .ok (.getfield 16, 3) := by decide +kernel
theorem d_M_bound_123 : decode prog_11_method_39_code 123 = .ok (.iload 5, 2) := by decide +kernel
theorem d_M_bound_125 : decode prog_11_method_39_code 125 = .ok (.iaload, 1) := by decide +kernel
theorem d_M_bound_126 : decode prog_11_method_39_code 126 = .ok (.iload_n 2, 1) := by decide +kernel
theorem d_M_bound_127 : decode prog_11_method_39_code 127 = .ok (.if_icmp .ne 7, 3) := by decide +kernel
theorem d_M_bound_130 : decode prog_11_method_39_code 130 = .ok (.iconst 1, 1) := by decide +kernel
theorem d_M_bound_131 : decode prog_11_method_39_code 131 = .ok (.goto 4, 3) := by decide +kernel
theorem d_M_bound_134 : decode prog_11_method_39_code 134 = .ok (.iconst 0, 1) := by decide +kernel
theorem d_M_bound_135 : decode prog_11_method_39_code 135 = .ok (.iadd, 1) := by decide +kernel
theorem d_M_bound_136 : decode prog_11_method_39_code 136 = .ok (.istore 4, 2) := by decide +kernel
theorem d_M_bound_138 : decode prog_11_method_39_code 138 = .ok (.iinc 5 1, 3) := by decide +kernel
theorem d_M_bound_141 : decode prog_11_method_39_code 141 = .ok (.goto (-76), 3) := by decide +kernel
theorem d_M_bound_144 : decode prog_11_method_39_code 144 = .ok (.iload_n 3, 1) := by decide +kernel
theorem d_M_bound_145 : decode prog_11_method_39_code 145 = .ok (.ifCond .ne 7, 3) := by decide +kernel
theorem d_M_bound_148 : decode prog_11_method_39_code 148 = .ok (.iconst 0, 1) := by decide +kernel
theorem d_M_bound_149 : decode prog_11_method_39_code 149 = .ok (.goto 22, 3) := by decide +kernel
theorem d_M_bound_152 : decode prog_11_method_39_code 152 = .ok (.iload 4, 2) := by decide +kernel
theorem d_M_bound_154 : decode prog_11_method_39_code 154 = .ok (.ifCond .ne 8, 3) := by decide +kernel
theorem d_M_bound_157 : decode prog_11_method_39_code 157 = .ok (.bipush 99, 2) := by decide +kernel
theorem d_M_bound_159 : decode prog_11_method_39_code 159 = .ok (.goto 12, 3) := by decide +kernel
theorem d_M_bound_162 : decode prog_11_method_39_code 162 = .ok (.iload_n 3, 1) := by decide +kernel
theorem d_M_bound_163 : decode prog_11_method_39_code 163 = .ok (.iload 4, 2) := by decide +kernel
theorem d_M_bound_165 : decode prog_11_method_39_code 165 = .ok (.iadd, 1) := by decide +kernel
theorem d_M_bound_166 : decode prog_11_method_39_code 166 = .ok (.iconst 1, 1) := by decide +kernel
theorem d_M_bound_167 : decode prog_11_method_39_code 167 = .ok (.isub, 1) := by decide +kernel
theorem d_M_bound_168 : decode prog_11_method_39_code 168 = .ok (.iload 4, 2) := by decide +kernel
theorem d_M_bound_170 : decode prog_11_method_39_code 170 = .ok (.idiv, 1) := by decide +kernel
theorem d_M_bound_171 : decode prog_11_method_39_code 171 = .ok (.istore 5, 2) := by decide +kernel
theorem d_M_bound_173 : decode prog_11_method_39_code 173 = .ok (.iload 5, 2) := by decide +kernel
theorem d_M_bound_175 : decode prog_11_method_39_code 175 = .ok (.iload_n 1, 1) := by decide +kernel
theorem d_M_bound_176 : decode prog_11_method_39_code 176 = .ok (.if_icmp .le 8, 3) := by decide +kernel
theorem d_M_bound_179 : decode prog_11_method_39_code 179 = .ok (.iload 5, 2) := by decide +kernel
theorem d_M_bound_181 : decode prog_11_method_39_code 181 = .ok (.goto 4, 3) := by decide +kernel
theorem d_M_bound_184 : decode prog_11_method_39_code 184 = .ok (.iload_n 1, 1) := by decide +kernel
theorem d_M_bound_185 : decode prog_11_method_39_code 185 = .ok (.istore_n 1, 1) := by decide +kernel
theorem d_M_bound_186 : decode prog_11_method_39_code 186 = .ok (.iinc 2 1, 3) := by decide +kernel
theorem d_M_bound_189 : decode prog_11_method_39_code 189 = .ok (.goto (-175), 3) := by decide +kernel
theorem d_M_bound_192 : decode prog_11_method_39_code 192 = .ok (.iload_n 1, 1) := by decide +kernel
theorem d_M_bound_193 : decode prog_11_method_39_code 193 = .ok (.ireturn, 1) := by decide +kernel
def f_M_least_L20  : Int32 × fw_M → Option ((Int32 × fw_M) ⊕ (fw_M))
  | (x3_20, μ20) =>
  if (μ20.1 0 6) ≤ x3_20 then
    some (.inr μ20)
  else
    (fw_si 10 μ20 14 x3_20 (-4)).bind fun μ35 =>
    fw_nm (x3_20 + 1) fun (v36 : Int32) =>
    some (.inl (v36, μ35))
def f_M_least_L73 (a1 : Int32) (x2_44 : Int32) (x3_44 : Int32) (μ44 : fw_M) (x4_73 : Int32) : Option ((Int32) ⊕ (Int32)) :=
  (f_M_mayBy x4_73 x3_44 a1 x2_44 μ44).bind fun (p79 : Int32) =>
  if p79 = 0 then
    fw_nm (x4_73 + 1) fun (v85 : Int32) =>
    some (.inl v85)
  else
    some (.inr x4_73)
def f_M_least_L44 (a1 : Int32) : Int32 × Int32 × fw_M → Option ((Int32 × Int32 × fw_M) ⊕ (fw_M))
  | (x2_44, x3_44, μ44) =>
  if (μ44.1 0 6) ≤ x3_44 then
    some (.inr μ44)
  else
    Option.bind (
      if ((a1 >>> (x3_44 &&& 31)) &&& 1) = 1 then
        (fw_rd 10 (μ44.1 14) x3_44).bind fun v66 =>
        if 0 ≤ v66 then
          some (x2_44, μ44)
        else
          (fw_wh (f_M_least_L73 a1 x2_44 x3_44 μ44) fw_N 0).bind fun (e73x : Int32) =>
          (fw_si 10 μ44 14 x3_44 e73x).bind fun μ98 =>
          fw_nm ((x2_44 ||| ((1 : Int32) <<< (e73x &&& 31)))) fun (v105 : Int32) =>
          (fw_rd 10 (μ98.1 1) e73x).bind fun v112 =>
          if v112 = 2 then
            (fw_si 10 μ98 14 (x3_44 + 1) e73x).bind fun μ126 =>
            some (v105, μ126)
          else
            some (v105, μ98)
      else
        some (x2_44, μ44)) fun (j58 : Int32 × fw_M) =>
    fw_nm (x3_44 + 1) fun (v127 : Int32) =>
    some (.inl (j58.1, v127, j58.2))
def f_M_least (a1 : Int32) (μ : fw_M) : Option (Int32 × fw_M) :=
  (f_M_looks a1 μ).bind fun (p2 : fw_M) =>
  (fw_rd 11264 (p2.1 12) 0).bind fun v10 =>
  if v10 = 0 then
    some (0, p2)
  else
    (fw_wh (f_M_least_L20) fw_N (0, p2)).bind fun (e20x : fw_M) =>
    (fw_wh (f_M_least_L44 a1) fw_N (0, 0, e20x)).bind fun (e44x : fw_M) =>
    some (1, e44x)
set_option maxHeartbeats 4000000 in
set_option maxRecDepth 100000 in
theorem c_M_least {a1 : Int32} {μ : fw_M} {r : Int32 × fw_M} (h : f_M_least a1 μ = some r) : fw_Con Y_M_least fw_Mo 5 [.ref 0, .int a1] (some r.1) μ r.2 := by
  refine fw_con (by decide) (Nat.le_of_ble_eq_true rfl) ?_
  rw [f_M_least] at h
  show fw_R "FewTypesModel" prog_11_method_33_code 5 (some .boolean) fw_Mo 5 (some r.1) r.2 0 [(0, .ref 0), (1, .int a1)] [] μ
  refine fw_aload_n (pc := 0) d_M_least_0 0 rfl rfl ?_
  refine fw_iload_n (pc := 1) d_M_least_1 1 rfl rfl ?_
  obtain ⟨p2, e2, h⟩ := fw_be h
  refine fw_callVv (pc := 2) d_M_least_2 mv_M_203 fw_Mo0 (c_M_looks e2) (by decide) rfl rfl (Nat.le_of_ble_eq_true rfl) ?_
  refine fw_aload_n (pc := 5) d_M_least_5 0 rfl rfl ?_
  refine fw_getR (pc := 6) d_M_least_6 fl_M_43 fw_Mo0 rfl ?_
  refine fw_iconst (pc := 9) d_M_least_9 fw_ic0 ?_
  obtain ⟨v10, e10, h⟩ := fw_be h
  refine fw_zald (pc := 10) d_M_least_10 fw_Mo12 e10 ?_
  refine fw_if_ne (pc := 11) (tgt := 16) d_M_least_11 rfl (fun hc => ?_) (fun hc => ?_)
  · have h := fw_it hc h
    refine fw_iconst (pc := 14) d_M_least_14 fw_ic0 ?_
    obtain rfl := Option.some.inj h
    exact fw_zret (pc := 15) d_M_least_15 rfl fw_bz0
  · have h := fw_if hc h
    refine fw_iconst (pc := 16) d_M_least_16 fw_ic0 ?_
    refine fw_istore_n (pc := 17) (lv1 := [(2, .int 0), (0, .ref 0), (1, .int a1)]) d_M_least_17 rfl (by decide) rfl ?_
    refine fw_iconst (pc := 18) d_M_least_18 fw_ic0 ?_
    refine fw_istore_n (pc := 19) (lv1 := [(3, .int 0), (2, .int 0), (0, .ref 0), (1, .int a1)]) d_M_least_19 rfl (by decide) rfl ?_
    obtain ⟨e20x, w20, h⟩ := fw_be h
    have hE20 : fw_R "FewTypesModel" prog_11_method_33_code 5 (some .boolean) fw_Mo 5 (some r.1) r.2 42 [(0, .ref 0), (1, .int a1), (2, .int 0)] [] e20x := by
      refine fw_iconst (pc := 42) d_M_least_42 fw_ic0 ?_
      refine fw_istore_n (pc := 43) (lv1 := [(3, .int 0), (0, .ref 0), (1, .int a1), (2, .int 0)]) d_M_least_43 rfl (by decide) rfl ?_
      obtain ⟨e44x, w44, h⟩ := fw_be h
      have hE44 : fw_R "FewTypesModel" prog_11_method_33_code 5 (some .boolean) fw_Mo 5 (some r.1) r.2 133 [] [] e44x := by
        refine fw_iconst (pc := 133) d_M_least_133 fw_ic1 ?_
        obtain rfl := Option.some.inj h
        exact fw_zret (pc := 134) d_M_least_134 rfl fw_bz1
      clear h
      exact fw_sub [1, 2, 3, 0] rfl (fw_we (e := e44x) (fun (s : Int32 × Int32 × fw_M) => fw_R "FewTypesModel" prog_11_method_33_code 5 (some .boolean) fw_Mo 5 (some r.1) r.2 44 [(0, .ref 0), (1, .int a1), (2, .int s.1), (3, .int s.2.1)] [] s.2.2) (by
        intro s x h hl hr
        obtain ⟨x2_44, x3_44, μ44⟩ := s
        rw [f_M_least_L44] at h
        show fw_R "FewTypesModel" prog_11_method_33_code 5 (some .boolean) fw_Mo 5 (some r.1) r.2 44 [(0, .ref 0), (1, .int a1), (2, .int x2_44), (3, .int x3_44)] [] μ44
        refine fw_iload_n (pc := 44) d_M_least_44 3 rfl rfl ?_
        refine fw_aload_n (pc := 45) d_M_least_45 0 rfl rfl ?_
        refine fw_getI (pc := 46) d_M_least_46 fl_M_158 fw_Mo0 rfl ?_
        refine fw_icmp_ge (pc := 49) (tgt := 133) d_M_least_49 rfl (fun hc => ?_) (fun hc => ?_)
        · have h := fw_it hc h
          obtain rfl := Option.some.inj h
          have he := hr _ rfl
          subst he
          exact fw_sub [] rfl hE44
        · have h := fw_if hc h
          refine fw_iload_n (pc := 52) d_M_least_52 1 rfl rfl ?_
          refine fw_iload_n (pc := 53) d_M_least_53 3 rfl rfl ?_
          refine fw_ishr (pc := 54) d_M_least_54 ?_
          refine fw_iconst (pc := 55) d_M_least_55 fw_ic1 ?_
          refine fw_iand (pc := 56) d_M_least_56 ?_
          refine fw_iconst (pc := 57) d_M_least_57 fw_ic1 ?_
          obtain ⟨j58, w58, h⟩ := fw_be h
          have hJ58 : fw_R "FewTypesModel" prog_11_method_33_code 5 (some .boolean) fw_Mo 5 (some r.1) r.2 127 [(0, .ref 0), (1, .int a1), (2, .int j58.1), (3, .int x3_44)] [] j58.2 := by
            obtain ⟨v127, e127, h⟩ := fw_ne h
            refine fw_iinc2 (pc := 127) (j := 3) (lv1 := [(3, .int v127), (0, .ref 0), (1, .int a1), (2, .int j58.1)]) d_M_least_127 rfl fw_ic1 e127 (by decide) rfl ?_
            refine fw_goto (pc := 130) (tgt := 44) d_M_least_130 rfl ?_
            obtain rfl := Option.some.inj h
            exact fw_sub [1, 2, 3, 0] rfl (hl _ rfl)
          clear h
          have h := w58
          clear w58
          refine fw_icmp_ne (pc := 58) (tgt := 127) d_M_least_58 rfl (fun hc => ?_) (fun hc => ?_)
          · have h := fw_it hc h
            refine fw_aload_n (pc := 61) d_M_least_61 0 rfl rfl ?_
            refine fw_getR (pc := 62) d_M_least_62 fl_M_50 fw_Mo0 rfl ?_
            refine fw_iload_n (pc := 65) d_M_least_65 3 rfl rfl ?_
            obtain ⟨v66, e66, h⟩ := fw_be h
            refine fw_iald (pc := 66) d_M_least_66 fw_Mo14 e66 ?_
            refine fw_if_ge (pc := 67) (tgt := 127) d_M_least_67 rfl (fun hc => ?_) (fun hc => ?_)
            · have h := fw_it hc h
              obtain rfl := Option.some.inj h
              exact fw_sub [0, 1, 2, 3] rfl hJ58
            · have h := fw_if hc h
              refine fw_iconst (pc := 70) d_M_least_70 fw_ic0 ?_
              refine fw_istore (pc := 71) (lv1 := [(4, .int 0), (0, .ref 0), (1, .int a1), (2, .int x2_44), (3, .int x3_44)]) d_M_least_71 (by decide) rfl ?_
              obtain ⟨e73x, w73, h⟩ := fw_be h
              have hE73 : fw_R "FewTypesModel" prog_11_method_33_code 5 (some .boolean) fw_Mo 5 (some r.1) r.2 91 [(0, .ref 0), (1, .int a1), (2, .int x2_44), (3, .int x3_44), (4, .int e73x)] [] μ44 := by
                refine fw_aload_n (pc := 91) d_M_least_91 0 rfl rfl ?_
                refine fw_getR (pc := 92) d_M_least_92 fl_M_50 fw_Mo0 rfl ?_
                refine fw_iload_n (pc := 95) d_M_least_95 3 rfl rfl ?_
                refine fw_iload (pc := 96) d_M_least_96 4 rfl ?_
                obtain ⟨μ98, e98, h⟩ := fw_be h
                refine fw_iast (pc := 98) d_M_least_98 fw_Mo14 e98 ?_
                refine fw_iload_n (pc := 99) d_M_least_99 2 rfl rfl ?_
                refine fw_iconst (pc := 100) d_M_least_100 fw_ic1 ?_
                refine fw_iload (pc := 101) d_M_least_101 4 rfl ?_
                refine fw_ishl (pc := 103) d_M_least_103 ?_
                refine fw_ior (pc := 104) d_M_least_104 ?_
                obtain ⟨v105, e105, h⟩ := fw_ne h
                refine fw_top e105 ?_
                refine fw_istore_n (pc := 105) (lv1 := [(2, .int v105), (0, .ref 0), (1, .int a1), (3, .int x3_44), (4, .int e73x)]) d_M_least_105 rfl (by decide) rfl ?_
                refine fw_aload_n (pc := 106) d_M_least_106 1 rfl rfl ?_
                refine fw_getR (pc := 107) d_M_least_107 fl_M_7 fw_Mo0 rfl ?_
                refine fw_iload (pc := 110) d_M_least_110 4 rfl ?_
                obtain ⟨v112, e112, h⟩ := fw_be h
                refine fw_iald (pc := 112) d_M_least_112 fw_Mo1 e112 ?_
                refine fw_iconst (pc := 113) d_M_least_113 fw_ic2 ?_
                refine fw_icmp_ne (pc := 114) (tgt := 127) d_M_least_114 rfl (fun hc => ?_) (fun hc => ?_)
                · have h := fw_it hc h
                  refine fw_aload_n (pc := 117) d_M_least_117 1 rfl rfl ?_
                  refine fw_getR (pc := 118) d_M_least_118 fl_M_50 fw_Mo0 rfl ?_
                  refine fw_iload_n (pc := 121) d_M_least_121 3 rfl rfl ?_
                  refine fw_iconst (pc := 122) d_M_least_122 fw_ic1 ?_
                  refine fw_iadd (pc := 123) d_M_least_123 ?_
                  refine fw_iload (pc := 124) d_M_least_124 4 rfl ?_
                  obtain ⟨μ126, e126, h⟩ := fw_be h
                  refine fw_iast (pc := 126) d_M_least_126 fw_Mo14 e126 ?_
                  obtain rfl := Option.some.inj h
                  exact fw_sub [1, 2, 0, 3] rfl hJ58
                · have h := fw_if hc h
                  obtain rfl := Option.some.inj h
                  exact fw_sub [1, 2, 0, 3] rfl hJ58
              clear h
              exact fw_sub [1, 2, 3, 4, 0] rfl (fw_we (e := e73x) (fun (s : Int32) => fw_R "FewTypesModel" prog_11_method_33_code 5 (some .boolean) fw_Mo 5 (some r.1) r.2 73 [(0, .ref 0), (1, .int a1), (2, .int x2_44), (3, .int x3_44), (4, .int s)] [] μ44) (by
                intro s x h hl hr
                obtain ⟨x4_73, rfl⟩ : ∃ z, z = s := ⟨_, rfl⟩
                rw [f_M_least_L73] at h
                show fw_R "FewTypesModel" prog_11_method_33_code 5 (some .boolean) fw_Mo 5 (some r.1) r.2 73 [(0, .ref 0), (1, .int a1), (2, .int x2_44), (3, .int x3_44), (4, .int x4_73)] [] μ44
                refine fw_aload_n (pc := 73) d_M_least_73 0 rfl rfl ?_
                refine fw_iload (pc := 74) d_M_least_74 4 rfl ?_
                refine fw_iload_n (pc := 76) d_M_least_76 3 rfl rfl ?_
                refine fw_iload_n (pc := 77) d_M_least_77 1 rfl rfl ?_
                refine fw_iload_n (pc := 78) d_M_least_78 2 rfl rfl ?_
                obtain ⟨p79, e79, h⟩ := fw_be h
                refine fw_callVi (pc := 79) d_M_least_79 mv_M_190 fw_Mo0 (c_M_mayBy e79) (by decide) rfl rfl (Nat.le_of_ble_eq_true rfl) ?_
                refine fw_if_ne (pc := 82) (tgt := 91) d_M_least_82 rfl (fun hc => ?_) (fun hc => ?_)
                · have h := fw_it hc h
                  obtain ⟨v85, e85, h⟩ := fw_ne h
                  refine fw_iinc2 (pc := 85) (j := 4) (lv1 := [(4, .int v85), (0, .ref 0), (1, .int a1), (2, .int x2_44), (3, .int x3_44)]) d_M_least_85 rfl fw_ic1 e85 (by decide) rfl ?_
                  refine fw_goto (pc := 88) (tgt := 73) d_M_least_88 rfl ?_
                  obtain rfl := Option.some.inj h
                  exact fw_sub [1, 2, 3, 4, 0] rfl (hl _ rfl)
                · have h := fw_if hc h
                  obtain rfl := Option.some.inj h
                  have he := hr _ rfl
                  subst he
                  exact fw_sub [0, 1, 2, 3, 4] rfl hE73
                ) _ _ w73)
          · have h := fw_if hc h
            obtain rfl := Option.some.inj h
            exact fw_sub [0, 1, 2, 3] rfl hJ58
        ) _ _ w44)
    clear h
    exact fw_sub [2, 3, 1, 0] rfl (fw_we (e := e20x) (fun (s : Int32 × fw_M) => fw_R "FewTypesModel" prog_11_method_33_code 5 (some .boolean) fw_Mo 5 (some r.1) r.2 20 [(0, .ref 0), (1, .int a1), (2, .int 0), (3, .int s.1)] [] s.2) (by
      intro s x h hl hr
      obtain ⟨x3_20, μ20⟩ := s
      rw [f_M_least_L20] at h
      show fw_R "FewTypesModel" prog_11_method_33_code 5 (some .boolean) fw_Mo 5 (some r.1) r.2 20 [(0, .ref 0), (1, .int a1), (2, .int 0), (3, .int x3_20)] [] μ20
      refine fw_iload_n (pc := 20) d_M_least_20 3 rfl rfl ?_
      refine fw_aload_n (pc := 21) d_M_least_21 0 rfl rfl ?_
      refine fw_getI (pc := 22) d_M_least_22 fl_M_158 fw_Mo0 rfl ?_
      refine fw_icmp_ge (pc := 25) (tgt := 42) d_M_least_25 rfl (fun hc => ?_) (fun hc => ?_)
      · have h := fw_it hc h
        obtain rfl := Option.some.inj h
        have he := hr _ rfl
        subst he
        exact fw_sub [0, 1, 2] rfl hE20
      · have h := fw_if hc h
        refine fw_aload_n (pc := 28) d_M_least_28 0 rfl rfl ?_
        refine fw_getR (pc := 29) d_M_least_29 fl_M_50 fw_Mo0 rfl ?_
        refine fw_iload_n (pc := 32) d_M_least_32 3 rfl rfl ?_
        refine fw_bipush (pc := 33) d_M_least_33 fw_bpm4 ?_
        obtain ⟨μ35, e35, h⟩ := fw_be h
        refine fw_iast (pc := 35) d_M_least_35 fw_Mo14 e35 ?_
        obtain ⟨v36, e36, h⟩ := fw_ne h
        refine fw_iinc2 (pc := 36) (j := 3) (lv1 := [(3, .int v36), (0, .ref 0), (1, .int a1), (2, .int 0)]) d_M_least_36 rfl fw_ic1 e36 (by decide) rfl ?_
        refine fw_goto (pc := 39) (tgt := 20) d_M_least_39 rfl ?_
        obtain rfl := Option.some.inj h
        exact fw_sub [1, 2, 3, 0] rfl (hl _ rfl)
      ) _ _ w20)
def f_M_by (a1 : Int32) (a2 : Int32) (μ : fw_M) : Option (Int32 × fw_M) :=
  (f_M_isSet a1 μ).bind fun (p2 : Int32) =>
  if p2 = 0 then
    some ((-1), μ)
  else
    (f_M_in (Int32.toInt64 a2) 0 (Int32.toInt64 ((μ.1 0 6) - 1))).bind fun (p18 : Int32) =>
    if p18 = 0 then
      some ((-1), μ)
    else
      if ((a1 >>> (a2 &&& 31)) &&& 1) = 0 then
        some ((-1), μ)
      else
        (f_M_least a1 μ).bind fun (p36 : Int32 × fw_M) =>
        Option.bind (
          if p36.1 = 0 then
            some (-4)
          else
            (fw_rd 10 (p36.2.1 14) a2).bind fun v47 =>
            some v47) fun (j39 : Int32) =>
        some (j39, p36.2)
set_option maxHeartbeats 4000000 in
set_option maxRecDepth 100000 in
theorem c_M_by {a1 : Int32} {a2 : Int32} {μ : fw_M} {r : Int32 × fw_M} (h : f_M_by a1 a2 μ = some r) : fw_Con Y_M_by fw_Mo 6 [.ref 0, .int a1, .int a2] (some r.1) μ r.2 := by
  refine fw_con (by decide) (Nat.le_of_ble_eq_true rfl) ?_
  rw [f_M_by] at h
  show fw_R "FewTypesModel" prog_11_method_34_code 3 (some .int) fw_Mo 6 (some r.1) r.2 0 [(0, .ref 0), (1, .int a1), (2, .int a2)] [] μ
  refine fw_aload_n (pc := 0) d_M_by_0 0 rfl rfl ?_
  refine fw_iload_n (pc := 1) d_M_by_1 1 rfl rfl ?_
  obtain ⟨p2, e2, h⟩ := fw_be h
  refine fw_callVi (pc := 2) d_M_by_2 mv_M_197 fw_Mo0 (c_M_isSet e2) (by decide) rfl rfl (Nat.le_of_ble_eq_true rfl) ?_
  refine fw_if_eq (pc := 5) (tgt := 32) d_M_by_5 rfl (fun hc => ?_) (fun hc => ?_)
  · have h := fw_it hc h
    refine fw_iconst (pc := 32) d_M_by_32 fw_icm1 ?_
    obtain rfl := Option.some.inj h
    exact fw_iret (pc := 33) d_M_by_33 rfl
  · have h := fw_if hc h
    refine fw_iload_n (pc := 8) d_M_by_8 2 rfl rfl ?_
    refine fw_i2l (pc := 9) d_M_by_9 ?_
    refine fw_lconst (pc := 10) d_M_by_10 (v := 0) (by decide) ?_
    refine fw_aload_n (pc := 11) d_M_by_11 0 rfl rfl ?_
    refine fw_getI (pc := 12) d_M_by_12 fl_M_158 fw_Mo0 rfl ?_
    refine fw_iconst (pc := 15) d_M_by_15 fw_ic1 ?_
    refine fw_isub (pc := 16) d_M_by_16 ?_
    refine fw_i2l (pc := 17) d_M_by_17 ?_
    obtain ⟨p18, e18, h⟩ := fw_be h
    refine fw_callSi (pc := 18) d_M_by_18 ms_M_94 (c_M_in e18) (by decide) rfl rfl (Nat.le_of_ble_eq_true rfl) ?_
    refine fw_if_eq (pc := 21) (tgt := 32) d_M_by_21 rfl (fun hc => ?_) (fun hc => ?_)
    · have h := fw_it hc h
      refine fw_iconst (pc := 32) d_M_by_32 fw_icm1 ?_
      obtain rfl := Option.some.inj h
      exact fw_iret (pc := 33) d_M_by_33 rfl
    · have h := fw_if hc h
      refine fw_iload_n (pc := 24) d_M_by_24 1 rfl rfl ?_
      refine fw_iload_n (pc := 25) d_M_by_25 2 rfl rfl ?_
      refine fw_ishr (pc := 26) d_M_by_26 ?_
      refine fw_iconst (pc := 27) d_M_by_27 fw_ic1 ?_
      refine fw_iand (pc := 28) d_M_by_28 ?_
      refine fw_if_ne (pc := 29) (tgt := 34) d_M_by_29 rfl (fun hc => ?_) (fun hc => ?_)
      · have h := fw_it hc h
        refine fw_iconst (pc := 32) d_M_by_32 fw_icm1 ?_
        obtain rfl := Option.some.inj h
        exact fw_iret (pc := 33) d_M_by_33 rfl
      · have h := fw_if hc h
        refine fw_aload_n (pc := 34) d_M_by_34 0 rfl rfl ?_
        refine fw_iload_n (pc := 35) d_M_by_35 1 rfl rfl ?_
        obtain ⟨p36, e36, h⟩ := fw_be h
        refine fw_callVi (pc := 36) d_M_by_36 mv_M_206 fw_Mo0 (c_M_least e36) (by decide) rfl rfl (Nat.le_of_ble_eq_true rfl) ?_
        obtain ⟨j39, w39, h⟩ := fw_be h
        have hJ39 : fw_R "FewTypesModel" prog_11_method_34_code 3 (some .int) fw_Mo 6 (some r.1) r.2 53 [] [.int j39] p36.2 := by
          obtain rfl := Option.some.inj h
          exact fw_iret (pc := 53) d_M_by_53 rfl
        clear h
        have h := w39
        clear w39
        refine fw_if_eq (pc := 39) (tgt := 51) d_M_by_39 rfl (fun hc => ?_) (fun hc => ?_)
        · have h := fw_it hc h
          refine fw_bipush (pc := 51) d_M_by_51 fw_bpm4 ?_
          obtain rfl := Option.some.inj h
          exact fw_sub [] rfl hJ39
        · have h := fw_if hc h
          refine fw_aload_n (pc := 42) d_M_by_42 0 rfl rfl ?_
          refine fw_getR (pc := 43) d_M_by_43 fl_M_50 fw_Mo0 rfl ?_
          refine fw_iload_n (pc := 46) d_M_by_46 2 rfl rfl ?_
          obtain ⟨v47, e47, h⟩ := fw_be h
          refine fw_iald (pc := 47) d_M_by_47 fw_Mo14 e47 ?_
          refine fw_goto (pc := 48) (tgt := 53) d_M_by_48 rfl ?_
          obtain rfl := Option.some.inj h
          exact fw_sub [] rfl hJ39
def f_M_fewestOf_L42 (x2_16 : Int32) : Int32 × fw_M → Option ((Int32 × fw_M) ⊕ (fw_M))
  | (x3_42, μ42) =>
  if x3_42 ≤ 0 then
    some (.inr μ42)
  else
    (fw_rd 1024 (μ42.1 15) x3_42).bind fun v51 =>
    Option.bind (
      if v51 = 0 then
        some 99
      else
        (fw_rd 1024 (μ42.1 16) (x2_16 &&& (x3_42 ^^^ (-1)))).bind fun v65 =>
        some (1 + v65)) fun (j52 : Int32) =>
    (fw_rd 1024 (μ42.1 16) x2_16).bind fun v86 =>
    Option.bind (
      if v86 ≤ j52 then
        (fw_rd 1024 (μ42.1 16) x2_16).bind fun v100 =>
        some v100
      else
        some j52) fun (j87 : Int32) =>
    (fw_si 1024 μ42 16 x2_16 j87).bind fun μ101 =>
    fw_nm (((x3_42 - 1) &&& x2_16)) fun (v107 : Int32) =>
    some (.inl (v107, μ101))
def f_M_fewestOf_L16 (v6 : Int32) : Int32 × fw_M → Option ((Int32 × fw_M) ⊕ (fw_M))
  | (x2_16, μ16) =>
  if v6 ≤ x2_16 then
    some (.inr μ16)
  else
    (f_M_canBe x2_16 μ16).bind fun (p28 : Int32 × fw_M) =>
    (fw_sz 1024 p28.2 15 x2_16 p28.1).bind fun μ31 =>
    (fw_si 1024 μ31 16 x2_16 99).bind fun μ39 =>
    (fw_wh (f_M_fewestOf_L42 x2_16) fw_N (x2_16, μ39)).bind fun (e42x : fw_M) =>
    fw_nm (x2_16 + 1) fun (v111 : Int32) =>
    some (.inl (v111, e42x))
def f_M_fewestOf  (μ : fw_M) : Option (Int32 × fw_M) :=
  fw_nm (((1 : Int32) <<< ((μ.1 0 6) &&& 31))) fun (v6 : Int32) =>
  (fw_si 1024 μ 16 0 0).bind fun μ13 =>
  (fw_wh (f_M_fewestOf_L16 v6) fw_N (1, μ13)).bind fun (e16x : fw_M) =>
  (fw_rd 1024 (e16x.1 16) (v6 - 1)).bind fun v124 =>
  some (v124, e16x)
set_option maxHeartbeats 4000000 in
set_option maxRecDepth 100000 in
theorem c_M_fewestOf  {μ : fw_M} {r : Int32 × fw_M} (h : f_M_fewestOf  μ = some r) : fw_Con Y_M_fewestOf fw_Mo 4 [.ref 0] (some r.1) μ r.2 := by
  refine fw_con (by decide) (Nat.le_of_ble_eq_true rfl) ?_
  rw [f_M_fewestOf] at h
  show fw_R "FewTypesModel" prog_11_method_35_code 5 (some .int) fw_Mo 4 (some r.1) r.2 0 [(0, .ref 0)] [] μ
  refine fw_iconst (pc := 0) d_M_fewestOf_0 fw_ic1 ?_
  refine fw_aload_n (pc := 1) d_M_fewestOf_1 0 rfl rfl ?_
  refine fw_getI (pc := 2) d_M_fewestOf_2 fl_M_158 fw_Mo0 rfl ?_
  refine fw_ishl (pc := 5) d_M_fewestOf_5 ?_
  obtain ⟨v6, e6, h⟩ := fw_ne h
  refine fw_top e6 ?_
  refine fw_istore_n (pc := 6) (lv1 := [(1, .int v6), (0, .ref 0)]) d_M_fewestOf_6 rfl (by decide) rfl ?_
  refine fw_aload_n (pc := 7) d_M_fewestOf_7 1 rfl rfl ?_
  refine fw_getR (pc := 8) d_M_fewestOf_8 fl_M_56 fw_Mo0 rfl ?_
  refine fw_iconst (pc := 11) d_M_fewestOf_11 fw_ic0 ?_
  refine fw_iconst (pc := 12) d_M_fewestOf_12 fw_ic0 ?_
  obtain ⟨μ13, e13, h⟩ := fw_be h
  refine fw_iast (pc := 13) d_M_fewestOf_13 fw_Mo16 e13 ?_
  refine fw_iconst (pc := 14) d_M_fewestOf_14 fw_ic1 ?_
  refine fw_istore_n (pc := 15) (lv1 := [(2, .int 1), (1, .int v6), (0, .ref 0)]) d_M_fewestOf_15 rfl (by decide) rfl ?_
  obtain ⟨e16x, w16, h⟩ := fw_be h
  have hE16 : fw_R "FewTypesModel" prog_11_method_35_code 5 (some .int) fw_Mo 4 (some r.1) r.2 117 [(0, .ref 0), (1, .int v6)] [] e16x := by
    refine fw_aload_n (pc := 117) d_M_fewestOf_117 0 rfl rfl ?_
    refine fw_getR (pc := 118) d_M_fewestOf_118 fl_M_56 fw_Mo0 rfl ?_
    refine fw_iload_n (pc := 121) d_M_fewestOf_121 1 rfl rfl ?_
    refine fw_iconst (pc := 122) d_M_fewestOf_122 fw_ic1 ?_
    refine fw_isub (pc := 123) d_M_fewestOf_123 ?_
    obtain ⟨v124, e124, h⟩ := fw_be h
    refine fw_iald (pc := 124) d_M_fewestOf_124 fw_Mo16 e124 ?_
    obtain rfl := Option.some.inj h
    exact fw_iret (pc := 125) d_M_fewestOf_125 rfl
  clear h
  exact fw_sub [2, 1, 0] rfl (fw_we (e := e16x) (fun (s : Int32 × fw_M) => fw_R "FewTypesModel" prog_11_method_35_code 5 (some .int) fw_Mo 4 (some r.1) r.2 16 [(0, .ref 0), (1, .int v6), (2, .int s.1)] [] s.2) (by
    intro s x h hl hr
    obtain ⟨x2_16, μ16⟩ := s
    rw [f_M_fewestOf_L16] at h
    show fw_R "FewTypesModel" prog_11_method_35_code 5 (some .int) fw_Mo 4 (some r.1) r.2 16 [(0, .ref 0), (1, .int v6), (2, .int x2_16)] [] μ16
    refine fw_iload_n (pc := 16) d_M_fewestOf_16 2 rfl rfl ?_
    refine fw_iload_n (pc := 17) d_M_fewestOf_17 1 rfl rfl ?_
    refine fw_icmp_ge (pc := 18) (tgt := 117) d_M_fewestOf_18 rfl (fun hc => ?_) (fun hc => ?_)
    · have h := fw_it hc h
      obtain rfl := Option.some.inj h
      have he := hr _ rfl
      subst he
      exact fw_sub [0, 1] rfl hE16
    · have h := fw_if hc h
      refine fw_aload_n (pc := 21) d_M_fewestOf_21 0 rfl rfl ?_
      refine fw_getR (pc := 22) d_M_fewestOf_22 fl_M_53 fw_Mo0 rfl ?_
      refine fw_iload_n (pc := 25) d_M_fewestOf_25 2 rfl rfl ?_
      refine fw_aload_n (pc := 26) d_M_fewestOf_26 0 rfl rfl ?_
      refine fw_iload_n (pc := 27) d_M_fewestOf_27 2 rfl rfl ?_
      obtain ⟨p28, e28, h⟩ := fw_be h
      refine fw_callVi (pc := 28) d_M_fewestOf_28 mv_M_200 fw_Mo0 (c_M_canBe e28) (by decide) rfl rfl (Nat.le_of_ble_eq_true rfl) ?_
      obtain ⟨μ31, e31, h⟩ := fw_be h
      refine fw_zast (pc := 31) d_M_fewestOf_31 fw_Mo15 e31 ?_
      refine fw_aload_n (pc := 32) d_M_fewestOf_32 0 rfl rfl ?_
      refine fw_getR (pc := 33) d_M_fewestOf_33 fl_M_56 fw_Mo0 rfl ?_
      refine fw_iload_n (pc := 36) d_M_fewestOf_36 2 rfl rfl ?_
      refine fw_bipush (pc := 37) d_M_fewestOf_37 fw_bp99 ?_
      obtain ⟨μ39, e39, h⟩ := fw_be h
      refine fw_iast (pc := 39) d_M_fewestOf_39 fw_Mo16 e39 ?_
      refine fw_iload_n (pc := 40) d_M_fewestOf_40 2 rfl rfl ?_
      refine fw_istore_n (pc := 41) (lv1 := [(3, .int x2_16), (0, .ref 0), (1, .int v6), (2, .int x2_16)]) d_M_fewestOf_41 rfl (by decide) rfl ?_
      obtain ⟨e42x, w42, h⟩ := fw_be h
      have hE42 : fw_R "FewTypesModel" prog_11_method_35_code 5 (some .int) fw_Mo 4 (some r.1) r.2 111 [(0, .ref 0), (1, .int v6), (2, .int x2_16)] [] e42x := by
        obtain ⟨v111, e111, h⟩ := fw_ne h
        refine fw_iinc2 (pc := 111) (j := 2) (lv1 := [(2, .int v111), (0, .ref 0), (1, .int v6)]) d_M_fewestOf_111 rfl fw_ic1 e111 (by decide) rfl ?_
        refine fw_goto (pc := 114) (tgt := 16) d_M_fewestOf_114 rfl ?_
        obtain rfl := Option.some.inj h
        exact fw_sub [1, 2, 0] rfl (hl _ rfl)
      clear h
      exact fw_sub [1, 2, 3, 0] rfl (fw_we (e := e42x) (fun (s : Int32 × fw_M) => fw_R "FewTypesModel" prog_11_method_35_code 5 (some .int) fw_Mo 4 (some r.1) r.2 42 [(0, .ref 0), (1, .int v6), (2, .int x2_16), (3, .int s.1)] [] s.2) (by
        intro s x h hl hr
        obtain ⟨x3_42, μ42⟩ := s
        rw [f_M_fewestOf_L42] at h
        show fw_R "FewTypesModel" prog_11_method_35_code 5 (some .int) fw_Mo 4 (some r.1) r.2 42 [(0, .ref 0), (1, .int v6), (2, .int x2_16), (3, .int x3_42)] [] μ42
        refine fw_iload_n (pc := 42) d_M_fewestOf_42 3 rfl rfl ?_
        refine fw_if_le (pc := 43) (tgt := 111) d_M_fewestOf_43 rfl (fun hc => ?_) (fun hc => ?_)
        · have h := fw_it hc h
          obtain rfl := Option.some.inj h
          have he := hr _ rfl
          subst he
          exact fw_sub [0, 1, 2] rfl hE42
        · have h := fw_if hc h
          refine fw_aload_n (pc := 46) d_M_fewestOf_46 0 rfl rfl ?_
          refine fw_getR (pc := 47) d_M_fewestOf_47 fl_M_53 fw_Mo0 rfl ?_
          refine fw_iload_n (pc := 50) d_M_fewestOf_50 3 rfl rfl ?_
          obtain ⟨v51, e51, h⟩ := fw_be h
          refine fw_zald (pc := 51) d_M_fewestOf_51 fw_Mo15 e51 ?_
          obtain ⟨j52, w52, h⟩ := fw_be h
          have hJ52 : fw_R "FewTypesModel" prog_11_method_35_code 5 (some .int) fw_Mo 4 (some r.1) r.2 72 [(0, .ref 0), (1, .int v6), (2, .int x2_16), (3, .int x3_42)] [.int j52] μ42 := by
            refine fw_istore (pc := 72) (lv1 := [(4, .int j52), (0, .ref 0), (1, .int v6), (2, .int x2_16), (3, .int x3_42)]) d_M_fewestOf_72 (by decide) rfl ?_
            refine fw_aload_n (pc := 74) d_M_fewestOf_74 1 rfl rfl ?_
            refine fw_getR (pc := 75) d_M_fewestOf_75 fl_M_56 fw_Mo0 rfl ?_
            refine fw_iload_n (pc := 78) d_M_fewestOf_78 3 rfl rfl ?_
            refine fw_iload (pc := 79) d_M_fewestOf_79 0 rfl ?_
            refine fw_aload_n (pc := 81) d_M_fewestOf_81 1 rfl rfl ?_
            refine fw_getR (pc := 82) d_M_fewestOf_82 fl_M_56 fw_Mo0 rfl ?_
            refine fw_iload_n (pc := 85) d_M_fewestOf_85 3 rfl rfl ?_
            obtain ⟨v86, e86, h⟩ := fw_be h
            refine fw_iald (pc := 86) d_M_fewestOf_86 fw_Mo16 e86 ?_
            obtain ⟨j87, w87, h⟩ := fw_be h
            have hJ87 : fw_R "FewTypesModel" prog_11_method_35_code 5 (some .int) fw_Mo 4 (some r.1) r.2 101 [(0, .ref 0), (1, .int v6), (2, .int x2_16), (3, .int x3_42)] [.int j87, .int x2_16, .ref 16] μ42 := by
              obtain ⟨μ101, e101, h⟩ := fw_be h
              refine fw_iast (pc := 101) d_M_fewestOf_101 fw_Mo16 e101 ?_
              refine fw_iload_n (pc := 102) d_M_fewestOf_102 3 rfl rfl ?_
              refine fw_iconst (pc := 103) d_M_fewestOf_103 fw_ic1 ?_
              refine fw_isub (pc := 104) d_M_fewestOf_104 ?_
              refine fw_iload_n (pc := 105) d_M_fewestOf_105 2 rfl rfl ?_
              refine fw_iand (pc := 106) d_M_fewestOf_106 ?_
              obtain ⟨v107, e107, h⟩ := fw_ne h
              refine fw_top e107 ?_
              refine fw_istore_n (pc := 107) (lv1 := [(3, .int v107), (0, .ref 0), (1, .int v6), (2, .int x2_16)]) d_M_fewestOf_107 rfl (by decide) rfl ?_
              refine fw_goto (pc := 108) (tgt := 42) d_M_fewestOf_108 rfl ?_
              obtain rfl := Option.some.inj h
              exact fw_sub [1, 2, 3, 0] rfl (hl _ rfl)
            clear h
            have h := w87
            clear w87
            refine fw_icmp_ge (pc := 87) (tgt := 95) d_M_fewestOf_87 rfl (fun hc => ?_) (fun hc => ?_)
            · have h := fw_it hc h
              refine fw_aload_n (pc := 95) d_M_fewestOf_95 1 rfl rfl ?_
              refine fw_getR (pc := 96) d_M_fewestOf_96 fl_M_56 fw_Mo0 rfl ?_
              refine fw_iload_n (pc := 99) d_M_fewestOf_99 3 rfl rfl ?_
              obtain ⟨v100, e100, h⟩ := fw_be h
              refine fw_iald (pc := 100) d_M_fewestOf_100 fw_Mo16 e100 ?_
              obtain rfl := Option.some.inj h
              exact fw_sub [1, 2, 3, 4] rfl hJ87
            · have h := fw_if hc h
              refine fw_iload (pc := 90) d_M_fewestOf_90 0 rfl ?_
              refine fw_goto (pc := 92) (tgt := 101) d_M_fewestOf_92 rfl ?_
              obtain rfl := Option.some.inj h
              exact fw_sub [1, 2, 3, 4] rfl hJ87
          clear h
          have h := w52
          clear w52
          refine fw_if_eq (pc := 52) (tgt := 70) d_M_fewestOf_52 rfl (fun hc => ?_) (fun hc => ?_)
          · have h := fw_it hc h
            refine fw_bipush (pc := 70) d_M_fewestOf_70 fw_bp99 ?_
            obtain rfl := Option.some.inj h
            exact fw_sub [0, 1, 2, 3] rfl hJ52
          · have h := fw_if hc h
            refine fw_iconst (pc := 55) d_M_fewestOf_55 fw_ic1 ?_
            refine fw_aload_n (pc := 56) d_M_fewestOf_56 0 rfl rfl ?_
            refine fw_getR (pc := 57) d_M_fewestOf_57 fl_M_56 fw_Mo0 rfl ?_
            refine fw_iload_n (pc := 60) d_M_fewestOf_60 2 rfl rfl ?_
            refine fw_iload_n (pc := 61) d_M_fewestOf_61 3 rfl rfl ?_
            refine fw_iconst (pc := 62) d_M_fewestOf_62 fw_icm1 ?_
            refine fw_ixor (pc := 63) d_M_fewestOf_63 ?_
            refine fw_iand (pc := 64) d_M_fewestOf_64 ?_
            obtain ⟨v65, e65, h⟩ := fw_be h
            refine fw_iald (pc := 65) d_M_fewestOf_65 fw_Mo16 e65 ?_
            refine fw_iadd (pc := 66) d_M_fewestOf_66 ?_
            refine fw_goto (pc := 67) (tgt := 72) d_M_fewestOf_67 rfl ?_
            obtain rfl := Option.some.inj h
            exact fw_sub [0, 1, 2, 3] rfl hJ52
        ) _ _ w42)
    ) _ _ w16)
def f_M_fewest  (μ : fw_M) : Option (Int32 × fw_M) :=
  if (μ.1 0 6) = 0 then
    some ((-2), μ)
  else
    (f_M_fewestOf μ).bind fun (p11 : Int32 × fw_M) =>
    fw_nm (
      if p11.1 ≤ 98 then
        p11.1
      else
        (-4)) fun (j18 : Int32) =>
    some (j18, p11.2)
set_option maxHeartbeats 4000000 in
set_option maxRecDepth 100000 in
theorem c_M_fewest  {μ : fw_M} {r : Int32 × fw_M} (h : f_M_fewest  μ = some r) : fw_Con Y_M_fewest fw_Mo 5 [.ref 0] (some r.1) μ r.2 := by
  refine fw_con (by decide) (Nat.le_of_ble_eq_true rfl) ?_
  rw [f_M_fewest] at h
  show fw_R "FewTypesModel" prog_11_method_36_code 2 (some .int) fw_Mo 5 (some r.1) r.2 0 [(0, .ref 0)] [] μ
  refine fw_aload_n (pc := 0) d_M_fewest_0 0 rfl rfl ?_
  refine fw_getI (pc := 1) d_M_fewest_1 fl_M_158 fw_Mo0 rfl ?_
  refine fw_if_ne (pc := 4) (tgt := 10) d_M_fewest_4 rfl (fun hc => ?_) (fun hc => ?_)
  · have h := fw_it hc h
    refine fw_bipush (pc := 7) d_M_fewest_7 fw_bpm2 ?_
    obtain rfl := Option.some.inj h
    exact fw_iret (pc := 9) d_M_fewest_9 rfl
  · have h := fw_if hc h
    refine fw_aload_n (pc := 10) d_M_fewest_10 0 rfl rfl ?_
    obtain ⟨p11, e11, h⟩ := fw_be h
    refine fw_callVi (pc := 11) d_M_fewest_11 mv_M_209 fw_Mo0 (c_M_fewestOf e11) (by decide) rfl rfl (Nat.le_of_ble_eq_true rfl) ?_
    refine fw_istore_n (pc := 14) (lv1 := [(1, .int p11.1), (0, .ref 0)]) d_M_fewest_14 rfl (by decide) rfl ?_
    refine fw_iload_n (pc := 15) d_M_fewest_15 0 rfl rfl ?_
    refine fw_bipush (pc := 16) d_M_fewest_16 fw_bp98 ?_
    obtain ⟨j18, w18, h⟩ := fw_ne h
    have hJ18 : fw_R "FewTypesModel" prog_11_method_36_code 2 (some .int) fw_Mo 5 (some r.1) r.2 27 [] [.int j18] p11.2 := by
      obtain rfl := Option.some.inj h
      exact fw_iret (pc := 27) d_M_fewest_27 rfl
    clear h
    have h := w18
    clear w18
    refine fw_icmp_le (pc := 18) (tgt := 26) d_M_fewest_18 rfl (fun hc => ?_) (fun hc => ?_)
    · have h := h.trans (if_pos hc)
      refine fw_iload_n (pc := 26) d_M_fewest_26 0 rfl rfl ?_
      subst h
      exact fw_sub [] rfl hJ18
    · have h := h.trans (if_neg hc)
      refine fw_bipush (pc := 21) d_M_fewest_21 fw_bpm4 ?_
      refine fw_goto (pc := 23) (tgt := 27) d_M_fewest_23 rfl ?_
      subst h
      exact fw_sub [] rfl hJ18
def f_M_plans_L30 (p1 : Int32 × fw_M) (x2_16 : Int32) (x3_16 : Int32) (μ16 : fw_M) (x4_30 : Int32) : Option ((Int32) ⊕ (Int32)) :=
  if (x4_30 &&& (x2_16 ^^^ (-1))) = 0 then
    (fw_rd 1024 (μ16.1 15) x4_30).bind fun v45 =>
    if v45 = 0 then
      fw_nm (x4_30 + 1) fun (v68 : Int32) =>
      some (.inl v68)
    else
      (fw_rd 1024 (μ16.1 16) (x2_16 &&& (x4_30 ^^^ (-1)))).bind fun v59 =>
      if v59 = ((p1.1 - x3_16) - 1) then
        some (.inr x4_30)
      else
        fw_nm (x4_30 + 1) fun (v68 : Int32) =>
        some (.inl v68)
  else
    fw_nm (x4_30 + 1) fun (v68 : Int32) =>
    some (.inl v68)
def f_M_plans_L16 (p1 : Int32 × fw_M) : Int32 × Int32 × fw_M → Option ((Int32 × Int32 × fw_M) ⊕ (fw_M))
  | (x2_16, x3_16, μ16) =>
  if p1.1 ≤ x3_16 then
    some (.inr μ16)
  else
    if 99 ≤ p1.1 then
      some (.inr μ16)
    else
      (fw_wh (f_M_plans_L30 p1 x2_16 x3_16 μ16) fw_N 1).bind fun (e30x : Int32) =>
      (fw_si 10 μ16 17 x3_16 e30x).bind fun μ81 =>
      fw_nm ((x2_16 &&& (e30x ^^^ (-1)))) fun (v88 : Int32) =>
      fw_nm (x3_16 + 1) fun (v89 : Int32) =>
      some (.inl (v88, v89, μ81))
def f_M_plans  (μ : fw_M) : Option (Int32 × fw_M) :=
  (f_M_fewestOf μ).bind fun (p1 : Int32 × fw_M) =>
  fw_nm ((((1 : Int32) <<< ((p1.2.1 0 6) &&& 31)) - 1)) fun (v13 : Int32) =>
  (fw_wh (f_M_plans_L16 p1) fw_N (v13, 0, p1.2)).bind fun (e16x : fw_M) =>
  some (p1.1, e16x)
set_option maxHeartbeats 4000000 in
set_option maxRecDepth 100000 in
theorem c_M_plans  {μ : fw_M} {r : Int32 × fw_M} (h : f_M_plans  μ = some r) : fw_Con Y_M_plans fw_Mo 5 [.ref 0] (some r.1) μ r.2 := by
  refine fw_con (by decide) (Nat.le_of_ble_eq_true rfl) ?_
  rw [f_M_plans] at h
  show fw_R "FewTypesModel" prog_11_method_37_code 5 (some .int) fw_Mo 5 (some r.1) r.2 0 [(0, .ref 0)] [] μ
  refine fw_aload_n (pc := 0) d_M_plans_0 0 rfl rfl ?_
  obtain ⟨p1, e1, h⟩ := fw_be h
  refine fw_callVi (pc := 1) d_M_plans_1 mv_M_209 fw_Mo0 (c_M_fewestOf e1) (by decide) rfl rfl (Nat.le_of_ble_eq_true rfl) ?_
  refine fw_istore_n (pc := 4) (lv1 := [(1, .int p1.1), (0, .ref 0)]) d_M_plans_4 rfl (by decide) rfl ?_
  refine fw_iconst (pc := 5) d_M_plans_5 fw_ic1 ?_
  refine fw_aload_n (pc := 6) d_M_plans_6 1 rfl rfl ?_
  refine fw_getI (pc := 7) d_M_plans_7 fl_M_158 fw_Mo0 rfl ?_
  refine fw_ishl (pc := 10) d_M_plans_10 ?_
  refine fw_iconst (pc := 11) d_M_plans_11 fw_ic1 ?_
  refine fw_isub (pc := 12) d_M_plans_12 ?_
  obtain ⟨v13, e13, h⟩ := fw_ne h
  refine fw_top e13 ?_
  refine fw_istore_n (pc := 13) (lv1 := [(2, .int v13), (1, .int p1.1), (0, .ref 0)]) d_M_plans_13 rfl (by decide) rfl ?_
  refine fw_iconst (pc := 14) d_M_plans_14 fw_ic0 ?_
  refine fw_istore_n (pc := 15) (lv1 := [(3, .int 0), (2, .int v13), (1, .int p1.1), (0, .ref 0)]) d_M_plans_15 rfl (by decide) rfl ?_
  obtain ⟨e16x, w16, h⟩ := fw_be h
  have hE16 : fw_R "FewTypesModel" prog_11_method_37_code 5 (some .int) fw_Mo 5 (some r.1) r.2 95 [(1, .int p1.1)] [] e16x := by
    refine fw_iload_n (pc := 95) d_M_plans_95 0 rfl rfl ?_
    obtain rfl := Option.some.inj h
    exact fw_iret (pc := 96) d_M_plans_96 rfl
  clear h
  exact fw_sub [3, 2, 1, 0] rfl (fw_we (e := e16x) (fun (s : Int32 × Int32 × fw_M) => fw_R "FewTypesModel" prog_11_method_37_code 5 (some .int) fw_Mo 5 (some r.1) r.2 16 [(0, .ref 0), (1, .int p1.1), (2, .int s.1), (3, .int s.2.1)] [] s.2.2) (by
    intro s x h hl hr
    obtain ⟨x2_16, x3_16, μ16⟩ := s
    rw [f_M_plans_L16] at h
    show fw_R "FewTypesModel" prog_11_method_37_code 5 (some .int) fw_Mo 5 (some r.1) r.2 16 [(0, .ref 0), (1, .int p1.1), (2, .int x2_16), (3, .int x3_16)] [] μ16
    refine fw_iload_n (pc := 16) d_M_plans_16 3 rfl rfl ?_
    refine fw_iload_n (pc := 17) d_M_plans_17 1 rfl rfl ?_
    refine fw_icmp_ge (pc := 18) (tgt := 95) d_M_plans_18 rfl (fun hc => ?_) (fun hc => ?_)
    · have h := fw_it hc h
      obtain rfl := Option.some.inj h
      have he := hr _ rfl
      subst he
      exact fw_sub [1] rfl hE16
    · have h := fw_if hc h
      refine fw_iload_n (pc := 21) d_M_plans_21 1 rfl rfl ?_
      refine fw_bipush (pc := 22) d_M_plans_22 fw_bp99 ?_
      refine fw_icmp_ge (pc := 24) (tgt := 95) d_M_plans_24 rfl (fun hc => ?_) (fun hc => ?_)
      · have h := fw_it hc h
        obtain rfl := Option.some.inj h
        have he := hr _ rfl
        subst he
        exact fw_sub [1] rfl hE16
      · have h := fw_if hc h
        refine fw_iconst (pc := 27) d_M_plans_27 fw_ic1 ?_
        refine fw_istore (pc := 28) (lv1 := [(4, .int 1), (0, .ref 0), (1, .int p1.1), (2, .int x2_16), (3, .int x3_16)]) d_M_plans_28 (by decide) rfl ?_
        obtain ⟨e30x, w30, h⟩ := fw_be h
        have hE30 : fw_R "FewTypesModel" prog_11_method_37_code 5 (some .int) fw_Mo 5 (some r.1) r.2 74 [(0, .ref 0), (1, .int p1.1), (2, .int x2_16), (3, .int x3_16), (4, .int e30x)] [] μ16 := by
          refine fw_aload_n (pc := 74) d_M_plans_74 0 rfl rfl ?_
          refine fw_getR (pc := 75) d_M_plans_75 fl_M_59 fw_Mo0 rfl ?_
          refine fw_iload_n (pc := 78) d_M_plans_78 3 rfl rfl ?_
          refine fw_iload (pc := 79) d_M_plans_79 4 rfl ?_
          obtain ⟨μ81, e81, h⟩ := fw_be h
          refine fw_iast (pc := 81) d_M_plans_81 fw_Mo17 e81 ?_
          refine fw_iload_n (pc := 82) d_M_plans_82 2 rfl rfl ?_
          refine fw_iload (pc := 83) d_M_plans_83 4 rfl ?_
          refine fw_iconst (pc := 85) d_M_plans_85 fw_icm1 ?_
          refine fw_ixor (pc := 86) d_M_plans_86 ?_
          refine fw_iand (pc := 87) d_M_plans_87 ?_
          obtain ⟨v88, e88, h⟩ := fw_ne h
          refine fw_top e88 ?_
          refine fw_istore_n (pc := 88) (lv1 := [(2, .int v88), (0, .ref 0), (1, .int p1.1), (3, .int x3_16), (4, .int e30x)]) d_M_plans_88 rfl (by decide) rfl ?_
          obtain ⟨v89, e89, h⟩ := fw_ne h
          refine fw_iinc2 (pc := 89) (j := 3) (lv1 := [(3, .int v89), (2, .int v88), (0, .ref 0), (1, .int p1.1), (4, .int e30x)]) d_M_plans_89 rfl fw_ic1 e89 (by decide) rfl ?_
          refine fw_goto (pc := 92) (tgt := 16) d_M_plans_92 rfl ?_
          obtain rfl := Option.some.inj h
          exact fw_sub [2, 3, 1, 0] rfl (hl _ rfl)
        clear h
        exact fw_sub [1, 2, 3, 4, 0] rfl (fw_we (e := e30x) (fun (s : Int32) => fw_R "FewTypesModel" prog_11_method_37_code 5 (some .int) fw_Mo 5 (some r.1) r.2 30 [(0, .ref 0), (1, .int p1.1), (2, .int x2_16), (3, .int x3_16), (4, .int s)] [] μ16) (by
          intro s x h hl hr
          obtain ⟨x4_30, rfl⟩ : ∃ z, z = s := ⟨_, rfl⟩
          rw [f_M_plans_L30] at h
          show fw_R "FewTypesModel" prog_11_method_37_code 5 (some .int) fw_Mo 5 (some r.1) r.2 30 [(0, .ref 0), (1, .int p1.1), (2, .int x2_16), (3, .int x3_16), (4, .int x4_30)] [] μ16
          refine fw_iload (pc := 30) d_M_plans_30 4 rfl ?_
          refine fw_iload_n (pc := 32) d_M_plans_32 2 rfl rfl ?_
          refine fw_iconst (pc := 33) d_M_plans_33 fw_icm1 ?_
          refine fw_ixor (pc := 34) d_M_plans_34 ?_
          refine fw_iand (pc := 35) d_M_plans_35 ?_
          refine fw_if_ne (pc := 36) (tgt := 68) d_M_plans_36 rfl (fun hc => ?_) (fun hc => ?_)
          · have h := fw_it hc h
            refine fw_aload_n (pc := 39) d_M_plans_39 0 rfl rfl ?_
            refine fw_getR (pc := 40) d_M_plans_40 fl_M_53 fw_Mo0 rfl ?_
            refine fw_iload (pc := 43) d_M_plans_43 4 rfl ?_
            obtain ⟨v45, e45, h⟩ := fw_be h
            refine fw_zald (pc := 45) d_M_plans_45 fw_Mo15 e45 ?_
            refine fw_if_eq (pc := 46) (tgt := 68) d_M_plans_46 rfl (fun hc => ?_) (fun hc => ?_)
            · have h := fw_it hc h
              obtain ⟨v68, e68, h⟩ := fw_ne h
              refine fw_iinc2 (pc := 68) (j := 4) (lv1 := [(4, .int v68), (0, .ref 0), (1, .int p1.1), (2, .int x2_16), (3, .int x3_16)]) d_M_plans_68 rfl fw_ic1 e68 (by decide) rfl ?_
              refine fw_goto (pc := 71) (tgt := 30) d_M_plans_71 rfl ?_
              obtain rfl := Option.some.inj h
              exact fw_sub [1, 2, 3, 4, 0] rfl (hl _ rfl)
            · have h := fw_if hc h
              refine fw_aload_n (pc := 49) d_M_plans_49 0 rfl rfl ?_
              refine fw_getR (pc := 50) d_M_plans_50 fl_M_56 fw_Mo0 rfl ?_
              refine fw_iload_n (pc := 53) d_M_plans_53 2 rfl rfl ?_
              refine fw_iload (pc := 54) d_M_plans_54 4 rfl ?_
              refine fw_iconst (pc := 56) d_M_plans_56 fw_icm1 ?_
              refine fw_ixor (pc := 57) d_M_plans_57 ?_
              refine fw_iand (pc := 58) d_M_plans_58 ?_
              obtain ⟨v59, e59, h⟩ := fw_be h
              refine fw_iald (pc := 59) d_M_plans_59 fw_Mo16 e59 ?_
              refine fw_iload_n (pc := 60) d_M_plans_60 1 rfl rfl ?_
              refine fw_iload_n (pc := 61) d_M_plans_61 3 rfl rfl ?_
              refine fw_isub (pc := 62) d_M_plans_62 ?_
              refine fw_iconst (pc := 63) d_M_plans_63 fw_ic1 ?_
              refine fw_isub (pc := 64) d_M_plans_64 ?_
              refine fw_icmp_eq (pc := 65) (tgt := 74) d_M_plans_65 rfl (fun hc => ?_) (fun hc => ?_)
              · have h := fw_it hc h
                obtain rfl := Option.some.inj h
                have he := hr _ rfl
                subst he
                exact fw_sub [0, 1, 2, 3, 4] rfl hE30
              · have h := fw_if hc h
                obtain ⟨v68, e68, h⟩ := fw_ne h
                refine fw_iinc2 (pc := 68) (j := 4) (lv1 := [(4, .int v68), (0, .ref 0), (1, .int p1.1), (2, .int x2_16), (3, .int x3_16)]) d_M_plans_68 rfl fw_ic1 e68 (by decide) rfl ?_
                refine fw_goto (pc := 71) (tgt := 30) d_M_plans_71 rfl ?_
                obtain rfl := Option.some.inj h
                exact fw_sub [1, 2, 3, 4, 0] rfl (hl _ rfl)
          · have h := fw_if hc h
            obtain ⟨v68, e68, h⟩ := fw_ne h
            refine fw_iinc2 (pc := 68) (j := 4) (lv1 := [(4, .int v68), (0, .ref 0), (1, .int p1.1), (2, .int x2_16), (3, .int x3_16)]) d_M_plans_68 rfl fw_ic1 e68 (by decide) rfl ?_
            refine fw_goto (pc := 71) (tgt := 30) d_M_plans_71 rfl ?_
            obtain rfl := Option.some.inj h
            exact fw_sub [1, 2, 3, 4, 0] rfl (hl _ rfl)
          ) _ _ w30)
    ) _ _ w16)
def f_M_plan (a1 : Int32) (μ : fw_M) : Option (Int32 × fw_M) :=
  (f_M_in (Int32.toInt64 a1) 0 9).bind fun (p6 : Int32) =>
  if p6 = 0 then
    some ((-1), μ)
  else
    if (μ.1 0 6) = 0 then
      some ((-2), μ)
    else
      (f_M_plans μ).bind fun (p25 : Int32 × fw_M) =>
      Option.bind (
        if 98 < p25.1 then
          some (-4)
        else
          if a1 < p25.1 then
            (fw_rd 10 (p25.2.1 17) a1).bind fun v50 =>
            some v50
          else
            some (-4)) fun (j32 : Int32) =>
      some (j32, p25.2)
set_option maxHeartbeats 4000000 in
set_option maxRecDepth 100000 in
theorem c_M_plan {a1 : Int32} {μ : fw_M} {r : Int32 × fw_M} (h : f_M_plan a1 μ = some r) : fw_Con Y_M_plan fw_Mo 6 [.ref 0, .int a1] (some r.1) μ r.2 := by
  refine fw_con (by decide) (Nat.le_of_ble_eq_true rfl) ?_
  rw [f_M_plan] at h
  show fw_R "FewTypesModel" prog_11_method_38_code 3 (some .int) fw_Mo 6 (some r.1) r.2 0 [(0, .ref 0), (1, .int a1)] [] μ
  refine fw_iload_n (pc := 0) d_M_plan_0 1 rfl rfl ?_
  refine fw_i2l (pc := 1) d_M_plan_1 ?_
  refine fw_lconst (pc := 2) d_M_plan_2 (v := 0) (by decide) ?_
  refine fw_ldc2 (pc := 3) d_M_plan_3 cl_M_102 ?_
  obtain ⟨p6, e6, h⟩ := fw_be h
  refine fw_callSi (pc := 6) d_M_plan_6 ms_M_94 (c_M_in e6) (by decide) rfl rfl (Nat.le_of_ble_eq_true rfl) ?_
  refine fw_if_ne (pc := 9) (tgt := 14) d_M_plan_9 rfl (fun hc => ?_) (fun hc => ?_)
  · have h := fw_it hc h
    refine fw_iconst (pc := 12) d_M_plan_12 fw_icm1 ?_
    obtain rfl := Option.some.inj h
    exact fw_iret (pc := 13) d_M_plan_13 rfl
  · have h := fw_if hc h
    refine fw_aload_n (pc := 14) d_M_plan_14 0 rfl rfl ?_
    refine fw_getI (pc := 15) d_M_plan_15 fl_M_158 fw_Mo0 rfl ?_
    refine fw_if_ne (pc := 18) (tgt := 24) d_M_plan_18 rfl (fun hc => ?_) (fun hc => ?_)
    · have h := fw_it hc h
      refine fw_bipush (pc := 21) d_M_plan_21 fw_bpm2 ?_
      obtain rfl := Option.some.inj h
      exact fw_iret (pc := 23) d_M_plan_23 rfl
    · have h := fw_if hc h
      refine fw_aload_n (pc := 24) d_M_plan_24 0 rfl rfl ?_
      obtain ⟨p25, e25, h⟩ := fw_be h
      refine fw_callVi (pc := 25) d_M_plan_25 mv_M_212 fw_Mo0 (c_M_plans e25) (by decide) rfl rfl (Nat.le_of_ble_eq_true rfl) ?_
      refine fw_istore_n (pc := 28) (lv1 := [(2, .int p25.1), (0, .ref 0), (1, .int a1)]) d_M_plan_28 rfl (by decide) rfl ?_
      refine fw_iload_n (pc := 29) d_M_plan_29 0 rfl rfl ?_
      refine fw_bipush (pc := 30) d_M_plan_30 fw_bp98 ?_
      obtain ⟨j32, w32, h⟩ := fw_be h
      have hJ32 : fw_R "FewTypesModel" prog_11_method_38_code 3 (some .int) fw_Mo 6 (some r.1) r.2 51 [] [.int j32] p25.2 := by
        obtain rfl := Option.some.inj h
        exact fw_iret (pc := 51) d_M_plan_51 rfl
      clear h
      have h := w32
      clear w32
      refine fw_icmp_gt (pc := 32) (tgt := 40) d_M_plan_32 rfl (fun hc => ?_) (fun hc => ?_)
      · have h := fw_it hc h
        refine fw_bipush (pc := 40) d_M_plan_40 fw_bpm4 ?_
        refine fw_goto (pc := 42) (tgt := 51) d_M_plan_42 rfl ?_
        obtain rfl := Option.some.inj h
        exact fw_sub [] rfl hJ32
      · have h := fw_if hc h
        refine fw_iload_n (pc := 35) d_M_plan_35 2 rfl rfl ?_
        refine fw_iload_n (pc := 36) d_M_plan_36 0 rfl rfl ?_
        refine fw_icmp_lt (pc := 37) (tgt := 45) d_M_plan_37 rfl (fun hc => ?_) (fun hc => ?_)
        · have h := fw_it hc h
          refine fw_aload_n (pc := 45) d_M_plan_45 1 rfl rfl ?_
          refine fw_getR (pc := 46) d_M_plan_46 fl_M_59 fw_Mo0 rfl ?_
          refine fw_iload_n (pc := 49) d_M_plan_49 2 rfl rfl ?_
          obtain ⟨v50, e50, h⟩ := fw_be h
          refine fw_iald (pc := 50) d_M_plan_50 fw_Mo17 e50 ?_
          obtain rfl := Option.some.inj h
          exact fw_sub [] rfl hJ32
        · have h := fw_if hc h
          refine fw_bipush (pc := 40) d_M_plan_40 fw_bpm4 ?_
          refine fw_goto (pc := 42) (tgt := 51) d_M_plan_42 rfl ?_
          obtain rfl := Option.some.inj h
          exact fw_sub [] rfl hJ32
def f_M_bound_L28 (μ : fw_M) (x2_14 : Int32) : Int32 × Int32 → Option ((Int32 × Int32) ⊕ (Int32))
  | (x3_28, x5_28) =>
  if (μ.1 0 6) ≤ x5_28 then
    some (.inr x3_28)
  else
    (fw_rd 10 (μ.1 6) x5_28).bind fun v44 =>
    fw_nm (
      if v44 = x2_14 then
        1
      else
        0) fun (j46 : Int32) =>
    fw_nm ((x3_28 + j46)) fun (v55 : Int32) =>
    fw_nm (x5_28 + 1) fun (v56 : Int32) =>
    some (.inl (v55, v56))
def f_M_bound_L65 (μ : fw_M) (x2_14 : Int32) : Int32 × Int32 → Option ((Int32 × Int32) ⊕ (Int32))
  | (x4_65, x5_65) =>
  if (μ.1 0 0) ≤ x5_65 then
    some (.inr x4_65)
  else
    (fw_rd 10 (μ.1 2) x5_65).bind fun v82 =>
    fw_nm (
      if v82 = x2_14 then
        1
      else
        0) fun (j84 : Int32) =>
    fw_nm ((x4_65 + j84)) fun (v93 : Int32) =>
    (fw_rd 10 (μ.1 1) x5_65).bind fun v103 =>
    Option.bind (
      if v103 = 1 then
        (fw_rd 10 (μ.1 3) x5_65).bind fun v125 =>
        if v125 = x2_14 then
          some 1
        else
          some 0
      else
        (fw_rd 10 (μ.1 1) x5_65).bind fun v114 =>
        if v114 = 2 then
          (fw_rd 10 (μ.1 3) x5_65).bind fun v125 =>
          if v125 = x2_14 then
            some 1
          else
            some 0
        else
          some 0) fun (j105 : Int32) =>
    fw_nm ((v93 + j105)) fun (v136 : Int32) =>
    fw_nm (x5_65 + 1) fun (v138 : Int32) =>
    some (.inl (v136, v138))
def f_M_bound_L14 (μ : fw_M) : Int32 × Int32 → Option ((Int32 × Int32) ⊕ (Int32))
  | (x1_14, x2_14) =>
  if 12 ≤ x2_14 then
    some (.inr x1_14)
  else
    (fw_wh (f_M_bound_L28 μ x2_14) fw_N (0, 0)).bind fun (e28x : Int32) =>
    (fw_wh (f_M_bound_L65 μ x2_14) fw_N (0, 0)).bind fun (e65x : Int32) =>
    Option.bind (
      if e28x = 0 then
        some 0
      else
        if e65x = 0 then
          some 99
        else
          (fw_dv ((e28x + e65x) - 1) e65x).bind fun v170 =>
          some v170) fun (j145 : Int32) =>
    fw_nm (
      if j145 ≤ x1_14 then
        x1_14
      else
        j145) fun (j176 : Int32) =>
    fw_nm (x2_14 + 1) fun (v186 : Int32) =>
    some (.inl (j176, v186))
def f_M_bound  (μ : fw_M) : Option (Int32) :=
  if (μ.1 0 6) = 0 then
    some (-2)
  else
    (fw_wh (f_M_bound_L14 μ) fw_N (0, 0)).bind fun (e14x : Int32) =>
    some e14x
set_option maxHeartbeats 4000000 in
set_option maxRecDepth 100000 in
theorem c_M_bound  {μ : fw_M} {r : Int32} (h : f_M_bound  μ = some r) : fw_Con Y_M_bound fw_Mo 1 [.ref 0] (some r) μ μ := by
  refine fw_con (by decide) (Nat.le_of_ble_eq_true rfl) ?_
  rw [f_M_bound] at h
  show fw_R "FewTypesModel" prog_11_method_39_code 6 (some .int) fw_Mo 1 (some r) μ 0 [(0, .ref 0)] [] μ
  refine fw_aload_n (pc := 0) d_M_bound_0 0 rfl rfl ?_
  refine fw_getI (pc := 1) d_M_bound_1 fl_M_158 fw_Mo0 rfl ?_
  refine fw_if_ne (pc := 4) (tgt := 10) d_M_bound_4 rfl (fun hc => ?_) (fun hc => ?_)
  · have h := fw_it hc h
    refine fw_bipush (pc := 7) d_M_bound_7 fw_bpm2 ?_
    obtain rfl := Option.some.inj h
    exact fw_iret (pc := 9) d_M_bound_9 rfl
  · have h := fw_if hc h
    refine fw_iconst (pc := 10) d_M_bound_10 fw_ic0 ?_
    refine fw_istore_n (pc := 11) (lv1 := [(1, .int 0), (0, .ref 0)]) d_M_bound_11 rfl (by decide) rfl ?_
    refine fw_iconst (pc := 12) d_M_bound_12 fw_ic0 ?_
    refine fw_istore_n (pc := 13) (lv1 := [(2, .int 0), (1, .int 0), (0, .ref 0)]) d_M_bound_13 rfl (by decide) rfl ?_
    obtain ⟨e14x, w14, h⟩ := fw_be h
    have hE14 : fw_R "FewTypesModel" prog_11_method_39_code 6 (some .int) fw_Mo 1 (some r) μ 192 [(1, .int e14x)] [] μ := by
      refine fw_iload_n (pc := 192) d_M_bound_192 0 rfl rfl ?_
      obtain rfl := Option.some.inj h
      exact fw_iret (pc := 193) d_M_bound_193 rfl
    clear h
    exact fw_sub [2, 1, 0] rfl (fw_we (e := e14x) (fun (s : Int32 × Int32) => fw_R "FewTypesModel" prog_11_method_39_code 6 (some .int) fw_Mo 1 (some r) μ 14 [(0, .ref 0), (1, .int s.1), (2, .int s.2)] [] μ) (by
      intro s x h hl hr
      obtain ⟨x1_14, x2_14⟩ := s
      rw [f_M_bound_L14] at h
      show fw_R "FewTypesModel" prog_11_method_39_code 6 (some .int) fw_Mo 1 (some r) μ 14 [(0, .ref 0), (1, .int x1_14), (2, .int x2_14)] [] μ
      refine fw_iload_n (pc := 14) d_M_bound_14 2 rfl rfl ?_
      refine fw_bipush (pc := 15) d_M_bound_15 fw_bp12 ?_
      refine fw_icmp_ge (pc := 17) (tgt := 192) d_M_bound_17 rfl (fun hc => ?_) (fun hc => ?_)
      · have h := fw_it hc h
        obtain rfl := Option.some.inj h
        have he := hr _ rfl
        subst he
        exact fw_sub [1] rfl hE14
      · have h := fw_if hc h
        refine fw_iconst (pc := 20) d_M_bound_20 fw_ic0 ?_
        refine fw_istore_n (pc := 21) (lv1 := [(3, .int 0), (0, .ref 0), (1, .int x1_14), (2, .int x2_14)]) d_M_bound_21 rfl (by decide) rfl ?_
        refine fw_iconst (pc := 22) d_M_bound_22 fw_ic0 ?_
        refine fw_istore (pc := 23) (lv1 := [(4, .int 0), (3, .int 0), (0, .ref 0), (1, .int x1_14), (2, .int x2_14)]) d_M_bound_23 (by decide) rfl ?_
        refine fw_iconst (pc := 25) d_M_bound_25 fw_ic0 ?_
        refine fw_istore (pc := 26) (lv1 := [(5, .int 0), (4, .int 0), (3, .int 0), (0, .ref 0), (1, .int x1_14), (2, .int x2_14)]) d_M_bound_26 (by decide) rfl ?_
        obtain ⟨e28x, w28, h⟩ := fw_be h
        have hE28 : fw_R "FewTypesModel" prog_11_method_39_code 6 (some .int) fw_Mo 1 (some r) μ 62 [(0, .ref 0), (1, .int x1_14), (2, .int x2_14), (3, .int e28x), (4, .int 0)] [] μ := by
          refine fw_iconst (pc := 62) d_M_bound_62 fw_ic0 ?_
          refine fw_istore (pc := 63) (lv1 := [(5, .int 0), (0, .ref 0), (1, .int x1_14), (2, .int x2_14), (3, .int e28x), (4, .int 0)]) d_M_bound_63 (by decide) rfl ?_
          obtain ⟨e65x, w65, h⟩ := fw_be h
          have hE65 : fw_R "FewTypesModel" prog_11_method_39_code 6 (some .int) fw_Mo 1 (some r) μ 144 [(0, .ref 0), (1, .int x1_14), (2, .int x2_14), (3, .int e28x), (4, .int e65x)] [] μ := by
            refine fw_iload_n (pc := 144) d_M_bound_144 3 rfl rfl ?_
            obtain ⟨j145, w145, h⟩ := fw_be h
            have hJ145 : fw_R "FewTypesModel" prog_11_method_39_code 6 (some .int) fw_Mo 1 (some r) μ 171 [(0, .ref 0), (1, .int x1_14), (2, .int x2_14)] [.int j145] μ := by
              refine fw_istore (pc := 171) (lv1 := [(5, .int j145), (0, .ref 0), (1, .int x1_14), (2, .int x2_14)]) d_M_bound_171 (by decide) rfl ?_
              refine fw_iload (pc := 173) d_M_bound_173 0 rfl ?_
              refine fw_iload_n (pc := 175) d_M_bound_175 2 rfl rfl ?_
              obtain ⟨j176, w176, h⟩ := fw_ne h
              have hJ176 : fw_R "FewTypesModel" prog_11_method_39_code 6 (some .int) fw_Mo 1 (some r) μ 185 [(0, .ref 0), (2, .int x2_14)] [.int j176] μ := by
                refine fw_istore_n (pc := 185) (lv1 := [(1, .int j176), (0, .ref 0), (2, .int x2_14)]) d_M_bound_185 rfl (by decide) rfl ?_
                obtain ⟨v186, e186, h⟩ := fw_ne h
                refine fw_iinc2 (pc := 186) (j := 2) (lv1 := [(2, .int v186), (1, .int j176), (0, .ref 0)]) d_M_bound_186 rfl fw_ic1 e186 (by decide) rfl ?_
                refine fw_goto (pc := 189) (tgt := 14) d_M_bound_189 rfl ?_
                obtain rfl := Option.some.inj h
                exact fw_sub [2, 1, 0] rfl (hl _ rfl)
              clear h
              have h := w176
              clear w176
              refine fw_icmp_le (pc := 176) (tgt := 184) d_M_bound_176 rfl (fun hc => ?_) (fun hc => ?_)
              · have h := h.trans (if_pos hc)
                refine fw_iload_n (pc := 184) d_M_bound_184 2 rfl rfl ?_
                subst h
                exact fw_sub [1, 3] rfl hJ176
              · have h := h.trans (if_neg hc)
                refine fw_iload (pc := 179) d_M_bound_179 0 rfl ?_
                refine fw_goto (pc := 181) (tgt := 185) d_M_bound_181 rfl ?_
                subst h
                exact fw_sub [1, 3] rfl hJ176
            clear h
            have h := w145
            clear w145
            refine fw_if_ne (pc := 145) (tgt := 152) d_M_bound_145 rfl (fun hc => ?_) (fun hc => ?_)
            · have h := fw_it hc h
              refine fw_iconst (pc := 148) d_M_bound_148 fw_ic0 ?_
              refine fw_goto (pc := 149) (tgt := 171) d_M_bound_149 rfl ?_
              obtain rfl := Option.some.inj h
              exact fw_sub [0, 1, 2] rfl hJ145
            · have h := fw_if hc h
              refine fw_iload (pc := 152) d_M_bound_152 4 rfl ?_
              refine fw_if_ne (pc := 154) (tgt := 162) d_M_bound_154 rfl (fun hc => ?_) (fun hc => ?_)
              · have h := fw_it hc h
                refine fw_bipush (pc := 157) d_M_bound_157 fw_bp99 ?_
                refine fw_goto (pc := 159) (tgt := 171) d_M_bound_159 rfl ?_
                obtain rfl := Option.some.inj h
                exact fw_sub [0, 1, 2] rfl hJ145
              · have h := fw_if hc h
                refine fw_iload_n (pc := 162) d_M_bound_162 3 rfl rfl ?_
                refine fw_iload (pc := 163) d_M_bound_163 4 rfl ?_
                refine fw_iadd (pc := 165) d_M_bound_165 ?_
                refine fw_iconst (pc := 166) d_M_bound_166 fw_ic1 ?_
                refine fw_isub (pc := 167) d_M_bound_167 ?_
                refine fw_iload (pc := 168) d_M_bound_168 4 rfl ?_
                obtain ⟨v170, e170, h⟩ := fw_be h
                refine fw_idiv (pc := 170) d_M_bound_170 e170 ?_
                obtain rfl := Option.some.inj h
                exact fw_sub [0, 1, 2] rfl hJ145
          clear h
          exact fw_sub [1, 2, 3, 4, 5, 0] rfl (fw_we (e := e65x) (fun (s : Int32 × Int32) => fw_R "FewTypesModel" prog_11_method_39_code 6 (some .int) fw_Mo 1 (some r) μ 65 [(0, .ref 0), (1, .int x1_14), (2, .int x2_14), (3, .int e28x), (4, .int s.1), (5, .int s.2)] [] μ) (by
            intro s x h hl hr
            obtain ⟨x4_65, x5_65⟩ := s
            rw [f_M_bound_L65] at h
            show fw_R "FewTypesModel" prog_11_method_39_code 6 (some .int) fw_Mo 1 (some r) μ 65 [(0, .ref 0), (1, .int x1_14), (2, .int x2_14), (3, .int e28x), (4, .int x4_65), (5, .int x5_65)] [] μ
            refine fw_iload (pc := 65) d_M_bound_65 5 rfl ?_
            refine fw_aload_n (pc := 67) d_M_bound_67 0 rfl rfl ?_
            refine fw_getI (pc := 68) d_M_bound_68 fl_M_108 fw_Mo0 rfl ?_
            refine fw_icmp_ge (pc := 71) (tgt := 144) d_M_bound_71 rfl (fun hc => ?_) (fun hc => ?_)
            · have h := fw_it hc h
              obtain rfl := Option.some.inj h
              have he := hr _ rfl
              subst he
              exact fw_sub [0, 1, 2, 3, 4] rfl hE65
            · have h := fw_if hc h
              refine fw_iload (pc := 74) d_M_bound_74 4 rfl ?_
              refine fw_aload_n (pc := 76) d_M_bound_76 0 rfl rfl ?_
              refine fw_getR (pc := 77) d_M_bound_77 fl_M_13 fw_Mo0 rfl ?_
              refine fw_iload (pc := 80) d_M_bound_80 5 rfl ?_
              obtain ⟨v82, e82, h⟩ := fw_be h
              refine fw_iald (pc := 82) d_M_bound_82 fw_Mo2 e82 ?_
              refine fw_iload_n (pc := 83) d_M_bound_83 2 rfl rfl ?_
              obtain ⟨j84, w84, h⟩ := fw_ne h
              have hJ84 : fw_R "FewTypesModel" prog_11_method_39_code 6 (some .int) fw_Mo 1 (some r) μ 92 [(0, .ref 0), (1, .int x1_14), (2, .int x2_14), (3, .int e28x), (5, .int x5_65)] [.int j84, .int x4_65] μ := by
                refine fw_iadd (pc := 92) d_M_bound_92 ?_
                obtain ⟨v93, e93, h⟩ := fw_ne h
                refine fw_top e93 ?_
                refine fw_istore (pc := 93) (lv1 := [(4, .int v93), (0, .ref 0), (1, .int x1_14), (2, .int x2_14), (3, .int e28x), (5, .int x5_65)]) d_M_bound_93 (by decide) rfl ?_
                refine fw_iload (pc := 95) d_M_bound_95 0 rfl ?_
                refine fw_aload_n (pc := 97) d_M_bound_97 1 rfl rfl ?_
                refine fw_getR (pc := 98) d_M_bound_98 fl_M_7 fw_Mo0 rfl ?_
                refine fw_iload (pc := 101) d_M_bound_101 5 rfl ?_
                obtain ⟨v103, e103, h⟩ := fw_be h
                refine fw_iald (pc := 103) d_M_bound_103 fw_Mo1 e103 ?_
                refine fw_iconst (pc := 104) d_M_bound_104 fw_ic1 ?_
                obtain ⟨j105, w105, h⟩ := fw_be h
                have hJ105 : fw_R "FewTypesModel" prog_11_method_39_code 6 (some .int) fw_Mo 1 (some r) μ 135 [(0, .ref 0), (1, .int x1_14), (2, .int x2_14), (3, .int e28x), (5, .int x5_65)] [.int j105, .int v93] μ := by
                  refine fw_iadd (pc := 135) d_M_bound_135 ?_
                  obtain ⟨v136, e136, h⟩ := fw_ne h
                  refine fw_top e136 ?_
                  refine fw_istore (pc := 136) (lv1 := [(4, .int v136), (0, .ref 0), (1, .int x1_14), (2, .int x2_14), (3, .int e28x), (5, .int x5_65)]) d_M_bound_136 (by decide) rfl ?_
                  obtain ⟨v138, e138, h⟩ := fw_ne h
                  refine fw_iinc2 (pc := 138) (j := 5) (lv1 := [(5, .int v138), (4, .int v136), (0, .ref 0), (1, .int x1_14), (2, .int x2_14), (3, .int e28x)]) d_M_bound_138 rfl fw_ic1 e138 (by decide) rfl ?_
                  refine fw_goto (pc := 141) (tgt := 65) d_M_bound_141 rfl ?_
                  obtain rfl := Option.some.inj h
                  exact fw_sub [2, 3, 4, 5, 1, 0] rfl (hl _ rfl)
                clear h
                have h := w105
                clear w105
                refine fw_icmp_eq (pc := 105) (tgt := 119) d_M_bound_105 rfl (fun hc => ?_) (fun hc => ?_)
                · have h := fw_it hc h
                  refine fw_aload_n (pc := 119) d_M_bound_119 1 rfl rfl ?_
                  refine fw_getR (pc := 120) d_M_bound_120 fl_M_16 fw_Mo0 rfl ?_
                  refine fw_iload (pc := 123) d_M_bound_123 5 rfl ?_
                  obtain ⟨v125, e125, h⟩ := fw_be h
                  refine fw_iald (pc := 125) d_M_bound_125 fw_Mo3 e125 ?_
                  refine fw_iload_n (pc := 126) d_M_bound_126 3 rfl rfl ?_
                  refine fw_icmp_ne (pc := 127) (tgt := 134) d_M_bound_127 rfl (fun hc => ?_) (fun hc => ?_)
                  · have h := fw_it hc h
                    refine fw_iconst (pc := 130) d_M_bound_130 fw_ic1 ?_
                    refine fw_goto (pc := 131) (tgt := 135) d_M_bound_131 rfl ?_
                    obtain rfl := Option.some.inj h
                    exact fw_sub [1, 2, 3, 4, 5] rfl hJ105
                  · have h := fw_if hc h
                    refine fw_iconst (pc := 134) d_M_bound_134 fw_ic0 ?_
                    obtain rfl := Option.some.inj h
                    exact fw_sub [1, 2, 3, 4, 5] rfl hJ105
                · have h := fw_if hc h
                  refine fw_aload_n (pc := 108) d_M_bound_108 1 rfl rfl ?_
                  refine fw_getR (pc := 109) d_M_bound_109 fl_M_7 fw_Mo0 rfl ?_
                  refine fw_iload (pc := 112) d_M_bound_112 5 rfl ?_
                  obtain ⟨v114, e114, h⟩ := fw_be h
                  refine fw_iald (pc := 114) d_M_bound_114 fw_Mo1 e114 ?_
                  refine fw_iconst (pc := 115) d_M_bound_115 fw_ic2 ?_
                  refine fw_icmp_ne (pc := 116) (tgt := 134) d_M_bound_116 rfl (fun hc => ?_) (fun hc => ?_)
                  · have h := fw_it hc h
                    refine fw_aload_n (pc := 119) d_M_bound_119 1 rfl rfl ?_
                    refine fw_getR (pc := 120) d_M_bound_120 fl_M_16 fw_Mo0 rfl ?_
                    refine fw_iload (pc := 123) d_M_bound_123 5 rfl ?_
                    obtain ⟨v125, e125, h⟩ := fw_be h
                    refine fw_iald (pc := 125) d_M_bound_125 fw_Mo3 e125 ?_
                    refine fw_iload_n (pc := 126) d_M_bound_126 3 rfl rfl ?_
                    refine fw_icmp_ne (pc := 127) (tgt := 134) d_M_bound_127 rfl (fun hc => ?_) (fun hc => ?_)
                    · have h := fw_it hc h
                      refine fw_iconst (pc := 130) d_M_bound_130 fw_ic1 ?_
                      refine fw_goto (pc := 131) (tgt := 135) d_M_bound_131 rfl ?_
                      obtain rfl := Option.some.inj h
                      exact fw_sub [1, 2, 3, 4, 5] rfl hJ105
                    · have h := fw_if hc h
                      refine fw_iconst (pc := 134) d_M_bound_134 fw_ic0 ?_
                      obtain rfl := Option.some.inj h
                      exact fw_sub [1, 2, 3, 4, 5] rfl hJ105
                  · have h := fw_if hc h
                    refine fw_iconst (pc := 134) d_M_bound_134 fw_ic0 ?_
                    obtain rfl := Option.some.inj h
                    exact fw_sub [1, 2, 3, 4, 5] rfl hJ105
              clear h
              have h := w84
              clear w84
              refine fw_icmp_ne (pc := 84) (tgt := 91) d_M_bound_84 rfl (fun hc => ?_) (fun hc => ?_)
              · have h := h.trans (if_pos hc)
                refine fw_iconst (pc := 87) d_M_bound_87 fw_ic1 ?_
                refine fw_goto (pc := 88) (tgt := 92) d_M_bound_88 rfl ?_
                subst h
                exact fw_sub [0, 1, 2, 3, 5] rfl hJ84
              · have h := h.trans (if_neg hc)
                refine fw_iconst (pc := 91) d_M_bound_91 fw_ic0 ?_
                subst h
                exact fw_sub [0, 1, 2, 3, 5] rfl hJ84
            ) _ _ w65)
        clear h
        exact fw_sub [3, 4, 5, 2, 1, 0] rfl (fw_we (e := e28x) (fun (s : Int32 × Int32) => fw_R "FewTypesModel" prog_11_method_39_code 6 (some .int) fw_Mo 1 (some r) μ 28 [(0, .ref 0), (1, .int x1_14), (2, .int x2_14), (3, .int s.1), (4, .int 0), (5, .int s.2)] [] μ) (by
          intro s x h hl hr
          obtain ⟨x3_28, x5_28⟩ := s
          rw [f_M_bound_L28] at h
          show fw_R "FewTypesModel" prog_11_method_39_code 6 (some .int) fw_Mo 1 (some r) μ 28 [(0, .ref 0), (1, .int x1_14), (2, .int x2_14), (3, .int x3_28), (4, .int 0), (5, .int x5_28)] [] μ
          refine fw_iload (pc := 28) d_M_bound_28 5 rfl ?_
          refine fw_aload_n (pc := 30) d_M_bound_30 0 rfl rfl ?_
          refine fw_getI (pc := 31) d_M_bound_31 fl_M_158 fw_Mo0 rfl ?_
          refine fw_icmp_ge (pc := 34) (tgt := 62) d_M_bound_34 rfl (fun hc => ?_) (fun hc => ?_)
          · have h := fw_it hc h
            obtain rfl := Option.some.inj h
            have he := hr _ rfl
            subst he
            exact fw_sub [0, 1, 2, 3, 4] rfl hE28
          · have h := fw_if hc h
            refine fw_iload_n (pc := 37) d_M_bound_37 3 rfl rfl ?_
            refine fw_aload_n (pc := 38) d_M_bound_38 0 rfl rfl ?_
            refine fw_getR (pc := 39) d_M_bound_39 fl_M_25 fw_Mo0 rfl ?_
            refine fw_iload (pc := 42) d_M_bound_42 5 rfl ?_
            obtain ⟨v44, e44, h⟩ := fw_be h
            refine fw_iald (pc := 44) d_M_bound_44 fw_Mo6 e44 ?_
            refine fw_iload_n (pc := 45) d_M_bound_45 2 rfl rfl ?_
            obtain ⟨j46, w46, h⟩ := fw_ne h
            have hJ46 : fw_R "FewTypesModel" prog_11_method_39_code 6 (some .int) fw_Mo 1 (some r) μ 54 [(0, .ref 0), (1, .int x1_14), (2, .int x2_14), (4, .int 0), (5, .int x5_28)] [.int j46, .int x3_28] μ := by
              refine fw_iadd (pc := 54) d_M_bound_54 ?_
              obtain ⟨v55, e55, h⟩ := fw_ne h
              refine fw_top e55 ?_
              refine fw_istore_n (pc := 55) (lv1 := [(3, .int v55), (0, .ref 0), (1, .int x1_14), (2, .int x2_14), (4, .int 0), (5, .int x5_28)]) d_M_bound_55 rfl (by decide) rfl ?_
              obtain ⟨v56, e56, h⟩ := fw_ne h
              refine fw_iinc2 (pc := 56) (j := 5) (lv1 := [(5, .int v56), (3, .int v55), (0, .ref 0), (1, .int x1_14), (2, .int x2_14), (4, .int 0)]) d_M_bound_56 rfl fw_ic1 e56 (by decide) rfl ?_
              refine fw_goto (pc := 59) (tgt := 28) d_M_bound_59 rfl ?_
              obtain rfl := Option.some.inj h
              exact fw_sub [2, 3, 4, 1, 5, 0] rfl (hl _ rfl)
            clear h
            have h := w46
            clear w46
            refine fw_icmp_ne (pc := 46) (tgt := 53) d_M_bound_46 rfl (fun hc => ?_) (fun hc => ?_)
            · have h := h.trans (if_pos hc)
              refine fw_iconst (pc := 49) d_M_bound_49 fw_ic1 ?_
              refine fw_goto (pc := 50) (tgt := 54) d_M_bound_50 rfl ?_
              subst h
              exact fw_sub [0, 1, 2, 4, 5] rfl hJ46
            · have h := h.trans (if_neg hc)
              refine fw_iconst (pc := 53) d_M_bound_53 fw_ic0 ?_
              subst h
              exact fw_sub [0, 1, 2, 4, 5] rfl hJ46
          ) _ _ w28)
      ) _ _ w14)
