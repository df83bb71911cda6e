abbrev Y_Jobs_take : fw_Y := (⟨"FewTypes$Jobs", "take", "(LFewTypes$Jobs;)V"⟩, prog_3_method_3_code, 2, none)
abbrev Y_Shop_take : fw_Y := (⟨"FewTypes$Shop", "take", "(LFewTypes$Shop;)V"⟩, prog_8_method_3_code, 3, none)
abbrev Y_X_image : fw_Y := (⟨"FewTypes", "image", "()I"⟩, prog_1_method_26_code, 1, (some .int))
abbrev Y_X_restore : fw_Y := (⟨"FewTypes", "restore", "()I"⟩, prog_1_method_27_code, 1, (some .int))
abbrev Y_X_isSheet : fw_Y := (⟨"FewTypes", "isSheet", "(I)Z"⟩, prog_1_method_36_code, 1, (some .boolean))
abbrev Y_X_isLane : fw_Y := (⟨"FewTypes", "isLane", "(I)Z"⟩, prog_1_method_37_code, 1, (some .boolean))
abbrev Y_Sheet_holds : fw_Y := (⟨"FewTypes$Sheet", "holds", "(II)Z"⟩, prog_7_method_3_code, 3, (some .boolean))
abbrev Y_X_refusal : fw_Y := (⟨"FewTypes", "refusal", "(IIII)I"⟩, prog_1_method_47_code, 6, (some .int))
abbrev Y_X_sortByPull : fw_Y := (⟨"FewTypes", "sortByPull", "(LFewTypes$Sheet;I)Z"⟩, prog_1_method_49_code, 8, (some .boolean))
abbrev Y_X_pullsOfLeaf : fw_Y := (⟨"FewTypes", "pullsOfLeaf", "()I"⟩, prog_1_method_50_code, 3, (some .int))
abbrev Y_X_leaf : fw_Y := (⟨"FewTypes", "leaf", "(III)I"⟩, prog_1_method_28_code, 5, (some .int))
abbrev Y_X_refusalOfTwo : fw_Y := (⟨"FewTypes", "refusalOfTwo", "(LFewTypes$Sheet;LFewTypes$Sheet;)I"⟩, prog_1_method_48_code, 2, (some .int))
theorem fl_X_16 : fw_FL "FewTypes" 16 8 1 := ⟨_, _, _, rfl, fw_i8, by decide, fw_m 314 (by decide +kernel) (by decide +kernel)⟩
theorem mv_X_255 : fw_MV "FewTypes" 255 Y_Shop_take 6 1 := ⟨fw_m 770 (by decide +kernel) (by decide +kernel), fw_m 771 (by decide +kernel) (by decide +kernel), fw_m 772 (by decide +kernel) (by decide +kernel), fw_m 60 (by decide +kernel) (by decide +kernel), fw_m 773 (by decide +kernel) (by decide +kernel), ⟨by decide +kernel, by decide +kernel, by decide +kernel⟩, by decide, _, _, rfl⟩
theorem fl_Shop_12 : fw_FL "FewTypes$Shop" 12 6 0 := ⟨_, _, _, rfl, fw_i6, by decide, fw_m 167 (by decide +kernel) (by decide +kernel)⟩
theorem mv_Shop_65 : fw_MV "FewTypes$Shop" 65 Y_Case_take 0 1 := ⟨fw_m 774 (by decide +kernel) (by decide +kernel), fw_m 465 (by decide +kernel) (by decide +kernel), fw_m 466 (by decide +kernel) (by decide +kernel), fw_m 61 (by decide +kernel) (by decide +kernel), fw_m 467 (by decide +kernel) (by decide +kernel), ⟨by decide +kernel, by decide +kernel, by decide +kernel⟩, by decide, _, _, rfl⟩
theorem fl_Shop_21 : fw_FL "FewTypes$Shop" 21 6 1 := ⟨_, _, _, rfl, fw_i6, by decide, fw_m 169 (by decide +kernel) (by decide +kernel)⟩
theorem mv_Shop_69 : fw_MV "FewTypes$Shop" 69 Y_Line_take 2 1 := ⟨fw_m 775 (by decide +kernel) (by decide +kernel), fw_m 443 (by decide +kernel) (by decide +kernel), fw_m 444 (by decide +kernel) (by decide +kernel), fw_m 62 (by decide +kernel) (by decide +kernel), fw_m 445 (by decide +kernel) (by decide +kernel), ⟨by decide +kernel, by decide +kernel, by decide +kernel⟩, by decide, _, _, rfl⟩
theorem fl_Shop_25 : fw_FL "FewTypes$Shop" 25 6 2 := ⟨_, _, _, rfl, fw_i6, by decide, fw_m 172 (by decide +kernel) (by decide +kernel)⟩
theorem ma_Shop_59 : Cond.methodLink "FewTypes$Shop" 59 arraycopyName ∈ fw_tb := fw_m 164 (by decide +kernel) (by decide +kernel)
theorem fl_Shop_29 : fw_FL "FewTypes$Shop" 29 6 3 := ⟨_, _, _, rfl, fw_i6, by decide, fw_m 175 (by decide +kernel) (by decide +kernel)⟩
theorem fl_Shop_32 : fw_FL "FewTypes$Shop" 32 6 4 := ⟨_, _, _, rfl, fw_i6, by decide, fw_m 178 (by decide +kernel) (by decide +kernel)⟩
theorem fl_Shop_36 : fw_FL "FewTypes$Shop" 36 6 5 := ⟨_, _, _, rfl, fw_i6, by decide, fw_m 180 (by decide +kernel) (by decide +kernel)⟩
theorem fp_Shop_39 : fw_FP "FewTypes$Shop" 39 6 6 .int := ⟨_, _, _, fw_t6, rfl, fw_i6, by decide, fw_m 182 (by decide +kernel) (by decide +kernel), fw_k6, fw_n6, rfl, by decide +kernel⟩
theorem fl_Shop_46 : fw_FL "FewTypes$Shop" 46 6 7 := ⟨_, _, _, rfl, fw_i6, by decide, fw_m 184 (by decide +kernel) (by decide +kernel)⟩
theorem mv_Shop_72 : fw_MV "FewTypes$Shop" 72 Y_Jobs_take 1 1 := ⟨fw_m 776 (by decide +kernel) (by decide +kernel), fw_m 777 (by decide +kernel) (by decide +kernel), fw_m 778 (by decide +kernel) (by decide +kernel), fw_m 63 (by decide +kernel) (by decide +kernel), fw_m 779 (by decide +kernel) (by decide +kernel), ⟨by decide +kernel, by decide +kernel, by decide +kernel⟩, by decide, _, _, rfl⟩
theorem ma_Jobs_25 : Cond.methodLink "FewTypes$Jobs" 25 arraycopyName ∈ fw_tb := fw_m 780 (by decide +kernel) (by decide +kernel)
theorem fp_X_19 : fw_FP "FewTypes" 19 8 2 .boolean := ⟨_, _, _, fw_t8, rfl, fw_i8, by decide, fw_m 315 (by decide +kernel) (by decide +kernel), fw_k8, fw_n8, rfl, by decide +kernel⟩
theorem fl_X_19 : fw_FL "FewTypes" 19 8 2 := ⟨_, _, _, rfl, fw_i8, by decide, fw_m 315 (by decide +kernel) (by decide +kernel)⟩
theorem mv_X_258 : fw_MV "FewTypes" 258 Y_X_refusal 8 4 := ⟨fw_m 789 (by decide +kernel) (by decide +kernel), fw_m 791 (by decide +kernel) (by decide +kernel), fw_m 29 (by decide +kernel) (by decide +kernel), fw_m 59 (by decide +kernel) (by decide +kernel), fw_m 792 (by decide +kernel) (by decide +kernel), ⟨by decide +kernel, by decide +kernel, by decide +kernel⟩, by decide, _, _, rfl⟩
theorem ms_X_269 : fw_MS "FewTypes" 269 Y_X_isSheet 1 := ⟨fw_m 793 (by decide +kernel) (by decide +kernel), fw_m 794 (by decide +kernel) (by decide +kernel), fw_m 59 (by decide +kernel) (by decide +kernel), fw_m 795 (by decide +kernel) (by decide +kernel), ⟨by decide +kernel, by decide +kernel, by decide +kernel⟩, by decide⟩
theorem ms_X_285 : fw_MS "FewTypes" 285 Y_X_isLane 1 := ⟨fw_m 796 (by decide +kernel) (by decide +kernel), fw_m 797 (by decide +kernel) (by decide +kernel), fw_m 59 (by decide +kernel) (by decide +kernel), fw_m 798 (by decide +kernel) (by decide +kernel), ⟨by decide +kernel, by decide +kernel, by decide +kernel⟩, by decide⟩
theorem fl_X_73 : fw_FL "FewTypes" 73 8 12 := ⟨_, _, _, rfl, fw_i8, by decide, fw_m 325 (by decide +kernel) (by decide +kernel)⟩
theorem fl_X_291 : fw_FL "FewTypes" 291 5 3 := ⟨_, _, _, rfl, fw_i5, by decide, fw_m 303 (by decide +kernel) (by decide +kernel)⟩
theorem fl_X_324 : fw_FL "FewTypes" 324 5 1 := ⟨_, _, _, rfl, fw_i5, by decide, fw_m 299 (by decide +kernel) (by decide +kernel)⟩
theorem mv_X_276 : fw_MV "FewTypes" 276 Y_Sheet_holds 5 2 := ⟨fw_m 799 (by decide +kernel) (by decide +kernel), fw_m 800 (by decide +kernel) (by decide +kernel), fw_m 801 (by decide +kernel) (by decide +kernel), fw_m 69 (by decide +kernel) (by decide +kernel), fw_m 802 (by decide +kernel) (by decide +kernel), ⟨by decide +kernel, by decide +kernel, by decide +kernel⟩, by decide, _, _, rfl⟩
theorem fl_Sheet_19 : fw_FL "FewTypes$Sheet" 19 5 2 := ⟨_, _, _, rfl, fw_i5, by decide, fw_m 300 (by decide +kernel) (by decide +kernel)⟩
theorem mv_X_262 : fw_MV "FewTypes" 262 Y_X_sortByPull 8 2 := ⟨fw_m 803 (by decide +kernel) (by decide +kernel), fw_m 805 (by decide +kernel) (by decide +kernel), fw_m 30 (by decide +kernel) (by decide +kernel), fw_m 59 (by decide +kernel) (by decide +kernel), fw_m 806 (by decide +kernel) (by decide +kernel), ⟨by decide +kernel, by decide +kernel, by decide +kernel⟩, by decide, _, _, rfl⟩
theorem fl_X_68 : fw_FL "FewTypes" 68 8 11 := ⟨_, _, _, rfl, fw_i8, by decide, fw_m 324 (by decide +kernel) (by decide +kernel)⟩
theorem fl_X_279 : fw_FL "FewTypes" 279 5 0 := ⟨_, _, _, rfl, fw_i5, by decide, fw_m 297 (by decide +kernel) (by decide +kernel)⟩
theorem mv_X_266 : fw_MV "FewTypes" 266 Y_X_pullsOfLeaf 8 0 := ⟨fw_m 807 (by decide +kernel) (by decide +kernel), fw_m 809 (by decide +kernel) (by decide +kernel), fw_m 31 (by decide +kernel) (by decide +kernel), fw_m 59 (by decide +kernel) (by decide +kernel), fw_m 810 (by decide +kernel) (by decide +kernel), ⟨by decide +kernel, by decide +kernel, by decide +kernel⟩, by decide, _, _, rfl⟩
theorem d_Jobs_take_0 : decode prog_3_method_3_code 0 = .ok (.aload_n 1, 1) := by decide +kernel
theorem d_Jobs_take_1 : decode prog_3_method_3_code 1 = .ok (.getfield 9, 3) := by decide +kernel
theorem d_Jobs_take_4 : decode prog_3_method_3_code 4 = .ok (.iconst 0, 1) := by decide +kernel
theorem d_Jobs_take_5 : decode prog_3_method_3_code 5 = .ok (.aload_n 0, 1) := by decide +kernel
theorem d_Jobs_take_6 : decode prog_3_method_3_code 6 = .ok (.getfield 9, 3) := by decide +kernel
theorem d_Jobs_take_9 : decode prog_3_method_3_code 9 = .ok (.iconst 0, 1) := by decide +kernel
theorem d_Jobs_take_10 : decode prog_3_method_3_code 10 = .ok (.bipush 8, 2) := by decide +kernel
theorem d_Jobs_take_12 : decode prog_3_method_3_code 12 = .ok (.invokestatic 25, 3) := by decide +kernel
theorem d_Jobs_take_15 : decode prog_3_method_3_code 15 = .ok (.aload_n 1, 1) := by decide +kernel
theorem d_Jobs_take_16 : decode prog_3_method_3_code 16 = .ok (.getfield 15, 3) := by decide +kernel
theorem d_Jobs_take_19 : decode prog_3_method_3_code 19 = .ok (.iconst 0, 1) := by decide +kernel
theorem d_Jobs_take_20 : decode prog_3_method_3_code 20 = .ok (.aload_n 0, 1) := by decide +kernel
theorem d_Jobs_take_21 : decode prog_3_method_3_code 21 = .ok (.getfield 15, 3) := by decide +kernel
theorem d_Jobs_take_24 : decode prog_3_method_3_code 24 = .ok (.iconst 0, 1) := by decide +kernel
theorem d_Jobs_take_25 : decode prog_3_method_3_code 25 = .ok (.bipush 8, 2) := by decide +kernel
theorem d_Jobs_take_27 : decode prog_3_method_3_code 27 = .ok (.invokestatic 25, 3) := by decide +kernel
theorem d_Jobs_take_30 : decode prog_3_method_3_code 30 = .ok (.aload_n 0, 1) := by decide +kernel
theorem d_Jobs_take_31 : decode prog_3_method_3_code 31 = .ok (.aload_n 1, 1) := by decide +kernel
theorem d_Jobs_take_32 : decode prog_3_method_3_code 32 = .ok (.getfield 21, 3) := by decide +kernel
theorem d_Jobs_take_35 : decode prog_3_method_3_code 35 = .ok (.putfield 21, 3) := by decide +kernel
theorem d_Jobs_take_38 : decode prog_3_method_3_code 38 = .ok (.return_, 1) := by decide +kernel
theorem d_Shop_take_0 : decode prog_8_method_3_code 0 = .ok (.aload_n 0, 1) := by decide +kernel
theorem d_Shop_take_1 : decode prog_8_method_3_code 1 = .ok (.getfield 12, 3) := by decide +kernel
theorem d_Shop_take_4 : decode prog_8_method_3_code 4 = .ok (.aload_n 1, 1) := by decide +kernel
theorem d_Shop_take_5 : decode prog_8_method_3_code 5 = .ok (.getfield 12, 3) := by decide +kernel
theorem d_Shop_take_8 : decode prog_8_method_3_code 8 = .ok (.invokevirtual 65, 3) := by decide +kernel
theorem d_Shop_take_11 : decode prog_8_method_3_code 11 = .ok (.aload_n 0, 1) := by decide +kernel
theorem d_Shop_take_12 : decode prog_8_method_3_code 12 = .ok (.getfield 21, 3) := by decide +kernel
theorem d_Shop_take_15 : decode prog_8_method_3_code 15 = .ok (.aload_n 1, 1) := by decide +kernel
theorem d_Shop_take_16 : decode prog_8_method_3_code 16 = .ok (.getfield 21, 3) := by decide +kernel
theorem d_Shop_take_19 : decode prog_8_method_3_code 19 = .ok (.invokevirtual 69, 3) := by decide +kernel
theorem d_Shop_take_22 : decode prog_8_method_3_code 22 = .ok (.aload_n 1, 1) := by decide +kernel
theorem d_Shop_take_23 : decode prog_8_method_3_code 23 = .ok (.getfield 25, 3) := by decide +kernel
theorem d_Shop_take_26 : decode prog_8_method_3_code 26 = .ok (.iconst 0, 1) := by decide +kernel
theorem d_Shop_take_27 : decode prog_8_method_3_code 27 = .ok (.aload_n 0, 1) := by decide +kernel
theorem d_Shop_take_28 : decode prog_8_method_3_code 28 = .ok (.getfield 25, 3) := by decide +kernel
theorem d_Shop_take_31 : decode prog_8_method_3_code 31 = .ok (.iconst 0, 1) := by decide +kernel
theorem d_Shop_take_32 : decode prog_8_method_3_code 32 = .ok (.bipush 12, 2) := by decide +kernel
theorem d_Shop_take_34 : decode prog_8_method_3_code 34 = .ok (.invokestatic 59, 3) := by decide +kernel
theorem d_Shop_take_37 : decode prog_8_method_3_code 37 = .ok (.aload_n 1, 1) := by decide +kernel
theorem d_Shop_take_38 : decode prog_8_method_3_code 38 = .ok (.getfield 29, 3) := by decide +kernel
theorem d_Shop_take_41 : decode prog_8_method_3_code 41 = .ok (.iconst 0, 1) := by decide +kernel
theorem d_Shop_take_42 : decode prog_8_method_3_code 42 = .ok (.aload_n 0, 1) := by decide +kernel
theorem d_Shop_take_43 : decode prog_8_method_3_code 43 = .ok (.getfield 29, 3) := by decide +kernel
theorem d_Shop_take_46 : decode prog_8_method_3_code 46 = .ok (.iconst 0, 1) := by decide +kernel
theorem d_Shop_take_47 : decode prog_8_method_3_code 47 = .ok (.iconst 3, 1) := by decide +kernel
theorem d_Shop_take_48 : decode prog_8_method_3_code 48 = .ok (.invokestatic 59, 3) := by decide +kernel
theorem d_Shop_take_51 : decode prog_8_method_3_code 51 = .ok (.iconst 0, 1) := by decide +kernel
theorem d_Shop_take_52 : decode prog_8_method_3_code 52 = .ok (.istore_n 2, 1) := by decide +kernel
theorem d_Shop_take_53 : decode prog_8_method_3_code 53 = .ok (.iload_n 2, 1) := by decide +kernel
theorem d_Shop_take_54 : decode prog_8_method_3_code 54 = .ok (.bipush 8, 2) := by decide +kernel
theorem d_Shop_take_56 : decode prog_8_method_3_code 56 = .ok (.if_icmp .ge 24, 3) := by decide +kernel
theorem d_Shop_take_59 : decode prog_8_method_3_code 59 = .ok (.aload_n 0, 1) := by decide +kernel
theorem d_Shop_take_60 : decode prog_8_method_3_code 60 = .ok (.getfield 32, 3) := by decide +kernel
theorem d_Shop_take_63 : decode prog_8_method_3_code 63 = .ok (.iload_n 2, 1) := by decide +kernel
theorem d_Shop_take_64 : decode prog_8_method_3_code 64 = .ok (.aaload, 1) := by decide +kernel
theorem d_Shop_take_65 : decode prog_8_method_3_code 65 = .ok (.aload_n 1, 1) := by decide +kernel
theorem d_Shop_take_66 : decode prog_8_method_3_code 66 = .ok (.getfield 32, 3) := by decide +kernel
theorem d_Shop_take_69 : decode prog_8_method_3_code 69 = .ok (.iload_n 2, 1) := by decide +kernel
theorem d_Shop_take_70 : decode prog_8_method_3_code 70 = .ok (.aaload, 1) := by decide +kernel
theorem d_Shop_take_71 : decode prog_8_method_3_code 71 = .ok (.invokevirtual 69, 3) := by decide +kernel
theorem d_Shop_take_74 : decode prog_8_method_3_code 74 = .ok (.iinc 2 1, 3) := by decide +kernel
theorem d_Shop_take_77 : decode prog_8_method_3_code 77 = .ok (.goto (-24), 3) := by decide +kernel
theorem d_Shop_take_80 : decode prog_8_method_3_code 80 = .ok (.aload_n 1, 1) := by decide +kernel
theorem d_Shop_take_81 : decode prog_8_method_3_code 81 = .ok (.getfield 36, 3) := by decide +kernel
theorem d_Shop_take_84 : decode prog_8_method_3_code 84 = .ok (.iconst 0, 1) := by decide +kernel
theorem d_Shop_take_85 : decode prog_8_method_3_code 85 = .ok (.aload_n 0, 1) := by decide +kernel
theorem d_Shop_take_86 : decode prog_8_method_3_code 86 = .ok (.getfield 36, 3) := by decide +kernel
theorem d_Shop_take_89 : decode prog_8_method_3_code 89 = .ok (.iconst 0, 1) := by decide +kernel
theorem d_Shop_take_90 : decode prog_8_method_3_code 90 = .ok (.bipush 8, 2) := by decide +kernel
theorem d_Shop_take_92 : decode prog_8_method_3_code 92 = .ok (.invokestatic 59, 3) := by decide +kernel
theorem d_Shop_take_95 : decode prog_8_method_3_code 95 = .ok (.aload_n 0, 1) := by decide +kernel
theorem d_Shop_take_96 : decode prog_8_method_3_code 96 = .ok (.aload_n 1, 1) := by decide +kernel
theorem d_Shop_take_97 : decode prog_8_method_3_code 97 = .ok (.getfield 39, 3) := by decide +kernel
theorem d_Shop_take_100 : decode prog_8_method_3_code 100 = .ok (.putfield 39, 3) := by decide +kernel
theorem d_Shop_take_103 : decode prog_8_method_3_code 103 = .ok (.aload_n 0, 1) := by decide +kernel
theorem d_Shop_take_104 : decode prog_8_method_3_code 104 = .ok (.getfield 46, 3) := by decide +kernel
theorem d_Shop_take_107 : decode prog_8_method_3_code 107 = .ok (.aload_n 1, 1) := by decide +kernel
theorem d_Shop_take_108 : decode prog_8_method_3_code 108 = .ok (.getfield 46, 3) := by decide +kernel
theorem d_Shop_take_111 : decode prog_8_method_3_code 111 = .ok (.invokevirtual 72, 3) := by decide +kernel
theorem d_Shop_take_114 : decode prog_8_method_3_code 114 = .ok (.return_, 1) := by decide +kernel
theorem d_X_image_0 : decode prog_1_method_26_code 0 = .ok (.aload_n 0, 1) := by decide +kernel
theorem d_X_image_1 : decode prog_1_method_26_code 1 = .ok (.getfield 16, 3) := by decide +kernel
theorem d_X_image_4 : decode prog_1_method_26_code 4 = .ok (.aload_n 0, 1) := by decide +kernel
theorem d_X_image_5 : decode prog_1_method_26_code 5 = .ok (.getfield 12, 3) := by decide +kernel
theorem d_X_image_8 : decode prog_1_method_26_code 8 = .ok (.invokevirtual 255, 3) := by decide +kernel
theorem d_X_image_11 : decode prog_1_method_26_code 11 = .ok (.aload_n 0, 1) := by decide +kernel
theorem d_X_image_12 : decode prog_1_method_26_code 12 = .ok (.iconst 1, 1) := by decide +kernel
theorem d_X_image_13 : decode prog_1_method_26_code 13 = .ok (.putfield 19, 3) := by decide +kernel
theorem d_X_image_16 : decode prog_1_method_26_code 16 = .ok (.iconst 1, 1) := by decide +kernel
theorem d_X_image_17 : decode prog_1_method_26_code 17 = .ok (.ireturn, 1) := by decide +kernel
theorem d_X_restore_0 : decode prog_1_method_27_code 0 = .ok (.aload_n 0, 1) := by decide +kernel
theorem d_X_restore_1 : decode prog_1_method_27_code 1 = .ok (.getfield 19, 3) := by decide +kernel
theorem d_X_restore_4 : decode prog_1_method_27_code 4 = .ok (.ifCond .ne 6, 3) := by decide +kernel
theorem d_X_restore_7 : decode prog_1_method_27_code 7 = .ok (.bipush (-4), 2) := by decide +kernel
theorem d_X_restore_9 : decode prog_1_method_27_code 9 = .ok (.ireturn, 1) := by decide +kernel
theorem d_X_restore_10 : decode prog_1_method_27_code 10 = .ok (.aload_n 0, 1) := by decide +kernel
theorem d_X_restore_11 : decode prog_1_method_27_code 11 = .ok (.getfield 12, 3) := by decide +kernel
theorem d_X_restore_14 : decode prog_1_method_27_code 14 = .ok (.aload_n 0, 1) := by decide +kernel
theorem d_X_restore_15 : decode prog_1_method_27_code 15 = .ok (.getfield 16, 3) := by decide +kernel
theorem d_X_restore_18 : decode prog_1_method_27_code 18 = .ok (.invokevirtual 255, 3) := by decide +kernel
theorem d_X_restore_21 : decode prog_1_method_27_code 21 = .ok (.aload_n 0, 1) := by decide +kernel
theorem d_X_restore_22 : decode prog_1_method_27_code 22 = .ok (.invokevirtual 93, 3) := by decide +kernel
theorem d_X_restore_25 : decode prog_1_method_27_code 25 = .ok (.iconst 1, 1) := by decide +kernel
theorem d_X_restore_26 : decode prog_1_method_27_code 26 = .ok (.ireturn, 1) := by decide +kernel
theorem d_X_isSheet_0 : decode prog_1_method_36_code 0 = .ok (.iload_n 0, 1) := by decide +kernel
theorem d_X_isSheet_1 : decode prog_1_method_36_code 1 = .ok (.ifCond .lt 12, 3) := by decide +kernel
theorem d_X_isSheet_4 : decode prog_1_method_36_code 4 = .ok (.iload_n 0, 1) := by decide +kernel
theorem d_X_isSheet_5 : decode prog_1_method_36_code 5 = .ok (.iconst 4, 1) := by decide +kernel
theorem d_X_isSheet_6 : decode prog_1_method_36_code 6 = .ok (.if_icmp .ge 7, 3) := by decide +kernel
theorem d_X_isSheet_9 : decode prog_1_method_36_code 9 = .ok (.iconst 1, 1) := by decide +kernel
theorem d_X_isSheet_10 : decode prog_1_method_36_code 10 = .ok (.goto 4, 3) := by decide +kernel
theorem d_X_isSheet_13 : decode prog_1_method_36_code 13 = .ok (.iconst 0, 1) := by decide +kernel
theorem d_X_isSheet_14 : decode prog_1_method_36_code 14 = .ok (.ireturn, 1) := by decide +kernel
theorem d_X_isLane_0 : decode prog_1_method_37_code 0 = .ok (.iload_n 0, 1) := by decide +kernel
theorem d_X_isLane_1 : decode prog_1_method_37_code 1 = .ok (.ifCond .lt 12, 3) := by decide +kernel
theorem d_X_isLane_4 : decode prog_1_method_37_code 4 = .ok (.iload_n 0, 1) := by decide +kernel
theorem d_X_isLane_5 : decode prog_1_method_37_code 5 = .ok (.iconst 3, 1) := by decide +kernel
theorem d_X_isLane_6 : decode prog_1_method_37_code 6 = .ok (.if_icmp .ge 7, 3) := by decide +kernel
theorem d_X_isLane_9 : decode prog_1_method_37_code 9 = .ok (.iconst 1, 1) := by decide +kernel
theorem d_X_isLane_10 : decode prog_1_method_37_code 10 = .ok (.goto 4, 3) := by decide +kernel
theorem d_X_isLane_13 : decode prog_1_method_37_code 13 = .ok (.iconst 0, 1) := by decide +kernel
theorem d_X_isLane_14 : decode prog_1_method_37_code 14 = .ok (.ireturn, 1) := by decide +kernel
theorem d_Sheet_holds_0 : decode prog_7_method_3_code 0 = .ok (.iload_n 1, 1) := by decide +kernel
theorem d_Sheet_holds_1 : decode prog_7_method_3_code 1 = .ok (.ifCond .lt 29, 3) := by decide +kernel
theorem d_Sheet_holds_4 : decode prog_7_method_3_code 4 = .ok (.iload_n 2, 1) := by decide +kernel
theorem d_Sheet_holds_5 : decode prog_7_method_3_code 5 = .ok (.ifCond .lt 25, 3) := by decide +kernel
theorem d_Sheet_holds_8 : decode prog_7_method_3_code 8 = .ok (.iload_n 2, 1) := by decide +kernel
theorem d_Sheet_holds_9 : decode prog_7_method_3_code 9 = .ok (.aload_n 0, 1) := by decide +kernel
theorem d_Sheet_holds_10 : decode prog_7_method_3_code 10 = .ok (.getfield 19, 3) := by decide +kernel
theorem d_Sheet_holds_13 : decode prog_7_method_3_code 13 = .ok (.if_icmp .gt 17, 3) := by decide +kernel
theorem d_Sheet_holds_16 : decode prog_7_method_3_code 16 = .ok (.iload_n 1, 1) := by decide +kernel
theorem d_Sheet_holds_17 : decode prog_7_method_3_code 17 = .ok (.aload_n 0, 1) := by decide +kernel
theorem d_Sheet_holds_18 : decode prog_7_method_3_code 18 = .ok (.getfield 19, 3) := by decide +kernel
theorem d_Sheet_holds_21 : decode prog_7_method_3_code 21 = .ok (.iload_n 2, 1) := by decide +kernel
theorem d_Sheet_holds_22 : decode prog_7_method_3_code 22 = .ok (.isub, 1) := by decide +kernel
theorem d_Sheet_holds_23 : decode prog_7_method_3_code 23 = .ok (.if_icmp .gt 7, 3) := by decide +kernel
theorem d_Sheet_holds_26 : decode prog_7_method_3_code 26 = .ok (.iconst 1, 1) := by decide +kernel
theorem d_Sheet_holds_27 : decode prog_7_method_3_code 27 = .ok (.goto 4, 3) := by decide +kernel
theorem d_Sheet_holds_30 : decode prog_7_method_3_code 30 = .ok (.iconst 0, 1) := by decide +kernel
theorem d_Sheet_holds_31 : decode prog_7_method_3_code 31 = .ok (.ireturn, 1) := by decide +kernel
theorem d_X_refusal_0 : decode prog_1_method_47_code 0 = .ok (.iload_n 1, 1) := by decide +kernel
theorem d_X_refusal_1 : decode prog_1_method_47_code 1 = .ok (.invokestatic 269, 3) := by decide +kernel
theorem d_X_refusal_4 : decode prog_1_method_47_code 4 = .ok (.ifCond .eq 10, 3) := by decide +kernel
theorem d_X_refusal_7 : decode prog_1_method_47_code 7 = .ok (.iload_n 2, 1) := by decide +kernel
theorem d_X_refusal_8 : decode prog_1_method_47_code 8 = .ok (.invokestatic 285, 3) := by decide +kernel
theorem d_X_refusal_11 : decode prog_1_method_47_code 11 = .ok (.ifCond .ne 5, 3) := by decide +kernel
theorem d_X_refusal_14 : decode prog_1_method_47_code 14 = .ok (.iconst (-1), 1) := by decide +kernel
theorem d_X_refusal_15 : decode prog_1_method_47_code 15 = .ok (.ireturn, 1) := by decide +kernel
theorem d_X_refusal_16 : decode prog_1_method_47_code 16 = .ok (.aload_n 0, 1) := by decide +kernel
theorem d_X_refusal_17 : decode prog_1_method_47_code 17 = .ok (.getfield 73, 3) := by decide +kernel
theorem d_X_refusal_20 : decode prog_1_method_47_code 20 = .ok (.iload_n 1, 1) := by decide +kernel
theorem d_X_refusal_21 : decode prog_1_method_47_code 21 = .ok (.aaload, 1) := by decide +kernel
theorem d_X_refusal_22 : decode prog_1_method_47_code 22 = .ok (.astore 5, 2) := by decide +kernel
theorem d_X_refusal_24 : decode prog_1_method_47_code 24 = .ok (.aload 5, 2) := by decide +kernel
theorem d_X_refusal_26 : decode prog_1_method_47_code 26 = .ok (.getfield 291, 3) := by decide +kernel
theorem d_X_refusal_29 : decode prog_1_method_47_code 29 = .ok (.ifCond .ne 6, 3) := by decide +kernel
theorem d_X_refusal_32 : decode prog_1_method_47_code 32 = .ok (.bipush (-11), 2) := by decide +kernel
theorem d_X_refusal_34 : decode prog_1_method_47_code 34 = .ok (.ireturn, 1) := by decide +kernel
theorem d_X_refusal_35 : decode prog_1_method_47_code 35 = .ok (.aload 5, 2) := by decide +kernel
theorem d_X_refusal_37 : decode prog_1_method_47_code 37 = .ok (.getfield 324, 3) := by decide +kernel
theorem d_X_refusal_40 : decode prog_1_method_47_code 40 = .ok (.iload_n 2, 1) := by decide +kernel
theorem d_X_refusal_41 : decode prog_1_method_47_code 41 = .ok (.if_icmp .eq 6, 3) := by decide +kernel
theorem d_X_refusal_44 : decode prog_1_method_47_code 44 = .ok (.bipush (-12), 2) := by decide +kernel
theorem d_X_refusal_46 : decode prog_1_method_47_code 46 = .ok (.ireturn, 1) := by decide +kernel
theorem d_X_refusal_47 : decode prog_1_method_47_code 47 = .ok (.aload 5, 2) := by decide +kernel
theorem d_X_refusal_49 : decode prog_1_method_47_code 49 = .ok (.iload_n 3, 1) := by decide +kernel
theorem d_X_refusal_50 : decode prog_1_method_47_code 50 = .ok (.iload 4, 2) := by decide +kernel
theorem d_X_refusal_52 : decode prog_1_method_47_code 52 = .ok (.invokevirtual 276, 3) := by decide +kernel
theorem d_X_refusal_55 : decode prog_1_method_47_code 55 = .ok (.ifCond .eq 7, 3) := by decide +kernel
theorem d_X_refusal_58 : decode prog_1_method_47_code 58 = .ok (.iconst 0, 1) := by decide +kernel
theorem d_X_refusal_59 : decode prog_1_method_47_code 59 = .ok (.goto 5, 3) := by decide +kernel
theorem d_X_refusal_62 : decode prog_1_method_47_code 62 = .ok (.bipush (-13), 2) := by decide +kernel
theorem d_X_refusal_64 : decode prog_1_method_47_code 64 = .ok (.ireturn, 1) := by decide +kernel
theorem d_X_sortByPull_0 : decode prog_1_method_49_code 0 = .ok (.aload_n 0, 1) := by decide +kernel
theorem d_X_sortByPull_1 : decode prog_1_method_49_code 1 = .ok (.getfield 12, 3) := by decide +kernel
theorem d_X_sortByPull_4 : decode prog_1_method_49_code 4 = .ok (.getfield 125, 3) := by decide +kernel
theorem d_X_sortByPull_7 : decode prog_1_method_49_code 7 = .ok (.iconst 1, 1) := by decide +kernel
theorem d_X_sortByPull_8 : decode prog_1_method_49_code 8 = .ok (.iaload, 1) := by decide +kernel
theorem d_X_sortByPull_9 : decode prog_1_method_49_code 9 = .ok (.istore_n 3, 1) := by decide +kernel
theorem d_X_sortByPull_10 : decode prog_1_method_49_code 10 = .ok (.aload_n 0, 1) := by decide +kernel
theorem d_X_sortByPull_11 : decode prog_1_method_49_code 11 = .ok (.getfield 12, 3) := by decide +kernel
theorem d_X_sortByPull_14 : decode prog_1_method_49_code 14 = .ok (.getfield 139, 3) := by decide +kernel
theorem d_X_sortByPull_17 : decode prog_1_method_49_code 17 = .ok (.getfield 161, 3) := by decide +kernel
theorem d_X_sortByPull_20 : decode prog_1_method_49_code 20 = .ok (.istore 4, 2) := by decide +kernel
theorem d_X_sortByPull_22 : decode prog_1_method_49_code 22 = .ok (.iload_n 3, 1) := by decide +kernel
theorem d_X_sortByPull_23 : decode prog_1_method_49_code 23 = .ok (.iconst 1, 1) := by decide +kernel
theorem d_X_sortByPull_24 : decode prog_1_method_49_code 24 = .ok (.if_icmp .lt 13, 3) := by decide +kernel
theorem d_X_sortByPull_27 : decode prog_1_method_49_code 27 = .ok (.aload_n 1, 1) := by decide +kernel
theorem d_X_sortByPull_28 : decode prog_1_method_49_code 28 = .ok (.iload_n 2, 1) := by decide +kernel
theorem d_X_sortByPull_29 : decode prog_1_method_49_code 29 = .ok (.iload 4, 2) := by decide +kernel
theorem d_X_sortByPull_31 : decode prog_1_method_49_code 31 = .ok (.invokevirtual 276, 3) := by decide +kernel
theorem d_X_sortByPull_34 : decode prog_1_method_49_code 34 = .ok (.ifCond .ne 5, 3) := by decide +kernel
theorem d_X_sortByPull_37 : decode prog_1_method_49_code 37 = .ok (.iconst 0, 1) := by decide +kernel
theorem d_X_sortByPull_38 : decode prog_1_method_49_code 38 = .ok (.ireturn, 1) := by decide +kernel
theorem d_X_sortByPull_39 : decode prog_1_method_49_code 39 = .ok (.aload_n 0, 1) := by decide +kernel
theorem d_X_sortByPull_40 : decode prog_1_method_49_code 40 = .ok (.getfield 68, 3) := by decide +kernel
theorem d_X_sortByPull_43 : decode prog_1_method_49_code 43 = .ok (.iconst 0, 1) := by decide +kernel
theorem d_X_sortByPull_44 : decode prog_1_method_49_code 44 = .ok (.invokestatic 304, 3) := by decide +kernel
theorem d_X_sortByPull_47 : decode prog_1_method_49_code 47 = .ok (.iconst 0, 1) := by decide +kernel
theorem d_X_sortByPull_48 : decode prog_1_method_49_code 48 = .ok (.istore 5, 2) := by decide +kernel
theorem d_X_sortByPull_50 : decode prog_1_method_49_code 50 = .ok (.iload 5, 2) := by decide +kernel
theorem d_X_sortByPull_52 : decode prog_1_method_49_code 52 = .ok (.iload 4, 2) := by decide +kernel
theorem d_X_sortByPull_54 : decode prog_1_method_49_code 54 = .ok (.if_icmp .ge 91, 3) := by decide +kernel
theorem d_X_sortByPull_57 : decode prog_1_method_49_code 57 = .ok (.aload_n 1, 1) := by decide +kernel
theorem d_X_sortByPull_58 : decode prog_1_method_49_code 58 = .ok (.getfield 279, 3) := by decide +kernel
theorem d_X_sortByPull_61 : decode prog_1_method_49_code 61 = .ok (.iload_n 2, 1) := by decide +kernel
theorem d_X_sortByPull_62 : decode prog_1_method_49_code 62 = .ok (.iload 5, 2) := by decide +kernel
theorem d_X_sortByPull_64 : decode prog_1_method_49_code 64 = .ok (.iadd, 1) := by decide +kernel
theorem d_X_sortByPull_65 : decode prog_1_method_49_code 65 = .ok (.iaload, 1) := by decide +kernel
theorem d_X_sortByPull_66 : decode prog_1_method_49_code 66 = .ok (.i2l, 1) := by decide +kernel
theorem d_X_sortByPull_67 : decode prog_1_method_49_code 67 = .ok (.aload_n 0, 1) := by decide +kernel
theorem d_X_sortByPull_68 : decode prog_1_method_49_code 68 = .ok (.getfield 12, 3) := by decide +kernel
theorem d_X_sortByPull_71 : decode prog_1_method_49_code 71 = .ok (.getfield 139, 3) := by decide +kernel
theorem d_X_sortByPull_74 : decode prog_1_method_49_code 74 = .ok (.iload 5, 2) := by decide +kernel
theorem d_X_sortByPull_76 : decode prog_1_method_49_code 76 = .ok (.aload_n 0, 1) := by decide +kernel
theorem d_X_sortByPull_77 : decode prog_1_method_49_code 77 = .ok (.getfield 12, 3) := by decide +kernel
theorem d_X_sortByPull_80 : decode prog_1_method_49_code 80 = .ok (.getfield 116, 3) := by decide +kernel
theorem d_X_sortByPull_83 : decode prog_1_method_49_code 83 = .ok (.invokevirtual 154, 3) := by decide +kernel
theorem d_X_sortByPull_86 : decode prog_1_method_49_code 86 = .ok (.i2l, 1) := by decide +kernel
theorem d_X_sortByPull_87 : decode prog_1_method_49_code 87 = .ok (.lsub, 1) := by decide +kernel
theorem d_X_sortByPull_88 : decode prog_1_method_49_code 88 = .ok (.lstore 6, 2) := by decide +kernel
theorem d_X_sortByPull_90 : decode prog_1_method_49_code 90 = .ok (.lload 6, 2) := by decide +kernel
theorem d_X_sortByPull_92 : decode prog_1_method_49_code 92 = .ok (.lconst 0, 1) := by decide +kernel
theorem d_X_sortByPull_93 : decode prog_1_method_49_code 93 = .ok (.lcmp, 1) := by decide +kernel
theorem d_X_sortByPull_94 : decode prog_1_method_49_code 94 = .ok (.ifCond .lt 25, 3) := by decide +kernel
theorem d_X_sortByPull_97 : decode prog_1_method_49_code 97 = .ok (.lload 6, 2) := by decide +kernel
theorem d_X_sortByPull_99 : decode prog_1_method_49_code 99 = .ok (.iload_n 3, 1) := by decide +kernel
theorem d_X_sortByPull_100 : decode prog_1_method_49_code 100 = .ok (.i2l, 1) := by decide +kernel
theorem d_X_sortByPull_101 : decode prog_1_method_49_code 101 = .ok (.lrem, 1) := by decide +kernel
theorem d_X_sortByPull_102 : decode prog_1_method_49_code 102 = .ok (.lconst 0, 1) := by decide +kernel
theorem d_X_sortByPull_103 : decode prog_1_method_49_code 103 = .ok (.lcmp, 1) := by decide +kernel
theorem d_X_sortByPull_104 : decode prog_1_method_49_code 104 = .ok (.ifCond .ne 15, 3) := by decide +kernel
theorem d_X_sortByPull_107 : decode prog_1_method_49_code 107 = .ok (.lload 6, 2) := by decide +kernel
theorem d_X_sortByPull_109 : decode prog_1_method_49_code 109 = .ok (.iload_n 3, 1) := by decide +kernel
theorem d_X_sortByPull_110 : decode prog_1_method_49_code 110 = .ok (.i2l, 1) := by decide +kernel
theorem d_X_sortByPull_111 : decode prog_1_method_49_code 111 = .ok (.ldiv, 1) := by decide +kernel
theorem d_X_sortByPull_112 : decode prog_1_method_49_code 112 = .ok (.iload 4, 2) := by decide +kernel
theorem d_X_sortByPull_114 : decode prog_1_method_49_code 114 = .ok (.i2l, 1) := by decide +kernel
theorem d_X_sortByPull_115 : decode prog_1_method_49_code 115 = .ok (.lcmp, 1) := by decide +kernel
theorem d_X_sortByPull_116 : decode prog_1_method_49_code 116 = .ok (.ifCond .lt 5, 3) := by decide +kernel
theorem d_X_sortByPull_119 : decode prog_1_method_49_code 119 = .ok (.iconst 0, 1) := by decide +kernel
theorem d_X_sortByPull_120 : decode prog_1_method_49_code 120 = .ok (.ireturn, 1) := by decide +kernel
theorem d_X_sortByPull_121 : decode prog_1_method_49_code 121 = .ok (.aload_n 0, 1) := by decide +kernel
theorem d_X_sortByPull_122 : decode prog_1_method_49_code 122 = .ok (.getfield 68, 3) := by decide +kernel
theorem d_X_sortByPull_125 : decode prog_1_method_49_code 125 = .ok (.lload 6, 2) := by decide +kernel
theorem d_X_sortByPull_127 : decode prog_1_method_49_code 127 = .ok (.iload_n 3, 1) := by decide +kernel
theorem d_X_sortByPull_128 : decode prog_1_method_49_code 128 = .ok (.i2l, 1) := by decide +kernel
theorem d_X_sortByPull_129 : decode prog_1_method_49_code 129 = .ok (.ldiv, 1) := by decide +kernel
theorem d_X_sortByPull_130 : decode prog_1_method_49_code 130 = .ok (.l2i, 1) := by decide +kernel
theorem d_X_sortByPull_131 : decode prog_1_method_49_code 131 = .ok (.dup2, 1) := by decide +kernel
theorem d_X_sortByPull_132 : decode prog_1_method_49_code 132 = .ok (.iaload, 1) := by decide +kernel
theorem d_X_sortByPull_133 : decode prog_1_method_49_code 133 = .ok (.iconst 1, 1) := by decide +kernel
theorem d_X_sortByPull_134 : decode prog_1_method_49_code 134 = .ok (.iload 5, 2) := by decide +kernel
theorem d_X_sortByPull_136 : decode prog_1_method_49_code 136 = .ok (.ishl, 1) := by decide +kernel
theorem d_X_sortByPull_137 : decode prog_1_method_49_code 137 = .ok (.ior, 1) := by decide +kernel
theorem d_X_sortByPull_138 : decode prog_1_method_49_code 138 = .ok (.iastore, 1) := by decide +kernel
theorem d_X_sortByPull_139 : decode prog_1_method_49_code 139 = .ok (.iinc 5 1, 3) := by decide +kernel
theorem d_X_sortByPull_142 : decode prog_1_method_49_code 142 = .ok (.goto (-92), 3) := by decide +kernel
theorem d_X_sortByPull_145 : decode prog_1_method_49_code 145 = .ok (.iconst 1, 1) := by decide +kernel
theorem d_X_sortByPull_146 : decode prog_1_method_49_code 146 = .ok (.ireturn, 1) := by decide +kernel
theorem d_X_pullsOfLeaf_0 : decode prog_1_method_50_code 0 = .ok (.aload_n 0, 1) := by decide +kernel
theorem d_X_pullsOfLeaf_1 : decode prog_1_method_50_code 1 = .ok (.invokevirtual 179, 3) := by decide +kernel
theorem d_X_pullsOfLeaf_4 : decode prog_1_method_50_code 4 = .ok (.iconst 0, 1) := by decide +kernel
theorem d_X_pullsOfLeaf_5 : decode prog_1_method_50_code 5 = .ok (.istore_n 1, 1) := by decide +kernel
theorem d_X_pullsOfLeaf_6 : decode prog_1_method_50_code 6 = .ok (.iconst 0, 1) := by decide +kernel
theorem d_X_pullsOfLeaf_7 : decode prog_1_method_50_code 7 = .ok (.istore_n 2, 1) := by decide +kernel
theorem d_X_pullsOfLeaf_8 : decode prog_1_method_50_code 8 = .ok (.iload_n 1, 1) := by decide +kernel
theorem d_X_pullsOfLeaf_9 : decode prog_1_method_50_code 9 = .ok (.bipush 10, 2) := by decide +kernel
theorem d_X_pullsOfLeaf_11 : decode prog_1_method_50_code 11 = .ok (.if_icmp .ge 46, 3) := by decide +kernel
theorem d_X_pullsOfLeaf_14 : decode prog_1_method_50_code 14 = .ok (.aload_n 0, 1) := by decide +kernel
theorem d_X_pullsOfLeaf_15 : decode prog_1_method_50_code 15 = .ok (.getfield 68, 3) := by decide +kernel
theorem d_X_pullsOfLeaf_18 : decode prog_1_method_50_code 18 = .ok (.iload_n 1, 1) := by decide +kernel
theorem d_X_pullsOfLeaf_19 : decode prog_1_method_50_code 19 = .ok (.iaload, 1) := by decide +kernel
theorem d_X_pullsOfLeaf_20 : decode prog_1_method_50_code 20 = .ok (.ifCond .eq 37, 3) := by decide +kernel
theorem d_X_pullsOfLeaf_23 : decode prog_1_method_50_code 23 = .ok (.aload_n 0, 1) := by decide +kernel
theorem d_X_pullsOfLeaf_24 : decode prog_1_method_50_code 24 = .ok (.getfield 33, 3) := by decide +kernel
theorem d_X_pullsOfLeaf_27 : decode prog_1_method_50_code 27 = .ok (.aload_n 0, 1) := by decide +kernel
theorem d_X_pullsOfLeaf_28 : decode prog_1_method_50_code 28 = .ok (.getfield 68, 3) := by decide +kernel
theorem d_X_pullsOfLeaf_31 : decode prog_1_method_50_code 31 = .ok (.iload_n 1, 1) := by decide +kernel
theorem d_X_pullsOfLeaf_32 : decode prog_1_method_50_code 32 = .ok (.iaload, 1) := by decide +kernel
theorem d_X_pullsOfLeaf_33 : decode prog_1_method_50_code 33 = .ok (.invokevirtual 182, 3) := by decide +kernel
theorem d_X_pullsOfLeaf_36 : decode prog_1_method_50_code 36 = .ok (.ifCond .ne 6, 3) := by decide +kernel
theorem d_X_pullsOfLeaf_39 : decode prog_1_method_50_code 39 = .ok (.bipush (-4), 2) := by decide +kernel
theorem d_X_pullsOfLeaf_41 : decode prog_1_method_50_code 41 = .ok (.ireturn, 1) := by decide +kernel
theorem d_X_pullsOfLeaf_42 : decode prog_1_method_50_code 42 = .ok (.iload_n 2, 1) := by decide +kernel
theorem d_X_pullsOfLeaf_43 : decode prog_1_method_50_code 43 = .ok (.aload_n 0, 1) := by decide +kernel
theorem d_X_pullsOfLeaf_44 : decode prog_1_method_50_code 44 = .ok (.getfield 68, 3) := by decide +kernel
theorem d_X_pullsOfLeaf_47 : decode prog_1_method_50_code 47 = .ok (.iload_n 1, 1) := by decide +kernel
theorem d_X_pullsOfLeaf_48 : decode prog_1_method_50_code 48 = .ok (.iaload, 1) := by decide +kernel
theorem d_X_pullsOfLeaf_49 : decode prog_1_method_50_code 49 = .ok (.ior, 1) := by decide +kernel
theorem d_X_pullsOfLeaf_50 : decode prog_1_method_50_code 50 = .ok (.istore_n 2, 1) := by decide +kernel
theorem d_X_pullsOfLeaf_51 : decode prog_1_method_50_code 51 = .ok (.iinc 1 1, 3) := by decide +kernel
theorem d_X_pullsOfLeaf_54 : decode prog_1_method_50_code 54 = .ok (.goto (-46), 3) := by decide +kernel
theorem d_X_pullsOfLeaf_57 : decode prog_1_method_50_code 57 = .ok (.iload_n 2, 1) := by decide +kernel
theorem d_X_pullsOfLeaf_58 : decode prog_1_method_50_code 58 = .ok (.iconst 1, 1) := by decide +kernel
theorem d_X_pullsOfLeaf_59 : decode prog_1_method_50_code 59 = .ok (.aload_n 0, 1) := by decide +kernel
theorem d_X_pullsOfLeaf_60 : decode prog_1_method_50_code 60 = .ok (.getfield 12, 3) := by decide +kernel
theorem d_X_pullsOfLeaf_63 : decode prog_1_method_50_code 63 = .ok (.getfield 139, 3) := by decide +kernel
theorem d_X_pullsOfLeaf_66 : decode prog_1_method_50_code 66 = .ok (.getfield 161, 3) := by decide +kernel
theorem d_X_pullsOfLeaf_69 : decode prog_1_method_50_code 69 = .ok (.ishl, 1) := by decide +kernel
theorem d_X_pullsOfLeaf_70 : decode prog_1_method_50_code 70 = .ok (.iconst 1, 1) := by decide +kernel
theorem d_X_pullsOfLeaf_71 : decode prog_1_method_50_code 71 = .ok (.isub, 1) := by decide +kernel
theorem d_X_pullsOfLeaf_72 : decode prog_1_method_50_code 72 = .ok (.if_icmp .ne 7, 3) := by decide +kernel
theorem d_X_pullsOfLeaf_75 : decode prog_1_method_50_code 75 = .ok (.iload_n 1, 1) := by decide +kernel
theorem d_X_pullsOfLeaf_76 : decode prog_1_method_50_code 76 = .ok (.goto 5, 3) := by decide +kernel
theorem d_X_pullsOfLeaf_79 : decode prog_1_method_50_code 79 = .ok (.bipush (-4), 2) := by decide +kernel
theorem d_X_pullsOfLeaf_81 : decode prog_1_method_50_code 81 = .ok (.ireturn, 1) := by decide +kernel
theorem d_X_leaf_0 : decode prog_1_method_28_code 0 = .ok (.aload_n 0, 1) := by decide +kernel
theorem d_X_leaf_1 : decode prog_1_method_28_code 1 = .ok (.iload_n 1, 1) := by decide +kernel
theorem d_X_leaf_2 : decode prog_1_method_28_code 2 = .ok (.iload_n 2, 1) := by decide +kernel
theorem d_X_leaf_3 : decode prog_1_method_28_code 3 = .ok (.iload_n 3, 1) := by decide +kernel
theorem d_X_leaf_4 : decode prog_1_method_28_code 4 = .ok (.aload_n 0, 1) := by decide +kernel
theorem d_X_leaf_5 : decode prog_1_method_28_code 5 = .ok (.getfield 12, 3) := by decide +kernel
theorem d_X_leaf_8 : decode prog_1_method_28_code 8 = .ok (.getfield 139, 3) := by decide +kernel
theorem d_X_leaf_11 : decode prog_1_method_28_code 11 = .ok (.getfield 161, 3) := by decide +kernel
theorem d_X_leaf_14 : decode prog_1_method_28_code 14 = .ok (.invokevirtual 258, 3) := by decide +kernel
theorem d_X_leaf_17 : decode prog_1_method_28_code 17 = .ok (.istore 4, 2) := by decide +kernel
theorem d_X_leaf_19 : decode prog_1_method_28_code 19 = .ok (.iload 4, 2) := by decide +kernel
theorem d_X_leaf_21 : decode prog_1_method_28_code 21 = .ok (.ifCond .ge 6, 3) := by decide +kernel
theorem d_X_leaf_24 : decode prog_1_method_28_code 24 = .ok (.iload 4, 2) := by decide +kernel
theorem d_X_leaf_26 : decode prog_1_method_28_code 26 = .ok (.ireturn, 1) := by decide +kernel
theorem d_X_leaf_27 : decode prog_1_method_28_code 27 = .ok (.aload_n 0, 1) := by decide +kernel
theorem d_X_leaf_28 : decode prog_1_method_28_code 28 = .ok (.getfield 12, 3) := by decide +kernel
theorem d_X_leaf_31 : decode prog_1_method_28_code 31 = .ok (.getfield 139, 3) := by decide +kernel
theorem d_X_leaf_34 : decode prog_1_method_28_code 34 = .ok (.getfield 161, 3) := by decide +kernel
theorem d_X_leaf_37 : decode prog_1_method_28_code 37 = .ok (.ifCond .eq 15, 3) := by decide +kernel
theorem d_X_leaf_40 : decode prog_1_method_28_code 40 = .ok (.aload_n 0, 1) := by decide +kernel
theorem d_X_leaf_41 : decode prog_1_method_28_code 41 = .ok (.getfield 12, 3) := by decide +kernel
theorem d_X_leaf_44 : decode prog_1_method_28_code 44 = .ok (.getfield 125, 3) := by decide +kernel
theorem d_X_leaf_47 : decode prog_1_method_28_code 47 = .ok (.iconst 1, 1) := by decide +kernel
theorem d_X_leaf_48 : decode prog_1_method_28_code 48 = .ok (.iaload, 1) := by decide +kernel
theorem d_X_leaf_49 : decode prog_1_method_28_code 49 = .ok (.ifCond .ne 6, 3) := by decide +kernel
theorem d_X_leaf_52 : decode prog_1_method_28_code 52 = .ok (.bipush (-2), 2) := by decide +kernel
theorem d_X_leaf_54 : decode prog_1_method_28_code 54 = .ok (.ireturn, 1) := by decide +kernel
theorem d_X_leaf_55 : decode prog_1_method_28_code 55 = .ok (.aload_n 0, 1) := by decide +kernel
theorem d_X_leaf_56 : decode prog_1_method_28_code 56 = .ok (.aload_n 0, 1) := by decide +kernel
theorem d_X_leaf_57 : decode prog_1_method_28_code 57 = .ok (.getfield 73, 3) := by decide +kernel
theorem d_X_leaf_60 : decode prog_1_method_28_code 60 = .ok (.iload_n 1, 1) := by decide +kernel
theorem d_X_leaf_61 : decode prog_1_method_28_code 61 = .ok (.aaload, 1) := by decide +kernel
theorem d_X_leaf_62 : decode prog_1_method_28_code 62 = .ok (.iload_n 3, 1) := by decide +kernel
theorem d_X_leaf_63 : decode prog_1_method_28_code 63 = .ok (.invokevirtual 262, 3) := by decide +kernel
theorem d_X_leaf_66 : decode prog_1_method_28_code 66 = .ok (.ifCond .eq 10, 3) := by decide +kernel
theorem d_X_leaf_69 : decode prog_1_method_28_code 69 = .ok (.aload_n 0, 1) := by decide +kernel
theorem d_X_leaf_70 : decode prog_1_method_28_code 70 = .ok (.invokevirtual 266, 3) := by decide +kernel
theorem d_X_leaf_73 : decode prog_1_method_28_code 73 = .ok (.goto 5, 3) := by decide +kernel
theorem d_X_leaf_76 : decode prog_1_method_28_code 76 = .ok (.bipush (-4), 2) := by decide +kernel
theorem d_X_leaf_78 : decode prog_1_method_28_code 78 = .ok (.ireturn, 1) := by decide +kernel
theorem d_X_refusalOfTwo_0 : decode prog_1_method_48_code 0 = .ok (.aload_n 0, 1) := by decide +kernel
theorem d_X_refusalOfTwo_1 : decode prog_1_method_48_code 1 = .ok (.getfield 291, 3) := by decide +kernel
theorem d_X_refusalOfTwo_4 : decode prog_1_method_48_code 4 = .ok (.ifCond .eq 10, 3) := by decide +kernel
theorem d_X_refusalOfTwo_7 : decode prog_1_method_48_code 7 = .ok (.aload_n 1, 1) := by decide +kernel
theorem d_X_refusalOfTwo_8 : decode prog_1_method_48_code 8 = .ok (.getfield 291, 3) := by decide +kernel
theorem d_X_refusalOfTwo_11 : decode prog_1_method_48_code 11 = .ok (.ifCond .ne 6, 3) := by decide +kernel
theorem d_X_refusalOfTwo_14 : decode prog_1_method_48_code 14 = .ok (.bipush (-11), 2) := by decide +kernel
theorem d_X_refusalOfTwo_16 : decode prog_1_method_48_code 16 = .ok (.ireturn, 1) := by decide +kernel
theorem d_X_refusalOfTwo_17 : decode prog_1_method_48_code 17 = .ok (.aload_n 0, 1) := by decide +kernel
theorem d_X_refusalOfTwo_18 : decode prog_1_method_48_code 18 = .ok (.getfield 324, 3) := by decide +kernel
theorem d_X_refusalOfTwo_21 : decode prog_1_method_48_code 21 = .ok (.aload_n 1, 1) := by decide +kernel
theorem d_X_refusalOfTwo_22 : decode prog_1_method_48_code 22 = .ok (.getfield 324, 3) := by decide +kernel
theorem d_X_refusalOfTwo_25 : decode prog_1_method_48_code 25 = .ok (.if_icmp .ne 7, 3) := by decide +kernel
theorem d_X_refusalOfTwo_28 : decode prog_1_method_48_code 28 = .ok (.iconst 0, 1) := by decide +kernel
theorem d_X_refusalOfTwo_29 : decode prog_1_method_48_code 29 = .ok (.goto 5, 3) := by decide +kernel
theorem d_X_refusalOfTwo_32 : decode prog_1_method_48_code 32 = .ok (.bipush (-12), 2) := by decide +kernel
theorem d_X_refusalOfTwo_34 : decode prog_1_method_48_code 34 = .ok (.ireturn, 1) := by decide +kernel
def f_Case_take_33_2  (μ : fw_M) : Option (fw_M) :=
  (fw_cp 10 10 μ 3 0 34 0 10).bind fun μ12 =>
  (fw_cp 10 10 μ12 4 0 35 0 10).bind fun μ27 =>
  (fw_cp 10 10 μ27 5 0 36 0 10).bind fun μ42 =>
  fw_nm (fw_wr μ42 33 3 (μ42.1 2 3)) fun (μ50 : fw_M) =>
  some μ50
set_option maxHeartbeats 4000000 in
set_option maxRecDepth 100000 in
theorem c_Case_take_33_2  {μ : fw_M} {r : fw_M} (h : f_Case_take_33_2  μ = some r) : fw_Con Y_Case_take fw_X 1 [.ref 33, .ref 2] none μ r := by
  refine fw_con (by decide) (Nat.le_of_ble_eq_true rfl) ?_
  rw [f_Case_take_33_2] at h
  show fw_R "FewTypes$Case" prog_2_method_6_code 2 none fw_X 1 none r 0 [(0, .ref 33), (1, .ref 2)] [] μ
  refine fw_aload_n (pc := 0) d_Case_take_0 1 rfl rfl ?_
  refine fw_getR (pc := 1) d_Case_take_1 fl_Case_9 fw_X2 rfl ?_
  refine fw_iconst (pc := 4) d_Case_take_4 fw_ic0 ?_
  refine fw_aload_n (pc := 5) d_Case_take_5 0 rfl rfl ?_
  refine fw_getR (pc := 6) d_Case_take_6 fl_Case_9 fw_X33 rfl ?_
  refine fw_iconst (pc := 9) d_Case_take_9 fw_ic0 ?_
  refine fw_bipush (pc := 10) d_Case_take_10 fw_bp10 ?_
  obtain ⟨μ12, e12, h⟩ := fw_be h
  refine fw_acpI (pc := 12) d_Case_take_12 ma_Case_32 fw_X3 fw_X34 e12 (by decide) (Nat.le_of_ble_eq_true rfl) ?_
  refine fw_aload_n (pc := 15) d_Case_take_15 1 rfl rfl ?_
  refine fw_getR (pc := 16) d_Case_take_16 fl_Case_15 fw_X2 rfl ?_
  refine fw_iconst (pc := 19) d_Case_take_19 fw_ic0 ?_
  refine fw_aload_n (pc := 20) d_Case_take_20 0 rfl rfl ?_
  refine fw_getR (pc := 21) d_Case_take_21 fl_Case_15 fw_X33 rfl ?_
  refine fw_iconst (pc := 24) d_Case_take_24 fw_ic0 ?_
  refine fw_bipush (pc := 25) d_Case_take_25 fw_bp10 ?_
  obtain ⟨μ27, e27, h⟩ := fw_be h
  refine fw_acpI (pc := 27) d_Case_take_27 ma_Case_32 fw_X4 fw_X35 e27 (by decide) (Nat.le_of_ble_eq_true rfl) ?_
  refine fw_aload_n (pc := 30) d_Case_take_30 1 rfl rfl ?_
  refine fw_getR (pc := 31) d_Case_take_31 fl_Case_18 fw_X2 rfl ?_
  refine fw_iconst (pc := 34) d_Case_take_34 fw_ic0 ?_
  refine fw_aload_n (pc := 35) d_Case_take_35 0 rfl rfl ?_
  refine fw_getR (pc := 36) d_Case_take_36 fl_Case_18 fw_X33 rfl ?_
  refine fw_iconst (pc := 39) d_Case_take_39 fw_ic0 ?_
  refine fw_bipush (pc := 40) d_Case_take_40 fw_bp10 ?_
  obtain ⟨μ42, e42, h⟩ := fw_be h
  refine fw_acpI (pc := 42) d_Case_take_42 ma_Case_32 fw_X5 fw_X36 e42 (by decide) (Nat.le_of_ble_eq_true rfl) ?_
  refine fw_aload_n (pc := 45) d_Case_take_45 0 rfl rfl ?_
  refine fw_aload_n (pc := 46) d_Case_take_46 1 rfl rfl ?_
  refine fw_getI (pc := 47) d_Case_take_47 fl_Case_21 fw_X2 rfl ?_
  obtain ⟨μ50, e50, h⟩ := fw_ne h
  refine fw_putI (pc := 50) d_Case_take_50 fp_Case_21 fw_X33 rfl (fw_mem e50 ?_)
  obtain rfl := Option.some.inj h
  exact fw_vret (pc := 53) d_Case_take_53 rfl
def f_Jobs_take_59_28  (μ : fw_M) : Option (fw_M) :=
  (fw_cp 8 8 μ 29 0 60 0 8).bind fun μ12 =>
  (fw_cp 8 8 μ12 30 0 61 0 8).bind fun μ27 =>
  fw_nm (fw_wr μ27 59 3 (μ27.1 28 3)) fun (μ35 : fw_M) =>
  some μ35
set_option maxHeartbeats 4000000 in
set_option maxRecDepth 100000 in
theorem c_Jobs_take_59_28  {μ : fw_M} {r : fw_M} (h : f_Jobs_take_59_28  μ = some r) : fw_Con Y_Jobs_take fw_X 1 [.ref 59, .ref 28] none μ r := by
  refine fw_con (by decide) (Nat.le_of_ble_eq_true rfl) ?_
  rw [f_Jobs_take_59_28] at h
  show fw_R "FewTypes$Jobs" prog_3_method_3_code 2 none fw_X 1 none r 0 [(0, .ref 59), (1, .ref 28)] [] μ
  refine fw_aload_n (pc := 0) d_Jobs_take_0 1 rfl rfl ?_
  refine fw_getR (pc := 1) d_Jobs_take_1 fl_Jobs_9 fw_X28 rfl ?_
  refine fw_iconst (pc := 4) d_Jobs_take_4 fw_ic0 ?_
  refine fw_aload_n (pc := 5) d_Jobs_take_5 0 rfl rfl ?_
  refine fw_getR (pc := 6) d_Jobs_take_6 fl_Jobs_9 fw_X59 rfl ?_
  refine fw_iconst (pc := 9) d_Jobs_take_9 fw_ic0 ?_
  refine fw_bipush (pc := 10) d_Jobs_take_10 fw_bp8 ?_
  obtain ⟨μ12, e12, h⟩ := fw_be h
  refine fw_acpI (pc := 12) d_Jobs_take_12 ma_Jobs_25 fw_X29 fw_X60 e12 (by decide) (Nat.le_of_ble_eq_true rfl) ?_
  refine fw_aload_n (pc := 15) d_Jobs_take_15 1 rfl rfl ?_
  refine fw_getR (pc := 16) d_Jobs_take_16 fl_Jobs_15 fw_X28 rfl ?_
  refine fw_iconst (pc := 19) d_Jobs_take_19 fw_ic0 ?_
  refine fw_aload_n (pc := 20) d_Jobs_take_20 0 rfl rfl ?_
  refine fw_getR (pc := 21) d_Jobs_take_21 fl_Jobs_15 fw_X59 rfl ?_
  refine fw_iconst (pc := 24) d_Jobs_take_24 fw_ic0 ?_
  refine fw_bipush (pc := 25) d_Jobs_take_25 fw_bp8 ?_
  obtain ⟨μ27, e27, h⟩ := fw_be h
  refine fw_acpI (pc := 27) d_Jobs_take_27 ma_Jobs_25 fw_X30 fw_X61 e27 (by decide) (Nat.le_of_ble_eq_true rfl) ?_
  refine fw_aload_n (pc := 30) d_Jobs_take_30 0 rfl rfl ?_
  refine fw_aload_n (pc := 31) d_Jobs_take_31 1 rfl rfl ?_
  refine fw_getI (pc := 32) d_Jobs_take_32 fl_Jobs_21 fw_X28 rfl ?_
  obtain ⟨μ35, e35, h⟩ := fw_ne h
  refine fw_putI (pc := 35) d_Jobs_take_35 fp_Jobs_21 fw_X59 rfl (fw_mem e35 ?_)
  obtain rfl := Option.some.inj h
  exact fw_vret (pc := 38) d_Jobs_take_38 rfl
def f_Shop_take_32_1_L53  : Int32 × fw_M → Option ((Int32 × fw_M) ⊕ (fw_M))
  | (x2_53, μ53) =>
  if 8 ≤ x2_53 then
    some (.inr μ53)
  else
    (fw_rq 8 [42, 44, 46, 48, 50, 52, 54, 56] x2_53).bind fun r64 =>
    if fw_okL r64 then
      (fw_rq 8 [11, 13, 15, 17, 19, 21, 23, 25] x2_53).bind fun r70 =>
      if fw_okL r70 then
        (f_Line_take r64 r70 μ53).bind fun (p71 : fw_M) =>
        fw_nm (x2_53 + 1) fun (v74 : Int32) =>
        some (.inl (v74, p71))
      else none
    else none
def f_Shop_take_32_1  (μ : fw_M) : Option (fw_M) :=
  (f_Case_take_33_2 μ).bind fun (p8 : fw_M) =>
  (f_Line_take 37 6 p8).bind fun (p19 : fw_M) =>
  (fw_cp 12 12 p19 8 0 39 0 12).bind fun μ34 =>
  (fw_cp 3 3 μ34 9 0 40 0 3).bind fun μ48 =>
  (fw_wh (f_Shop_take_32_1_L53) fw_N (0, μ48)).bind fun (e53x : fw_M) =>
  (fw_cp 8 8 e53x 27 0 58 0 8).bind fun μ92 =>
  fw_nm (fw_wr μ92 32 6 (μ92.1 1 6)) fun (μ100 : fw_M) =>
  (f_Jobs_take_59_28 μ100).bind fun (p111 : fw_M) =>
  some p111
set_option maxHeartbeats 4000000 in
set_option maxRecDepth 100000 in
theorem c_Shop_take_32_1  {μ : fw_M} {r : fw_M} (h : f_Shop_take_32_1  μ = some r) : fw_Con Y_Shop_take fw_X 2 [.ref 32, .ref 1] none μ r := by
  refine fw_con (by decide) (Nat.le_of_ble_eq_true rfl) ?_
  rw [f_Shop_take_32_1] at h
  show fw_R "FewTypes$Shop" prog_8_method_3_code 3 none fw_X 2 none r 0 [(0, .ref 32), (1, .ref 1)] [] μ
  refine fw_aload_n (pc := 0) d_Shop_take_0 0 rfl rfl ?_
  refine fw_getR (pc := 1) d_Shop_take_1 fl_Shop_12 fw_X32 rfl ?_
  refine fw_aload_n (pc := 4) d_Shop_take_4 1 rfl rfl ?_
  refine fw_getR (pc := 5) d_Shop_take_5 fl_Shop_12 fw_X1 rfl ?_
  obtain ⟨p8, e8, h⟩ := fw_be h
  refine fw_callVv (pc := 8) d_Shop_take_8 mv_Shop_65 fw_X33 (c_Case_take_33_2 e8) (by decide) rfl rfl (Nat.le_of_ble_eq_true rfl) ?_
  refine fw_aload_n (pc := 11) d_Shop_take_11 0 rfl rfl ?_
  refine fw_getR (pc := 12) d_Shop_take_12 fl_Shop_21 fw_X32 rfl ?_
  refine fw_aload_n (pc := 15) d_Shop_take_15 1 rfl rfl ?_
  refine fw_getR (pc := 16) d_Shop_take_16 fl_Shop_21 fw_X1 rfl ?_
  obtain ⟨p19, e19, h⟩ := fw_be h
  refine fw_callVv (pc := 19) d_Shop_take_19 mv_Shop_69 fw_X37 (c_Line_take e19) (by decide) rfl rfl (Nat.le_of_ble_eq_true rfl) ?_
  refine fw_aload_n (pc := 22) d_Shop_take_22 1 rfl rfl ?_
  refine fw_getR (pc := 23) d_Shop_take_23 fl_Shop_25 fw_X1 rfl ?_
  refine fw_iconst (pc := 26) d_Shop_take_26 fw_ic0 ?_
  refine fw_aload_n (pc := 27) d_Shop_take_27 0 rfl rfl ?_
  refine fw_getR (pc := 28) d_Shop_take_28 fl_Shop_25 fw_X32 rfl ?_
  refine fw_iconst (pc := 31) d_Shop_take_31 fw_ic0 ?_
  refine fw_bipush (pc := 32) d_Shop_take_32 fw_bp12 ?_
  obtain ⟨μ34, e34, h⟩ := fw_be h
  refine fw_acpI (pc := 34) d_Shop_take_34 ma_Shop_59 fw_X8 fw_X39 e34 (by decide) (Nat.le_of_ble_eq_true rfl) ?_
  refine fw_aload_n (pc := 37) d_Shop_take_37 1 rfl rfl ?_
  refine fw_getR (pc := 38) d_Shop_take_38 fl_Shop_29 fw_X1 rfl ?_
  refine fw_iconst (pc := 41) d_Shop_take_41 fw_ic0 ?_
  refine fw_aload_n (pc := 42) d_Shop_take_42 0 rfl rfl ?_
  refine fw_getR (pc := 43) d_Shop_take_43 fl_Shop_29 fw_X32 rfl ?_
  refine fw_iconst (pc := 46) d_Shop_take_46 fw_ic0 ?_
  refine fw_iconst (pc := 47) d_Shop_take_47 fw_ic3 ?_
  obtain ⟨μ48, e48, h⟩ := fw_be h
  refine fw_acpI (pc := 48) d_Shop_take_48 ma_Shop_59 fw_X9 fw_X40 e48 (by decide) (Nat.le_of_ble_eq_true rfl) ?_
  refine fw_iconst (pc := 51) d_Shop_take_51 fw_ic0 ?_
  refine fw_istore_n (pc := 52) (lv1 := [(2, .int 0), (0, .ref 32), (1, .ref 1)]) d_Shop_take_52 rfl (by decide) rfl ?_
  obtain ⟨e53x, w53, h⟩ := fw_be h
  have hE53 : fw_R "FewTypes$Shop" prog_8_method_3_code 3 none fw_X 2 none r 80 [(0, .ref 32), (1, .ref 1)] [] e53x := by
    refine fw_aload_n (pc := 80) d_Shop_take_80 1 rfl rfl ?_
    refine fw_getR (pc := 81) d_Shop_take_81 fl_Shop_36 fw_X1 rfl ?_
    refine fw_iconst (pc := 84) d_Shop_take_84 fw_ic0 ?_
    refine fw_aload_n (pc := 85) d_Shop_take_85 0 rfl rfl ?_
    refine fw_getR (pc := 86) d_Shop_take_86 fl_Shop_36 fw_X32 rfl ?_
    refine fw_iconst (pc := 89) d_Shop_take_89 fw_ic0 ?_
    refine fw_bipush (pc := 90) d_Shop_take_90 fw_bp8 ?_
    obtain ⟨μ92, e92, h⟩ := fw_be h
    refine fw_acpI (pc := 92) d_Shop_take_92 ma_Shop_59 fw_X27 fw_X58 e92 (by decide) (Nat.le_of_ble_eq_true rfl) ?_
    refine fw_aload_n (pc := 95) d_Shop_take_95 0 rfl rfl ?_
    refine fw_aload_n (pc := 96) d_Shop_take_96 1 rfl rfl ?_
    refine fw_getI (pc := 97) d_Shop_take_97 fl_Shop_39 fw_X1 rfl ?_
    obtain ⟨μ100, e100, h⟩ := fw_ne h
    refine fw_putI (pc := 100) d_Shop_take_100 fp_Shop_39 fw_X32 rfl (fw_mem e100 ?_)
    refine fw_aload_n (pc := 103) d_Shop_take_103 0 rfl rfl ?_
    refine fw_getR (pc := 104) d_Shop_take_104 fl_Shop_46 fw_X32 rfl ?_
    refine fw_aload_n (pc := 107) d_Shop_take_107 1 rfl rfl ?_
    refine fw_getR (pc := 108) d_Shop_take_108 fl_Shop_46 fw_X1 rfl ?_
    obtain ⟨p111, e111, h⟩ := fw_be h
    refine fw_callVv (pc := 111) d_Shop_take_111 mv_Shop_72 fw_X59 (c_Jobs_take_59_28 e111) (by decide) rfl rfl (Nat.le_of_ble_eq_true rfl) ?_
    obtain rfl := Option.some.inj h
    exact fw_vret (pc := 114) d_Shop_take_114 rfl
  clear h
  exact fw_sub [1, 2, 0] rfl (fw_we (e := e53x) (fun (s : Int32 × fw_M) => fw_R "FewTypes$Shop" prog_8_method_3_code 3 none fw_X 2 none r 53 [(0, .ref 32), (1, .ref 1), (2, .int s.1)] [] s.2) (by
    intro s x h hl hr
    obtain ⟨x2_53, μ53⟩ := s
    rw [f_Shop_take_32_1_L53] at h
    show fw_R "FewTypes$Shop" prog_8_method_3_code 3 none fw_X 2 none r 53 [(0, .ref 32), (1, .ref 1), (2, .int x2_53)] [] μ53
    refine fw_iload_n (pc := 53) d_Shop_take_53 2 rfl rfl ?_
    refine fw_bipush (pc := 54) d_Shop_take_54 fw_bp8 ?_
    refine fw_icmp_ge (pc := 56) (tgt := 80) d_Shop_take_56 rfl (fun hc => ?_) (fun hc => ?_)
    · have h := fw_it hc h
      obtain rfl := Option.some.inj h
      have he := hr _ rfl
      subst he
      exact fw_sub [0, 1] rfl hE53
    · have h := fw_if hc h
      refine fw_aload_n (pc := 59) d_Shop_take_59 0 rfl rfl ?_
      refine fw_getR (pc := 60) d_Shop_take_60 fl_Shop_32 fw_X32 rfl ?_
      refine fw_iload_n (pc := 63) d_Shop_take_63 2 rfl rfl ?_
      obtain ⟨r64, e64, h⟩ := fw_be h
      obtain ⟨o64, h⟩ := fw_gu h
      refine fw_aald 0 (pc := 64) d_Shop_take_64 (fun _ => rfl) fw_X41 e64 ?_
      refine fw_aload_n (pc := 65) d_Shop_take_65 1 rfl rfl ?_
      refine fw_getR (pc := 66) d_Shop_take_66 fl_Shop_32 fw_X1 rfl ?_
      refine fw_iload_n (pc := 69) d_Shop_take_69 2 rfl rfl ?_
      obtain ⟨r70, e70, h⟩ := fw_be h
      obtain ⟨o70, h⟩ := fw_gu h
      refine fw_aald 0 (pc := 70) d_Shop_take_70 (fun _ => rfl) fw_X10 e70 ?_
      obtain ⟨p71, e71, h⟩ := fw_be h
      refine fw_callVv (pc := 71) d_Shop_take_71 mv_Shop_69 o64.1 (c_Line_take e71) (by decide) rfl rfl (Nat.le_of_ble_eq_true rfl) ?_
      obtain ⟨v74, e74, h⟩ := fw_ne h
      refine fw_iinc2 (pc := 74) (j := 2) (lv1 := [(2, .int v74), (0, .ref 32), (1, .ref 1)]) d_Shop_take_74 rfl fw_ic1 e74 (by decide) rfl ?_
      refine fw_goto (pc := 77) (tgt := 53) d_Shop_take_77 rfl ?_
      obtain rfl := Option.some.inj h
      exact fw_sub [1, 2, 0] rfl (hl _ rfl)
    ) _ _ w53)
def f_X_image  (μ : fw_M) : Option (Int32 × fw_M) :=
  (f_Shop_take_32_1 μ).bind fun (p8 : fw_M) =>
  fw_nm (fw_wr p8 0 2 1) fun (μ13 : fw_M) =>
  some (1, μ13)
set_option maxHeartbeats 4000000 in
set_option maxRecDepth 100000 in
theorem c_X_image  {μ : fw_M} {r : Int32 × fw_M} (h : f_X_image  μ = some r) : fw_Con Y_X_image fw_X 3 [.ref 0] (some r.1) μ r.2 := by
  refine fw_con (by decide) (Nat.le_of_ble_eq_true rfl) ?_
  rw [f_X_image] at h
  show fw_R "FewTypes" prog_1_method_26_code 1 (some .int) fw_X 3 (some r.1) r.2 0 [(0, .ref 0)] [] μ
  refine fw_aload_n (pc := 0) d_X_image_0 0 rfl rfl ?_
  refine fw_getR (pc := 1) d_X_image_1 fl_X_16 fw_X0 rfl ?_
  refine fw_aload_n (pc := 4) d_X_image_4 0 rfl rfl ?_
  refine fw_getR (pc := 5) d_X_image_5 fl_X_12 fw_X0 rfl ?_
  obtain ⟨p8, e8, h⟩ := fw_be h
  refine fw_callVv (pc := 8) d_X_image_8 mv_X_255 fw_X32 (c_Shop_take_32_1 e8) (by decide) rfl rfl (Nat.le_of_ble_eq_true rfl) ?_
  refine fw_aload_n (pc := 11) d_X_image_11 0 rfl rfl ?_
  refine fw_iconst (pc := 12) d_X_image_12 fw_ic1 ?_
  obtain ⟨μ13, e13, h⟩ := fw_ne h
  refine fw_putZ (pc := 13) d_X_image_13 fw_bz1 fp_X_19 fw_X0 rfl (fw_mem e13 ?_)
  refine fw_iconst (pc := 16) d_X_image_16 fw_ic1 ?_
  obtain rfl := Option.some.inj h
  exact fw_iret (pc := 17) d_X_image_17 rfl
def f_Case_take_2_33  (μ : fw_M) : Option (fw_M) :=
  (fw_cp 10 10 μ 34 0 3 0 10).bind fun μ12 =>
  (fw_cp 10 10 μ12 35 0 4 0 10).bind fun μ27 =>
  (fw_cp 10 10 μ27 36 0 5 0 10).bind fun μ42 =>
  fw_nm (fw_wr μ42 2 3 (μ42.1 33 3)) fun (μ50 : fw_M) =>
  some μ50
set_option maxHeartbeats 4000000 in
set_option maxRecDepth 100000 in
theorem c_Case_take_2_33  {μ : fw_M} {r : fw_M} (h : f_Case_take_2_33  μ = some r) : fw_Con Y_Case_take fw_X 1 [.ref 2, .ref 33] none μ r := by
  refine fw_con (by decide) (Nat.le_of_ble_eq_true rfl) ?_
  rw [f_Case_take_2_33] at h
  show fw_R "FewTypes$Case" prog_2_method_6_code 2 none fw_X 1 none r 0 [(0, .ref 2), (1, .ref 33)] [] μ
  refine fw_aload_n (pc := 0) d_Case_take_0 1 rfl rfl ?_
  refine fw_getR (pc := 1) d_Case_take_1 fl_Case_9 fw_X33 rfl ?_
  refine fw_iconst (pc := 4) d_Case_take_4 fw_ic0 ?_
  refine fw_aload_n (pc := 5) d_Case_take_5 0 rfl rfl ?_
  refine fw_getR (pc := 6) d_Case_take_6 fl_Case_9 fw_X2 rfl ?_
  refine fw_iconst (pc := 9) d_Case_take_9 fw_ic0 ?_
  refine fw_bipush (pc := 10) d_Case_take_10 fw_bp10 ?_
  obtain ⟨μ12, e12, h⟩ := fw_be h
  refine fw_acpI (pc := 12) d_Case_take_12 ma_Case_32 fw_X34 fw_X3 e12 (by decide) (Nat.le_of_ble_eq_true rfl) ?_
  refine fw_aload_n (pc := 15) d_Case_take_15 1 rfl rfl ?_
  refine fw_getR (pc := 16) d_Case_take_16 fl_Case_15 fw_X33 rfl ?_
  refine fw_iconst (pc := 19) d_Case_take_19 fw_ic0 ?_
  refine fw_aload_n (pc := 20) d_Case_take_20 0 rfl rfl ?_
  refine fw_getR (pc := 21) d_Case_take_21 fl_Case_15 fw_X2 rfl ?_
  refine fw_iconst (pc := 24) d_Case_take_24 fw_ic0 ?_
  refine fw_bipush (pc := 25) d_Case_take_25 fw_bp10 ?_
  obtain ⟨μ27, e27, h⟩ := fw_be h
  refine fw_acpI (pc := 27) d_Case_take_27 ma_Case_32 fw_X35 fw_X4 e27 (by decide) (Nat.le_of_ble_eq_true rfl) ?_
  refine fw_aload_n (pc := 30) d_Case_take_30 1 rfl rfl ?_
  refine fw_getR (pc := 31) d_Case_take_31 fl_Case_18 fw_X33 rfl ?_
  refine fw_iconst (pc := 34) d_Case_take_34 fw_ic0 ?_
  refine fw_aload_n (pc := 35) d_Case_take_35 0 rfl rfl ?_
  refine fw_getR (pc := 36) d_Case_take_36 fl_Case_18 fw_X2 rfl ?_
  refine fw_iconst (pc := 39) d_Case_take_39 fw_ic0 ?_
  refine fw_bipush (pc := 40) d_Case_take_40 fw_bp10 ?_
  obtain ⟨μ42, e42, h⟩ := fw_be h
  refine fw_acpI (pc := 42) d_Case_take_42 ma_Case_32 fw_X36 fw_X5 e42 (by decide) (Nat.le_of_ble_eq_true rfl) ?_
  refine fw_aload_n (pc := 45) d_Case_take_45 0 rfl rfl ?_
  refine fw_aload_n (pc := 46) d_Case_take_46 1 rfl rfl ?_
  refine fw_getI (pc := 47) d_Case_take_47 fl_Case_21 fw_X33 rfl ?_
  obtain ⟨μ50, e50, h⟩ := fw_ne h
  refine fw_putI (pc := 50) d_Case_take_50 fp_Case_21 fw_X2 rfl (fw_mem e50 ?_)
  obtain rfl := Option.some.inj h
  exact fw_vret (pc := 53) d_Case_take_53 rfl
def f_Jobs_take_28_59  (μ : fw_M) : Option (fw_M) :=
  (fw_cp 8 8 μ 60 0 29 0 8).bind fun μ12 =>
  (fw_cp 8 8 μ12 61 0 30 0 8).bind fun μ27 =>
  fw_nm (fw_wr μ27 28 3 (μ27.1 59 3)) fun (μ35 : fw_M) =>
  some μ35
set_option maxHeartbeats 4000000 in
set_option maxRecDepth 100000 in
theorem c_Jobs_take_28_59  {μ : fw_M} {r : fw_M} (h : f_Jobs_take_28_59  μ = some r) : fw_Con Y_Jobs_take fw_X 1 [.ref 28, .ref 59] none μ r := by
  refine fw_con (by decide) (Nat.le_of_ble_eq_true rfl) ?_
  rw [f_Jobs_take_28_59] at h
  show fw_R "FewTypes$Jobs" prog_3_method_3_code 2 none fw_X 1 none r 0 [(0, .ref 28), (1, .ref 59)] [] μ
  refine fw_aload_n (pc := 0) d_Jobs_take_0 1 rfl rfl ?_
  refine fw_getR (pc := 1) d_Jobs_take_1 fl_Jobs_9 fw_X59 rfl ?_
  refine fw_iconst (pc := 4) d_Jobs_take_4 fw_ic0 ?_
  refine fw_aload_n (pc := 5) d_Jobs_take_5 0 rfl rfl ?_
  refine fw_getR (pc := 6) d_Jobs_take_6 fl_Jobs_9 fw_X28 rfl ?_
  refine fw_iconst (pc := 9) d_Jobs_take_9 fw_ic0 ?_
  refine fw_bipush (pc := 10) d_Jobs_take_10 fw_bp8 ?_
  obtain ⟨μ12, e12, h⟩ := fw_be h
  refine fw_acpI (pc := 12) d_Jobs_take_12 ma_Jobs_25 fw_X60 fw_X29 e12 (by decide) (Nat.le_of_ble_eq_true rfl) ?_
  refine fw_aload_n (pc := 15) d_Jobs_take_15 1 rfl rfl ?_
  refine fw_getR (pc := 16) d_Jobs_take_16 fl_Jobs_15 fw_X59 rfl ?_
  refine fw_iconst (pc := 19) d_Jobs_take_19 fw_ic0 ?_
  refine fw_aload_n (pc := 20) d_Jobs_take_20 0 rfl rfl ?_
  refine fw_getR (pc := 21) d_Jobs_take_21 fl_Jobs_15 fw_X28 rfl ?_
  refine fw_iconst (pc := 24) d_Jobs_take_24 fw_ic0 ?_
  refine fw_bipush (pc := 25) d_Jobs_take_25 fw_bp8 ?_
  obtain ⟨μ27, e27, h⟩ := fw_be h
  refine fw_acpI (pc := 27) d_Jobs_take_27 ma_Jobs_25 fw_X61 fw_X30 e27 (by decide) (Nat.le_of_ble_eq_true rfl) ?_
  refine fw_aload_n (pc := 30) d_Jobs_take_30 0 rfl rfl ?_
  refine fw_aload_n (pc := 31) d_Jobs_take_31 1 rfl rfl ?_
  refine fw_getI (pc := 32) d_Jobs_take_32 fl_Jobs_21 fw_X59 rfl ?_
  obtain ⟨μ35, e35, h⟩ := fw_ne h
  refine fw_putI (pc := 35) d_Jobs_take_35 fp_Jobs_21 fw_X28 rfl (fw_mem e35 ?_)
  obtain rfl := Option.some.inj h
  exact fw_vret (pc := 38) d_Jobs_take_38 rfl
def f_Shop_take_1_32_L53  : Int32 × fw_M → Option ((Int32 × fw_M) ⊕ (fw_M))
  | (x2_53, μ53) =>
  if 8 ≤ x2_53 then
    some (.inr μ53)
  else
    (fw_rq 8 [11, 13, 15, 17, 19, 21, 23, 25] x2_53).bind fun r64 =>
    if fw_okL r64 then
      (fw_rq 8 [42, 44, 46, 48, 50, 52, 54, 56] x2_53).bind fun r70 =>
      if fw_okL r70 then
        (f_Line_take r64 r70 μ53).bind fun (p71 : fw_M) =>
        fw_nm (x2_53 + 1) fun (v74 : Int32) =>
        some (.inl (v74, p71))
      else none
    else none
def f_Shop_take_1_32  (μ : fw_M) : Option (fw_M) :=
  (f_Case_take_2_33 μ).bind fun (p8 : fw_M) =>
  (f_Line_take 6 37 p8).bind fun (p19 : fw_M) =>
  (fw_cp 12 12 p19 39 0 8 0 12).bind fun μ34 =>
  (fw_cp 3 3 μ34 40 0 9 0 3).bind fun μ48 =>
  (fw_wh (f_Shop_take_1_32_L53) fw_N (0, μ48)).bind fun (e53x : fw_M) =>
  (fw_cp 8 8 e53x 58 0 27 0 8).bind fun μ92 =>
  fw_nm (fw_wr μ92 1 6 (μ92.1 32 6)) fun (μ100 : fw_M) =>
  (f_Jobs_take_28_59 μ100).bind fun (p111 : fw_M) =>
  some p111
set_option maxHeartbeats 4000000 in
set_option maxRecDepth 100000 in
theorem c_Shop_take_1_32  {μ : fw_M} {r : fw_M} (h : f_Shop_take_1_32  μ = some r) : fw_Con Y_Shop_take fw_X 2 [.ref 1, .ref 32] none μ r := by
  refine fw_con (by decide) (Nat.le_of_ble_eq_true rfl) ?_
  rw [f_Shop_take_1_32] at h
  show fw_R "FewTypes$Shop" prog_8_method_3_code 3 none fw_X 2 none r 0 [(0, .ref 1), (1, .ref 32)] [] μ
  refine fw_aload_n (pc := 0) d_Shop_take_0 0 rfl rfl ?_
  refine fw_getR (pc := 1) d_Shop_take_1 fl_Shop_12 fw_X1 rfl ?_
  refine fw_aload_n (pc := 4) d_Shop_take_4 1 rfl rfl ?_
  refine fw_getR (pc := 5) d_Shop_take_5 fl_Shop_12 fw_X32 rfl ?_
  obtain ⟨p8, e8, h⟩ := fw_be h
  refine fw_callVv (pc := 8) d_Shop_take_8 mv_Shop_65 fw_X2 (c_Case_take_2_33 e8) (by decide) rfl rfl (Nat.le_of_ble_eq_true rfl) ?_
  refine fw_aload_n (pc := 11) d_Shop_take_11 0 rfl rfl ?_
  refine fw_getR (pc := 12) d_Shop_take_12 fl_Shop_21 fw_X1 rfl ?_
  refine fw_aload_n (pc := 15) d_Shop_take_15 1 rfl rfl ?_
  refine fw_getR (pc := 16) d_Shop_take_16 fl_Shop_21 fw_X32 rfl ?_
  obtain ⟨p19, e19, h⟩ := fw_be h
  refine fw_callVv (pc := 19) d_Shop_take_19 mv_Shop_69 fw_X6 (c_Line_take e19) (by decide) rfl rfl (Nat.le_of_ble_eq_true rfl) ?_
  refine fw_aload_n (pc := 22) d_Shop_take_22 1 rfl rfl ?_
  refine fw_getR (pc := 23) d_Shop_take_23 fl_Shop_25 fw_X32 rfl ?_
  refine fw_iconst (pc := 26) d_Shop_take_26 fw_ic0 ?_
  refine fw_aload_n (pc := 27) d_Shop_take_27 0 rfl rfl ?_
  refine fw_getR (pc := 28) d_Shop_take_28 fl_Shop_25 fw_X1 rfl ?_
  refine fw_iconst (pc := 31) d_Shop_take_31 fw_ic0 ?_
  refine fw_bipush (pc := 32) d_Shop_take_32 fw_bp12 ?_
  obtain ⟨μ34, e34, h⟩ := fw_be h
  refine fw_acpI (pc := 34) d_Shop_take_34 ma_Shop_59 fw_X39 fw_X8 e34 (by decide) (Nat.le_of_ble_eq_true rfl) ?_
  refine fw_aload_n (pc := 37) d_Shop_take_37 1 rfl rfl ?_
  refine fw_getR (pc := 38) d_Shop_take_38 fl_Shop_29 fw_X32 rfl ?_
  refine fw_iconst (pc := 41) d_Shop_take_41 fw_ic0 ?_
  refine fw_aload_n (pc := 42) d_Shop_take_42 0 rfl rfl ?_
  refine fw_getR (pc := 43) d_Shop_take_43 fl_Shop_29 fw_X1 rfl ?_
  refine fw_iconst (pc := 46) d_Shop_take_46 fw_ic0 ?_
  refine fw_iconst (pc := 47) d_Shop_take_47 fw_ic3 ?_
  obtain ⟨μ48, e48, h⟩ := fw_be h
  refine fw_acpI (pc := 48) d_Shop_take_48 ma_Shop_59 fw_X40 fw_X9 e48 (by decide) (Nat.le_of_ble_eq_true rfl) ?_
  refine fw_iconst (pc := 51) d_Shop_take_51 fw_ic0 ?_
  refine fw_istore_n (pc := 52) (lv1 := [(2, .int 0), (0, .ref 1), (1, .ref 32)]) d_Shop_take_52 rfl (by decide) rfl ?_
  obtain ⟨e53x, w53, h⟩ := fw_be h
  have hE53 : fw_R "FewTypes$Shop" prog_8_method_3_code 3 none fw_X 2 none r 80 [(0, .ref 1), (1, .ref 32)] [] e53x := by
    refine fw_aload_n (pc := 80) d_Shop_take_80 1 rfl rfl ?_
    refine fw_getR (pc := 81) d_Shop_take_81 fl_Shop_36 fw_X32 rfl ?_
    refine fw_iconst (pc := 84) d_Shop_take_84 fw_ic0 ?_
    refine fw_aload_n (pc := 85) d_Shop_take_85 0 rfl rfl ?_
    refine fw_getR (pc := 86) d_Shop_take_86 fl_Shop_36 fw_X1 rfl ?_
    refine fw_iconst (pc := 89) d_Shop_take_89 fw_ic0 ?_
    refine fw_bipush (pc := 90) d_Shop_take_90 fw_bp8 ?_
    obtain ⟨μ92, e92, h⟩ := fw_be h
    refine fw_acpI (pc := 92) d_Shop_take_92 ma_Shop_59 fw_X58 fw_X27 e92 (by decide) (Nat.le_of_ble_eq_true rfl) ?_
    refine fw_aload_n (pc := 95) d_Shop_take_95 0 rfl rfl ?_
    refine fw_aload_n (pc := 96) d_Shop_take_96 1 rfl rfl ?_
    refine fw_getI (pc := 97) d_Shop_take_97 fl_Shop_39 fw_X32 rfl ?_
    obtain ⟨μ100, e100, h⟩ := fw_ne h
    refine fw_putI (pc := 100) d_Shop_take_100 fp_Shop_39 fw_X1 rfl (fw_mem e100 ?_)
    refine fw_aload_n (pc := 103) d_Shop_take_103 0 rfl rfl ?_
    refine fw_getR (pc := 104) d_Shop_take_104 fl_Shop_46 fw_X1 rfl ?_
    refine fw_aload_n (pc := 107) d_Shop_take_107 1 rfl rfl ?_
    refine fw_getR (pc := 108) d_Shop_take_108 fl_Shop_46 fw_X32 rfl ?_
    obtain ⟨p111, e111, h⟩ := fw_be h
    refine fw_callVv (pc := 111) d_Shop_take_111 mv_Shop_72 fw_X28 (c_Jobs_take_28_59 e111) (by decide) rfl rfl (Nat.le_of_ble_eq_true rfl) ?_
    obtain rfl := Option.some.inj h
    exact fw_vret (pc := 114) d_Shop_take_114 rfl
  clear h
  exact fw_sub [1, 2, 0] rfl (fw_we (e := e53x) (fun (s : Int32 × fw_M) => fw_R "FewTypes$Shop" prog_8_method_3_code 3 none fw_X 2 none r 53 [(0, .ref 1), (1, .ref 32), (2, .int s.1)] [] s.2) (by
    intro s x h hl hr
    obtain ⟨x2_53, μ53⟩ := s
    rw [f_Shop_take_1_32_L53] at h
    show fw_R "FewTypes$Shop" prog_8_method_3_code 3 none fw_X 2 none r 53 [(0, .ref 1), (1, .ref 32), (2, .int x2_53)] [] μ53
    refine fw_iload_n (pc := 53) d_Shop_take_53 2 rfl rfl ?_
    refine fw_bipush (pc := 54) d_Shop_take_54 fw_bp8 ?_
    refine fw_icmp_ge (pc := 56) (tgt := 80) d_Shop_take_56 rfl (fun hc => ?_) (fun hc => ?_)
    · have h := fw_it hc h
      obtain rfl := Option.some.inj h
      have he := hr _ rfl
      subst he
      exact fw_sub [0, 1] rfl hE53
    · have h := fw_if hc h
      refine fw_aload_n (pc := 59) d_Shop_take_59 0 rfl rfl ?_
      refine fw_getR (pc := 60) d_Shop_take_60 fl_Shop_32 fw_X1 rfl ?_
      refine fw_iload_n (pc := 63) d_Shop_take_63 2 rfl rfl ?_
      obtain ⟨r64, e64, h⟩ := fw_be h
      obtain ⟨o64, h⟩ := fw_gu h
      refine fw_aald 0 (pc := 64) d_Shop_take_64 (fun _ => rfl) fw_X10 e64 ?_
      refine fw_aload_n (pc := 65) d_Shop_take_65 1 rfl rfl ?_
      refine fw_getR (pc := 66) d_Shop_take_66 fl_Shop_32 fw_X32 rfl ?_
      refine fw_iload_n (pc := 69) d_Shop_take_69 2 rfl rfl ?_
      obtain ⟨r70, e70, h⟩ := fw_be h
      obtain ⟨o70, h⟩ := fw_gu h
      refine fw_aald 0 (pc := 70) d_Shop_take_70 (fun _ => rfl) fw_X41 e70 ?_
      obtain ⟨p71, e71, h⟩ := fw_be h
      refine fw_callVv (pc := 71) d_Shop_take_71 mv_Shop_69 o64.1 (c_Line_take e71) (by decide) rfl rfl (Nat.le_of_ble_eq_true rfl) ?_
      obtain ⟨v74, e74, h⟩ := fw_ne h
      refine fw_iinc2 (pc := 74) (j := 2) (lv1 := [(2, .int v74), (0, .ref 1), (1, .ref 32)]) d_Shop_take_74 rfl fw_ic1 e74 (by decide) rfl ?_
      refine fw_goto (pc := 77) (tgt := 53) d_Shop_take_77 rfl ?_
      obtain rfl := Option.some.inj h
      exact fw_sub [1, 2, 0] rfl (hl _ rfl)
    ) _ _ w53)
def f_X_restore  (μ : fw_M) : Option (Int32 × fw_M) :=
  if (μ.1 0 2) = 0 then
    some ((-4), μ)
  else
    (f_Shop_take_1_32 μ).bind fun (p18 : fw_M) =>
    (f_X_forgetPulls p18).bind fun (p22 : fw_M) =>
    some (1, p22)
set_option maxHeartbeats 4000000 in
set_option maxRecDepth 100000 in
theorem c_X_restore  {μ : fw_M} {r : Int32 × fw_M} (h : f_X_restore  μ = some r) : fw_Con Y_X_restore fw_X 3 [.ref 0] (some r.1) μ r.2 := by
  refine fw_con (by decide) (Nat.le_of_ble_eq_true rfl) ?_
  rw [f_X_restore] at h
  show fw_R "FewTypes" prog_1_method_27_code 1 (some .int) fw_X 3 (some r.1) r.2 0 [(0, .ref 0)] [] μ
  refine fw_aload_n (pc := 0) d_X_restore_0 0 rfl rfl ?_
  refine fw_getI (pc := 1) d_X_restore_1 fl_X_19 fw_X0 rfl ?_
  refine fw_if_ne (pc := 4) (tgt := 10) d_X_restore_4 rfl (fun hc => ?_) (fun hc => ?_)
  · have h := fw_it hc h
    refine fw_bipush (pc := 7) d_X_restore_7 fw_bpm4 ?_
    obtain rfl := Option.some.inj h
    exact fw_iret (pc := 9) d_X_restore_9 rfl
  · have h := fw_if hc h
    refine fw_aload_n (pc := 10) d_X_restore_10 0 rfl rfl ?_
    refine fw_getR (pc := 11) d_X_restore_11 fl_X_12 fw_X0 rfl ?_
    refine fw_aload_n (pc := 14) d_X_restore_14 0 rfl rfl ?_
    refine fw_getR (pc := 15) d_X_restore_15 fl_X_16 fw_X0 rfl ?_
    obtain ⟨p18, e18, h⟩ := fw_be h
    refine fw_callVv (pc := 18) d_X_restore_18 mv_X_255 fw_X1 (c_Shop_take_1_32 e18) (by decide) rfl rfl (Nat.le_of_ble_eq_true rfl) ?_
    refine fw_aload_n (pc := 21) d_X_restore_21 0 rfl rfl ?_
    obtain ⟨p22, e22, h⟩ := fw_be h
    refine fw_callVv (pc := 22) d_X_restore_22 mv_X_93 fw_X0 (c_X_forgetPulls e22) (by decide) rfl rfl (Nat.le_of_ble_eq_true rfl) ?_
    refine fw_iconst (pc := 25) d_X_restore_25 fw_ic1 ?_
    obtain rfl := Option.some.inj h
    exact fw_iret (pc := 26) d_X_restore_26 rfl
def f_X_isSheet (a0 : Int32) : Option (Int32) :=
  fw_nm (
    if a0 < 0 then
      0
    else
      if 4 ≤ a0 then
        0
      else
        1) fun (j1 : Int32) =>
  (fw_bz j1).bind fun b14 =>
  some b14
set_option maxHeartbeats 4000000 in
set_option maxRecDepth 100000 in
theorem c_X_isSheet {a0 : Int32} {μ : fw_M} {r : Int32} (h : f_X_isSheet a0 = some r) : fw_Con Y_X_isSheet fw_X 1 [.int a0] (some r) μ μ := by
  refine fw_con (by decide) (Nat.le_of_ble_eq_true rfl) ?_
  rw [f_X_isSheet] at h
  show fw_R "FewTypes" prog_1_method_36_code 1 (some .boolean) fw_X 1 (some r) μ 0 [(0, .int a0)] [] μ
  refine fw_iload_n (pc := 0) d_X_isSheet_0 0 rfl rfl ?_
  obtain ⟨j1, w1, h⟩ := fw_ne h
  have hJ1 : fw_R "FewTypes" prog_1_method_36_code 1 (some .boolean) fw_X 1 (some r) μ 14 [] [.int j1] μ := by
    obtain ⟨b14, e14, h⟩ := fw_be h
    obtain rfl := Option.some.inj h
    exact fw_zret (pc := 14) d_X_isSheet_14 rfl e14
  clear h
  have h := w1
  clear w1
  refine fw_if_lt (pc := 1) (tgt := 13) d_X_isSheet_1 rfl (fun hc => ?_) (fun hc => ?_)
  · have h := h.trans (if_pos hc)
    refine fw_iconst (pc := 13) d_X_isSheet_13 fw_ic0 ?_
    subst h
    exact fw_sub [] rfl hJ1
  · have h := h.trans (if_neg hc)
    refine fw_iload_n (pc := 4) d_X_isSheet_4 0 rfl rfl ?_
    refine fw_iconst (pc := 5) d_X_isSheet_5 fw_ic4 ?_
    refine fw_icmp_ge (pc := 6) (tgt := 13) d_X_isSheet_6 rfl (fun hc => ?_) (fun hc => ?_)
    · have h := h.trans (if_pos hc)
      refine fw_iconst (pc := 13) d_X_isSheet_13 fw_ic0 ?_
      subst h
      exact fw_sub [] rfl hJ1
    · have h := h.trans (if_neg hc)
      refine fw_iconst (pc := 9) d_X_isSheet_9 fw_ic1 ?_
      refine fw_goto (pc := 10) (tgt := 14) d_X_isSheet_10 rfl ?_
      subst h
      exact fw_sub [] rfl hJ1
def f_X_isLane (a0 : Int32) : Option (Int32) :=
  fw_nm (
    if a0 < 0 then
      0
    else
      if 3 ≤ a0 then
        0
      else
        1) fun (j1 : Int32) =>
  (fw_bz j1).bind fun b14 =>
  some b14
set_option maxHeartbeats 4000000 in
set_option maxRecDepth 100000 in
theorem c_X_isLane {a0 : Int32} {μ : fw_M} {r : Int32} (h : f_X_isLane a0 = some r) : fw_Con Y_X_isLane fw_X 1 [.int a0] (some r) μ μ := by
  refine fw_con (by decide) (Nat.le_of_ble_eq_true rfl) ?_
  rw [f_X_isLane] at h
  show fw_R "FewTypes" prog_1_method_37_code 1 (some .boolean) fw_X 1 (some r) μ 0 [(0, .int a0)] [] μ
  refine fw_iload_n (pc := 0) d_X_isLane_0 0 rfl rfl ?_
  obtain ⟨j1, w1, h⟩ := fw_ne h
  have hJ1 : fw_R "FewTypes" prog_1_method_37_code 1 (some .boolean) fw_X 1 (some r) μ 14 [] [.int j1] μ := by
    obtain ⟨b14, e14, h⟩ := fw_be h
    obtain rfl := Option.some.inj h
    exact fw_zret (pc := 14) d_X_isLane_14 rfl e14
  clear h
  have h := w1
  clear w1
  refine fw_if_lt (pc := 1) (tgt := 13) d_X_isLane_1 rfl (fun hc => ?_) (fun hc => ?_)
  · have h := h.trans (if_pos hc)
    refine fw_iconst (pc := 13) d_X_isLane_13 fw_ic0 ?_
    subst h
    exact fw_sub [] rfl hJ1
  · have h := h.trans (if_neg hc)
    refine fw_iload_n (pc := 4) d_X_isLane_4 0 rfl rfl ?_
    refine fw_iconst (pc := 5) d_X_isLane_5 fw_ic3 ?_
    refine fw_icmp_ge (pc := 6) (tgt := 13) d_X_isLane_6 rfl (fun hc => ?_) (fun hc => ?_)
    · have h := h.trans (if_pos hc)
      refine fw_iconst (pc := 13) d_X_isLane_13 fw_ic0 ?_
      subst h
      exact fw_sub [] rfl hJ1
    · have h := h.trans (if_neg hc)
      refine fw_iconst (pc := 9) d_X_isLane_9 fw_ic1 ?_
      refine fw_goto (pc := 10) (tgt := 14) d_X_isLane_10 rfl ?_
      subst h
      exact fw_sub [] rfl hJ1
def f_Sheet_holds (t0 : Nat) (a1 : Int32) (a2 : Int32) (μ : fw_M) : Option (Int32) :=
  if fw_okS t0 then
    fw_nm (
      if a1 < 0 then
        0
      else
        if a2 < 0 then
          0
        else
          if (μ.1 t0 2) < a2 then
            0
          else
            if ((μ.1 t0 2) - a2) < a1 then
              0
            else
              1) fun (j1 : Int32) =>
    (fw_bz j1).bind fun b31 =>
    some b31
  else none
set_option maxHeartbeats 4000000 in
set_option maxRecDepth 100000 in
theorem c_Sheet_holds {t0 : Nat} {a1 : Int32} {a2 : Int32} {μ : fw_M} {r : Int32} (h : f_Sheet_holds t0 a1 a2 μ = some r) : fw_Con Y_Sheet_holds fw_X 1 [.ref t0, .int a1, .int a2] (some r) μ μ := by
  refine fw_con (by decide) (Nat.le_of_ble_eq_true rfl) ?_
  rw [f_Sheet_holds] at h
  show fw_R "FewTypes$Sheet" prog_7_method_3_code 3 (some .boolean) fw_X 1 (some r) μ 0 [(0, .ref t0), (1, .int a1), (2, .int a2)] [] μ
  obtain ⟨g0, h⟩ := fw_gu h
  refine fw_iload_n (pc := 0) d_Sheet_holds_0 1 rfl rfl ?_
  obtain ⟨j1, w1, h⟩ := fw_ne h
  have hJ1 : fw_R "FewTypes$Sheet" prog_7_method_3_code 3 (some .boolean) fw_X 1 (some r) μ 31 [] [.int j1] μ := by
    obtain ⟨b31, e31, h⟩ := fw_be h
    obtain rfl := Option.some.inj h
    exact fw_zret (pc := 31) d_Sheet_holds_31 rfl e31
  clear h
  have h := w1
  clear w1
  refine fw_if_lt (pc := 1) (tgt := 30) d_Sheet_holds_1 rfl (fun hc => ?_) (fun hc => ?_)
  · have h := h.trans (if_pos hc)
    refine fw_iconst (pc := 30) d_Sheet_holds_30 fw_ic0 ?_
    subst h
    exact fw_sub [] rfl hJ1
  · have h := h.trans (if_neg hc)
    refine fw_iload_n (pc := 4) d_Sheet_holds_4 2 rfl rfl ?_
    refine fw_if_lt (pc := 5) (tgt := 30) d_Sheet_holds_5 rfl (fun hc => ?_) (fun hc => ?_)
    · have h := h.trans (if_pos hc)
      refine fw_iconst (pc := 30) d_Sheet_holds_30 fw_ic0 ?_
      subst h
      exact fw_sub [] rfl hJ1
    · have h := h.trans (if_neg hc)
      refine fw_iload_n (pc := 8) d_Sheet_holds_8 2 rfl rfl ?_
      refine fw_aload_n (pc := 9) d_Sheet_holds_9 0 rfl rfl ?_
      refine fw_getI (pc := 10) d_Sheet_holds_10 fl_Sheet_19 g0.1 rfl ?_
      refine fw_icmp_gt (pc := 13) (tgt := 30) d_Sheet_holds_13 rfl (fun hc => ?_) (fun hc => ?_)
      · have h := h.trans (if_pos hc)
        refine fw_iconst (pc := 30) d_Sheet_holds_30 fw_ic0 ?_
        subst h
        exact fw_sub [] rfl hJ1
      · have h := h.trans (if_neg hc)
        refine fw_iload_n (pc := 16) d_Sheet_holds_16 1 rfl rfl ?_
        refine fw_aload_n (pc := 17) d_Sheet_holds_17 0 rfl rfl ?_
        refine fw_getI (pc := 18) d_Sheet_holds_18 fl_Sheet_19 g0.1 rfl ?_
        refine fw_iload_n (pc := 21) d_Sheet_holds_21 2 rfl rfl ?_
        refine fw_isub (pc := 22) d_Sheet_holds_22 ?_
        refine fw_icmp_gt (pc := 23) (tgt := 30) d_Sheet_holds_23 rfl (fun hc => ?_) (fun hc => ?_)
        · have h := h.trans (if_pos hc)
          refine fw_iconst (pc := 30) d_Sheet_holds_30 fw_ic0 ?_
          subst h
          exact fw_sub [] rfl hJ1
        · have h := h.trans (if_neg hc)
          refine fw_iconst (pc := 26) d_Sheet_holds_26 fw_ic1 ?_
          refine fw_goto (pc := 27) (tgt := 31) d_Sheet_holds_27 rfl ?_
          subst h
          exact fw_sub [] rfl hJ1
def f_X_refusal (a1 : Int32) (a2 : Int32) (a3 : Int32) (a4 : Int32) (μ : fw_M) : Option (Int32) :=
  (f_X_isSheet a1).bind fun (p1 : Int32) =>
  if p1 = 0 then
    some (-1)
  else
    (f_X_isLane a2).bind fun (p8 : Int32) =>
    if p8 = 0 then
      some (-1)
    else
      (fw_rq 4 [86, 88, 90, 92] a1).bind fun r21 =>
      if fw_okS r21 then
        if (μ.1 r21 3) = 0 then
          some (-11)
        else
          if (μ.1 r21 1) = a2 then
            (f_Sheet_holds r21 a3 a4 μ).bind fun (p52 : Int32) =>
            fw_nm (
              if p52 = 0 then
                (-13)
              else
                0) fun (j55 : Int32) =>
            some j55
          else
            some (-12)
      else none
set_option maxHeartbeats 4000000 in
set_option maxRecDepth 100000 in
theorem c_X_refusal {a1 : Int32} {a2 : Int32} {a3 : Int32} {a4 : Int32} {μ : fw_M} {r : Int32} (h : f_X_refusal a1 a2 a3 a4 μ = some r) : fw_Con Y_X_refusal fw_X 2 [.ref 0, .int a1, .int a2, .int a3, .int a4] (some r) μ μ := by
  refine fw_con (by decide) (Nat.le_of_ble_eq_true rfl) ?_
  rw [f_X_refusal] at h
  show fw_R "FewTypes" prog_1_method_47_code 6 (some .int) fw_X 2 (some r) μ 0 [(0, .ref 0), (1, .int a1), (2, .int a2), (3, .int a3), (4, .int a4)] [] μ
  refine fw_iload_n (pc := 0) d_X_refusal_0 1 rfl rfl ?_
  obtain ⟨p1, e1, h⟩ := fw_be h
  refine fw_callSi (pc := 1) d_X_refusal_1 ms_X_269 (c_X_isSheet e1) (by decide) rfl rfl (Nat.le_of_ble_eq_true rfl) ?_
  refine fw_if_eq (pc := 4) (tgt := 14) d_X_refusal_4 rfl (fun hc => ?_) (fun hc => ?_)
  · have h := fw_it hc h
    refine fw_iconst (pc := 14) d_X_refusal_14 fw_icm1 ?_
    obtain rfl := Option.some.inj h
    exact fw_iret (pc := 15) d_X_refusal_15 rfl
  · have h := fw_if hc h
    refine fw_iload_n (pc := 7) d_X_refusal_7 2 rfl rfl ?_
    obtain ⟨p8, e8, h⟩ := fw_be h
    refine fw_callSi (pc := 8) d_X_refusal_8 ms_X_285 (c_X_isLane e8) (by decide) rfl rfl (Nat.le_of_ble_eq_true rfl) ?_
    refine fw_if_ne (pc := 11) (tgt := 16) d_X_refusal_11 rfl (fun hc => ?_) (fun hc => ?_)
    · have h := fw_it hc h
      refine fw_iconst (pc := 14) d_X_refusal_14 fw_icm1 ?_
      obtain rfl := Option.some.inj h
      exact fw_iret (pc := 15) d_X_refusal_15 rfl
    · have h := fw_if hc h
      refine fw_aload_n (pc := 16) d_X_refusal_16 0 rfl rfl ?_
      refine fw_getR (pc := 17) d_X_refusal_17 fl_X_73 fw_X0 rfl ?_
      refine fw_iload_n (pc := 20) d_X_refusal_20 1 rfl rfl ?_
      obtain ⟨r21, e21, h⟩ := fw_be h
      obtain ⟨o21, h⟩ := fw_gu h
      refine fw_aald 1 (pc := 21) d_X_refusal_21 (fun _ => rfl) fw_X85 e21 ?_
      refine fw_astore (pc := 22) (lv1 := [(5, .ref r21), (0, .ref 0), (1, .int a1), (2, .int a2), (3, .int a3), (4, .int a4)]) d_X_refusal_22 (by decide) rfl ?_
      refine fw_aload (pc := 24) d_X_refusal_24 0 rfl ?_
      refine fw_getI (pc := 26) d_X_refusal_26 fl_X_291 o21.1 rfl ?_
      refine fw_if_ne (pc := 29) (tgt := 35) d_X_refusal_29 rfl (fun hc => ?_) (fun hc => ?_)
      · have h := fw_it hc h
        refine fw_bipush (pc := 32) d_X_refusal_32 fw_bpm11 ?_
        obtain rfl := Option.some.inj h
        exact fw_iret (pc := 34) d_X_refusal_34 rfl
      · have h := fw_if hc h
        refine fw_aload (pc := 35) d_X_refusal_35 0 rfl ?_
        refine fw_getI (pc := 37) d_X_refusal_37 fl_X_324 o21.1 rfl ?_
        refine fw_iload_n (pc := 40) d_X_refusal_40 3 rfl rfl ?_
        refine fw_icmp_eq (pc := 41) (tgt := 47) d_X_refusal_41 rfl (fun hc => ?_) (fun hc => ?_)
        · have h := fw_it hc h
          refine fw_aload (pc := 47) d_X_refusal_47 0 rfl ?_
          refine fw_iload_n (pc := 49) d_X_refusal_49 4 rfl rfl ?_
          refine fw_iload (pc := 50) d_X_refusal_50 5 rfl ?_
          obtain ⟨p52, e52, h⟩ := fw_be h
          refine fw_callVi (pc := 52) d_X_refusal_52 mv_X_276 o21.1 (c_Sheet_holds e52) (by decide) rfl rfl (Nat.le_of_ble_eq_true rfl) ?_
          obtain ⟨j55, w55, h⟩ := fw_ne h
          have hJ55 : fw_R "FewTypes" prog_1_method_47_code 6 (some .int) fw_X 2 (some r) μ 64 [] [.int j55] μ := by
            obtain rfl := Option.some.inj h
            exact fw_iret (pc := 64) d_X_refusal_64 rfl
          clear h
          have h := w55
          clear w55
          refine fw_if_eq (pc := 55) (tgt := 62) d_X_refusal_55 rfl (fun hc => ?_) (fun hc => ?_)
          · have h := h.trans (if_pos hc)
            refine fw_bipush (pc := 62) d_X_refusal_62 fw_bpm13 ?_
            subst h
            exact fw_sub [] rfl hJ55
          · have h := h.trans (if_neg hc)
            refine fw_iconst (pc := 58) d_X_refusal_58 fw_ic0 ?_
            refine fw_goto (pc := 59) (tgt := 64) d_X_refusal_59 rfl ?_
            subst h
            exact fw_sub [] rfl hJ55
        · have h := fw_if hc h
          refine fw_bipush (pc := 44) d_X_refusal_44 fw_bpm12 ?_
          obtain rfl := Option.some.inj h
          exact fw_iret (pc := 46) d_X_refusal_46 rfl
def f_X_sortByPull_L50 (t1 : Nat) (a2 : Int32) (v8 : Int32) (v20 : Int32) : Int32 × fw_M → Option ((Int32 × fw_M) ⊕ ((fw_M) ⊕ (Int32 × fw_M)))
  | (x5_50, μ50) =>
  if v20 ≤ x5_50 then
    some (.inr (.inl μ50))
  else
    (fw_rd 24 (μ50.1 (t1 + 1)) (a2 + x5_50)).bind fun v65 =>
    (f_Line_left 6 x5_50 μ50).bind fun (p83 : Int32) =>
    fw_nm (((Int32.toInt64 v65) - (Int32.toInt64 p83))) fun (v88 : Int64) =>
    if (lg_cmp v88 0) < 0 then
      some (.inr (.inr (0, μ50)))
    else
      (fw_lr v88 (Int32.toInt64 v8)).bind fun v101 =>
      if (lg_cmp v101 0) = 0 then
        (fw_ld v88 (Int32.toInt64 v8)).bind fun v111 =>
        if (lg_cmp v111 (Int32.toInt64 v20)) < 0 then
          (fw_ld v88 (Int32.toInt64 v8)).bind fun v129 =>
          (fw_rd 10 (μ50.1 84) (Int64.toInt32 v129)).bind fun v132 =>
          (fw_si 10 μ50 84 (Int64.toInt32 v129) (v132 ||| ((1 : Int32) <<< (x5_50 &&& 31)))).bind fun μ138 =>
          fw_nm (x5_50 + 1) fun (v139 : Int32) =>
          some (.inl (v139, μ138))
        else
          some (.inr (.inr (0, μ50)))
      else
        some (.inr (.inr (0, μ50)))
def f_X_sortByPull (t1 : Nat) (a2 : Int32) (μ : fw_M) : Option (Int32 × fw_M) :=
  if fw_okS t1 then
    (fw_rd 3 (μ.1 9) 1).bind fun v8 =>
    fw_nm ((μ.1 6 1)) fun (v20 : Int32) =>
    if v8 < 1 then
      some (0, μ)
    else
      (f_Sheet_holds t1 a2 v20 μ).bind fun (p31 : Int32) =>
      if p31 = 0 then
        some (0, μ)
      else
        (f_Arrays_fill 84 10 0 μ).bind fun (p44 : fw_M) =>
        Option.bind (fw_wh (f_X_sortByPull_L50 t1 a2 v8 v20) fw_N (0, p44)) fun (q50 : (fw_M) ⊕ (Int32 × fw_M)) => match q50 with
        | .inl e50x =>
          some (1, e50x)
        | .inr r50 => some r50
  else none
set_option maxHeartbeats 4000000 in
set_option maxRecDepth 100000 in
theorem c_X_sortByPull {t1 : Nat} {a2 : Int32} {μ : fw_M} {r : Int32 × fw_M} (h : f_X_sortByPull t1 a2 μ = some r) : fw_Con Y_X_sortByPull fw_X 4 [.ref 0, .ref t1, .int a2] (some r.1) μ r.2 := by
  refine fw_con (by decide) (Nat.le_of_ble_eq_true rfl) ?_
  rw [f_X_sortByPull] at h
  show fw_R "FewTypes" prog_1_method_49_code 8 (some .boolean) fw_X 4 (some r.1) r.2 0 [(0, .ref 0), (1, .ref t1), (2, .int a2)] [] μ
  obtain ⟨g1, h⟩ := fw_gu h
  refine fw_aload_n (pc := 0) d_X_sortByPull_0 0 rfl rfl ?_
  refine fw_getR (pc := 1) d_X_sortByPull_1 fl_X_12 fw_X0 rfl ?_
  refine fw_getR (pc := 4) d_X_sortByPull_4 fl_X_125 fw_X1 rfl ?_
  refine fw_iconst (pc := 7) d_X_sortByPull_7 fw_ic1 ?_
  obtain ⟨v8, e8, h⟩ := fw_be h
  refine fw_iald (pc := 8) d_X_sortByPull_8 fw_X9 e8 ?_
  refine fw_istore_n (pc := 9) (lv1 := [(3, .int v8), (0, .ref 0), (1, .ref t1), (2, .int a2)]) d_X_sortByPull_9 rfl (by decide) rfl ?_
  refine fw_aload_n (pc := 10) d_X_sortByPull_10 1 rfl rfl ?_
  refine fw_getR (pc := 11) d_X_sortByPull_11 fl_X_12 fw_X0 rfl ?_
  refine fw_getR (pc := 14) d_X_sortByPull_14 fl_X_139 fw_X1 rfl ?_
  refine fw_getI (pc := 17) d_X_sortByPull_17 fl_X_161 fw_X6 rfl ?_
  obtain ⟨v20, e20, h⟩ := fw_ne h
  refine fw_top e20 ?_
  refine fw_istore (pc := 20) (lv1 := [(4, .int v20), (3, .int v8), (0, .ref 0), (1, .ref t1), (2, .int a2)]) d_X_sortByPull_20 (by decide) rfl ?_
  refine fw_iload_n (pc := 22) d_X_sortByPull_22 1 rfl rfl ?_
  refine fw_iconst (pc := 23) d_X_sortByPull_23 fw_ic1 ?_
  refine fw_icmp_lt (pc := 24) (tgt := 37) d_X_sortByPull_24 rfl (fun hc => ?_) (fun hc => ?_)
  · have h := fw_it hc h
    refine fw_iconst (pc := 37) d_X_sortByPull_37 fw_ic0 ?_
    obtain rfl := Option.some.inj h
    exact fw_zret (pc := 38) d_X_sortByPull_38 rfl fw_bz0
  · have h := fw_if hc h
    refine fw_aload_n (pc := 27) d_X_sortByPull_27 3 rfl rfl ?_
    refine fw_iload_n (pc := 28) d_X_sortByPull_28 4 rfl rfl ?_
    refine fw_iload (pc := 29) d_X_sortByPull_29 0 rfl ?_
    obtain ⟨p31, e31, h⟩ := fw_be h
    refine fw_callVi (pc := 31) d_X_sortByPull_31 mv_X_276 g1.1 (c_Sheet_holds e31) (by decide) rfl rfl (Nat.le_of_ble_eq_true rfl) ?_
    refine fw_if_ne (pc := 34) (tgt := 39) d_X_sortByPull_34 rfl (fun hc => ?_) (fun hc => ?_)
    · have h := fw_it hc h
      refine fw_iconst (pc := 37) d_X_sortByPull_37 fw_ic0 ?_
      obtain rfl := Option.some.inj h
      exact fw_zret (pc := 38) d_X_sortByPull_38 rfl fw_bz0
    · have h := fw_if hc h
      refine fw_aload_n (pc := 39) d_X_sortByPull_39 2 rfl rfl ?_
      refine fw_getR (pc := 40) d_X_sortByPull_40 fl_X_68 fw_X0 rfl ?_
      refine fw_iconst (pc := 43) d_X_sortByPull_43 fw_ic0 ?_
      obtain ⟨p44, e44, h⟩ := fw_be h
      refine fw_callSv (pc := 44) d_X_sortByPull_44 ms_X_304 (c_Arrays_fill e44) (by decide) rfl rfl (Nat.le_of_ble_eq_true rfl) ?_
      refine fw_iconst (pc := 47) d_X_sortByPull_47 fw_ic0 ?_
      refine fw_istore (pc := 48) (lv1 := [(5, .int 0), (4, .int v20), (3, .int v8), (0, .ref 0), (1, .ref t1), (2, .int a2)]) d_X_sortByPull_48 (by decide) rfl ?_
      obtain ⟨q50, w50, h⟩ := fw_be h
      have hE50 : ∀ e50x : fw_M, q50 = .inl e50x → fw_R "FewTypes" prog_1_method_49_code 8 (some .boolean) fw_X 4 (some r.1) r.2 145 [] [] e50x := by
        intro e50x hq
        subst hq
        dsimp only at h
        refine fw_iconst (pc := 145) d_X_sortByPull_145 fw_ic1 ?_
        obtain rfl := Option.some.inj h
        exact fw_zret (pc := 146) d_X_sortByPull_146 rfl fw_bz1
      have hR50 : ∀ r50, q50 = .inr r50 → r50 = r := by
        intro r50 hq
        subst hq
        exact Option.some.inj h
      clear h
      exact fw_sub [3, 4, 5, 2, 1, 0] rfl (fw_we (e := q50) (fun (s : Int32 × fw_M) => fw_R "FewTypes" prog_1_method_49_code 8 (some .boolean) fw_X 4 (some r.1) r.2 50 [(0, .ref 0), (1, .ref t1), (2, .int a2), (3, .int v8), (4, .int v20), (5, .int s.1)] [] s.2) (by
        intro s x h hl hr
        obtain ⟨x5_50, μ50⟩ := s
        rw [f_X_sortByPull_L50] at h
        show fw_R "FewTypes" prog_1_method_49_code 8 (some .boolean) fw_X 4 (some r.1) r.2 50 [(0, .ref 0), (1, .ref t1), (2, .int a2), (3, .int v8), (4, .int v20), (5, .int x5_50)] [] μ50
        refine fw_iload (pc := 50) d_X_sortByPull_50 5 rfl ?_
        refine fw_iload (pc := 52) d_X_sortByPull_52 4 rfl ?_
        refine fw_icmp_ge (pc := 54) (tgt := 145) d_X_sortByPull_54 rfl (fun hc => ?_) (fun hc => ?_)
        · have h := fw_it hc h
          obtain rfl := Option.some.inj h
          exact fw_sub [] rfl (hE50 _ (hr _ rfl).symm)
        · have h := fw_if hc h
          refine fw_aload_n (pc := 57) d_X_sortByPull_57 1 rfl rfl ?_
          refine fw_getR (pc := 58) d_X_sortByPull_58 fl_X_279 g1.1 rfl ?_
          refine fw_iload_n (pc := 61) d_X_sortByPull_61 2 rfl rfl ?_
          refine fw_iload (pc := 62) d_X_sortByPull_62 5 rfl ?_
          refine fw_iadd (pc := 64) d_X_sortByPull_64 ?_
          obtain ⟨v65, e65, h⟩ := fw_be h
          refine fw_iald (pc := 65) d_X_sortByPull_65 g1.2 e65 ?_
          refine fw_i2l (pc := 66) d_X_sortByPull_66 ?_
          refine fw_aload_n (pc := 67) d_X_sortByPull_67 0 rfl rfl ?_
          refine fw_getR (pc := 68) d_X_sortByPull_68 fl_X_12 fw_X0 rfl ?_
          refine fw_getR (pc := 71) d_X_sortByPull_71 fl_X_139 fw_X1 rfl ?_
          refine fw_iload (pc := 74) d_X_sortByPull_74 5 rfl ?_
          refine fw_aload_n (pc := 76) d_X_sortByPull_76 0 rfl rfl ?_
          refine fw_getR (pc := 77) d_X_sortByPull_77 fl_X_12 fw_X0 rfl ?_
          refine fw_getR (pc := 80) d_X_sortByPull_80 fl_X_116 fw_X1 rfl ?_
          obtain ⟨p83, e83, h⟩ := fw_be h
          refine fw_callVi (pc := 83) d_X_sortByPull_83 mv_X_154 fw_X6 (c_Line_left e83) (by decide) rfl rfl (Nat.le_of_ble_eq_true rfl) ?_
          refine fw_i2l (pc := 86) d_X_sortByPull_86 ?_
          refine fw_lsub (pc := 87) d_X_sortByPull_87 ?_
          obtain ⟨v88, e88, h⟩ := fw_ne h
          refine fw_topl e88 ?_
          refine fw_lstore (pc := 88) (lv1 := [(6, .long v88), (0, .ref 0), (1, .ref t1), (2, .int a2), (3, .int v8), (4, .int v20), (5, .int x5_50)]) d_X_sortByPull_88 (by decide) rfl ?_
          refine fw_lload (pc := 90) d_X_sortByPull_90 0 rfl ?_
          refine fw_lconst (pc := 92) d_X_sortByPull_92 (v := 0) (by decide) ?_
          refine fw_lcmp (pc := 93) d_X_sortByPull_93 ?_
          refine fw_if_lt (pc := 94) (tgt := 119) d_X_sortByPull_94 rfl (fun hc => ?_) (fun hc => ?_)
          · have h := fw_it hc h
            refine fw_iconst (pc := 119) d_X_sortByPull_119 fw_ic0 ?_
            obtain rfl := Option.some.inj h
            have he := hR50 _ (hr _ rfl).symm
            subst he
            exact fw_zret (pc := 120) d_X_sortByPull_120 rfl fw_bz0
          · have h := fw_if hc h
            refine fw_lload (pc := 97) d_X_sortByPull_97 0 rfl ?_
            refine fw_iload_n (pc := 99) d_X_sortByPull_99 4 rfl rfl ?_
            refine fw_i2l (pc := 100) d_X_sortByPull_100 ?_
            obtain ⟨v101, e101, h⟩ := fw_be h
            refine fw_lrem (pc := 101) d_X_sortByPull_101 e101 ?_
            refine fw_lconst (pc := 102) d_X_sortByPull_102 (v := 0) (by decide) ?_
            refine fw_lcmp (pc := 103) d_X_sortByPull_103 ?_
            refine fw_if_ne (pc := 104) (tgt := 119) d_X_sortByPull_104 rfl (fun hc => ?_) (fun hc => ?_)
            · have h := fw_it hc h
              refine fw_lload (pc := 107) d_X_sortByPull_107 0 rfl ?_
              refine fw_iload_n (pc := 109) d_X_sortByPull_109 4 rfl rfl ?_
              refine fw_i2l (pc := 110) d_X_sortByPull_110 ?_
              obtain ⟨v111, e111, h⟩ := fw_be h
              refine fw_ldiv (pc := 111) d_X_sortByPull_111 e111 ?_
              refine fw_iload (pc := 112) d_X_sortByPull_112 5 rfl ?_
              refine fw_i2l (pc := 114) d_X_sortByPull_114 ?_
              refine fw_lcmp (pc := 115) d_X_sortByPull_115 ?_
              refine fw_if_lt (pc := 116) (tgt := 121) d_X_sortByPull_116 rfl (fun hc => ?_) (fun hc => ?_)
              · have h := fw_it hc h
                refine fw_aload_n (pc := 121) d_X_sortByPull_121 1 rfl rfl ?_
                refine fw_getR (pc := 122) d_X_sortByPull_122 fl_X_68 fw_X0 rfl ?_
                refine fw_lload (pc := 125) d_X_sortByPull_125 0 rfl ?_
                refine fw_iload_n (pc := 127) d_X_sortByPull_127 4 rfl rfl ?_
                refine fw_i2l (pc := 128) d_X_sortByPull_128 ?_
                obtain ⟨v129, e129, h⟩ := fw_be h
                refine fw_ldiv (pc := 129) d_X_sortByPull_129 e129 ?_
                refine fw_l2i (pc := 130) d_X_sortByPull_130 ?_
                refine fw_dup2 (pc := 131) d_X_sortByPull_131 rfl rfl ?_
                obtain ⟨v132, e132, h⟩ := fw_be h
                refine fw_iald (pc := 132) d_X_sortByPull_132 fw_X84 e132 ?_
                refine fw_iconst (pc := 133) d_X_sortByPull_133 fw_ic1 ?_
                refine fw_iload (pc := 134) d_X_sortByPull_134 6 rfl ?_
                refine fw_ishl (pc := 136) d_X_sortByPull_136 ?_
                refine fw_ior (pc := 137) d_X_sortByPull_137 ?_
                obtain ⟨μ138, e138, h⟩ := fw_be h
                refine fw_iast (pc := 138) d_X_sortByPull_138 fw_X84 e138 ?_
                obtain ⟨v139, e139, h⟩ := fw_ne h
                refine fw_iinc2 (pc := 139) (j := 6) (lv1 := [(5, .int v139), (6, .long v88), (0, .ref 0), (1, .ref t1), (2, .int a2), (3, .int v8), (4, .int v20)]) d_X_sortByPull_139 rfl fw_ic1 e139 (by decide) rfl ?_
                refine fw_goto (pc := 142) (tgt := 50) d_X_sortByPull_142 rfl ?_
                obtain rfl := Option.some.inj h
                exact fw_sub [2, 3, 4, 5, 6, 0] rfl (hl _ rfl)
              · have h := fw_if hc h
                refine fw_iconst (pc := 119) d_X_sortByPull_119 fw_ic0 ?_
                obtain rfl := Option.some.inj h
                have he := hR50 _ (hr _ rfl).symm
                subst he
                exact fw_zret (pc := 120) d_X_sortByPull_120 rfl fw_bz0
            · have h := fw_if hc h
              refine fw_iconst (pc := 119) d_X_sortByPull_119 fw_ic0 ?_
              obtain rfl := Option.some.inj h
              have he := hR50 _ (hr _ rfl).symm
              subst he
              exact fw_zret (pc := 120) d_X_sortByPull_120 rfl fw_bz0
        ) _ _ w50)
def f_X_pullsOfLeaf_L8  : Int32 × Int32 × fw_M → Option ((Int32 × Int32 × fw_M) ⊕ ((Int32 × Int32 × fw_M) ⊕ (Int32 × fw_M)))
  | (x1_8, x2_8, μ8) =>
  if 10 ≤ x1_8 then
    some (.inr (.inl (x1_8, x2_8, μ8)))
  else
    (fw_rd 10 (μ8.1 84) x1_8).bind fun v19 =>
    if v19 = 0 then
      some (.inr (.inl (x1_8, x2_8, μ8)))
    else
      (fw_rd 10 (μ8.1 84) x1_8).bind fun v32 =>
      (f_Press_inks v32 μ8).bind fun (p33 : Int32 × fw_M) =>
      if p33.1 = 0 then
        some (.inr (.inr ((-4), p33.2)))
      else
        (fw_rd 10 (p33.2.1 84) x1_8).bind fun v48 =>
        fw_nm ((x2_8 ||| v48)) fun (v50 : Int32) =>
        fw_nm (x1_8 + 1) fun (v51 : Int32) =>
        some (.inl (v51, v50, p33.2))
def f_X_pullsOfLeaf  (μ : fw_M) : Option (Int32 × fw_M) :=
  (f_X_lockLine μ).bind fun (p1 : fw_M) =>
  Option.bind (fw_wh (f_X_pullsOfLeaf_L8) fw_N (0, 0, p1)) fun (q8 : (Int32 × Int32 × fw_M) ⊕ (Int32 × fw_M)) => match q8 with
  | .inl e8x =>
    fw_nm (
      if e8x.2.1 = (((1 : Int32) <<< ((e8x.2.2.1 6 1) &&& 31)) - 1) then
        e8x.1
      else
        (-4)) fun (j72 : Int32) =>
    some (j72, e8x.2.2)
  | .inr r8 => some r8
set_option maxHeartbeats 4000000 in
set_option maxRecDepth 100000 in
theorem c_X_pullsOfLeaf  {μ : fw_M} {r : Int32 × fw_M} (h : f_X_pullsOfLeaf  μ = some r) : fw_Con Y_X_pullsOfLeaf fw_X 6 [.ref 0] (some r.1) μ r.2 := by
  refine fw_con (by decide) (Nat.le_of_ble_eq_true rfl) ?_
  rw [f_X_pullsOfLeaf] at h
  show fw_R "FewTypes" prog_1_method_50_code 3 (some .int) fw_X 6 (some r.1) r.2 0 [(0, .ref 0)] [] μ
  refine fw_aload_n (pc := 0) d_X_pullsOfLeaf_0 0 rfl rfl ?_
  obtain ⟨p1, e1, h⟩ := fw_be h
  refine fw_callVv (pc := 1) d_X_pullsOfLeaf_1 mv_X_179 fw_X0 (c_X_lockLine e1) (by decide) rfl rfl (Nat.le_of_ble_eq_true rfl) ?_
  refine fw_iconst (pc := 4) d_X_pullsOfLeaf_4 fw_ic0 ?_
  refine fw_istore_n (pc := 5) (lv1 := [(1, .int 0), (0, .ref 0)]) d_X_pullsOfLeaf_5 rfl (by decide) rfl ?_
  refine fw_iconst (pc := 6) d_X_pullsOfLeaf_6 fw_ic0 ?_
  refine fw_istore_n (pc := 7) (lv1 := [(2, .int 0), (1, .int 0), (0, .ref 0)]) d_X_pullsOfLeaf_7 rfl (by decide) rfl ?_
  obtain ⟨q8, w8, h⟩ := fw_be h
  have hE8 : ∀ e8x : Int32 × Int32 × fw_M, q8 = .inl e8x → fw_R "FewTypes" prog_1_method_50_code 3 (some .int) fw_X 6 (some r.1) r.2 57 [(0, .ref 0), (1, .int e8x.1), (2, .int e8x.2.1)] [] e8x.2.2 := by
    intro e8x hq
    subst hq
    dsimp only at h
    refine fw_iload_n (pc := 57) d_X_pullsOfLeaf_57 2 rfl rfl ?_
    refine fw_iconst (pc := 58) d_X_pullsOfLeaf_58 fw_ic1 ?_
    refine fw_aload_n (pc := 59) d_X_pullsOfLeaf_59 0 rfl rfl ?_
    refine fw_getR (pc := 60) d_X_pullsOfLeaf_60 fl_X_12 fw_X0 rfl ?_
    refine fw_getR (pc := 63) d_X_pullsOfLeaf_63 fl_X_139 fw_X1 rfl ?_
    refine fw_getI (pc := 66) d_X_pullsOfLeaf_66 fl_X_161 fw_X6 rfl ?_
    refine fw_ishl (pc := 69) d_X_pullsOfLeaf_69 ?_
    refine fw_iconst (pc := 70) d_X_pullsOfLeaf_70 fw_ic1 ?_
    refine fw_isub (pc := 71) d_X_pullsOfLeaf_71 ?_
    obtain ⟨j72, w72, h⟩ := fw_ne h
    have hJ72 : fw_R "FewTypes" prog_1_method_50_code 3 (some .int) fw_X 6 (some r.1) r.2 81 [] [.int j72] e8x.2.2 := by
      obtain rfl := Option.some.inj h
      exact fw_iret (pc := 81) d_X_pullsOfLeaf_81 rfl
    clear h
    have h := w72
    clear w72
    refine fw_icmp_ne (pc := 72) (tgt := 79) d_X_pullsOfLeaf_72 rfl (fun hc => ?_) (fun hc => ?_)
    · have h := h.trans (if_pos hc)
      refine fw_iload_n (pc := 75) d_X_pullsOfLeaf_75 1 rfl rfl ?_
      refine fw_goto (pc := 76) (tgt := 81) d_X_pullsOfLeaf_76 rfl ?_
      subst h
      exact fw_sub [] rfl hJ72
    · have h := h.trans (if_neg hc)
      refine fw_bipush (pc := 79) d_X_pullsOfLeaf_79 fw_bpm4 ?_
      subst h
      exact fw_sub [] rfl hJ72
  have hR8 : ∀ r8, q8 = .inr r8 → r8 = r := by
    intro r8 hq
    subst hq
    exact Option.some.inj h
  clear h
  exact fw_sub [2, 1, 0] rfl (fw_we (e := q8) (fun (s : Int32 × Int32 × fw_M) => fw_R "FewTypes" prog_1_method_50_code 3 (some .int) fw_X 6 (some r.1) r.2 8 [(0, .ref 0), (1, .int s.1), (2, .int s.2.1)] [] s.2.2) (by
    intro s x h hl hr
    obtain ⟨x1_8, x2_8, μ8⟩ := s
    rw [f_X_pullsOfLeaf_L8] at h
    show fw_R "FewTypes" prog_1_method_50_code 3 (some .int) fw_X 6 (some r.1) r.2 8 [(0, .ref 0), (1, .int x1_8), (2, .int x2_8)] [] μ8
    refine fw_iload_n (pc := 8) d_X_pullsOfLeaf_8 1 rfl rfl ?_
    refine fw_bipush (pc := 9) d_X_pullsOfLeaf_9 fw_bp10 ?_
    refine fw_icmp_ge (pc := 11) (tgt := 57) d_X_pullsOfLeaf_11 rfl (fun hc => ?_) (fun hc => ?_)
    · have h := fw_it hc h
      obtain rfl := Option.some.inj h
      exact fw_sub [0, 1, 2] rfl (hE8 _ (hr _ rfl).symm)
    · have h := fw_if hc h
      refine fw_aload_n (pc := 14) d_X_pullsOfLeaf_14 0 rfl rfl ?_
      refine fw_getR (pc := 15) d_X_pullsOfLeaf_15 fl_X_68 fw_X0 rfl ?_
      refine fw_iload_n (pc := 18) d_X_pullsOfLeaf_18 1 rfl rfl ?_
      obtain ⟨v19, e19, h⟩ := fw_be h
      refine fw_iald (pc := 19) d_X_pullsOfLeaf_19 fw_X84 e19 ?_
      refine fw_if_eq (pc := 20) (tgt := 57) d_X_pullsOfLeaf_20 rfl (fun hc => ?_) (fun hc => ?_)
      · have h := fw_it hc h
        obtain rfl := Option.some.inj h
        exact fw_sub [0, 1, 2] rfl (hE8 _ (hr _ rfl).symm)
      · have h := fw_if hc h
        refine fw_aload_n (pc := 23) d_X_pullsOfLeaf_23 0 rfl rfl ?_
        refine fw_getR (pc := 24) d_X_pullsOfLeaf_24 fl_X_33 fw_X0 rfl ?_
        refine fw_aload_n (pc := 27) d_X_pullsOfLeaf_27 0 rfl rfl ?_
        refine fw_getR (pc := 28) d_X_pullsOfLeaf_28 fl_X_68 fw_X0 rfl ?_
        refine fw_iload_n (pc := 31) d_X_pullsOfLeaf_31 1 rfl rfl ?_
        obtain ⟨v32, e32, h⟩ := fw_be h
        refine fw_iald (pc := 32) d_X_pullsOfLeaf_32 fw_X84 e32 ?_
        obtain ⟨p33, e33, h⟩ := fw_be h
        refine fw_callVi (pc := 33) d_X_pullsOfLeaf_33 mv_X_182 fw_X65 (c_Press_inks e33) (by decide) rfl rfl (Nat.le_of_ble_eq_true rfl) ?_
        refine fw_if_ne (pc := 36) (tgt := 42) d_X_pullsOfLeaf_36 rfl (fun hc => ?_) (fun hc => ?_)
        · have h := fw_it hc h
          refine fw_bipush (pc := 39) d_X_pullsOfLeaf_39 fw_bpm4 ?_
          obtain rfl := Option.some.inj h
          have he := hR8 _ (hr _ rfl).symm
          subst he
          exact fw_iret (pc := 41) d_X_pullsOfLeaf_41 rfl
        · have h := fw_if hc h
          refine fw_iload_n (pc := 42) d_X_pullsOfLeaf_42 2 rfl rfl ?_
          refine fw_aload_n (pc := 43) d_X_pullsOfLeaf_43 0 rfl rfl ?_
          refine fw_getR (pc := 44) d_X_pullsOfLeaf_44 fl_X_68 fw_X0 rfl ?_
          refine fw_iload_n (pc := 47) d_X_pullsOfLeaf_47 1 rfl rfl ?_
          obtain ⟨v48, e48, h⟩ := fw_be h
          refine fw_iald (pc := 48) d_X_pullsOfLeaf_48 fw_X84 e48 ?_
          refine fw_ior (pc := 49) d_X_pullsOfLeaf_49 ?_
          obtain ⟨v50, e50, h⟩ := fw_ne h
          refine fw_top e50 ?_
          refine fw_istore_n (pc := 50) (lv1 := [(2, .int v50), (0, .ref 0), (1, .int x1_8)]) d_X_pullsOfLeaf_50 rfl (by decide) rfl ?_
          obtain ⟨v51, e51, h⟩ := fw_ne h
          refine fw_iinc2 (pc := 51) (j := 2) (lv1 := [(1, .int v51), (2, .int v50), (0, .ref 0)]) d_X_pullsOfLeaf_51 rfl fw_ic1 e51 (by decide) rfl ?_
          refine fw_goto (pc := 54) (tgt := 8) d_X_pullsOfLeaf_54 rfl ?_
          obtain rfl := Option.some.inj h
          exact fw_sub [2, 0, 1] rfl (hl _ rfl)
    ) _ _ w8)
def f_X_leaf (a1 : Int32) (a2 : Int32) (a3 : Int32) (μ : fw_M) : Option (Int32 × fw_M) :=
  (f_X_refusal a1 a2 a3 (μ.1 6 1) μ).bind fun (p14 : Int32) =>
  if 0 ≤ p14 then
    if (μ.1 6 1) = 0 then
      some ((-2), μ)
    else
      (fw_rd 3 (μ.1 9) 1).bind fun v48 =>
      if v48 = 0 then
        some ((-2), μ)
      else
        (fw_rq 4 [86, 88, 90, 92] a1).bind fun r61 =>
        if fw_okS r61 then
          (f_X_sortByPull r61 a3 μ).bind fun (p63 : Int32 × fw_M) =>
          Option.bind (
            if p63.1 = 0 then
              some ((-4), p63.2)
            else
              (f_X_pullsOfLeaf p63.2).bind fun (p70 : Int32 × fw_M) =>
              some (p70.1, p70.2)) fun (j66 : Int32 × fw_M) =>
          some (j66.1, j66.2)
        else none
  else
    some (p14, μ)
set_option maxHeartbeats 4000000 in
set_option maxRecDepth 100000 in
theorem c_X_leaf {a1 : Int32} {a2 : Int32} {a3 : Int32} {μ : fw_M} {r : Int32 × fw_M} (h : f_X_leaf a1 a2 a3 μ = some r) : fw_Con Y_X_leaf fw_X 7 [.ref 0, .int a1, .int a2, .int a3] (some r.1) μ r.2 := by
  refine fw_con (by decide) (Nat.le_of_ble_eq_true rfl) ?_
  rw [f_X_leaf] at h
  show fw_R "FewTypes" prog_1_method_28_code 5 (some .int) fw_X 7 (some r.1) r.2 0 [(0, .ref 0), (1, .int a1), (2, .int a2), (3, .int a3)] [] μ
  refine fw_aload_n (pc := 0) d_X_leaf_0 0 rfl rfl ?_
  refine fw_iload_n (pc := 1) d_X_leaf_1 1 rfl rfl ?_
  refine fw_iload_n (pc := 2) d_X_leaf_2 2 rfl rfl ?_
  refine fw_iload_n (pc := 3) d_X_leaf_3 3 rfl rfl ?_
  refine fw_aload_n (pc := 4) d_X_leaf_4 0 rfl rfl ?_
  refine fw_getR (pc := 5) d_X_leaf_5 fl_X_12 fw_X0 rfl ?_
  refine fw_getR (pc := 8) d_X_leaf_8 fl_X_139 fw_X1 rfl ?_
  refine fw_getI (pc := 11) d_X_leaf_11 fl_X_161 fw_X6 rfl ?_
  obtain ⟨p14, e14, h⟩ := fw_be h
  refine fw_callVi (pc := 14) d_X_leaf_14 mv_X_258 fw_X0 (c_X_refusal e14) (by decide) rfl rfl (Nat.le_of_ble_eq_true rfl) ?_
  refine fw_istore (pc := 17) (lv1 := [(4, .int p14), (0, .ref 0), (1, .int a1), (2, .int a2), (3, .int a3)]) d_X_leaf_17 (by decide) rfl ?_
  refine fw_iload (pc := 19) d_X_leaf_19 0 rfl ?_
  refine fw_if_ge (pc := 21) (tgt := 27) d_X_leaf_21 rfl (fun hc => ?_) (fun hc => ?_)
  · have h := fw_it hc h
    refine fw_aload_n (pc := 27) d_X_leaf_27 1 rfl rfl ?_
    refine fw_getR (pc := 28) d_X_leaf_28 fl_X_12 fw_X0 rfl ?_
    refine fw_getR (pc := 31) d_X_leaf_31 fl_X_139 fw_X1 rfl ?_
    refine fw_getI (pc := 34) d_X_leaf_34 fl_X_161 fw_X6 rfl ?_
    refine fw_if_eq (pc := 37) (tgt := 52) d_X_leaf_37 rfl (fun hc => ?_) (fun hc => ?_)
    · have h := fw_it hc h
      refine fw_bipush (pc := 52) d_X_leaf_52 fw_bpm2 ?_
      obtain rfl := Option.some.inj h
      exact fw_iret (pc := 54) d_X_leaf_54 rfl
    · have h := fw_if hc h
      refine fw_aload_n (pc := 40) d_X_leaf_40 1 rfl rfl ?_
      refine fw_getR (pc := 41) d_X_leaf_41 fl_X_12 fw_X0 rfl ?_
      refine fw_getR (pc := 44) d_X_leaf_44 fl_X_125 fw_X1 rfl ?_
      refine fw_iconst (pc := 47) d_X_leaf_47 fw_ic1 ?_
      obtain ⟨v48, e48, h⟩ := fw_be h
      refine fw_iald (pc := 48) d_X_leaf_48 fw_X9 e48 ?_
      refine fw_if_ne (pc := 49) (tgt := 55) d_X_leaf_49 rfl (fun hc => ?_) (fun hc => ?_)
      · have h := fw_it hc h
        refine fw_bipush (pc := 52) d_X_leaf_52 fw_bpm2 ?_
        obtain rfl := Option.some.inj h
        exact fw_iret (pc := 54) d_X_leaf_54 rfl
      · have h := fw_if hc h
        refine fw_aload_n (pc := 55) d_X_leaf_55 1 rfl rfl ?_
        refine fw_aload_n (pc := 56) d_X_leaf_56 1 rfl rfl ?_
        refine fw_getR (pc := 57) d_X_leaf_57 fl_X_73 fw_X0 rfl ?_
        refine fw_iload_n (pc := 60) d_X_leaf_60 2 rfl rfl ?_
        obtain ⟨r61, e61, h⟩ := fw_be h
        obtain ⟨o61, h⟩ := fw_gu h
        refine fw_aald 1 (pc := 61) d_X_leaf_61 (fun _ => rfl) fw_X85 e61 ?_
        refine fw_iload_n (pc := 62) d_X_leaf_62 4 rfl rfl ?_
        obtain ⟨p63, e63, h⟩ := fw_be h
        refine fw_callVi (pc := 63) d_X_leaf_63 mv_X_262 fw_X0 (c_X_sortByPull e63) (by decide) rfl rfl (Nat.le_of_ble_eq_true rfl) ?_
        obtain ⟨j66, w66, h⟩ := fw_be h
        have hJ66 : fw_R "FewTypes" prog_1_method_28_code 5 (some .int) fw_X 7 (some r.1) r.2 78 [] [.int j66.1] j66.2 := by
          obtain rfl := Option.some.inj h
          exact fw_iret (pc := 78) d_X_leaf_78 rfl
        clear h
        have h := w66
        clear w66
        refine fw_if_eq (pc := 66) (tgt := 76) d_X_leaf_66 rfl (fun hc => ?_) (fun hc => ?_)
        · have h := fw_it hc h
          refine fw_bipush (pc := 76) d_X_leaf_76 fw_bpm4 ?_
          obtain rfl := Option.some.inj h
          exact fw_sub [] rfl hJ66
        · have h := fw_if hc h
          refine fw_aload_n (pc := 69) d_X_leaf_69 1 rfl rfl ?_
          obtain ⟨p70, e70, h⟩ := fw_be h
          refine fw_callVi (pc := 70) d_X_leaf_70 mv_X_266 fw_X0 (c_X_pullsOfLeaf e70) (by decide) rfl rfl (Nat.le_of_ble_eq_true rfl) ?_
          refine fw_goto (pc := 73) (tgt := 78) d_X_leaf_73 rfl ?_
          obtain rfl := Option.some.inj h
          exact fw_sub [] rfl hJ66
  · have h := fw_if hc h
    refine fw_iload (pc := 24) d_X_leaf_24 0 rfl ?_
    obtain rfl := Option.some.inj h
    exact fw_iret (pc := 26) d_X_leaf_26 rfl
def f_X_refusalOfTwo (t0 : Nat) (t1 : Nat) (μ : fw_M) : Option (Int32) :=
  if fw_okS t0 then
    if fw_okS t1 then
      if (μ.1 t0 3) = 0 then
        some (-11)
      else
        if (μ.1 t1 3) = 0 then
          some (-11)
        else
          fw_nm (
            if (μ.1 t0 1) = (μ.1 t1 1) then
              0
            else
              (-12)) fun (j25 : Int32) =>
          some j25
    else none
  else none
set_option maxHeartbeats 4000000 in
set_option maxRecDepth 100000 in
theorem c_X_refusalOfTwo {t0 : Nat} {t1 : Nat} {μ : fw_M} {r : Int32} (h : f_X_refusalOfTwo t0 t1 μ = some r) : fw_Con Y_X_refusalOfTwo fw_X 1 [.ref t0, .ref t1] (some r) μ μ := by
  refine fw_con (by decide) (Nat.le_of_ble_eq_true rfl) ?_
  rw [f_X_refusalOfTwo] at h
  show fw_R "FewTypes" prog_1_method_48_code 2 (some .int) fw_X 1 (some r) μ 0 [(0, .ref t0), (1, .ref t1)] [] μ
  obtain ⟨g0, h⟩ := fw_gu h
  obtain ⟨g1, h⟩ := fw_gu h
  refine fw_aload_n (pc := 0) d_X_refusalOfTwo_0 0 rfl rfl ?_
  refine fw_getI (pc := 1) d_X_refusalOfTwo_1 fl_X_291 g0.1 rfl ?_
  refine fw_if_eq (pc := 4) (tgt := 14) d_X_refusalOfTwo_4 rfl (fun hc => ?_) (fun hc => ?_)
  · have h := fw_it hc h
    refine fw_bipush (pc := 14) d_X_refusalOfTwo_14 fw_bpm11 ?_
    obtain rfl := Option.some.inj h
    exact fw_iret (pc := 16) d_X_refusalOfTwo_16 rfl
  · have h := fw_if hc h
    refine fw_aload_n (pc := 7) d_X_refusalOfTwo_7 1 rfl rfl ?_
    refine fw_getI (pc := 8) d_X_refusalOfTwo_8 fl_X_291 g1.1 rfl ?_
    refine fw_if_ne (pc := 11) (tgt := 17) d_X_refusalOfTwo_11 rfl (fun hc => ?_) (fun hc => ?_)
    · have h := fw_it hc h
      refine fw_bipush (pc := 14) d_X_refusalOfTwo_14 fw_bpm11 ?_
      obtain rfl := Option.some.inj h
      exact fw_iret (pc := 16) d_X_refusalOfTwo_16 rfl
    · have h := fw_if hc h
      refine fw_aload_n (pc := 17) d_X_refusalOfTwo_17 0 rfl rfl ?_
      refine fw_getI (pc := 18) d_X_refusalOfTwo_18 fl_X_324 g0.1 rfl ?_
      refine fw_aload_n (pc := 21) d_X_refusalOfTwo_21 1 rfl rfl ?_
      refine fw_getI (pc := 22) d_X_refusalOfTwo_22 fl_X_324 g1.1 rfl ?_
      obtain ⟨j25, w25, h⟩ := fw_ne h
      have hJ25 : fw_R "FewTypes" prog_1_method_48_code 2 (some .int) fw_X 1 (some r) μ 34 [] [.int j25] μ := by
        obtain rfl := Option.some.inj h
        exact fw_iret (pc := 34) d_X_refusalOfTwo_34 rfl
      clear h
      have h := w25
      clear w25
      refine fw_icmp_ne (pc := 25) (tgt := 32) d_X_refusalOfTwo_25 rfl (fun hc => ?_) (fun hc => ?_)
      · have h := h.trans (if_pos hc)
        refine fw_iconst (pc := 28) d_X_refusalOfTwo_28 fw_ic0 ?_
        refine fw_goto (pc := 29) (tgt := 34) d_X_refusalOfTwo_29 rfl ?_
        subst h
        exact fw_sub [] rfl hJ25
      · have h := h.trans (if_neg hc)
        refine fw_bipush (pc := 32) d_X_refusalOfTwo_32 fw_bpm12 ?_
        subst h
        exact fw_sub [] rfl hJ25
