abbrev Y_X_wearSoap : fw_Y := (⟨"FewTypes", "wearSoap", "(II)V"⟩, prog_1_method_45_code, 4, none)
abbrev Y_X_make : fw_Y := (⟨"FewTypes", "make", "(I)I"⟩, prog_1_method_18_code, 4, (some .int))
abbrev Y_X_isSense : fw_Y := (⟨"FewTypes", "isSense", "(I)Z"⟩, prog_1_method_35_code, 1, (some .boolean))
abbrev Y_X_text : fw_Y := (⟨"FewTypes", "text", "(I)I"⟩, prog_1_method_19_code, 3, (some .int))
abbrev Y_Shop_hasText : fw_Y := (⟨"FewTypes$Shop", "hasText", "(I)Z"⟩, prog_8_method_2_code, 2, (some .boolean))
abbrev Y_X_needs : fw_Y := (⟨"FewTypes", "needs", "(I)I"⟩, prog_1_method_20_code, 2, (some .int))
abbrev Y_X_lost : fw_Y := (⟨"FewTypes", "lost", "(I)I"⟩, prog_1_method_21_code, 4, (some .int))
abbrev Y_X_said : fw_Y := (⟨"FewTypes", "said", "(I)I"⟩, prog_1_method_22_code, 6, (some .int))
abbrev Y_Jobs_add : fw_Y := (⟨"FewTypes$Jobs", "add", "(II)V"⟩, prog_3_method_2_code, 3, none)
abbrev Y_X_job : fw_Y := (⟨"FewTypes", "job", "(II)I"⟩, prog_1_method_23_code, 3, (some .int))
abbrev Y_Jobs_sortByDue : fw_Y := (⟨"FewTypes$Jobs", "sortByDue", "()V"⟩, prog_3_method_5_code, 3, none)
abbrev Y_Jobs_isInTime : fw_Y := (⟨"FewTypes$Jobs", "isInTime", "(I)Z"⟩, prog_3_method_6_code, 5, (some .boolean))
abbrev Y_Jobs_mostInTime : fw_Y := (⟨"FewTypes$Jobs", "mostInTime", "()I"⟩, prog_3_method_4_code, 3, (some .int))
abbrev Y_X_done : fw_Y := (⟨"FewTypes", "done", "()I"⟩, prog_1_method_24_code, 1, (some .int))
abbrev Y_X_clear : fw_Y := (⟨"FewTypes", "clear", "()I"⟩, prog_1_method_25_code, 2, (some .int))
theorem mv_X_229 : fw_MV "FewTypes" 229 Y_X_wearSoap 8 2 := ⟨fw_m 705 (by decide +kernel) (by decide +kernel), fw_m 707 (by decide +kernel) (by decide +kernel), fw_m 25 (by decide +kernel) (by decide +kernel), fw_m 59 (by decide +kernel) (by decide +kernel), fw_m 708 (by decide +kernel) (by decide +kernel), ⟨by decide +kernel, by decide +kernel, by decide +kernel⟩, by decide, _, _, rfl⟩
theorem mv_X_321 : fw_MV "FewTypes" 321 Y_X_wearByPull 8 2 := ⟨fw_m 709 (by decide +kernel) (by decide +kernel), fw_m 711 (by decide +kernel) (by decide +kernel), fw_m 26 (by decide +kernel) (by decide +kernel), fw_m 59 (by decide +kernel) (by decide +kernel), fw_m 712 (by decide +kernel) (by decide +kernel), ⟨by decide +kernel, by decide +kernel, by decide +kernel⟩, by decide, _, _, rfl⟩
theorem ms_X_233 : fw_MS "FewTypes" 233 Y_X_isSense 1 := ⟨fw_m 717 (by decide +kernel) (by decide +kernel), fw_m 718 (by decide +kernel) (by decide +kernel), fw_m 59 (by decide +kernel) (by decide +kernel), fw_m 719 (by decide +kernel) (by decide +kernel), ⟨by decide +kernel, by decide +kernel, by decide +kernel⟩, by decide⟩
theorem fl_X_240 : fw_FL "FewTypes" 240 6 5 := ⟨_, _, _, rfl, fw_i6, by decide, fw_m 181 (by decide +kernel) (by decide +kernel)⟩
theorem fp_X_166 : fw_FP "FewTypes" 166 6 6 .int := ⟨_, _, _, fw_t6, rfl, fw_i6, by decide, fw_m 183 (by decide +kernel) (by decide +kernel), fw_k6, fw_n6, rfl, by decide +kernel⟩
theorem mv_X_243 : fw_MV "FewTypes" 243 Y_Shop_hasText 6 1 := ⟨fw_m 724 (by decide +kernel) (by decide +kernel), fw_m 725 (by decide +kernel) (by decide +kernel), fw_m 726 (by decide +kernel) (by decide +kernel), fw_m 60 (by decide +kernel) (by decide +kernel), fw_m 727 (by decide +kernel) (by decide +kernel), ⟨by decide +kernel, by decide +kernel, by decide +kernel⟩, by decide, _, _, rfl⟩
theorem fl_Shop_39 : fw_FL "FewTypes$Shop" 39 6 6 := ⟨_, _, _, rfl, fw_i6, by decide, fw_m 182 (by decide +kernel) (by decide +kernel)⟩
theorem mv_X_250 : fw_MV "FewTypes" 250 Y_Jobs_add 1 2 := ⟨fw_m 740 (by decide +kernel) (by decide +kernel), fw_m 741 (by decide +kernel) (by decide +kernel), fw_m 742 (by decide +kernel) (by decide +kernel), fw_m 63 (by decide +kernel) (by decide +kernel), fw_m 743 (by decide +kernel) (by decide +kernel), ⟨by decide +kernel, by decide +kernel, by decide +kernel⟩, by decide, _, _, rfl⟩
theorem fl_Jobs_21 : fw_FL "FewTypes$Jobs" 21 1 3 := ⟨_, _, _, rfl, fw_i1, by decide, fw_m 148 (by decide +kernel) (by decide +kernel)⟩
theorem fl_Jobs_9 : fw_FL "FewTypes$Jobs" 9 1 0 := ⟨_, _, _, rfl, fw_i1, by decide, fw_m 145 (by decide +kernel) (by decide +kernel)⟩
theorem fl_Jobs_15 : fw_FL "FewTypes$Jobs" 15 1 1 := ⟨_, _, _, rfl, fw_i1, by decide, fw_m 146 (by decide +kernel) (by decide +kernel)⟩
theorem fp_Jobs_21 : fw_FP "FewTypes$Jobs" 21 1 3 .int := ⟨_, _, _, fw_t1, rfl, fw_i1, by decide, fw_m 148 (by decide +kernel) (by decide +kernel), fw_k1, fw_n1, rfl, by decide +kernel⟩
theorem mv_X_252 : fw_MV "FewTypes" 252 Y_Jobs_mostInTime 1 0 := ⟨fw_m 748 (by decide +kernel) (by decide +kernel), fw_m 749 (by decide +kernel) (by decide +kernel), fw_m 750 (by decide +kernel) (by decide +kernel), fw_m 63 (by decide +kernel) (by decide +kernel), fw_m 751 (by decide +kernel) (by decide +kernel), ⟨by decide +kernel, by decide +kernel, by decide +kernel⟩, by decide, _, _, rfl⟩
theorem mv_Jobs_31 : fw_MV "FewTypes$Jobs" 31 Y_Jobs_sortByDue 1 0 := ⟨fw_m 752 (by decide +kernel) (by decide +kernel), fw_m 754 (by decide +kernel) (by decide +kernel), fw_m 27 (by decide +kernel) (by decide +kernel), fw_m 63 (by decide +kernel) (by decide +kernel), fw_m 755 (by decide +kernel) (by decide +kernel), ⟨by decide +kernel, by decide +kernel, by decide +kernel⟩, by decide, _, _, rfl⟩
theorem fl_Jobs_18 : fw_FL "FewTypes$Jobs" 18 1 2 := ⟨_, _, _, rfl, fw_i1, by decide, fw_m 147 (by decide +kernel) (by decide +kernel)⟩
theorem ms_Jobs_34 : fw_MS "FewTypes$Jobs" 34 Y_Integer_bitCount 1 := ⟨fw_m 756 (by decide +kernel) (by decide +kernel), fw_m 614 (by decide +kernel) (by decide +kernel), fw_m 71 (by decide +kernel) (by decide +kernel), fw_m 615 (by decide +kernel) (by decide +kernel), ⟨by decide +kernel, by decide +kernel, by decide +kernel⟩, by decide⟩
theorem mv_Jobs_40 : fw_MV "FewTypes$Jobs" 40 Y_Jobs_isInTime 1 1 := ⟨fw_m 757 (by decide +kernel) (by decide +kernel), fw_m 759 (by decide +kernel) (by decide +kernel), fw_m 28 (by decide +kernel) (by decide +kernel), fw_m 63 (by decide +kernel) (by decide +kernel), fw_m 760 (by decide +kernel) (by decide +kernel), ⟨by decide +kernel, by decide +kernel, by decide +kernel⟩, by decide, _, _, rfl⟩
theorem ms_Jobs_44 : fw_MN "FewTypes$Jobs" 44 Y_X_inSet 2 := ⟨by decide +kernel, fw_m 486 (by decide +kernel) (by decide +kernel), fw_m 59 (by decide +kernel) (by decide +kernel), fw_m 487 (by decide +kernel) (by decide +kernel), ⟨by decide +kernel, by decide +kernel, by decide +kernel⟩, by decide⟩
theorem fp_X_173 : fw_FP "FewTypes" 173 1 3 .int := ⟨_, _, _, fw_t1, rfl, fw_i1, by decide, fw_m 149 (by decide +kernel) (by decide +kernel), fw_k1, fw_n1, rfl, by decide +kernel⟩
theorem d_X_wearSoap_0 : decode prog_1_method_45_code 0 = .ok (.aload_n 0, 1) := by decide +kernel
theorem d_X_wearSoap_1 : decode prog_1_method_45_code 1 = .ok (.invokevirtual 179, 3) := by decide +kernel
theorem d_X_wearSoap_4 : decode prog_1_method_45_code 4 = .ok (.iconst 0, 1) := by decide +kernel
theorem d_X_wearSoap_5 : decode prog_1_method_45_code 5 = .ok (.istore_n 3, 1) := by decide +kernel
theorem d_X_wearSoap_6 : decode prog_1_method_45_code 6 = .ok (.iload_n 3, 1) := by decide +kernel
theorem d_X_wearSoap_7 : decode prog_1_method_45_code 7 = .ok (.iload_n 1, 1) := by decide +kernel
theorem d_X_wearSoap_8 : decode prog_1_method_45_code 8 = .ok (.if_icmp .ge 46, 3) := by decide +kernel
theorem d_X_wearSoap_11 : decode prog_1_method_45_code 11 = .ok (.iload_n 3, 1) := by decide +kernel
theorem d_X_wearSoap_12 : decode prog_1_method_45_code 12 = .ok (.bipush 10, 2) := by decide +kernel
theorem d_X_wearSoap_14 : decode prog_1_method_45_code 14 = .ok (.if_icmp .ge 40, 3) := by decide +kernel
theorem d_X_wearSoap_17 : decode prog_1_method_45_code 17 = .ok (.aload_n 0, 1) := by decide +kernel
theorem d_X_wearSoap_18 : decode prog_1_method_45_code 18 = .ok (.getfield 33, 3) := by decide +kernel
theorem d_X_wearSoap_21 : decode prog_1_method_45_code 21 = .ok (.aload_n 0, 1) := by decide +kernel
theorem d_X_wearSoap_22 : decode prog_1_method_45_code 22 = .ok (.getfield 62, 3) := by decide +kernel
theorem d_X_wearSoap_25 : decode prog_1_method_45_code 25 = .ok (.iload_n 3, 1) := by decide +kernel
theorem d_X_wearSoap_26 : decode prog_1_method_45_code 26 = .ok (.iaload, 1) := by decide +kernel
theorem d_X_wearSoap_27 : decode prog_1_method_45_code 27 = .ok (.aload_n 0, 1) := by decide +kernel
theorem d_X_wearSoap_28 : decode prog_1_method_45_code 28 = .ok (.getfield 65, 3) := by decide +kernel
theorem d_X_wearSoap_31 : decode prog_1_method_45_code 31 = .ok (.invokevirtual 189, 3) := by decide +kernel
theorem d_X_wearSoap_34 : decode prog_1_method_45_code 34 = .ok (.ifCond .eq 14, 3) := by decide +kernel
theorem d_X_wearSoap_37 : decode prog_1_method_45_code 37 = .ok (.aload_n 0, 1) := by decide +kernel
theorem d_X_wearSoap_38 : decode prog_1_method_45_code 38 = .ok (.aload_n 0, 1) := by decide +kernel
theorem d_X_wearSoap_39 : decode prog_1_method_45_code 39 = .ok (.getfield 62, 3) := by decide +kernel
theorem d_X_wearSoap_42 : decode prog_1_method_45_code 42 = .ok (.iload_n 3, 1) := by decide +kernel
theorem d_X_wearSoap_43 : decode prog_1_method_45_code 43 = .ok (.iaload, 1) := by decide +kernel
theorem d_X_wearSoap_44 : decode prog_1_method_45_code 44 = .ok (.iload_n 2, 1) := by decide +kernel
theorem d_X_wearSoap_45 : decode prog_1_method_45_code 45 = .ok (.invokevirtual 321, 3) := by decide +kernel
theorem d_X_wearSoap_48 : decode prog_1_method_45_code 48 = .ok (.iinc 3 1, 3) := by decide +kernel
theorem d_X_wearSoap_51 : decode prog_1_method_45_code 51 = .ok (.goto (-45), 3) := by decide +kernel
theorem d_X_wearSoap_54 : decode prog_1_method_45_code 54 = .ok (.aload_n 0, 1) := by decide +kernel
theorem d_X_wearSoap_55 : decode prog_1_method_45_code 55 = .ok (.getfield 12, 3) := by decide +kernel
theorem d_X_wearSoap_58 : decode prog_1_method_45_code 58 = .ok (.getfield 82, 3) := by decide +kernel
theorem d_X_wearSoap_61 : decode prog_1_method_45_code 61 = .ok (.getfield 85, 3) := by decide +kernel
theorem d_X_wearSoap_64 : decode prog_1_method_45_code 64 = .ok (.iconst 1, 1) := by decide +kernel
theorem d_X_wearSoap_65 : decode prog_1_method_45_code 65 = .ok (.isub, 1) := by decide +kernel
theorem d_X_wearSoap_66 : decode prog_1_method_45_code 66 = .ok (.istore_n 3, 1) := by decide +kernel
theorem d_X_wearSoap_67 : decode prog_1_method_45_code 67 = .ok (.iload_n 3, 1) := by decide +kernel
theorem d_X_wearSoap_68 : decode prog_1_method_45_code 68 = .ok (.ifCond .lt 55, 3) := by decide +kernel
theorem d_X_wearSoap_71 : decode prog_1_method_45_code 71 = .ok (.aload_n 0, 1) := by decide +kernel
theorem d_X_wearSoap_72 : decode prog_1_method_45_code 72 = .ok (.getfield 12, 3) := by decide +kernel
theorem d_X_wearSoap_75 : decode prog_1_method_45_code 75 = .ok (.getfield 82, 3) := by decide +kernel
theorem d_X_wearSoap_78 : decode prog_1_method_45_code 78 = .ok (.getfield 100, 3) := by decide +kernel
theorem d_X_wearSoap_81 : decode prog_1_method_45_code 81 = .ok (.iload_n 3, 1) := by decide +kernel
theorem d_X_wearSoap_82 : decode prog_1_method_45_code 82 = .ok (.iaload, 1) := by decide +kernel
theorem d_X_wearSoap_83 : decode prog_1_method_45_code 83 = .ok (.iconst 3, 1) := by decide +kernel
theorem d_X_wearSoap_84 : decode prog_1_method_45_code 84 = .ok (.if_icmp .ne 33, 3) := by decide +kernel
theorem d_X_wearSoap_87 : decode prog_1_method_45_code 87 = .ok (.aload_n 0, 1) := by decide +kernel
theorem d_X_wearSoap_88 : decode prog_1_method_45_code 88 = .ok (.getfield 12, 3) := by decide +kernel
theorem d_X_wearSoap_91 : decode prog_1_method_45_code 91 = .ok (.getfield 82, 3) := by decide +kernel
theorem d_X_wearSoap_94 : decode prog_1_method_45_code 94 = .ok (.getfield 106, 3) := by decide +kernel
theorem d_X_wearSoap_97 : decode prog_1_method_45_code 97 = .ok (.iload_n 3, 1) := by decide +kernel
theorem d_X_wearSoap_98 : decode prog_1_method_45_code 98 = .ok (.iaload, 1) := by decide +kernel
theorem d_X_wearSoap_99 : decode prog_1_method_45_code 99 = .ok (.ifCond .gt 18, 3) := by decide +kernel
theorem d_X_wearSoap_102 : decode prog_1_method_45_code 102 = .ok (.aload_n 0, 1) := by decide +kernel
theorem d_X_wearSoap_103 : decode prog_1_method_45_code 103 = .ok (.getfield 12, 3) := by decide +kernel
theorem d_X_wearSoap_106 : decode prog_1_method_45_code 106 = .ok (.getfield 82, 3) := by decide +kernel
theorem d_X_wearSoap_109 : decode prog_1_method_45_code 109 = .ok (.iload_n 3, 1) := by decide +kernel
theorem d_X_wearSoap_110 : decode prog_1_method_45_code 110 = .ok (.invokevirtual 109, 3) := by decide +kernel
theorem d_X_wearSoap_113 : decode prog_1_method_45_code 113 = .ok (.aload_n 0, 1) := by decide +kernel
theorem d_X_wearSoap_114 : decode prog_1_method_45_code 114 = .ok (.invokevirtual 93, 3) := by decide +kernel
theorem d_X_wearSoap_117 : decode prog_1_method_45_code 117 = .ok (.iinc 3 (-1), 3) := by decide +kernel
theorem d_X_wearSoap_120 : decode prog_1_method_45_code 120 = .ok (.goto (-53), 3) := by decide +kernel
theorem d_X_wearSoap_123 : decode prog_1_method_45_code 123 = .ok (.return_, 1) := by decide +kernel
theorem d_X_make_0 : decode prog_1_method_18_code 0 = .ok (.iload_n 1, 1) := by decide +kernel
theorem d_X_make_1 : decode prog_1_method_18_code 1 = .ok (.iconst 1, 1) := by decide +kernel
theorem d_X_make_2 : decode prog_1_method_18_code 2 = .ok (.if_icmp .lt 9, 3) := by decide +kernel
theorem d_X_make_5 : decode prog_1_method_18_code 5 = .ok (.iload_n 1, 1) := by decide +kernel
theorem d_X_make_6 : decode prog_1_method_18_code 6 = .ok (.bipush 99, 2) := by decide +kernel
theorem d_X_make_8 : decode prog_1_method_18_code 8 = .ok (.if_icmp .le 5, 3) := by decide +kernel
theorem d_X_make_11 : decode prog_1_method_18_code 11 = .ok (.iconst (-1), 1) := by decide +kernel
theorem d_X_make_12 : decode prog_1_method_18_code 12 = .ok (.ireturn, 1) := by decide +kernel
theorem d_X_make_13 : decode prog_1_method_18_code 13 = .ok (.aload_n 0, 1) := by decide +kernel
theorem d_X_make_14 : decode prog_1_method_18_code 14 = .ok (.bipush 8, 2) := by decide +kernel
theorem d_X_make_16 : decode prog_1_method_18_code 16 = .ok (.invokevirtual 193, 3) := by decide +kernel
theorem d_X_make_19 : decode prog_1_method_18_code 19 = .ok (.istore_n 2, 1) := by decide +kernel
theorem d_X_make_20 : decode prog_1_method_18_code 20 = .ok (.iload_n 2, 1) := by decide +kernel
theorem d_X_make_21 : decode prog_1_method_18_code 21 = .ok (.ifCond .ge 5, 3) := by decide +kernel
theorem d_X_make_24 : decode prog_1_method_18_code 24 = .ok (.iload_n 2, 1) := by decide +kernel
theorem d_X_make_25 : decode prog_1_method_18_code 25 = .ok (.ireturn, 1) := by decide +kernel
theorem d_X_make_26 : decode prog_1_method_18_code 26 = .ok (.iload_n 2, 1) := by decide +kernel
theorem d_X_make_27 : decode prog_1_method_18_code 27 = .ok (.iload_n 1, 1) := by decide +kernel
theorem d_X_make_28 : decode prog_1_method_18_code 28 = .ok (.aload_n 0, 1) := by decide +kernel
theorem d_X_make_29 : decode prog_1_method_18_code 29 = .ok (.getfield 12, 3) := by decide +kernel
theorem d_X_make_32 : decode prog_1_method_18_code 32 = .ok (.getfield 125, 3) := by decide +kernel
theorem d_X_make_35 : decode prog_1_method_18_code 35 = .ok (.iconst 2, 1) := by decide +kernel
theorem d_X_make_36 : decode prog_1_method_18_code 36 = .ok (.iaload, 1) := by decide +kernel
theorem d_X_make_37 : decode prog_1_method_18_code 37 = .ok (.invokestatic 203, 3) := by decide +kernel
theorem d_X_make_40 : decode prog_1_method_18_code 40 = .ok (.imul, 1) := by decide +kernel
theorem d_X_make_41 : decode prog_1_method_18_code 41 = .ok (.istore_n 3, 1) := by decide +kernel
theorem d_X_make_42 : decode prog_1_method_18_code 42 = .ok (.aload_n 0, 1) := by decide +kernel
theorem d_X_make_43 : decode prog_1_method_18_code 43 = .ok (.iload_n 2, 1) := by decide +kernel
theorem d_X_make_44 : decode prog_1_method_18_code 44 = .ok (.iload_n 1, 1) := by decide +kernel
theorem d_X_make_45 : decode prog_1_method_18_code 45 = .ok (.invokevirtual 229, 3) := by decide +kernel
theorem d_X_make_48 : decode prog_1_method_18_code 48 = .ok (.iload_n 3, 1) := by decide +kernel
theorem d_X_make_49 : decode prog_1_method_18_code 49 = .ok (.ireturn, 1) := by decide +kernel
theorem d_X_isSense_0 : decode prog_1_method_35_code 0 = .ok (.iload_n 0, 1) := by decide +kernel
theorem d_X_isSense_1 : decode prog_1_method_35_code 1 = .ok (.ifCond .lt 12, 3) := by decide +kernel
theorem d_X_isSense_4 : decode prog_1_method_35_code 4 = .ok (.iload_n 0, 1) := by decide +kernel
theorem d_X_isSense_5 : decode prog_1_method_35_code 5 = .ok (.iconst 4, 1) := by decide +kernel
theorem d_X_isSense_6 : decode prog_1_method_35_code 6 = .ok (.if_icmp .ge 7, 3) := by decide +kernel
theorem d_X_isSense_9 : decode prog_1_method_35_code 9 = .ok (.iconst 1, 1) := by decide +kernel
theorem d_X_isSense_10 : decode prog_1_method_35_code 10 = .ok (.goto 4, 3) := by decide +kernel
theorem d_X_isSense_13 : decode prog_1_method_35_code 13 = .ok (.iconst 0, 1) := by decide +kernel
theorem d_X_isSense_14 : decode prog_1_method_35_code 14 = .ok (.ireturn, 1) := by decide +kernel
theorem d_X_text_0 : decode prog_1_method_19_code 0 = .ok (.iload_n 1, 1) := by decide +kernel
theorem d_X_text_1 : decode prog_1_method_19_code 1 = .ok (.invokestatic 233, 3) := by decide +kernel
theorem d_X_text_4 : decode prog_1_method_19_code 4 = .ok (.ifCond .ne 5, 3) := by decide +kernel
theorem d_X_text_7 : decode prog_1_method_19_code 7 = .ok (.iconst (-1), 1) := by decide +kernel
theorem d_X_text_8 : decode prog_1_method_19_code 8 = .ok (.ireturn, 1) := by decide +kernel
theorem d_X_text_9 : decode prog_1_method_19_code 9 = .ok (.aload_n 0, 1) := by decide +kernel
theorem d_X_text_10 : decode prog_1_method_19_code 10 = .ok (.getfield 12, 3) := by decide +kernel
theorem d_X_text_13 : decode prog_1_method_19_code 13 = .ok (.getfield 139, 3) := by decide +kernel
theorem d_X_text_16 : decode prog_1_method_19_code 16 = .ok (.getfield 161, 3) := by decide +kernel
theorem d_X_text_19 : decode prog_1_method_19_code 19 = .ok (.ifCond .ne 6, 3) := by decide +kernel
theorem d_X_text_22 : decode prog_1_method_19_code 22 = .ok (.bipush (-2), 2) := by decide +kernel
theorem d_X_text_24 : decode prog_1_method_19_code 24 = .ok (.ireturn, 1) := by decide +kernel
theorem d_X_text_25 : decode prog_1_method_19_code 25 = .ok (.aload_n 0, 1) := by decide +kernel
theorem d_X_text_26 : decode prog_1_method_19_code 26 = .ok (.getfield 12, 3) := by decide +kernel
theorem d_X_text_29 : decode prog_1_method_19_code 29 = .ok (.getfield 166, 3) := by decide +kernel
theorem d_X_text_32 : decode prog_1_method_19_code 32 = .ok (.bipush 8, 2) := by decide +kernel
theorem d_X_text_34 : decode prog_1_method_19_code 34 = .ok (.if_icmp .lt 6, 3) := by decide +kernel
theorem d_X_text_37 : decode prog_1_method_19_code 37 = .ok (.bipush (-3), 2) := by decide +kernel
theorem d_X_text_39 : decode prog_1_method_19_code 39 = .ok (.ireturn, 1) := by decide +kernel
theorem d_X_text_40 : decode prog_1_method_19_code 40 = .ok (.aload_n 0, 1) := by decide +kernel
theorem d_X_text_41 : decode prog_1_method_19_code 41 = .ok (.getfield 12, 3) := by decide +kernel
theorem d_X_text_44 : decode prog_1_method_19_code 44 = .ok (.getfield 166, 3) := by decide +kernel
theorem d_X_text_47 : decode prog_1_method_19_code 47 = .ok (.istore_n 2, 1) := by decide +kernel
theorem d_X_text_48 : decode prog_1_method_19_code 48 = .ok (.aload_n 0, 1) := by decide +kernel
theorem d_X_text_49 : decode prog_1_method_19_code 49 = .ok (.getfield 12, 3) := by decide +kernel
theorem d_X_text_52 : decode prog_1_method_19_code 52 = .ok (.getfield 236, 3) := by decide +kernel
theorem d_X_text_55 : decode prog_1_method_19_code 55 = .ok (.iload_n 2, 1) := by decide +kernel
theorem d_X_text_56 : decode prog_1_method_19_code 56 = .ok (.aaload, 1) := by decide +kernel
theorem d_X_text_57 : decode prog_1_method_19_code 57 = .ok (.aload_n 0, 1) := by decide +kernel
theorem d_X_text_58 : decode prog_1_method_19_code 58 = .ok (.getfield 12, 3) := by decide +kernel
theorem d_X_text_61 : decode prog_1_method_19_code 61 = .ok (.getfield 139, 3) := by decide +kernel
theorem d_X_text_64 : decode prog_1_method_19_code 64 = .ok (.invokevirtual 142, 3) := by decide +kernel
theorem d_X_text_67 : decode prog_1_method_19_code 67 = .ok (.aload_n 0, 1) := by decide +kernel
theorem d_X_text_68 : decode prog_1_method_19_code 68 = .ok (.getfield 12, 3) := by decide +kernel
theorem d_X_text_71 : decode prog_1_method_19_code 71 = .ok (.getfield 240, 3) := by decide +kernel
theorem d_X_text_74 : decode prog_1_method_19_code 74 = .ok (.iload_n 2, 1) := by decide +kernel
theorem d_X_text_75 : decode prog_1_method_19_code 75 = .ok (.iload_n 1, 1) := by decide +kernel
theorem d_X_text_76 : decode prog_1_method_19_code 76 = .ok (.iastore, 1) := by decide +kernel
theorem d_X_text_77 : decode prog_1_method_19_code 77 = .ok (.aload_n 0, 1) := by decide +kernel
theorem d_X_text_78 : decode prog_1_method_19_code 78 = .ok (.getfield 12, 3) := by decide +kernel
theorem d_X_text_81 : decode prog_1_method_19_code 81 = .ok (.iload_n 2, 1) := by decide +kernel
theorem d_X_text_82 : decode prog_1_method_19_code 82 = .ok (.iconst 1, 1) := by decide +kernel
theorem d_X_text_83 : decode prog_1_method_19_code 83 = .ok (.iadd, 1) := by decide +kernel
theorem d_X_text_84 : decode prog_1_method_19_code 84 = .ok (.putfield 166, 3) := by decide +kernel
theorem d_X_text_87 : decode prog_1_method_19_code 87 = .ok (.aload_n 0, 1) := by decide +kernel
theorem d_X_text_88 : decode prog_1_method_19_code 88 = .ok (.getfield 58, 3) := by decide +kernel
theorem d_X_text_91 : decode prog_1_method_19_code 91 = .ok (.iload_n 2, 1) := by decide +kernel
theorem d_X_text_92 : decode prog_1_method_19_code 92 = .ok (.iconst 0, 1) := by decide +kernel
theorem d_X_text_93 : decode prog_1_method_19_code 93 = .ok (.iastore, 1) := by decide +kernel
theorem d_X_text_94 : decode prog_1_method_19_code 94 = .ok (.iload_n 2, 1) := by decide +kernel
theorem d_X_text_95 : decode prog_1_method_19_code 95 = .ok (.ireturn, 1) := by decide +kernel
theorem d_Shop_hasText_0 : decode prog_8_method_2_code 0 = .ok (.iload_n 1, 1) := by decide +kernel
theorem d_Shop_hasText_1 : decode prog_8_method_2_code 1 = .ok (.ifCond .lt 15, 3) := by decide +kernel
theorem d_Shop_hasText_4 : decode prog_8_method_2_code 4 = .ok (.iload_n 1, 1) := by decide +kernel
theorem d_Shop_hasText_5 : decode prog_8_method_2_code 5 = .ok (.aload_n 0, 1) := by decide +kernel
theorem d_Shop_hasText_6 : decode prog_8_method_2_code 6 = .ok (.getfield 39, 3) := by decide +kernel
theorem d_Shop_hasText_9 : decode prog_8_method_2_code 9 = .ok (.if_icmp .ge 7, 3) := by decide +kernel
theorem d_Shop_hasText_12 : decode prog_8_method_2_code 12 = .ok (.iconst 1, 1) := by decide +kernel
theorem d_Shop_hasText_13 : decode prog_8_method_2_code 13 = .ok (.goto 4, 3) := by decide +kernel
theorem d_Shop_hasText_16 : decode prog_8_method_2_code 16 = .ok (.iconst 0, 1) := by decide +kernel
theorem d_Shop_hasText_17 : decode prog_8_method_2_code 17 = .ok (.ireturn, 1) := by decide +kernel
theorem d_X_needs_0 : decode prog_1_method_20_code 0 = .ok (.aload_n 0, 1) := by decide +kernel
theorem d_X_needs_1 : decode prog_1_method_20_code 1 = .ok (.getfield 12, 3) := by decide +kernel
theorem d_X_needs_4 : decode prog_1_method_20_code 4 = .ok (.iload_n 1, 1) := by decide +kernel
theorem d_X_needs_5 : decode prog_1_method_20_code 5 = .ok (.invokevirtual 243, 3) := by decide +kernel
theorem d_X_needs_8 : decode prog_1_method_20_code 8 = .ok (.ifCond .eq 11, 3) := by decide +kernel
theorem d_X_needs_11 : decode prog_1_method_20_code 11 = .ok (.aload_n 0, 1) := by decide +kernel
theorem d_X_needs_12 : decode prog_1_method_20_code 12 = .ok (.iload_n 1, 1) := by decide +kernel
theorem d_X_needs_13 : decode prog_1_method_20_code 13 = .ok (.invokevirtual 193, 3) := by decide +kernel
theorem d_X_needs_16 : decode prog_1_method_20_code 16 = .ok (.goto 4, 3) := by decide +kernel
theorem d_X_needs_19 : decode prog_1_method_20_code 19 = .ok (.iconst (-1), 1) := by decide +kernel
theorem d_X_needs_20 : decode prog_1_method_20_code 20 = .ok (.ireturn, 1) := by decide +kernel
theorem d_X_lost_0 : decode prog_1_method_21_code 0 = .ok (.aload_n 0, 1) := by decide +kernel
theorem d_X_lost_1 : decode prog_1_method_21_code 1 = .ok (.getfield 12, 3) := by decide +kernel
theorem d_X_lost_4 : decode prog_1_method_21_code 4 = .ok (.getfield 82, 3) := by decide +kernel
theorem d_X_lost_7 : decode prog_1_method_21_code 7 = .ok (.iload_n 1, 1) := by decide +kernel
theorem d_X_lost_8 : decode prog_1_method_21_code 8 = .ok (.invokevirtual 96, 3) := by decide +kernel
theorem d_X_lost_11 : decode prog_1_method_21_code 11 = .ok (.ifCond .ne 5, 3) := by decide +kernel
theorem d_X_lost_14 : decode prog_1_method_21_code 14 = .ok (.iconst (-1), 1) := by decide +kernel
theorem d_X_lost_15 : decode prog_1_method_21_code 15 = .ok (.ireturn, 1) := by decide +kernel
theorem d_X_lost_16 : decode prog_1_method_21_code 16 = .ok (.iconst 0, 1) := by decide +kernel
theorem d_X_lost_17 : decode prog_1_method_21_code 17 = .ok (.istore_n 2, 1) := by decide +kernel
theorem d_X_lost_18 : decode prog_1_method_21_code 18 = .ok (.iconst 0, 1) := by decide +kernel
theorem d_X_lost_19 : decode prog_1_method_21_code 19 = .ok (.istore_n 3, 1) := by decide +kernel
theorem d_X_lost_20 : decode prog_1_method_21_code 20 = .ok (.iload_n 3, 1) := by decide +kernel
theorem d_X_lost_21 : decode prog_1_method_21_code 21 = .ok (.aload_n 0, 1) := by decide +kernel
theorem d_X_lost_22 : decode prog_1_method_21_code 22 = .ok (.getfield 12, 3) := by decide +kernel
theorem d_X_lost_25 : decode prog_1_method_21_code 25 = .ok (.getfield 166, 3) := by decide +kernel
theorem d_X_lost_28 : decode prog_1_method_21_code 28 = .ok (.if_icmp .ge 61, 3) := by decide +kernel
theorem d_X_lost_31 : decode prog_1_method_21_code 31 = .ok (.aload_n 0, 1) := by decide +kernel
theorem d_X_lost_32 : decode prog_1_method_21_code 32 = .ok (.getfield 12, 3) := by decide +kernel
theorem d_X_lost_35 : decode prog_1_method_21_code 35 = .ok (.getfield 236, 3) := by decide +kernel
theorem d_X_lost_38 : decode prog_1_method_21_code 38 = .ok (.iload_n 3, 1) := by decide +kernel
theorem d_X_lost_39 : decode prog_1_method_21_code 39 = .ok (.aaload, 1) := by decide +kernel
theorem d_X_lost_40 : decode prog_1_method_21_code 40 = .ok (.aload_n 0, 1) := by decide +kernel
theorem d_X_lost_41 : decode prog_1_method_21_code 41 = .ok (.getfield 12, 3) := by decide +kernel
theorem d_X_lost_44 : decode prog_1_method_21_code 44 = .ok (.getfield 82, 3) := by decide +kernel
theorem d_X_lost_47 : decode prog_1_method_21_code 47 = .ok (.iconst (-1), 1) := by decide +kernel
theorem d_X_lost_48 : decode prog_1_method_21_code 48 = .ok (.invokevirtual 246, 3) := by decide +kernel
theorem d_X_lost_51 : decode prog_1_method_21_code 51 = .ok (.ifCond .eq 32, 3) := by decide +kernel
theorem d_X_lost_54 : decode prog_1_method_21_code 54 = .ok (.aload_n 0, 1) := by decide +kernel
theorem d_X_lost_55 : decode prog_1_method_21_code 55 = .ok (.getfield 12, 3) := by decide +kernel
theorem d_X_lost_58 : decode prog_1_method_21_code 58 = .ok (.getfield 236, 3) := by decide +kernel
theorem d_X_lost_61 : decode prog_1_method_21_code 61 = .ok (.iload_n 3, 1) := by decide +kernel
theorem d_X_lost_62 : decode prog_1_method_21_code 62 = .ok (.aaload, 1) := by decide +kernel
theorem d_X_lost_63 : decode prog_1_method_21_code 63 = .ok (.aload_n 0, 1) := by decide +kernel
theorem d_X_lost_64 : decode prog_1_method_21_code 64 = .ok (.getfield 12, 3) := by decide +kernel
theorem d_X_lost_67 : decode prog_1_method_21_code 67 = .ok (.getfield 82, 3) := by decide +kernel
theorem d_X_lost_70 : decode prog_1_method_21_code 70 = .ok (.iload_n 1, 1) := by decide +kernel
theorem d_X_lost_71 : decode prog_1_method_21_code 71 = .ok (.invokevirtual 246, 3) := by decide +kernel
theorem d_X_lost_74 : decode prog_1_method_21_code 74 = .ok (.ifCond .ne 9, 3) := by decide +kernel
theorem d_X_lost_77 : decode prog_1_method_21_code 77 = .ok (.iload_n 2, 1) := by decide +kernel
theorem d_X_lost_78 : decode prog_1_method_21_code 78 = .ok (.iconst 1, 1) := by decide +kernel
theorem d_X_lost_79 : decode prog_1_method_21_code 79 = .ok (.iload_n 3, 1) := by decide +kernel
theorem d_X_lost_80 : decode prog_1_method_21_code 80 = .ok (.ishl, 1) := by decide +kernel
theorem d_X_lost_81 : decode prog_1_method_21_code 81 = .ok (.ior, 1) := by decide +kernel
theorem d_X_lost_82 : decode prog_1_method_21_code 82 = .ok (.istore_n 2, 1) := by decide +kernel
theorem d_X_lost_83 : decode prog_1_method_21_code 83 = .ok (.iinc 3 1, 3) := by decide +kernel
theorem d_X_lost_86 : decode prog_1_method_21_code 86 = .ok (.goto (-66), 3) := by decide +kernel
theorem d_X_lost_89 : decode prog_1_method_21_code 89 = .ok (.iload_n 2, 1) := by decide +kernel
theorem d_X_lost_90 : decode prog_1_method_21_code 90 = .ok (.ireturn, 1) := by decide +kernel
theorem d_X_said_0 : decode prog_1_method_22_code 0 = .ok (.iload_n 1, 1) := by decide +kernel
theorem d_X_said_1 : decode prog_1_method_22_code 1 = .ok (.invokestatic 233, 3) := by decide +kernel
theorem d_X_said_4 : decode prog_1_method_22_code 4 = .ok (.ifCond .ne 5, 3) := by decide +kernel
theorem d_X_said_7 : decode prog_1_method_22_code 7 = .ok (.iconst (-1), 1) := by decide +kernel
theorem d_X_said_8 : decode prog_1_method_22_code 8 = .ok (.ireturn, 1) := by decide +kernel
theorem d_X_said_9 : decode prog_1_method_22_code 9 = .ok (.bipush (-4), 2) := by decide +kernel
theorem d_X_said_11 : decode prog_1_method_22_code 11 = .ok (.istore_n 2, 1) := by decide +kernel
theorem d_X_said_12 : decode prog_1_method_22_code 12 = .ok (.bipush 11, 2) := by decide +kernel
theorem d_X_said_14 : decode prog_1_method_22_code 14 = .ok (.istore_n 3, 1) := by decide +kernel
theorem d_X_said_15 : decode prog_1_method_22_code 15 = .ok (.iconst 0, 1) := by decide +kernel
theorem d_X_said_16 : decode prog_1_method_22_code 16 = .ok (.istore 4, 2) := by decide +kernel
theorem d_X_said_18 : decode prog_1_method_22_code 18 = .ok (.iload 4, 2) := by decide +kernel
theorem d_X_said_20 : decode prog_1_method_22_code 20 = .ok (.aload_n 0, 1) := by decide +kernel
theorem d_X_said_21 : decode prog_1_method_22_code 21 = .ok (.getfield 12, 3) := by decide +kernel
theorem d_X_said_24 : decode prog_1_method_22_code 24 = .ok (.getfield 166, 3) := by decide +kernel
theorem d_X_said_27 : decode prog_1_method_22_code 27 = .ok (.if_icmp .ge 48, 3) := by decide +kernel
theorem d_X_said_30 : decode prog_1_method_22_code 30 = .ok (.aload_n 0, 1) := by decide +kernel
theorem d_X_said_31 : decode prog_1_method_22_code 31 = .ok (.getfield 12, 3) := by decide +kernel
theorem d_X_said_34 : decode prog_1_method_22_code 34 = .ok (.getfield 240, 3) := by decide +kernel
theorem d_X_said_37 : decode prog_1_method_22_code 37 = .ok (.iload 4, 2) := by decide +kernel
theorem d_X_said_39 : decode prog_1_method_22_code 39 = .ok (.iaload, 1) := by decide +kernel
theorem d_X_said_40 : decode prog_1_method_22_code 40 = .ok (.iload_n 1, 1) := by decide +kernel
theorem d_X_said_41 : decode prog_1_method_22_code 41 = .ok (.if_icmp .ne 28, 3) := by decide +kernel
theorem d_X_said_44 : decode prog_1_method_22_code 44 = .ok (.aload_n 0, 1) := by decide +kernel
theorem d_X_said_45 : decode prog_1_method_22_code 45 = .ok (.iload 4, 2) := by decide +kernel
theorem d_X_said_47 : decode prog_1_method_22_code 47 = .ok (.invokevirtual 193, 3) := by decide +kernel
theorem d_X_said_50 : decode prog_1_method_22_code 50 = .ok (.istore 5, 2) := by decide +kernel
theorem d_X_said_52 : decode prog_1_method_22_code 52 = .ok (.iload 5, 2) := by decide +kernel
theorem d_X_said_54 : decode prog_1_method_22_code 54 = .ok (.ifCond .le 15, 3) := by decide +kernel
theorem d_X_said_57 : decode prog_1_method_22_code 57 = .ok (.iload 5, 2) := by decide +kernel
theorem d_X_said_59 : decode prog_1_method_22_code 59 = .ok (.iload_n 3, 1) := by decide +kernel
theorem d_X_said_60 : decode prog_1_method_22_code 60 = .ok (.if_icmp .ge 9, 3) := by decide +kernel
theorem d_X_said_63 : decode prog_1_method_22_code 63 = .ok (.iload 5, 2) := by decide +kernel
theorem d_X_said_65 : decode prog_1_method_22_code 65 = .ok (.istore_n 3, 1) := by decide +kernel
theorem d_X_said_66 : decode prog_1_method_22_code 66 = .ok (.iload 4, 2) := by decide +kernel
theorem d_X_said_68 : decode prog_1_method_22_code 68 = .ok (.istore_n 2, 1) := by decide +kernel
theorem d_X_said_69 : decode prog_1_method_22_code 69 = .ok (.iinc 4 1, 3) := by decide +kernel
theorem d_X_said_72 : decode prog_1_method_22_code 72 = .ok (.goto (-54), 3) := by decide +kernel
theorem d_X_said_75 : decode prog_1_method_22_code 75 = .ok (.iload_n 2, 1) := by decide +kernel
theorem d_X_said_76 : decode prog_1_method_22_code 76 = .ok (.ireturn, 1) := by decide +kernel
theorem d_Jobs_add_0 : decode prog_3_method_2_code 0 = .ok (.aload_n 0, 1) := by decide +kernel
theorem d_Jobs_add_1 : decode prog_3_method_2_code 1 = .ok (.getfield 21, 3) := by decide +kernel
theorem d_Jobs_add_4 : decode prog_3_method_2_code 4 = .ok (.bipush 8, 2) := by decide +kernel
theorem d_Jobs_add_6 : decode prog_3_method_2_code 6 = .ok (.if_icmp .ge 33, 3) := by decide +kernel
theorem d_Jobs_add_9 : decode prog_3_method_2_code 9 = .ok (.aload_n 0, 1) := by decide +kernel
theorem d_Jobs_add_10 : decode prog_3_method_2_code 10 = .ok (.getfield 9, 3) := by decide +kernel
theorem d_Jobs_add_13 : decode prog_3_method_2_code 13 = .ok (.aload_n 0, 1) := by decide +kernel
theorem d_Jobs_add_14 : decode prog_3_method_2_code 14 = .ok (.getfield 21, 3) := by decide +kernel
theorem d_Jobs_add_17 : decode prog_3_method_2_code 17 = .ok (.iload_n 1, 1) := by decide +kernel
theorem d_Jobs_add_18 : decode prog_3_method_2_code 18 = .ok (.iastore, 1) := by decide +kernel
theorem d_Jobs_add_19 : decode prog_3_method_2_code 19 = .ok (.aload_n 0, 1) := by decide +kernel
theorem d_Jobs_add_20 : decode prog_3_method_2_code 20 = .ok (.getfield 15, 3) := by decide +kernel
theorem d_Jobs_add_23 : decode prog_3_method_2_code 23 = .ok (.aload_n 0, 1) := by decide +kernel
theorem d_Jobs_add_24 : decode prog_3_method_2_code 24 = .ok (.getfield 21, 3) := by decide +kernel
theorem d_Jobs_add_27 : decode prog_3_method_2_code 27 = .ok (.iload_n 2, 1) := by decide +kernel
theorem d_Jobs_add_28 : decode prog_3_method_2_code 28 = .ok (.iastore, 1) := by decide +kernel
theorem d_Jobs_add_29 : decode prog_3_method_2_code 29 = .ok (.aload_n 0, 1) := by decide +kernel
theorem d_Jobs_add_30 : decode prog_3_method_2_code 30 = .ok (.dup, 1) := by decide +kernel
theorem d_Jobs_add_31 : decode prog_3_method_2_code 31 = .ok (.getfield 21, 3) := by decide +kernel
theorem d_Jobs_add_34 : decode prog_3_method_2_code 34 = .ok (.iconst 1, 1) := by decide +kernel
theorem d_Jobs_add_35 : decode prog_3_method_2_code 35 = .ok (.iadd, 1) := by decide +kernel
theorem d_Jobs_add_36 : decode prog_3_method_2_code 36 = .ok (.putfield 21, 3) := by decide +kernel
theorem d_Jobs_add_39 : decode prog_3_method_2_code 39 = .ok (.return_, 1) := by decide +kernel
theorem d_X_job_0 : decode prog_1_method_23_code 0 = .ok (.iload_n 1, 1) := by decide +kernel
theorem d_X_job_1 : decode prog_1_method_23_code 1 = .ok (.iconst 1, 1) := by decide +kernel
theorem d_X_job_2 : decode prog_1_method_23_code 2 = .ok (.if_icmp .lt 21, 3) := by decide +kernel
theorem d_X_job_5 : decode prog_1_method_23_code 5 = .ok (.iload_n 1, 1) := by decide +kernel
theorem d_X_job_6 : decode prog_1_method_23_code 6 = .ok (.bipush 24, 2) := by decide +kernel
theorem d_X_job_8 : decode prog_1_method_23_code 8 = .ok (.if_icmp .gt 15, 3) := by decide +kernel
theorem d_X_job_11 : decode prog_1_method_23_code 11 = .ok (.iload_n 2, 1) := by decide +kernel
theorem d_X_job_12 : decode prog_1_method_23_code 12 = .ok (.iconst 1, 1) := by decide +kernel
theorem d_X_job_13 : decode prog_1_method_23_code 13 = .ok (.if_icmp .lt 10, 3) := by decide +kernel
theorem d_X_job_16 : decode prog_1_method_23_code 16 = .ok (.iload_n 2, 1) := by decide +kernel
theorem d_X_job_17 : decode prog_1_method_23_code 17 = .ok (.sipush 200, 3) := by decide +kernel
theorem d_X_job_20 : decode prog_1_method_23_code 20 = .ok (.if_icmp .le 5, 3) := by decide +kernel
theorem d_X_job_23 : decode prog_1_method_23_code 23 = .ok (.iconst (-1), 1) := by decide +kernel
theorem d_X_job_24 : decode prog_1_method_23_code 24 = .ok (.ireturn, 1) := by decide +kernel
theorem d_X_job_25 : decode prog_1_method_23_code 25 = .ok (.aload_n 0, 1) := by decide +kernel
theorem d_X_job_26 : decode prog_1_method_23_code 26 = .ok (.getfield 12, 3) := by decide +kernel
theorem d_X_job_29 : decode prog_1_method_23_code 29 = .ok (.getfield 169, 3) := by decide +kernel
theorem d_X_job_32 : decode prog_1_method_23_code 32 = .ok (.getfield 173, 3) := by decide +kernel
theorem d_X_job_35 : decode prog_1_method_23_code 35 = .ok (.bipush 8, 2) := by decide +kernel
theorem d_X_job_37 : decode prog_1_method_23_code 37 = .ok (.if_icmp .lt 6, 3) := by decide +kernel
theorem d_X_job_40 : decode prog_1_method_23_code 40 = .ok (.bipush (-3), 2) := by decide +kernel
theorem d_X_job_42 : decode prog_1_method_23_code 42 = .ok (.ireturn, 1) := by decide +kernel
theorem d_X_job_43 : decode prog_1_method_23_code 43 = .ok (.aload_n 0, 1) := by decide +kernel
theorem d_X_job_44 : decode prog_1_method_23_code 44 = .ok (.getfield 12, 3) := by decide +kernel
theorem d_X_job_47 : decode prog_1_method_23_code 47 = .ok (.getfield 169, 3) := by decide +kernel
theorem d_X_job_50 : decode prog_1_method_23_code 50 = .ok (.iload_n 1, 1) := by decide +kernel
theorem d_X_job_51 : decode prog_1_method_23_code 51 = .ok (.iload_n 2, 1) := by decide +kernel
theorem d_X_job_52 : decode prog_1_method_23_code 52 = .ok (.invokevirtual 250, 3) := by decide +kernel
theorem d_X_job_55 : decode prog_1_method_23_code 55 = .ok (.aload_n 0, 1) := by decide +kernel
theorem d_X_job_56 : decode prog_1_method_23_code 56 = .ok (.getfield 12, 3) := by decide +kernel
theorem d_X_job_59 : decode prog_1_method_23_code 59 = .ok (.getfield 169, 3) := by decide +kernel
theorem d_X_job_62 : decode prog_1_method_23_code 62 = .ok (.getfield 173, 3) := by decide +kernel
theorem d_X_job_65 : decode prog_1_method_23_code 65 = .ok (.iconst 1, 1) := by decide +kernel
theorem d_X_job_66 : decode prog_1_method_23_code 66 = .ok (.isub, 1) := by decide +kernel
theorem d_X_job_67 : decode prog_1_method_23_code 67 = .ok (.ireturn, 1) := by decide +kernel
theorem d_Jobs_sortByDue_0 : decode prog_3_method_5_code 0 = .ok (.iconst 0, 1) := by decide +kernel
theorem d_Jobs_sortByDue_1 : decode prog_3_method_5_code 1 = .ok (.istore_n 1, 1) := by decide +kernel
theorem d_Jobs_sortByDue_2 : decode prog_3_method_5_code 2 = .ok (.iload_n 1, 1) := by decide +kernel
theorem d_Jobs_sortByDue_3 : decode prog_3_method_5_code 3 = .ok (.aload_n 0, 1) := by decide +kernel
theorem d_Jobs_sortByDue_4 : decode prog_3_method_5_code 4 = .ok (.getfield 21, 3) := by decide +kernel
theorem d_Jobs_sortByDue_7 : decode prog_3_method_5_code 7 = .ok (.if_icmp .ge 64, 3) := by decide +kernel
theorem d_Jobs_sortByDue_10 : decode prog_3_method_5_code 10 = .ok (.iload_n 1, 1) := by decide +kernel
theorem d_Jobs_sortByDue_11 : decode prog_3_method_5_code 11 = .ok (.istore_n 2, 1) := by decide +kernel
theorem d_Jobs_sortByDue_12 : decode prog_3_method_5_code 12 = .ok (.iload_n 2, 1) := by decide +kernel
theorem d_Jobs_sortByDue_13 : decode prog_3_method_5_code 13 = .ok (.ifCond .le 45, 3) := by decide +kernel
theorem d_Jobs_sortByDue_16 : decode prog_3_method_5_code 16 = .ok (.aload_n 0, 1) := by decide +kernel
theorem d_Jobs_sortByDue_17 : decode prog_3_method_5_code 17 = .ok (.getfield 15, 3) := by decide +kernel
theorem d_Jobs_sortByDue_20 : decode prog_3_method_5_code 20 = .ok (.aload_n 0, 1) := by decide +kernel
theorem d_Jobs_sortByDue_21 : decode prog_3_method_5_code 21 = .ok (.getfield 18, 3) := by decide +kernel
theorem d_Jobs_sortByDue_24 : decode prog_3_method_5_code 24 = .ok (.iload_n 2, 1) := by decide +kernel
theorem d_Jobs_sortByDue_25 : decode prog_3_method_5_code 25 = .ok (.iconst 1, 1) := by decide +kernel
theorem d_Jobs_sortByDue_26 : decode prog_3_method_5_code 26 = .ok (.isub, 1) := by decide +kernel
theorem d_Jobs_sortByDue_27 : decode prog_3_method_5_code 27 = .ok (.iaload, 1) := by decide +kernel
theorem d_Jobs_sortByDue_28 : decode prog_3_method_5_code 28 = .ok (.iaload, 1) := by decide +kernel
theorem d_Jobs_sortByDue_29 : decode prog_3_method_5_code 29 = .ok (.aload_n 0, 1) := by decide +kernel
theorem d_Jobs_sortByDue_30 : decode prog_3_method_5_code 30 = .ok (.getfield 15, 3) := by decide +kernel
theorem d_Jobs_sortByDue_33 : decode prog_3_method_5_code 33 = .ok (.iload_n 1, 1) := by decide +kernel
theorem d_Jobs_sortByDue_34 : decode prog_3_method_5_code 34 = .ok (.iaload, 1) := by decide +kernel
theorem d_Jobs_sortByDue_35 : decode prog_3_method_5_code 35 = .ok (.if_icmp .le 23, 3) := by decide +kernel
theorem d_Jobs_sortByDue_38 : decode prog_3_method_5_code 38 = .ok (.aload_n 0, 1) := by decide +kernel
theorem d_Jobs_sortByDue_39 : decode prog_3_method_5_code 39 = .ok (.getfield 18, 3) := by decide +kernel
theorem d_Jobs_sortByDue_42 : decode prog_3_method_5_code 42 = .ok (.iload_n 2, 1) := by decide +kernel
theorem d_Jobs_sortByDue_43 : decode prog_3_method_5_code 43 = .ok (.aload_n 0, 1) := by decide +kernel
theorem d_Jobs_sortByDue_44 : decode prog_3_method_5_code 44 = .ok (.getfield 18, 3) := by decide +kernel
theorem d_Jobs_sortByDue_47 : decode prog_3_method_5_code 47 = .ok (.iload_n 2, 1) := by decide +kernel
theorem d_Jobs_sortByDue_48 : decode prog_3_method_5_code 48 = .ok (.iconst 1, 1) := by decide +kernel
theorem d_Jobs_sortByDue_49 : decode prog_3_method_5_code 49 = .ok (.isub, 1) := by decide +kernel
theorem d_Jobs_sortByDue_50 : decode prog_3_method_5_code 50 = .ok (.iaload, 1) := by decide +kernel
theorem d_Jobs_sortByDue_51 : decode prog_3_method_5_code 51 = .ok (.iastore, 1) := by decide +kernel
theorem d_Jobs_sortByDue_52 : decode prog_3_method_5_code 52 = .ok (.iinc 2 (-1), 3) := by decide +kernel
theorem d_Jobs_sortByDue_55 : decode prog_3_method_5_code 55 = .ok (.goto (-43), 3) := by decide +kernel
theorem d_Jobs_sortByDue_58 : decode prog_3_method_5_code 58 = .ok (.aload_n 0, 1) := by decide +kernel
theorem d_Jobs_sortByDue_59 : decode prog_3_method_5_code 59 = .ok (.getfield 18, 3) := by decide +kernel
theorem d_Jobs_sortByDue_62 : decode prog_3_method_5_code 62 = .ok (.iload_n 2, 1) := by decide +kernel
theorem d_Jobs_sortByDue_63 : decode prog_3_method_5_code 63 = .ok (.iload_n 1, 1) := by decide +kernel
theorem d_Jobs_sortByDue_64 : decode prog_3_method_5_code 64 = .ok (.iastore, 1) := by decide +kernel
theorem d_Jobs_sortByDue_65 : decode prog_3_method_5_code 65 = .ok (.iinc 1 1, 3) := by decide +kernel
theorem d_Jobs_sortByDue_68 : decode prog_3_method_5_code 68 = .ok (.goto (-66), 3) := by decide +kernel
theorem d_Jobs_sortByDue_71 : decode prog_3_method_5_code 71 = .ok (.return_, 1) := by decide +kernel
theorem d_Jobs_isInTime_0 : decode prog_3_method_6_code 0 = .ok (.iconst 0, 1) := by decide +kernel
theorem d_Jobs_isInTime_1 : decode prog_3_method_6_code 1 = .ok (.istore_n 2, 1) := by decide +kernel
theorem d_Jobs_isInTime_2 : decode prog_3_method_6_code 2 = .ok (.iconst 0, 1) := by decide +kernel
theorem d_Jobs_isInTime_3 : decode prog_3_method_6_code 3 = .ok (.istore_n 3, 1) := by decide +kernel
theorem d_Jobs_isInTime_4 : decode prog_3_method_6_code 4 = .ok (.iload_n 3, 1) := by decide +kernel
theorem d_Jobs_isInTime_5 : decode prog_3_method_6_code 5 = .ok (.aload_n 0, 1) := by decide +kernel
theorem d_Jobs_isInTime_6 : decode prog_3_method_6_code 6 = .ok (.getfield 21, 3) := by decide +kernel
theorem d_Jobs_isInTime_9 : decode prog_3_method_6_code 9 = .ok (.if_icmp .ge 49, 3) := by decide +kernel
theorem d_Jobs_isInTime_12 : decode prog_3_method_6_code 12 = .ok (.aload_n 0, 1) := by decide +kernel
theorem d_Jobs_isInTime_13 : decode prog_3_method_6_code 13 = .ok (.getfield 18, 3) := by decide +kernel
theorem d_Jobs_isInTime_16 : decode prog_3_method_6_code 16 = .ok (.iload_n 3, 1) := by decide +kernel
theorem d_Jobs_isInTime_17 : decode prog_3_method_6_code 17 = .ok (.iaload, 1) := by decide +kernel
theorem d_Jobs_isInTime_18 : decode prog_3_method_6_code 18 = .ok (.istore 4, 2) := by decide +kernel
theorem d_Jobs_isInTime_20 : decode prog_3_method_6_code 20 = .ok (.iload_n 1, 1) := by decide +kernel
theorem d_Jobs_isInTime_21 : decode prog_3_method_6_code 21 = .ok (.iload 4, 2) := by decide +kernel
theorem d_Jobs_isInTime_23 : decode prog_3_method_6_code 23 = .ok (.invokestatic 44, 3) := by decide +kernel
theorem d_Jobs_isInTime_26 : decode prog_3_method_6_code 26 = .ok (.ifCond .eq 26, 3) := by decide +kernel
theorem d_Jobs_isInTime_29 : decode prog_3_method_6_code 29 = .ok (.iload_n 2, 1) := by decide +kernel
theorem d_Jobs_isInTime_30 : decode prog_3_method_6_code 30 = .ok (.aload_n 0, 1) := by decide +kernel
theorem d_Jobs_isInTime_31 : decode prog_3_method_6_code 31 = .ok (.getfield 9, 3) := by decide +kernel
theorem d_Jobs_isInTime_34 : decode prog_3_method_6_code 34 = .ok (.iload 4, 2) := by decide +kernel
theorem d_Jobs_isInTime_36 : decode prog_3_method_6_code 36 = .ok (.iaload, 1) := by decide +kernel
theorem d_Jobs_isInTime_37 : decode prog_3_method_6_code 37 = .ok (.iadd, 1) := by decide +kernel
theorem d_Jobs_isInTime_38 : decode prog_3_method_6_code 38 = .ok (.istore_n 2, 1) := by decide +kernel
theorem d_Jobs_isInTime_39 : decode prog_3_method_6_code 39 = .ok (.iload_n 2, 1) := by decide +kernel
theorem d_Jobs_isInTime_40 : decode prog_3_method_6_code 40 = .ok (.aload_n 0, 1) := by decide +kernel
theorem d_Jobs_isInTime_41 : decode prog_3_method_6_code 41 = .ok (.getfield 15, 3) := by decide +kernel
theorem d_Jobs_isInTime_44 : decode prog_3_method_6_code 44 = .ok (.iload 4, 2) := by decide +kernel
theorem d_Jobs_isInTime_46 : decode prog_3_method_6_code 46 = .ok (.iaload, 1) := by decide +kernel
theorem d_Jobs_isInTime_47 : decode prog_3_method_6_code 47 = .ok (.if_icmp .le 5, 3) := by decide +kernel
theorem d_Jobs_isInTime_50 : decode prog_3_method_6_code 50 = .ok (.iconst 0, 1) := by decide +kernel
theorem d_Jobs_isInTime_51 : decode prog_3_method_6_code 51 = .ok (.ireturn, 1) := by decide +kernel
theorem d_Jobs_isInTime_52 : decode prog_3_method_6_code 52 = .ok (.iinc 3 1, 3) := by decide +kernel
theorem d_Jobs_isInTime_55 : decode prog_3_method_6_code 55 = .ok (.goto (-51), 3) := by decide +kernel
theorem d_Jobs_isInTime_58 : decode prog_3_method_6_code 58 = .ok (.iconst 1, 1) := by decide +kernel
theorem d_Jobs_isInTime_59 : decode prog_3_method_6_code 59 = .ok (.ireturn, 1) := by decide +kernel
theorem d_Jobs_mostInTime_0 : decode prog_3_method_4_code 0 = .ok (.aload_n 0, 1) := by decide +kernel
theorem d_Jobs_mostInTime_1 : decode prog_3_method_4_code 1 = .ok (.invokevirtual 31, 3) := by decide +kernel
theorem d_Jobs_mostInTime_4 : decode prog_3_method_4_code 4 = .ok (.iconst 0, 1) := by decide +kernel
theorem d_Jobs_mostInTime_5 : decode prog_3_method_4_code 5 = .ok (.istore_n 1, 1) := by decide +kernel
theorem d_Jobs_mostInTime_6 : decode prog_3_method_4_code 6 = .ok (.iconst 1, 1) := by decide +kernel
theorem d_Jobs_mostInTime_7 : decode prog_3_method_4_code 7 = .ok (.istore_n 2, 1) := by decide +kernel
theorem d_Jobs_mostInTime_8 : decode prog_3_method_4_code 8 = .ok (.iload_n 2, 1) := by decide +kernel
theorem d_Jobs_mostInTime_9 : decode prog_3_method_4_code 9 = .ok (.iconst 1, 1) := by decide +kernel
theorem d_Jobs_mostInTime_10 : decode prog_3_method_4_code 10 = .ok (.aload_n 0, 1) := by decide +kernel
theorem d_Jobs_mostInTime_11 : decode prog_3_method_4_code 11 = .ok (.getfield 21, 3) := by decide +kernel
theorem d_Jobs_mostInTime_14 : decode prog_3_method_4_code 14 = .ok (.ishl, 1) := by decide +kernel
theorem d_Jobs_mostInTime_15 : decode prog_3_method_4_code 15 = .ok (.if_icmp .ge 30, 3) := by decide +kernel
theorem d_Jobs_mostInTime_18 : decode prog_3_method_4_code 18 = .ok (.iload_n 2, 1) := by decide +kernel
theorem d_Jobs_mostInTime_19 : decode prog_3_method_4_code 19 = .ok (.invokestatic 34, 3) := by decide +kernel
theorem d_Jobs_mostInTime_22 : decode prog_3_method_4_code 22 = .ok (.iload_n 1, 1) := by decide +kernel
theorem d_Jobs_mostInTime_23 : decode prog_3_method_4_code 23 = .ok (.invokestatic 34, 3) := by decide +kernel
theorem d_Jobs_mostInTime_26 : decode prog_3_method_4_code 26 = .ok (.if_icmp .le 13, 3) := by decide +kernel
theorem d_Jobs_mostInTime_29 : decode prog_3_method_4_code 29 = .ok (.aload_n 0, 1) := by decide +kernel
theorem d_Jobs_mostInTime_30 : decode prog_3_method_4_code 30 = .ok (.iload_n 2, 1) := by decide +kernel
theorem d_Jobs_mostInTime_31 : decode prog_3_method_4_code 31 = .ok (.invokevirtual 40, 3) := by decide +kernel
theorem d_Jobs_mostInTime_34 : decode prog_3_method_4_code 34 = .ok (.ifCond .eq 5, 3) := by decide +kernel
theorem d_Jobs_mostInTime_37 : decode prog_3_method_4_code 37 = .ok (.iload_n 2, 1) := by decide +kernel
theorem d_Jobs_mostInTime_38 : decode prog_3_method_4_code 38 = .ok (.istore_n 1, 1) := by decide +kernel
theorem d_Jobs_mostInTime_39 : decode prog_3_method_4_code 39 = .ok (.iinc 2 1, 3) := by decide +kernel
theorem d_Jobs_mostInTime_42 : decode prog_3_method_4_code 42 = .ok (.goto (-34), 3) := by decide +kernel
theorem d_Jobs_mostInTime_45 : decode prog_3_method_4_code 45 = .ok (.iload_n 1, 1) := by decide +kernel
theorem d_Jobs_mostInTime_46 : decode prog_3_method_4_code 46 = .ok (.ireturn, 1) := by decide +kernel
theorem d_X_done_0 : decode prog_1_method_24_code 0 = .ok (.aload_n 0, 1) := by decide +kernel
theorem d_X_done_1 : decode prog_1_method_24_code 1 = .ok (.getfield 12, 3) := by decide +kernel
theorem d_X_done_4 : decode prog_1_method_24_code 4 = .ok (.getfield 169, 3) := by decide +kernel
theorem d_X_done_7 : decode prog_1_method_24_code 7 = .ok (.invokevirtual 252, 3) := by decide +kernel
theorem d_X_done_10 : decode prog_1_method_24_code 10 = .ok (.ireturn, 1) := by decide +kernel
theorem d_X_clear_0 : decode prog_1_method_25_code 0 = .ok (.aload_n 0, 1) := by decide +kernel
theorem d_X_clear_1 : decode prog_1_method_25_code 1 = .ok (.getfield 12, 3) := by decide +kernel
theorem d_X_clear_4 : decode prog_1_method_25_code 4 = .ok (.getfield 166, 3) := by decide +kernel
theorem d_X_clear_7 : decode prog_1_method_25_code 7 = .ok (.aload_n 0, 1) := by decide +kernel
theorem d_X_clear_8 : decode prog_1_method_25_code 8 = .ok (.getfield 12, 3) := by decide +kernel
theorem d_X_clear_11 : decode prog_1_method_25_code 11 = .ok (.getfield 169, 3) := by decide +kernel
theorem d_X_clear_14 : decode prog_1_method_25_code 14 = .ok (.getfield 173, 3) := by decide +kernel
theorem d_X_clear_17 : decode prog_1_method_25_code 17 = .ok (.iadd, 1) := by decide +kernel
theorem d_X_clear_18 : decode prog_1_method_25_code 18 = .ok (.istore_n 1, 1) := by decide +kernel
theorem d_X_clear_19 : decode prog_1_method_25_code 19 = .ok (.aload_n 0, 1) := by decide +kernel
theorem d_X_clear_20 : decode prog_1_method_25_code 20 = .ok (.getfield 12, 3) := by decide +kernel
theorem d_X_clear_23 : decode prog_1_method_25_code 23 = .ok (.iconst 0, 1) := by decide +kernel
theorem d_X_clear_24 : decode prog_1_method_25_code 24 = .ok (.putfield 166, 3) := by decide +kernel
theorem d_X_clear_27 : decode prog_1_method_25_code 27 = .ok (.aload_n 0, 1) := by decide +kernel
theorem d_X_clear_28 : decode prog_1_method_25_code 28 = .ok (.getfield 12, 3) := by decide +kernel
theorem d_X_clear_31 : decode prog_1_method_25_code 31 = .ok (.getfield 169, 3) := by decide +kernel
theorem d_X_clear_34 : decode prog_1_method_25_code 34 = .ok (.iconst 0, 1) := by decide +kernel
theorem d_X_clear_35 : decode prog_1_method_25_code 35 = .ok (.putfield 173, 3) := by decide +kernel
theorem d_X_clear_38 : decode prog_1_method_25_code 38 = .ok (.aload_n 0, 1) := by decide +kernel
theorem d_X_clear_39 : decode prog_1_method_25_code 39 = .ok (.invokevirtual 93, 3) := by decide +kernel
theorem d_X_clear_42 : decode prog_1_method_25_code 42 = .ok (.iload_n 1, 1) := by decide +kernel
theorem d_X_clear_43 : decode prog_1_method_25_code 43 = .ok (.ireturn, 1) := by decide +kernel
def f_X_wearSoap_L6 (a1 : Int32) (a2 : Int32) : Int32 × fw_M → Option ((Int32 × fw_M) ⊕ (fw_M))
  | (x3_6, μ6) =>
  if a1 ≤ x3_6 then
    some (.inr μ6)
  else
    if 10 ≤ x3_6 then
      some (.inr μ6)
    else
      (fw_rd 10 (μ6.1 82) x3_6).bind fun v26 =>
      (f_Press_findLeastWay v26 μ6).bind fun (p31 : Int32 × fw_M) =>
      Option.bind (
        if p31.1 = 0 then
          some p31.2
        else
          (fw_rd 10 (p31.2.1 82) x3_6).bind fun v43 =>
          (f_X_wearByPull v43 a2 p31.2).bind fun (p45 : fw_M) =>
          some p45) fun (j34 : fw_M) =>
      fw_nm (x3_6 + 1) fun (v48 : Int32) =>
      some (.inl (v48, j34))
def f_X_wearSoap_L67  : Int32 × fw_M → Option ((Int32 × fw_M) ⊕ (fw_M))
  | (x3_67, μ67) =>
  if x3_67 < 0 then
    some (.inr μ67)
  else
    (fw_rd 10 (μ67.1 3) x3_67).bind fun v82 =>
    Option.bind (
      if v82 = 3 then
        (fw_rd 10 (μ67.1 5) x3_67).bind fun v98 =>
        if 0 < v98 then
          some μ67
        else
          (f_Case_remove_2 x3_67 μ67).bind fun (p110 : fw_M) =>
          (f_X_forgetPulls p110).bind fun (p114 : fw_M) =>
          some p114
      else
        some μ67) fun (j84 : fw_M) =>
    fw_nm (x3_67 + (-1)) fun (v117 : Int32) =>
    some (.inl (v117, j84))
def f_X_wearSoap (a1 : Int32) (a2 : Int32) (μ : fw_M) : Option (fw_M) :=
  (f_X_lockLine μ).bind fun (p1 : fw_M) =>
  (fw_wh (f_X_wearSoap_L6 a1 a2) fw_N (0, p1)).bind fun (e6x : fw_M) =>
  fw_nm (((e6x.1 2 3) - 1)) fun (v66 : Int32) =>
  (fw_wh (f_X_wearSoap_L67) fw_N (v66, e6x)).bind fun (e67x : fw_M) =>
  some e67x
set_option maxHeartbeats 4000000 in
set_option maxRecDepth 100000 in
theorem c_X_wearSoap {a1 : Int32} {a2 : Int32} {μ : fw_M} {r : fw_M} (h : f_X_wearSoap a1 a2 μ = some r) : fw_Con Y_X_wearSoap fw_X 6 [.ref 0, .int a1, .int a2] none μ r := by
  refine fw_con (by decide) (Nat.le_of_ble_eq_true rfl) ?_
  rw [f_X_wearSoap] at h
  show fw_R "FewTypes" prog_1_method_45_code 4 none fw_X 6 none r 0 [(0, .ref 0), (1, .int a1), (2, .int a2)] [] μ
  refine fw_aload_n (pc := 0) d_X_wearSoap_0 0 rfl rfl ?_
  obtain ⟨p1, e1, h⟩ := fw_be h
  refine fw_callVv (pc := 1) d_X_wearSoap_1 mv_X_179 fw_X0 (c_X_lockLine e1) (by decide) rfl rfl (Nat.le_of_ble_eq_true rfl) ?_
  refine fw_iconst (pc := 4) d_X_wearSoap_4 fw_ic0 ?_
  refine fw_istore_n (pc := 5) (lv1 := [(3, .int 0), (0, .ref 0), (1, .int a1), (2, .int a2)]) d_X_wearSoap_5 rfl (by decide) rfl ?_
  obtain ⟨e6x, w6, h⟩ := fw_be h
  have hE6 : fw_R "FewTypes" prog_1_method_45_code 4 none fw_X 6 none r 54 [(0, .ref 0)] [] e6x := by
    refine fw_aload_n (pc := 54) d_X_wearSoap_54 0 rfl rfl ?_
    refine fw_getR (pc := 55) d_X_wearSoap_55 fl_X_12 fw_X0 rfl ?_
    refine fw_getR (pc := 58) d_X_wearSoap_58 fl_X_82 fw_X1 rfl ?_
    refine fw_getI (pc := 61) d_X_wearSoap_61 fl_X_85 fw_X2 rfl ?_
    refine fw_iconst (pc := 64) d_X_wearSoap_64 fw_ic1 ?_
    refine fw_isub (pc := 65) d_X_wearSoap_65 ?_
    obtain ⟨v66, e66, h⟩ := fw_ne h
    refine fw_top e66 ?_
    refine fw_istore_n (pc := 66) (lv1 := [(3, .int v66), (0, .ref 0)]) d_X_wearSoap_66 rfl (by decide) rfl ?_
    obtain ⟨e67x, w67, h⟩ := fw_be h
    have hE67 : fw_R "FewTypes" prog_1_method_45_code 4 none fw_X 6 none r 123 [] [] e67x := by
      obtain rfl := Option.some.inj h
      exact fw_vret (pc := 123) d_X_wearSoap_123 rfl
    clear h
    exact fw_sub [1, 0] rfl (fw_we (e := e67x) (fun (s : Int32 × fw_M) => fw_R "FewTypes" prog_1_method_45_code 4 none fw_X 6 none r 67 [(0, .ref 0), (3, .int s.1)] [] s.2) (by
      intro s x h hl hr
      obtain ⟨x3_67, μ67⟩ := s
      rw [f_X_wearSoap_L67] at h
      show fw_R "FewTypes" prog_1_method_45_code 4 none fw_X 6 none r 67 [(0, .ref 0), (3, .int x3_67)] [] μ67
      refine fw_iload_n (pc := 67) d_X_wearSoap_67 1 rfl rfl ?_
      refine fw_if_lt (pc := 68) (tgt := 123) d_X_wearSoap_68 rfl (fun hc => ?_) (fun hc => ?_)
      · have h := fw_it hc h
        obtain rfl := Option.some.inj h
        have he := hr _ rfl
        subst he
        exact fw_sub [] rfl hE67
      · have h := fw_if hc h
        refine fw_aload_n (pc := 71) d_X_wearSoap_71 0 rfl rfl ?_
        refine fw_getR (pc := 72) d_X_wearSoap_72 fl_X_12 fw_X0 rfl ?_
        refine fw_getR (pc := 75) d_X_wearSoap_75 fl_X_82 fw_X1 rfl ?_
        refine fw_getR (pc := 78) d_X_wearSoap_78 fl_X_100 fw_X2 rfl ?_
        refine fw_iload_n (pc := 81) d_X_wearSoap_81 1 rfl rfl ?_
        obtain ⟨v82, e82, h⟩ := fw_be h
        refine fw_iald (pc := 82) d_X_wearSoap_82 fw_X3 e82 ?_
        refine fw_iconst (pc := 83) d_X_wearSoap_83 fw_ic3 ?_
        obtain ⟨j84, w84, h⟩ := fw_be h
        have hJ84 : fw_R "FewTypes" prog_1_method_45_code 4 none fw_X 6 none r 117 [(0, .ref 0), (3, .int x3_67)] [] j84 := by
          obtain ⟨v117, e117, h⟩ := fw_ne h
          refine fw_iinc2 (pc := 117) (j := 1) (lv1 := [(3, .int v117), (0, .ref 0)]) d_X_wearSoap_117 rfl fw_icm1 e117 (by decide) rfl ?_
          refine fw_goto (pc := 120) (tgt := 67) d_X_wearSoap_120 rfl ?_
          obtain rfl := Option.some.inj h
          exact fw_sub [1, 0] rfl (hl _ rfl)
        clear h
        have h := w84
        clear w84
        refine fw_icmp_ne (pc := 84) (tgt := 117) d_X_wearSoap_84 rfl (fun hc => ?_) (fun hc => ?_)
        · have h := fw_it hc h
          refine fw_aload_n (pc := 87) d_X_wearSoap_87 0 rfl rfl ?_
          refine fw_getR (pc := 88) d_X_wearSoap_88 fl_X_12 fw_X0 rfl ?_
          refine fw_getR (pc := 91) d_X_wearSoap_91 fl_X_82 fw_X1 rfl ?_
          refine fw_getR (pc := 94) d_X_wearSoap_94 fl_X_106 fw_X2 rfl ?_
          refine fw_iload_n (pc := 97) d_X_wearSoap_97 1 rfl rfl ?_
          obtain ⟨v98, e98, h⟩ := fw_be h
          refine fw_iald (pc := 98) d_X_wearSoap_98 fw_X5 e98 ?_
          refine fw_if_gt (pc := 99) (tgt := 117) d_X_wearSoap_99 rfl (fun hc => ?_) (fun hc => ?_)
          · have h := fw_it hc h
            obtain rfl := Option.some.inj h
            exact fw_sub [0, 1] rfl hJ84
          · have h := fw_if hc h
            refine fw_aload_n (pc := 102) d_X_wearSoap_102 0 rfl rfl ?_
            refine fw_getR (pc := 103) d_X_wearSoap_103 fl_X_12 fw_X0 rfl ?_
            refine fw_getR (pc := 106) d_X_wearSoap_106 fl_X_82 fw_X1 rfl ?_
            refine fw_iload_n (pc := 109) d_X_wearSoap_109 1 rfl rfl ?_
            obtain ⟨p110, e110, h⟩ := fw_be h
            refine fw_callVv (pc := 110) d_X_wearSoap_110 mv_X_109 fw_X2 (c_Case_remove_2 e110) (by decide) rfl rfl (Nat.le_of_ble_eq_true rfl) ?_
            refine fw_aload_n (pc := 113) d_X_wearSoap_113 0 rfl rfl ?_
            obtain ⟨p114, e114, h⟩ := fw_be h
            refine fw_callVv (pc := 114) d_X_wearSoap_114 mv_X_93 fw_X0 (c_X_forgetPulls e114) (by decide) rfl rfl (Nat.le_of_ble_eq_true rfl) ?_
            obtain rfl := Option.some.inj h
            exact fw_sub [0, 1] rfl hJ84
        · have h := fw_if hc h
          obtain rfl := Option.some.inj h
          exact fw_sub [0, 1] rfl hJ84
      ) _ _ w67)
  clear h
  exact fw_sub [1, 2, 3, 0] rfl (fw_we (e := e6x) (fun (s : Int32 × fw_M) => fw_R "FewTypes" prog_1_method_45_code 4 none fw_X 6 none r 6 [(0, .ref 0), (1, .int a1), (2, .int a2), (3, .int s.1)] [] s.2) (by
    intro s x h hl hr
    obtain ⟨x3_6, μ6⟩ := s
    rw [f_X_wearSoap_L6] at h
    show fw_R "FewTypes" prog_1_method_45_code 4 none fw_X 6 none r 6 [(0, .ref 0), (1, .int a1), (2, .int a2), (3, .int x3_6)] [] μ6
    refine fw_iload_n (pc := 6) d_X_wearSoap_6 3 rfl rfl ?_
    refine fw_iload_n (pc := 7) d_X_wearSoap_7 1 rfl rfl ?_
    refine fw_icmp_ge (pc := 8) (tgt := 54) d_X_wearSoap_8 rfl (fun hc => ?_) (fun hc => ?_)
    · have h := fw_it hc h
      obtain rfl := Option.some.inj h
      have he := hr _ rfl
      subst he
      exact fw_sub [0] rfl hE6
    · have h := fw_if hc h
      refine fw_iload_n (pc := 11) d_X_wearSoap_11 3 rfl rfl ?_
      refine fw_bipush (pc := 12) d_X_wearSoap_12 fw_bp10 ?_
      refine fw_icmp_ge (pc := 14) (tgt := 54) d_X_wearSoap_14 rfl (fun hc => ?_) (fun hc => ?_)
      · have h := fw_it hc h
        obtain rfl := Option.some.inj h
        have he := hr _ rfl
        subst he
        exact fw_sub [0] rfl hE6
      · have h := fw_if hc h
        refine fw_aload_n (pc := 17) d_X_wearSoap_17 0 rfl rfl ?_
        refine fw_getR (pc := 18) d_X_wearSoap_18 fl_X_33 fw_X0 rfl ?_
        refine fw_aload_n (pc := 21) d_X_wearSoap_21 0 rfl rfl ?_
        refine fw_getR (pc := 22) d_X_wearSoap_22 fl_X_62 fw_X0 rfl ?_
        refine fw_iload_n (pc := 25) d_X_wearSoap_25 3 rfl rfl ?_
        obtain ⟨v26, e26, h⟩ := fw_be h
        refine fw_iald (pc := 26) d_X_wearSoap_26 fw_X82 e26 ?_
        refine fw_aload_n (pc := 27) d_X_wearSoap_27 0 rfl rfl ?_
        refine fw_getR (pc := 28) d_X_wearSoap_28 fl_X_65 fw_X0 rfl ?_
        obtain ⟨p31, e31, h⟩ := fw_be h
        refine fw_callVi (pc := 31) d_X_wearSoap_31 mv_X_189 fw_X65 (c_Press_findLeastWay e31) (by decide) rfl rfl (Nat.le_of_ble_eq_true rfl) ?_
        obtain ⟨j34, w34, h⟩ := fw_be h
        have hJ34 : fw_R "FewTypes" prog_1_method_45_code 4 none fw_X 6 none r 48 [(0, .ref 0), (1, .int a1), (2, .int a2), (3, .int x3_6)] [] j34 := by
          obtain ⟨v48, e48, h⟩ := fw_ne h
          refine fw_iinc2 (pc := 48) (j := 3) (lv1 := [(3, .int v48), (0, .ref 0), (1, .int a1), (2, .int a2)]) d_X_wearSoap_48 rfl fw_ic1 e48 (by decide) rfl ?_
          refine fw_goto (pc := 51) (tgt := 6) d_X_wearSoap_51 rfl ?_
          obtain rfl := Option.some.inj h
          exact fw_sub [1, 2, 3, 0] rfl (hl _ rfl)
        clear h
        have h := w34
        clear w34
        refine fw_if_eq (pc := 34) (tgt := 48) d_X_wearSoap_34 rfl (fun hc => ?_) (fun hc => ?_)
        · have h := fw_it hc h
          obtain rfl := Option.some.inj h
          exact fw_sub [0, 1, 2, 3] rfl hJ34
        · have h := fw_if hc h
          refine fw_aload_n (pc := 37) d_X_wearSoap_37 0 rfl rfl ?_
          refine fw_aload_n (pc := 38) d_X_wearSoap_38 0 rfl rfl ?_
          refine fw_getR (pc := 39) d_X_wearSoap_39 fl_X_62 fw_X0 rfl ?_
          refine fw_iload_n (pc := 42) d_X_wearSoap_42 3 rfl rfl ?_
          obtain ⟨v43, e43, h⟩ := fw_be h
          refine fw_iald (pc := 43) d_X_wearSoap_43 fw_X82 e43 ?_
          refine fw_iload_n (pc := 44) d_X_wearSoap_44 2 rfl rfl ?_
          obtain ⟨p45, e45, h⟩ := fw_be h
          refine fw_callVv (pc := 45) d_X_wearSoap_45 mv_X_321 fw_X0 (c_X_wearByPull e45) (by decide) rfl rfl (Nat.le_of_ble_eq_true rfl) ?_
          obtain rfl := Option.some.inj h
          exact fw_sub [0, 1, 2, 3] rfl hJ34
    ) _ _ w6)
def f_X_make (a1 : Int32) (μ : fw_M) : Option (Int32 × fw_M) :=
  if a1 < 1 then
    some ((-1), μ)
  else
    if a1 ≤ 99 then
      (f_X_pullsFor 8 μ).bind fun (p16 : Int32 × fw_M) =>
      if 0 ≤ p16.1 then
        (fw_rd 3 (p16.2.1 9) 2).bind fun v36 =>
        (f_X_cutUp a1 v36).bind fun (p37 : Int32) =>
        fw_nm ((p16.1 * p37)) fun (v41 : Int32) =>
        (f_X_wearSoap p16.1 a1 p16.2).bind fun (p45 : fw_M) =>
        some (v41, p45)
      else
        some (p16.1, p16.2)
    else
      some ((-1), μ)
set_option maxHeartbeats 4000000 in
set_option maxRecDepth 100000 in
theorem c_X_make {a1 : Int32} {μ : fw_M} {r : Int32 × fw_M} (h : f_X_make a1 μ = some r) : fw_Con Y_X_make fw_X 7 [.ref 0, .int a1] (some r.1) μ r.2 := by
  refine fw_con (by decide) (Nat.le_of_ble_eq_true rfl) ?_
  rw [f_X_make] at h
  show fw_R "FewTypes" prog_1_method_18_code 4 (some .int) fw_X 7 (some r.1) r.2 0 [(0, .ref 0), (1, .int a1)] [] μ
  refine fw_iload_n (pc := 0) d_X_make_0 1 rfl rfl ?_
  refine fw_iconst (pc := 1) d_X_make_1 fw_ic1 ?_
  refine fw_icmp_lt (pc := 2) (tgt := 11) d_X_make_2 rfl (fun hc => ?_) (fun hc => ?_)
  · have h := fw_it hc h
    refine fw_iconst (pc := 11) d_X_make_11 fw_icm1 ?_
    obtain rfl := Option.some.inj h
    exact fw_iret (pc := 12) d_X_make_12 rfl
  · have h := fw_if hc h
    refine fw_iload_n (pc := 5) d_X_make_5 1 rfl rfl ?_
    refine fw_bipush (pc := 6) d_X_make_6 fw_bp99 ?_
    refine fw_icmp_le (pc := 8) (tgt := 13) d_X_make_8 rfl (fun hc => ?_) (fun hc => ?_)
    · have h := fw_it hc h
      refine fw_aload_n (pc := 13) d_X_make_13 0 rfl rfl ?_
      refine fw_bipush (pc := 14) d_X_make_14 fw_bp8 ?_
      obtain ⟨p16, e16, h⟩ := fw_be h
      refine fw_callVi (pc := 16) d_X_make_16 mv_X_193 fw_X0 (c_X_pullsFor e16) (by decide) rfl rfl (Nat.le_of_ble_eq_true rfl) ?_
      refine fw_istore_n (pc := 19) (lv1 := [(2, .int p16.1), (0, .ref 0), (1, .int a1)]) d_X_make_19 rfl (by decide) rfl ?_
      refine fw_iload_n (pc := 20) d_X_make_20 0 rfl rfl ?_
      refine fw_if_ge (pc := 21) (tgt := 26) d_X_make_21 rfl (fun hc => ?_) (fun hc => ?_)
      · have h := fw_it hc h
        refine fw_iload_n (pc := 26) d_X_make_26 0 rfl rfl ?_
        refine fw_iload_n (pc := 27) d_X_make_27 2 rfl rfl ?_
        refine fw_aload_n (pc := 28) d_X_make_28 1 rfl rfl ?_
        refine fw_getR (pc := 29) d_X_make_29 fl_X_12 fw_X0 rfl ?_
        refine fw_getR (pc := 32) d_X_make_32 fl_X_125 fw_X1 rfl ?_
        refine fw_iconst (pc := 35) d_X_make_35 fw_ic2 ?_
        obtain ⟨v36, e36, h⟩ := fw_be h
        refine fw_iald (pc := 36) d_X_make_36 fw_X9 e36 ?_
        obtain ⟨p37, e37, h⟩ := fw_be h
        refine fw_callSi (pc := 37) d_X_make_37 ms_X_203 (c_X_cutUp e37) (by decide) rfl rfl (Nat.le_of_ble_eq_true rfl) ?_
        refine fw_imul (pc := 40) d_X_make_40 ?_
        obtain ⟨v41, e41, h⟩ := fw_ne h
        refine fw_top e41 ?_
        refine fw_istore_n (pc := 41) (lv1 := [(3, .int v41), (2, .int p16.1), (0, .ref 0), (1, .int a1)]) d_X_make_41 rfl (by decide) rfl ?_
        refine fw_aload_n (pc := 42) d_X_make_42 2 rfl rfl ?_
        refine fw_iload_n (pc := 43) d_X_make_43 1 rfl rfl ?_
        refine fw_iload_n (pc := 44) d_X_make_44 3 rfl rfl ?_
        obtain ⟨p45, e45, h⟩ := fw_be h
        refine fw_callVv (pc := 45) d_X_make_45 mv_X_229 fw_X0 (c_X_wearSoap e45) (by decide) rfl rfl (Nat.le_of_ble_eq_true rfl) ?_
        refine fw_iload_n (pc := 48) d_X_make_48 0 rfl rfl ?_
        obtain rfl := Option.some.inj h
        exact fw_iret (pc := 49) d_X_make_49 rfl
      · have h := fw_if hc h
        refine fw_iload_n (pc := 24) d_X_make_24 0 rfl rfl ?_
        obtain rfl := Option.some.inj h
        exact fw_iret (pc := 25) d_X_make_25 rfl
    · have h := fw_if hc h
      refine fw_iconst (pc := 11) d_X_make_11 fw_icm1 ?_
      obtain rfl := Option.some.inj h
      exact fw_iret (pc := 12) d_X_make_12 rfl
def f_X_isSense (a0 : Int32) : Option (Int32) :=
  fw_nm (
    if a0 < 0 then
      0
    else
      if 4 ≤ a0 then
        0
      else
        1) fun (j1 : Int32) =>
  (fw_bz j1).bind fun b14 =>
  some b14
set_option maxHeartbeats 4000000 in
set_option maxRecDepth 100000 in
theorem c_X_isSense {a0 : Int32} {μ : fw_M} {r : Int32} (h : f_X_isSense a0 = some r) : fw_Con Y_X_isSense fw_X 1 [.int a0] (some r) μ μ := by
  refine fw_con (by decide) (Nat.le_of_ble_eq_true rfl) ?_
  rw [f_X_isSense] at h
  show fw_R "FewTypes" prog_1_method_35_code 1 (some .boolean) fw_X 1 (some r) μ 0 [(0, .int a0)] [] μ
  refine fw_iload_n (pc := 0) d_X_isSense_0 0 rfl rfl ?_
  obtain ⟨j1, w1, h⟩ := fw_ne h
  have hJ1 : fw_R "FewTypes" prog_1_method_35_code 1 (some .boolean) fw_X 1 (some r) μ 14 [] [.int j1] μ := by
    obtain ⟨b14, e14, h⟩ := fw_be h
    obtain rfl := Option.some.inj h
    exact fw_zret (pc := 14) d_X_isSense_14 rfl e14
  clear h
  have h := w1
  clear w1
  refine fw_if_lt (pc := 1) (tgt := 13) d_X_isSense_1 rfl (fun hc => ?_) (fun hc => ?_)
  · have h := h.trans (if_pos hc)
    refine fw_iconst (pc := 13) d_X_isSense_13 fw_ic0 ?_
    subst h
    exact fw_sub [] rfl hJ1
  · have h := h.trans (if_neg hc)
    refine fw_iload_n (pc := 4) d_X_isSense_4 0 rfl rfl ?_
    refine fw_iconst (pc := 5) d_X_isSense_5 fw_ic4 ?_
    refine fw_icmp_ge (pc := 6) (tgt := 13) d_X_isSense_6 rfl (fun hc => ?_) (fun hc => ?_)
    · have h := h.trans (if_pos hc)
      refine fw_iconst (pc := 13) d_X_isSense_13 fw_ic0 ?_
      subst h
      exact fw_sub [] rfl hJ1
    · have h := h.trans (if_neg hc)
      refine fw_iconst (pc := 9) d_X_isSense_9 fw_ic1 ?_
      refine fw_goto (pc := 10) (tgt := 14) d_X_isSense_10 rfl ?_
      subst h
      exact fw_sub [] rfl hJ1
def f_X_text (a1 : Int32) (μ : fw_M) : Option (Int32 × fw_M) :=
  (f_X_isSense a1).bind fun (p1 : Int32) =>
  if p1 = 0 then
    some ((-1), μ)
  else
    if (μ.1 6 1) = 0 then
      some ((-2), μ)
    else
      if (μ.1 1 6) < 8 then
        fw_nm ((μ.1 1 6)) fun (v47 : Int32) =>
        (fw_rq 8 [11, 13, 15, 17, 19, 21, 23, 25] v47).bind fun r56 =>
        if fw_okL r56 then
          (f_Line_take r56 6 μ).bind fun (p64 : fw_M) =>
          (fw_si 8 p64 27 v47 a1).bind fun μ76 =>
          fw_nm (fw_wr μ76 1 6 (v47 + 1)) fun (μ84 : fw_M) =>
          (fw_si 9 μ84 81 v47 0).bind fun μ93 =>
          some (v47, μ93)
        else none
      else
        some ((-3), μ)
set_option maxHeartbeats 4000000 in
set_option maxRecDepth 100000 in
theorem c_X_text {a1 : Int32} {μ : fw_M} {r : Int32 × fw_M} (h : f_X_text a1 μ = some r) : fw_Con Y_X_text fw_X 2 [.ref 0, .int a1] (some r.1) μ r.2 := by
  refine fw_con (by decide) (Nat.le_of_ble_eq_true rfl) ?_
  rw [f_X_text] at h
  show fw_R "FewTypes" prog_1_method_19_code 3 (some .int) fw_X 2 (some r.1) r.2 0 [(0, .ref 0), (1, .int a1)] [] μ
  refine fw_iload_n (pc := 0) d_X_text_0 1 rfl rfl ?_
  obtain ⟨p1, e1, h⟩ := fw_be h
  refine fw_callSi (pc := 1) d_X_text_1 ms_X_233 (c_X_isSense e1) (by decide) rfl rfl (Nat.le_of_ble_eq_true rfl) ?_
  refine fw_if_ne (pc := 4) (tgt := 9) d_X_text_4 rfl (fun hc => ?_) (fun hc => ?_)
  · have h := fw_it hc h
    refine fw_iconst (pc := 7) d_X_text_7 fw_icm1 ?_
    obtain rfl := Option.some.inj h
    exact fw_iret (pc := 8) d_X_text_8 rfl
  · have h := fw_if hc h
    refine fw_aload_n (pc := 9) d_X_text_9 0 rfl rfl ?_
    refine fw_getR (pc := 10) d_X_text_10 fl_X_12 fw_X0 rfl ?_
    refine fw_getR (pc := 13) d_X_text_13 fl_X_139 fw_X1 rfl ?_
    refine fw_getI (pc := 16) d_X_text_16 fl_X_161 fw_X6 rfl ?_
    refine fw_if_ne (pc := 19) (tgt := 25) d_X_text_19 rfl (fun hc => ?_) (fun hc => ?_)
    · have h := fw_it hc h
      refine fw_bipush (pc := 22) d_X_text_22 fw_bpm2 ?_
      obtain rfl := Option.some.inj h
      exact fw_iret (pc := 24) d_X_text_24 rfl
    · have h := fw_if hc h
      refine fw_aload_n (pc := 25) d_X_text_25 0 rfl rfl ?_
      refine fw_getR (pc := 26) d_X_text_26 fl_X_12 fw_X0 rfl ?_
      refine fw_getI (pc := 29) d_X_text_29 fl_X_166 fw_X1 rfl ?_
      refine fw_bipush (pc := 32) d_X_text_32 fw_bp8 ?_
      refine fw_icmp_lt (pc := 34) (tgt := 40) d_X_text_34 rfl (fun hc => ?_) (fun hc => ?_)
      · have h := fw_it hc h
        refine fw_aload_n (pc := 40) d_X_text_40 0 rfl rfl ?_
        refine fw_getR (pc := 41) d_X_text_41 fl_X_12 fw_X0 rfl ?_
        refine fw_getI (pc := 44) d_X_text_44 fl_X_166 fw_X1 rfl ?_
        obtain ⟨v47, e47, h⟩ := fw_ne h
        refine fw_top e47 ?_
        refine fw_istore_n (pc := 47) (lv1 := [(2, .int v47), (0, .ref 0), (1, .int a1)]) d_X_text_47 rfl (by decide) rfl ?_
        refine fw_aload_n (pc := 48) d_X_text_48 1 rfl rfl ?_
        refine fw_getR (pc := 49) d_X_text_49 fl_X_12 fw_X0 rfl ?_
        refine fw_getR (pc := 52) d_X_text_52 fl_X_236 fw_X1 rfl ?_
        refine fw_iload_n (pc := 55) d_X_text_55 0 rfl rfl ?_
        obtain ⟨r56, e56, h⟩ := fw_be h
        obtain ⟨o56, h⟩ := fw_gu h
        refine fw_aald 0 (pc := 56) d_X_text_56 (fun _ => rfl) fw_X10 e56 ?_
        refine fw_aload_n (pc := 57) d_X_text_57 1 rfl rfl ?_
        refine fw_getR (pc := 58) d_X_text_58 fl_X_12 fw_X0 rfl ?_
        refine fw_getR (pc := 61) d_X_text_61 fl_X_139 fw_X1 rfl ?_
        obtain ⟨p64, e64, h⟩ := fw_be h
        refine fw_callVv (pc := 64) d_X_text_64 mv_X_142 o56.1 (c_Line_take e64) (by decide) rfl rfl (Nat.le_of_ble_eq_true rfl) ?_
        refine fw_aload_n (pc := 67) d_X_text_67 1 rfl rfl ?_
        refine fw_getR (pc := 68) d_X_text_68 fl_X_12 fw_X0 rfl ?_
        refine fw_getR (pc := 71) d_X_text_71 fl_X_240 fw_X1 rfl ?_
        refine fw_iload_n (pc := 74) d_X_text_74 0 rfl rfl ?_
        refine fw_iload_n (pc := 75) d_X_text_75 2 rfl rfl ?_
        obtain ⟨μ76, e76, h⟩ := fw_be h
        refine fw_iast (pc := 76) d_X_text_76 fw_X27 e76 ?_
        refine fw_aload_n (pc := 77) d_X_text_77 1 rfl rfl ?_
        refine fw_getR (pc := 78) d_X_text_78 fl_X_12 fw_X0 rfl ?_
        refine fw_iload_n (pc := 81) d_X_text_81 0 rfl rfl ?_
        refine fw_iconst (pc := 82) d_X_text_82 fw_ic1 ?_
        refine fw_iadd (pc := 83) d_X_text_83 ?_
        obtain ⟨μ84, e84, h⟩ := fw_ne h
        refine fw_putI (pc := 84) d_X_text_84 fp_X_166 fw_X1 rfl (fw_mem e84 ?_)
        refine fw_aload_n (pc := 87) d_X_text_87 1 rfl rfl ?_
        refine fw_getR (pc := 88) d_X_text_88 fl_X_58 fw_X0 rfl ?_
        refine fw_iload_n (pc := 91) d_X_text_91 0 rfl rfl ?_
        refine fw_iconst (pc := 92) d_X_text_92 fw_ic0 ?_
        obtain ⟨μ93, e93, h⟩ := fw_be h
        refine fw_iast (pc := 93) d_X_text_93 fw_X81 e93 ?_
        refine fw_iload_n (pc := 94) d_X_text_94 0 rfl rfl ?_
        obtain rfl := Option.some.inj h
        exact fw_iret (pc := 95) d_X_text_95 rfl
      · have h := fw_if hc h
        refine fw_bipush (pc := 37) d_X_text_37 fw_bpm3 ?_
        obtain rfl := Option.some.inj h
        exact fw_iret (pc := 39) d_X_text_39 rfl
def f_Shop_hasText_1 (a1 : Int32) (μ : fw_M) : Option (Int32) :=
  fw_nm (
    if a1 < 0 then
      0
    else
      if (μ.1 1 6) ≤ a1 then
        0
      else
        1) fun (j1 : Int32) =>
  (fw_bz j1).bind fun b17 =>
  some b17
set_option maxHeartbeats 4000000 in
set_option maxRecDepth 100000 in
theorem c_Shop_hasText_1 {a1 : Int32} {μ : fw_M} {r : Int32} (h : f_Shop_hasText_1 a1 μ = some r) : fw_Con Y_Shop_hasText fw_X 1 [.ref 1, .int a1] (some r) μ μ := by
  refine fw_con (by decide) (Nat.le_of_ble_eq_true rfl) ?_
  rw [f_Shop_hasText_1] at h
  show fw_R "FewTypes$Shop" prog_8_method_2_code 2 (some .boolean) fw_X 1 (some r) μ 0 [(0, .ref 1), (1, .int a1)] [] μ
  refine fw_iload_n (pc := 0) d_Shop_hasText_0 1 rfl rfl ?_
  obtain ⟨j1, w1, h⟩ := fw_ne h
  have hJ1 : fw_R "FewTypes$Shop" prog_8_method_2_code 2 (some .boolean) fw_X 1 (some r) μ 17 [] [.int j1] μ := by
    obtain ⟨b17, e17, h⟩ := fw_be h
    obtain rfl := Option.some.inj h
    exact fw_zret (pc := 17) d_Shop_hasText_17 rfl e17
  clear h
  have h := w1
  clear w1
  refine fw_if_lt (pc := 1) (tgt := 16) d_Shop_hasText_1 rfl (fun hc => ?_) (fun hc => ?_)
  · have h := h.trans (if_pos hc)
    refine fw_iconst (pc := 16) d_Shop_hasText_16 fw_ic0 ?_
    subst h
    exact fw_sub [] rfl hJ1
  · have h := h.trans (if_neg hc)
    refine fw_iload_n (pc := 4) d_Shop_hasText_4 1 rfl rfl ?_
    refine fw_aload_n (pc := 5) d_Shop_hasText_5 0 rfl rfl ?_
    refine fw_getI (pc := 6) d_Shop_hasText_6 fl_Shop_39 fw_X1 rfl ?_
    refine fw_icmp_ge (pc := 9) (tgt := 16) d_Shop_hasText_9 rfl (fun hc => ?_) (fun hc => ?_)
    · have h := h.trans (if_pos hc)
      refine fw_iconst (pc := 16) d_Shop_hasText_16 fw_ic0 ?_
      subst h
      exact fw_sub [] rfl hJ1
    · have h := h.trans (if_neg hc)
      refine fw_iconst (pc := 12) d_Shop_hasText_12 fw_ic1 ?_
      refine fw_goto (pc := 13) (tgt := 17) d_Shop_hasText_13 rfl ?_
      subst h
      exact fw_sub [] rfl hJ1
def f_X_needs (a1 : Int32) (μ : fw_M) : Option (Int32 × fw_M) :=
  (f_Shop_hasText_1 a1 μ).bind fun (p5 : Int32) =>
  Option.bind (
    if p5 = 0 then
      some ((-1), μ)
    else
      (f_X_pullsFor a1 μ).bind fun (p13 : Int32 × fw_M) =>
      some (p13.1, p13.2)) fun (j8 : Int32 × fw_M) =>
  some (j8.1, j8.2)
set_option maxHeartbeats 4000000 in
set_option maxRecDepth 100000 in
theorem c_X_needs {a1 : Int32} {μ : fw_M} {r : Int32 × fw_M} (h : f_X_needs a1 μ = some r) : fw_Con Y_X_needs fw_X 7 [.ref 0, .int a1] (some r.1) μ r.2 := by
  refine fw_con (by decide) (Nat.le_of_ble_eq_true rfl) ?_
  rw [f_X_needs] at h
  show fw_R "FewTypes" prog_1_method_20_code 2 (some .int) fw_X 7 (some r.1) r.2 0 [(0, .ref 0), (1, .int a1)] [] μ
  refine fw_aload_n (pc := 0) d_X_needs_0 0 rfl rfl ?_
  refine fw_getR (pc := 1) d_X_needs_1 fl_X_12 fw_X0 rfl ?_
  refine fw_iload_n (pc := 4) d_X_needs_4 1 rfl rfl ?_
  obtain ⟨p5, e5, h⟩ := fw_be h
  refine fw_callVi (pc := 5) d_X_needs_5 mv_X_243 fw_X1 (c_Shop_hasText_1 e5) (by decide) rfl rfl (Nat.le_of_ble_eq_true rfl) ?_
  obtain ⟨j8, w8, h⟩ := fw_be h
  have hJ8 : fw_R "FewTypes" prog_1_method_20_code 2 (some .int) fw_X 7 (some r.1) r.2 20 [] [.int j8.1] j8.2 := by
    obtain rfl := Option.some.inj h
    exact fw_iret (pc := 20) d_X_needs_20 rfl
  clear h
  have h := w8
  clear w8
  refine fw_if_eq (pc := 8) (tgt := 19) d_X_needs_8 rfl (fun hc => ?_) (fun hc => ?_)
  · have h := fw_it hc h
    refine fw_iconst (pc := 19) d_X_needs_19 fw_icm1 ?_
    obtain rfl := Option.some.inj h
    exact fw_sub [] rfl hJ8
  · have h := fw_if hc h
    refine fw_aload_n (pc := 11) d_X_needs_11 0 rfl rfl ?_
    refine fw_iload_n (pc := 12) d_X_needs_12 1 rfl rfl ?_
    obtain ⟨p13, e13, h⟩ := fw_be h
    refine fw_callVi (pc := 13) d_X_needs_13 mv_X_193 fw_X0 (c_X_pullsFor e13) (by decide) rfl rfl (Nat.le_of_ble_eq_true rfl) ?_
    refine fw_goto (pc := 16) (tgt := 20) d_X_needs_16 rfl ?_
    obtain rfl := Option.some.inj h
    exact fw_sub [] rfl hJ8
def f_X_lost_L20 (a1 : Int32) (μ : fw_M) : Int32 × Int32 → Option ((Int32 × Int32) ⊕ (Int32))
  | (x2_20, x3_20) =>
  if (μ.1 1 6) ≤ x3_20 then
    some (.inr x2_20)
  else
    (fw_rq 8 [11, 13, 15, 17, 19, 21, 23, 25] x3_20).bind fun r39 =>
    if fw_okL r39 then
      (f_Line_isSayable r39 (-1) μ).bind fun (p48 : Int32) =>
      Option.bind (
        if p48 = 0 then
          some x2_20
        else
          (fw_rq 8 [11, 13, 15, 17, 19, 21, 23, 25] x3_20).bind fun r62 =>
          if fw_okL r62 then
            (f_Line_isSayable r62 a1 μ).bind fun (p71 : Int32) =>
            if p71 = 0 then
              fw_nm ((x2_20 ||| ((1 : Int32) <<< (x3_20 &&& 31)))) fun (v82 : Int32) =>
              some v82
            else
              some x2_20
          else none) fun (j51 : Int32) =>
      fw_nm (x3_20 + 1) fun (v83 : Int32) =>
      some (.inl (j51, v83))
    else none
def f_X_lost (a1 : Int32) (μ : fw_M) : Option (Int32) :=
  (f_Case_has_2 a1 μ).bind fun (p8 : Int32) =>
  if p8 = 0 then
    some (-1)
  else
    (fw_wh (f_X_lost_L20 a1 μ) fw_N (0, 0)).bind fun (e20x : Int32) =>
    some e20x
set_option maxHeartbeats 4000000 in
set_option maxRecDepth 100000 in
theorem c_X_lost {a1 : Int32} {μ : fw_M} {r : Int32} (h : f_X_lost a1 μ = some r) : fw_Con Y_X_lost fw_X 4 [.ref 0, .int a1] (some r) μ μ := by
  refine fw_con (by decide) (Nat.le_of_ble_eq_true rfl) ?_
  rw [f_X_lost] at h
  show fw_R "FewTypes" prog_1_method_21_code 4 (some .int) fw_X 4 (some r) μ 0 [(0, .ref 0), (1, .int a1)] [] μ
  refine fw_aload_n (pc := 0) d_X_lost_0 0 rfl rfl ?_
  refine fw_getR (pc := 1) d_X_lost_1 fl_X_12 fw_X0 rfl ?_
  refine fw_getR (pc := 4) d_X_lost_4 fl_X_82 fw_X1 rfl ?_
  refine fw_iload_n (pc := 7) d_X_lost_7 1 rfl rfl ?_
  obtain ⟨p8, e8, h⟩ := fw_be h
  refine fw_callVi (pc := 8) d_X_lost_8 mv_X_96 fw_X2 (c_Case_has_2 e8) (by decide) rfl rfl (Nat.le_of_ble_eq_true rfl) ?_
  refine fw_if_ne (pc := 11) (tgt := 16) d_X_lost_11 rfl (fun hc => ?_) (fun hc => ?_)
  · have h := fw_it hc h
    refine fw_iconst (pc := 14) d_X_lost_14 fw_icm1 ?_
    obtain rfl := Option.some.inj h
    exact fw_iret (pc := 15) d_X_lost_15 rfl
  · have h := fw_if hc h
    refine fw_iconst (pc := 16) d_X_lost_16 fw_ic0 ?_
    refine fw_istore_n (pc := 17) (lv1 := [(2, .int 0), (0, .ref 0), (1, .int a1)]) d_X_lost_17 rfl (by decide) rfl ?_
    refine fw_iconst (pc := 18) d_X_lost_18 fw_ic0 ?_
    refine fw_istore_n (pc := 19) (lv1 := [(3, .int 0), (2, .int 0), (0, .ref 0), (1, .int a1)]) d_X_lost_19 rfl (by decide) rfl ?_
    obtain ⟨e20x, w20, h⟩ := fw_be h
    have hE20 : fw_R "FewTypes" prog_1_method_21_code 4 (some .int) fw_X 4 (some r) μ 89 [(2, .int e20x)] [] μ := by
      refine fw_iload_n (pc := 89) d_X_lost_89 0 rfl rfl ?_
      obtain rfl := Option.some.inj h
      exact fw_iret (pc := 90) d_X_lost_90 rfl
    clear h
    exact fw_sub [2, 3, 1, 0] rfl (fw_we (e := e20x) (fun (s : Int32 × Int32) => fw_R "FewTypes" prog_1_method_21_code 4 (some .int) fw_X 4 (some r) μ 20 [(0, .ref 0), (1, .int a1), (2, .int s.1), (3, .int s.2)] [] μ) (by
      intro s x h hl hr
      obtain ⟨x2_20, x3_20⟩ := s
      rw [f_X_lost_L20] at h
      show fw_R "FewTypes" prog_1_method_21_code 4 (some .int) fw_X 4 (some r) μ 20 [(0, .ref 0), (1, .int a1), (2, .int x2_20), (3, .int x3_20)] [] μ
      refine fw_iload_n (pc := 20) d_X_lost_20 3 rfl rfl ?_
      refine fw_aload_n (pc := 21) d_X_lost_21 0 rfl rfl ?_
      refine fw_getR (pc := 22) d_X_lost_22 fl_X_12 fw_X0 rfl ?_
      refine fw_getI (pc := 25) d_X_lost_25 fl_X_166 fw_X1 rfl ?_
      refine fw_icmp_ge (pc := 28) (tgt := 89) d_X_lost_28 rfl (fun hc => ?_) (fun hc => ?_)
      · have h := fw_it hc h
        obtain rfl := Option.some.inj h
        have he := hr _ rfl
        subst he
        exact fw_sub [2] rfl hE20
      · have h := fw_if hc h
        refine fw_aload_n (pc := 31) d_X_lost_31 0 rfl rfl ?_
        refine fw_getR (pc := 32) d_X_lost_32 fl_X_12 fw_X0 rfl ?_
        refine fw_getR (pc := 35) d_X_lost_35 fl_X_236 fw_X1 rfl ?_
        refine fw_iload_n (pc := 38) d_X_lost_38 3 rfl rfl ?_
        obtain ⟨r39, e39, h⟩ := fw_be h
        obtain ⟨o39, h⟩ := fw_gu h
        refine fw_aald 0 (pc := 39) d_X_lost_39 (fun _ => rfl) fw_X10 e39 ?_
        refine fw_aload_n (pc := 40) d_X_lost_40 0 rfl rfl ?_
        refine fw_getR (pc := 41) d_X_lost_41 fl_X_12 fw_X0 rfl ?_
        refine fw_getR (pc := 44) d_X_lost_44 fl_X_82 fw_X1 rfl ?_
        refine fw_iconst (pc := 47) d_X_lost_47 fw_icm1 ?_
        obtain ⟨p48, e48, h⟩ := fw_be h
        refine fw_callVi (pc := 48) d_X_lost_48 mv_X_246 o39.1 (c_Line_isSayable e48) (by decide) rfl rfl (Nat.le_of_ble_eq_true rfl) ?_
        obtain ⟨j51, w51, h⟩ := fw_be h
        have hJ51 : fw_R "FewTypes" prog_1_method_21_code 4 (some .int) fw_X 4 (some r) μ 83 [(0, .ref 0), (1, .int a1), (2, .int j51), (3, .int x3_20)] [] μ := by
          obtain ⟨v83, e83, h⟩ := fw_ne h
          refine fw_iinc2 (pc := 83) (j := 3) (lv1 := [(3, .int v83), (0, .ref 0), (1, .int a1), (2, .int j51)]) d_X_lost_83 rfl fw_ic1 e83 (by decide) rfl ?_
          refine fw_goto (pc := 86) (tgt := 20) d_X_lost_86 rfl ?_
          obtain rfl := Option.some.inj h
          exact fw_sub [1, 2, 3, 0] rfl (hl _ rfl)
        clear h
        have h := w51
        clear w51
        refine fw_if_eq (pc := 51) (tgt := 83) d_X_lost_51 rfl (fun hc => ?_) (fun hc => ?_)
        · have h := fw_it hc h
          obtain rfl := Option.some.inj h
          exact fw_sub [0, 1, 2, 3] rfl hJ51
        · have h := fw_if hc h
          refine fw_aload_n (pc := 54) d_X_lost_54 0 rfl rfl ?_
          refine fw_getR (pc := 55) d_X_lost_55 fl_X_12 fw_X0 rfl ?_
          refine fw_getR (pc := 58) d_X_lost_58 fl_X_236 fw_X1 rfl ?_
          refine fw_iload_n (pc := 61) d_X_lost_61 3 rfl rfl ?_
          obtain ⟨r62, e62, h⟩ := fw_be h
          obtain ⟨o62, h⟩ := fw_gu h
          refine fw_aald 0 (pc := 62) d_X_lost_62 (fun _ => rfl) fw_X10 e62 ?_
          refine fw_aload_n (pc := 63) d_X_lost_63 0 rfl rfl ?_
          refine fw_getR (pc := 64) d_X_lost_64 fl_X_12 fw_X0 rfl ?_
          refine fw_getR (pc := 67) d_X_lost_67 fl_X_82 fw_X1 rfl ?_
          refine fw_iload_n (pc := 70) d_X_lost_70 1 rfl rfl ?_
          obtain ⟨p71, e71, h⟩ := fw_be h
          refine fw_callVi (pc := 71) d_X_lost_71 mv_X_246 o62.1 (c_Line_isSayable e71) (by decide) rfl rfl (Nat.le_of_ble_eq_true rfl) ?_
          refine fw_if_ne (pc := 74) (tgt := 83) d_X_lost_74 rfl (fun hc => ?_) (fun hc => ?_)
          · have h := fw_it hc h
            refine fw_iload_n (pc := 77) d_X_lost_77 2 rfl rfl ?_
            refine fw_iconst (pc := 78) d_X_lost_78 fw_ic1 ?_
            refine fw_iload_n (pc := 79) d_X_lost_79 3 rfl rfl ?_
            refine fw_ishl (pc := 80) d_X_lost_80 ?_
            refine fw_ior (pc := 81) d_X_lost_81 ?_
            obtain ⟨v82, e82, h⟩ := fw_ne h
            refine fw_top e82 ?_
            refine fw_istore_n (pc := 82) (lv1 := [(2, .int v82), (0, .ref 0), (1, .int a1), (3, .int x3_20)]) d_X_lost_82 rfl (by decide) rfl ?_
            obtain rfl := Option.some.inj h
            exact fw_sub [1, 2, 0, 3] rfl hJ51
          · have h := fw_if hc h
            obtain rfl := Option.some.inj h
            exact fw_sub [0, 1, 2, 3] rfl hJ51
      ) _ _ w20)
def f_X_said_L18 (a1 : Int32) : Int32 × Int32 × Int32 × fw_M → Option ((Int32 × Int32 × Int32 × fw_M) ⊕ (Int32 × fw_M))
  | (x2_18, x3_18, x4_18, μ18) =>
  if (μ18.1 1 6) ≤ x4_18 then
    some (.inr (x2_18, μ18))
  else
    (fw_rd 8 (μ18.1 27) x4_18).bind fun v39 =>
    Option.bind (
      if v39 = a1 then
        (f_X_pullsFor x4_18 μ18).bind fun (p47 : Int32 × fw_M) =>
        if p47.1 ≤ 0 then
          some (x2_18, x3_18, p47.2)
        else
          if x3_18 ≤ p47.1 then
            some (x2_18, x3_18, p47.2)
          else
            some (x4_18, p47.1, p47.2)
      else
        some (x2_18, x3_18, μ18)) fun (j41 : Int32 × Int32 × fw_M) =>
    fw_nm (x4_18 + 1) fun (v69 : Int32) =>
    some (.inl (j41.1, j41.2.1, v69, j41.2.2))
def f_X_said (a1 : Int32) (μ : fw_M) : Option (Int32 × fw_M) :=
  (f_X_isSense a1).bind fun (p1 : Int32) =>
  if p1 = 0 then
    some ((-1), μ)
  else
    (fw_wh (f_X_said_L18 a1) fw_N ((-4), 11, 0, μ)).bind fun (e18x : Int32 × fw_M) =>
    some (e18x.1, e18x.2)
set_option maxHeartbeats 4000000 in
set_option maxRecDepth 100000 in
theorem c_X_said {a1 : Int32} {μ : fw_M} {r : Int32 × fw_M} (h : f_X_said a1 μ = some r) : fw_Con Y_X_said fw_X 7 [.ref 0, .int a1] (some r.1) μ r.2 := by
  refine fw_con (by decide) (Nat.le_of_ble_eq_true rfl) ?_
  rw [f_X_said] at h
  show fw_R "FewTypes" prog_1_method_22_code 6 (some .int) fw_X 7 (some r.1) r.2 0 [(0, .ref 0), (1, .int a1)] [] μ
  refine fw_iload_n (pc := 0) d_X_said_0 1 rfl rfl ?_
  obtain ⟨p1, e1, h⟩ := fw_be h
  refine fw_callSi (pc := 1) d_X_said_1 ms_X_233 (c_X_isSense e1) (by decide) rfl rfl (Nat.le_of_ble_eq_true rfl) ?_
  refine fw_if_ne (pc := 4) (tgt := 9) d_X_said_4 rfl (fun hc => ?_) (fun hc => ?_)
  · have h := fw_it hc h
    refine fw_iconst (pc := 7) d_X_said_7 fw_icm1 ?_
    obtain rfl := Option.some.inj h
    exact fw_iret (pc := 8) d_X_said_8 rfl
  · have h := fw_if hc h
    refine fw_bipush (pc := 9) d_X_said_9 fw_bpm4 ?_
    refine fw_istore_n (pc := 11) (lv1 := [(2, .int (-4)), (0, .ref 0), (1, .int a1)]) d_X_said_11 rfl (by decide) rfl ?_
    refine fw_bipush (pc := 12) d_X_said_12 fw_bp11 ?_
    refine fw_istore_n (pc := 14) (lv1 := [(3, .int 11), (2, .int (-4)), (0, .ref 0), (1, .int a1)]) d_X_said_14 rfl (by decide) rfl ?_
    refine fw_iconst (pc := 15) d_X_said_15 fw_ic0 ?_
    refine fw_istore (pc := 16) (lv1 := [(4, .int 0), (3, .int 11), (2, .int (-4)), (0, .ref 0), (1, .int a1)]) d_X_said_16 (by decide) rfl ?_
    obtain ⟨e18x, w18, h⟩ := fw_be h
    have hE18 : fw_R "FewTypes" prog_1_method_22_code 6 (some .int) fw_X 7 (some r.1) r.2 75 [(2, .int e18x.1)] [] e18x.2 := by
      refine fw_iload_n (pc := 75) d_X_said_75 0 rfl rfl ?_
      obtain rfl := Option.some.inj h
      exact fw_iret (pc := 76) d_X_said_76 rfl
    clear h
    exact fw_sub [3, 4, 2, 1, 0] rfl (fw_we (e := e18x) (fun (s : Int32 × Int32 × Int32 × fw_M) => fw_R "FewTypes" prog_1_method_22_code 6 (some .int) fw_X 7 (some r.1) r.2 18 [(0, .ref 0), (1, .int a1), (2, .int s.1), (3, .int s.2.1), (4, .int s.2.2.1)] [] s.2.2.2) (by
      intro s x h hl hr
      obtain ⟨x2_18, x3_18, x4_18, μ18⟩ := s
      rw [f_X_said_L18] at h
      show fw_R "FewTypes" prog_1_method_22_code 6 (some .int) fw_X 7 (some r.1) r.2 18 [(0, .ref 0), (1, .int a1), (2, .int x2_18), (3, .int x3_18), (4, .int x4_18)] [] μ18
      refine fw_iload (pc := 18) d_X_said_18 4 rfl ?_
      refine fw_aload_n (pc := 20) d_X_said_20 0 rfl rfl ?_
      refine fw_getR (pc := 21) d_X_said_21 fl_X_12 fw_X0 rfl ?_
      refine fw_getI (pc := 24) d_X_said_24 fl_X_166 fw_X1 rfl ?_
      refine fw_icmp_ge (pc := 27) (tgt := 75) d_X_said_27 rfl (fun hc => ?_) (fun hc => ?_)
      · have h := fw_it hc h
        obtain rfl := Option.some.inj h
        have he := hr _ rfl
        subst he
        exact fw_sub [2] rfl hE18
      · have h := fw_if hc h
        refine fw_aload_n (pc := 30) d_X_said_30 0 rfl rfl ?_
        refine fw_getR (pc := 31) d_X_said_31 fl_X_12 fw_X0 rfl ?_
        refine fw_getR (pc := 34) d_X_said_34 fl_X_240 fw_X1 rfl ?_
        refine fw_iload (pc := 37) d_X_said_37 4 rfl ?_
        obtain ⟨v39, e39, h⟩ := fw_be h
        refine fw_iald (pc := 39) d_X_said_39 fw_X27 e39 ?_
        refine fw_iload_n (pc := 40) d_X_said_40 1 rfl rfl ?_
        obtain ⟨j41, w41, h⟩ := fw_be h
        have hJ41 : fw_R "FewTypes" prog_1_method_22_code 6 (some .int) fw_X 7 (some r.1) r.2 69 [(0, .ref 0), (1, .int a1), (2, .int j41.1), (3, .int j41.2.1), (4, .int x4_18)] [] j41.2.2 := by
          obtain ⟨v69, e69, h⟩ := fw_ne h
          refine fw_iinc2 (pc := 69) (j := 4) (lv1 := [(4, .int v69), (0, .ref 0), (1, .int a1), (2, .int j41.1), (3, .int j41.2.1)]) d_X_said_69 rfl fw_ic1 e69 (by decide) rfl ?_
          refine fw_goto (pc := 72) (tgt := 18) d_X_said_72 rfl ?_
          obtain rfl := Option.some.inj h
          exact fw_sub [1, 2, 3, 4, 0] rfl (hl _ rfl)
        clear h
        have h := w41
        clear w41
        refine fw_icmp_ne (pc := 41) (tgt := 69) d_X_said_41 rfl (fun hc => ?_) (fun hc => ?_)
        · have h := fw_it hc h
          refine fw_aload_n (pc := 44) d_X_said_44 0 rfl rfl ?_
          refine fw_iload (pc := 45) d_X_said_45 4 rfl ?_
          obtain ⟨p47, e47, h⟩ := fw_be h
          refine fw_callVi (pc := 47) d_X_said_47 mv_X_193 fw_X0 (c_X_pullsFor e47) (by decide) rfl rfl (Nat.le_of_ble_eq_true rfl) ?_
          refine fw_istore (pc := 50) (lv1 := [(5, .int p47.1), (0, .ref 0), (1, .int a1), (2, .int x2_18), (3, .int x3_18), (4, .int x4_18)]) d_X_said_50 (by decide) rfl ?_
          refine fw_iload (pc := 52) d_X_said_52 0 rfl ?_
          refine fw_if_le (pc := 54) (tgt := 69) d_X_said_54 rfl (fun hc => ?_) (fun hc => ?_)
          · have h := fw_it hc h
            obtain rfl := Option.some.inj h
            exact fw_sub [1, 2, 3, 4, 5] rfl hJ41
          · have h := fw_if hc h
            refine fw_iload (pc := 57) d_X_said_57 0 rfl ?_
            refine fw_iload_n (pc := 59) d_X_said_59 4 rfl rfl ?_
            refine fw_icmp_ge (pc := 60) (tgt := 69) d_X_said_60 rfl (fun hc => ?_) (fun hc => ?_)
            · have h := fw_it hc h
              obtain rfl := Option.some.inj h
              exact fw_sub [1, 2, 3, 4, 5] rfl hJ41
            · have h := fw_if hc h
              refine fw_iload (pc := 63) d_X_said_63 0 rfl ?_
              refine fw_istore_n (pc := 65) (lv1 := [(3, .int p47.1), (5, .int p47.1), (0, .ref 0), (1, .int a1), (2, .int x2_18), (4, .int x4_18)]) d_X_said_65 rfl (by decide) rfl ?_
              refine fw_iload (pc := 66) d_X_said_66 5 rfl ?_
              refine fw_istore_n (pc := 68) (lv1 := [(2, .int x4_18), (3, .int p47.1), (5, .int p47.1), (0, .ref 0), (1, .int a1), (4, .int x4_18)]) d_X_said_68 rfl (by decide) rfl ?_
              obtain rfl := Option.some.inj h
              exact fw_sub [3, 4, 0, 1, 5] rfl hJ41
        · have h := fw_if hc h
          obtain rfl := Option.some.inj h
          exact fw_sub [0, 1, 2, 3, 4] rfl hJ41
      ) _ _ w18)
def f_Jobs_add_28 (a1 : Int32) (a2 : Int32) (μ : fw_M) : Option (fw_M) :=
  Option.bind (
    if 8 ≤ (μ.1 28 3) then
      some μ
    else
      (fw_si 8 μ 29 (μ.1 28 3) a1).bind fun μ18 =>
      (fw_si 8 μ18 30 (μ18.1 28 3) a2).bind fun μ28 =>
      fw_nm (fw_wr μ28 28 3 ((μ28.1 28 3) + 1)) fun (μ36 : fw_M) =>
      some μ36) fun (j6 : fw_M) =>
  some j6
set_option maxHeartbeats 4000000 in
set_option maxRecDepth 100000 in
theorem c_Jobs_add_28 {a1 : Int32} {a2 : Int32} {μ : fw_M} {r : fw_M} (h : f_Jobs_add_28 a1 a2 μ = some r) : fw_Con Y_Jobs_add fw_X 1 [.ref 28, .int a1, .int a2] none μ r := by
  refine fw_con (by decide) (Nat.le_of_ble_eq_true rfl) ?_
  rw [f_Jobs_add_28] at h
  show fw_R "FewTypes$Jobs" prog_3_method_2_code 3 none fw_X 1 none r 0 [(0, .ref 28), (1, .int a1), (2, .int a2)] [] μ
  refine fw_aload_n (pc := 0) d_Jobs_add_0 0 rfl rfl ?_
  refine fw_getI (pc := 1) d_Jobs_add_1 fl_Jobs_21 fw_X28 rfl ?_
  refine fw_bipush (pc := 4) d_Jobs_add_4 fw_bp8 ?_
  obtain ⟨j6, w6, h⟩ := fw_be h
  have hJ6 : fw_R "FewTypes$Jobs" prog_3_method_2_code 3 none fw_X 1 none r 39 [] [] j6 := by
    obtain rfl := Option.some.inj h
    exact fw_vret (pc := 39) d_Jobs_add_39 rfl
  clear h
  have h := w6
  clear w6
  refine fw_icmp_ge (pc := 6) (tgt := 39) d_Jobs_add_6 rfl (fun hc => ?_) (fun hc => ?_)
  · have h := fw_it hc h
    obtain rfl := Option.some.inj h
    exact fw_sub [] rfl hJ6
  · have h := fw_if hc h
    refine fw_aload_n (pc := 9) d_Jobs_add_9 0 rfl rfl ?_
    refine fw_getR (pc := 10) d_Jobs_add_10 fl_Jobs_9 fw_X28 rfl ?_
    refine fw_aload_n (pc := 13) d_Jobs_add_13 0 rfl rfl ?_
    refine fw_getI (pc := 14) d_Jobs_add_14 fl_Jobs_21 fw_X28 rfl ?_
    refine fw_iload_n (pc := 17) d_Jobs_add_17 1 rfl rfl ?_
    obtain ⟨μ18, e18, h⟩ := fw_be h
    refine fw_iast (pc := 18) d_Jobs_add_18 fw_X29 e18 ?_
    refine fw_aload_n (pc := 19) d_Jobs_add_19 0 rfl rfl ?_
    refine fw_getR (pc := 20) d_Jobs_add_20 fl_Jobs_15 fw_X28 rfl ?_
    refine fw_aload_n (pc := 23) d_Jobs_add_23 0 rfl rfl ?_
    refine fw_getI (pc := 24) d_Jobs_add_24 fl_Jobs_21 fw_X28 rfl ?_
    refine fw_iload_n (pc := 27) d_Jobs_add_27 2 rfl rfl ?_
    obtain ⟨μ28, e28, h⟩ := fw_be h
    refine fw_iast (pc := 28) d_Jobs_add_28 fw_X30 e28 ?_
    refine fw_aload_n (pc := 29) d_Jobs_add_29 0 rfl rfl ?_
    refine fw_dup (pc := 30) d_Jobs_add_30 rfl ?_
    refine fw_getI (pc := 31) d_Jobs_add_31 fl_Jobs_21 fw_X28 rfl ?_
    refine fw_iconst (pc := 34) d_Jobs_add_34 fw_ic1 ?_
    refine fw_iadd (pc := 35) d_Jobs_add_35 ?_
    obtain ⟨μ36, e36, h⟩ := fw_ne h
    refine fw_putI (pc := 36) d_Jobs_add_36 fp_Jobs_21 fw_X28 rfl (fw_mem e36 ?_)
    obtain rfl := Option.some.inj h
    exact fw_sub [] rfl hJ6
def f_X_job (a1 : Int32) (a2 : Int32) (μ : fw_M) : Option (Int32 × fw_M) :=
  if a1 < 1 then
    some ((-1), μ)
  else
    if 24 < a1 then
      some ((-1), μ)
    else
      if a2 < 1 then
        some ((-1), μ)
      else
        if a2 ≤ 200 then
          if (μ.1 28 3) < 8 then
            (f_Jobs_add_28 a1 a2 μ).bind fun (p52 : fw_M) =>
            some (((p52.1 28 3) - 1), p52)
          else
            some ((-3), μ)
        else
          some ((-1), μ)
set_option maxHeartbeats 4000000 in
set_option maxRecDepth 100000 in
theorem c_X_job {a1 : Int32} {a2 : Int32} {μ : fw_M} {r : Int32 × fw_M} (h : f_X_job a1 a2 μ = some r) : fw_Con Y_X_job fw_X 2 [.ref 0, .int a1, .int a2] (some r.1) μ r.2 := by
  refine fw_con (by decide) (Nat.le_of_ble_eq_true rfl) ?_
  rw [f_X_job] at h
  show fw_R "FewTypes" prog_1_method_23_code 3 (some .int) fw_X 2 (some r.1) r.2 0 [(0, .ref 0), (1, .int a1), (2, .int a2)] [] μ
  refine fw_iload_n (pc := 0) d_X_job_0 1 rfl rfl ?_
  refine fw_iconst (pc := 1) d_X_job_1 fw_ic1 ?_
  refine fw_icmp_lt (pc := 2) (tgt := 23) d_X_job_2 rfl (fun hc => ?_) (fun hc => ?_)
  · have h := fw_it hc h
    refine fw_iconst (pc := 23) d_X_job_23 fw_icm1 ?_
    obtain rfl := Option.some.inj h
    exact fw_iret (pc := 24) d_X_job_24 rfl
  · have h := fw_if hc h
    refine fw_iload_n (pc := 5) d_X_job_5 1 rfl rfl ?_
    refine fw_bipush (pc := 6) d_X_job_6 fw_bp24 ?_
    refine fw_icmp_gt (pc := 8) (tgt := 23) d_X_job_8 rfl (fun hc => ?_) (fun hc => ?_)
    · have h := fw_it hc h
      refine fw_iconst (pc := 23) d_X_job_23 fw_icm1 ?_
      obtain rfl := Option.some.inj h
      exact fw_iret (pc := 24) d_X_job_24 rfl
    · have h := fw_if hc h
      refine fw_iload_n (pc := 11) d_X_job_11 2 rfl rfl ?_
      refine fw_iconst (pc := 12) d_X_job_12 fw_ic1 ?_
      refine fw_icmp_lt (pc := 13) (tgt := 23) d_X_job_13 rfl (fun hc => ?_) (fun hc => ?_)
      · have h := fw_it hc h
        refine fw_iconst (pc := 23) d_X_job_23 fw_icm1 ?_
        obtain rfl := Option.some.inj h
        exact fw_iret (pc := 24) d_X_job_24 rfl
      · have h := fw_if hc h
        refine fw_iload_n (pc := 16) d_X_job_16 2 rfl rfl ?_
        refine fw_sipush (pc := 17) d_X_job_17 fw_sp200 ?_
        refine fw_icmp_le (pc := 20) (tgt := 25) d_X_job_20 rfl (fun hc => ?_) (fun hc => ?_)
        · have h := fw_it hc h
          refine fw_aload_n (pc := 25) d_X_job_25 0 rfl rfl ?_
          refine fw_getR (pc := 26) d_X_job_26 fl_X_12 fw_X0 rfl ?_
          refine fw_getR (pc := 29) d_X_job_29 fl_X_169 fw_X1 rfl ?_
          refine fw_getI (pc := 32) d_X_job_32 fl_X_173 fw_X28 rfl ?_
          refine fw_bipush (pc := 35) d_X_job_35 fw_bp8 ?_
          refine fw_icmp_lt (pc := 37) (tgt := 43) d_X_job_37 rfl (fun hc => ?_) (fun hc => ?_)
          · have h := fw_it hc h
            refine fw_aload_n (pc := 43) d_X_job_43 0 rfl rfl ?_
            refine fw_getR (pc := 44) d_X_job_44 fl_X_12 fw_X0 rfl ?_
            refine fw_getR (pc := 47) d_X_job_47 fl_X_169 fw_X1 rfl ?_
            refine fw_iload_n (pc := 50) d_X_job_50 1 rfl rfl ?_
            refine fw_iload_n (pc := 51) d_X_job_51 2 rfl rfl ?_
            obtain ⟨p52, e52, h⟩ := fw_be h
            refine fw_callVv (pc := 52) d_X_job_52 mv_X_250 fw_X28 (c_Jobs_add_28 e52) (by decide) rfl rfl (Nat.le_of_ble_eq_true rfl) ?_
            refine fw_aload_n (pc := 55) d_X_job_55 0 rfl rfl ?_
            refine fw_getR (pc := 56) d_X_job_56 fl_X_12 fw_X0 rfl ?_
            refine fw_getR (pc := 59) d_X_job_59 fl_X_169 fw_X1 rfl ?_
            refine fw_getI (pc := 62) d_X_job_62 fl_X_173 fw_X28 rfl ?_
            refine fw_iconst (pc := 65) d_X_job_65 fw_ic1 ?_
            refine fw_isub (pc := 66) d_X_job_66 ?_
            obtain rfl := Option.some.inj h
            exact fw_iret (pc := 67) d_X_job_67 rfl
          · have h := fw_if hc h
            refine fw_bipush (pc := 40) d_X_job_40 fw_bpm3 ?_
            obtain rfl := Option.some.inj h
            exact fw_iret (pc := 42) d_X_job_42 rfl
        · have h := fw_if hc h
          refine fw_iconst (pc := 23) d_X_job_23 fw_icm1 ?_
          obtain rfl := Option.some.inj h
          exact fw_iret (pc := 24) d_X_job_24 rfl
def f_Jobs_sortByDue_28_L12 (x1_2 : Int32) : Int32 × fw_M → Option ((Int32 × fw_M) ⊕ (Int32 × fw_M))
  | (x2_12, μ12) =>
  if x2_12 ≤ 0 then
    some (.inr (x2_12, μ12))
  else
    (fw_rd 8 (μ12.1 31) (x2_12 - 1)).bind fun v27 =>
    (fw_rd 8 (μ12.1 30) v27).bind fun v28 =>
    (fw_rd 8 (μ12.1 30) x1_2).bind fun v34 =>
    if v28 ≤ v34 then
      some (.inr (x2_12, μ12))
    else
      (fw_rd 8 (μ12.1 31) (x2_12 - 1)).bind fun v50 =>
      (fw_si 8 μ12 31 x2_12 v50).bind fun μ51 =>
      fw_nm (x2_12 + (-1)) fun (v52 : Int32) =>
      some (.inl (v52, μ51))
def f_Jobs_sortByDue_28_L2  : Int32 × fw_M → Option ((Int32 × fw_M) ⊕ (fw_M))
  | (x1_2, μ2) =>
  if (μ2.1 28 3) ≤ x1_2 then
    some (.inr μ2)
  else
    (fw_wh (f_Jobs_sortByDue_28_L12 x1_2) fw_N (x1_2, μ2)).bind fun (e12x : Int32 × fw_M) =>
    (fw_si 8 e12x.2 31 e12x.1 x1_2).bind fun μ64 =>
    fw_nm (x1_2 + 1) fun (v65 : Int32) =>
    some (.inl (v65, μ64))
def f_Jobs_sortByDue_28  (μ : fw_M) : Option (fw_M) :=
  (fw_wh (f_Jobs_sortByDue_28_L2) fw_N (0, μ)).bind fun (e2x : fw_M) =>
  some e2x
set_option maxHeartbeats 4000000 in
set_option maxRecDepth 100000 in
theorem c_Jobs_sortByDue_28  {μ : fw_M} {r : fw_M} (h : f_Jobs_sortByDue_28  μ = some r) : fw_Con Y_Jobs_sortByDue fw_X 1 [.ref 28] none μ r := by
  refine fw_con (by decide) (Nat.le_of_ble_eq_true rfl) ?_
  rw [f_Jobs_sortByDue_28] at h
  show fw_R "FewTypes$Jobs" prog_3_method_5_code 3 none fw_X 1 none r 0 [(0, .ref 28)] [] μ
  refine fw_iconst (pc := 0) d_Jobs_sortByDue_0 fw_ic0 ?_
  refine fw_istore_n (pc := 1) (lv1 := [(1, .int 0), (0, .ref 28)]) d_Jobs_sortByDue_1 rfl (by decide) rfl ?_
  obtain ⟨e2x, w2, h⟩ := fw_be h
  have hE2 : fw_R "FewTypes$Jobs" prog_3_method_5_code 3 none fw_X 1 none r 71 [] [] e2x := by
    obtain rfl := Option.some.inj h
    exact fw_vret (pc := 71) d_Jobs_sortByDue_71 rfl
  clear h
  exact fw_sub [1, 0] rfl (fw_we (e := e2x) (fun (s : Int32 × fw_M) => fw_R "FewTypes$Jobs" prog_3_method_5_code 3 none fw_X 1 none r 2 [(0, .ref 28), (1, .int s.1)] [] s.2) (by
    intro s x h hl hr
    obtain ⟨x1_2, μ2⟩ := s
    rw [f_Jobs_sortByDue_28_L2] at h
    show fw_R "FewTypes$Jobs" prog_3_method_5_code 3 none fw_X 1 none r 2 [(0, .ref 28), (1, .int x1_2)] [] μ2
    refine fw_iload_n (pc := 2) d_Jobs_sortByDue_2 1 rfl rfl ?_
    refine fw_aload_n (pc := 3) d_Jobs_sortByDue_3 0 rfl rfl ?_
    refine fw_getI (pc := 4) d_Jobs_sortByDue_4 fl_Jobs_21 fw_X28 rfl ?_
    refine fw_icmp_ge (pc := 7) (tgt := 71) d_Jobs_sortByDue_7 rfl (fun hc => ?_) (fun hc => ?_)
    · have h := fw_it hc h
      obtain rfl := Option.some.inj h
      have he := hr _ rfl
      subst he
      exact fw_sub [] rfl hE2
    · have h := fw_if hc h
      refine fw_iload_n (pc := 10) d_Jobs_sortByDue_10 1 rfl rfl ?_
      refine fw_istore_n (pc := 11) (lv1 := [(2, .int x1_2), (0, .ref 28), (1, .int x1_2)]) d_Jobs_sortByDue_11 rfl (by decide) rfl ?_
      obtain ⟨e12x, w12, h⟩ := fw_be h
      have hE12 : fw_R "FewTypes$Jobs" prog_3_method_5_code 3 none fw_X 1 none r 58 [(0, .ref 28), (1, .int x1_2), (2, .int e12x.1)] [] e12x.2 := by
        refine fw_aload_n (pc := 58) d_Jobs_sortByDue_58 0 rfl rfl ?_
        refine fw_getR (pc := 59) d_Jobs_sortByDue_59 fl_Jobs_18 fw_X28 rfl ?_
        refine fw_iload_n (pc := 62) d_Jobs_sortByDue_62 2 rfl rfl ?_
        refine fw_iload_n (pc := 63) d_Jobs_sortByDue_63 1 rfl rfl ?_
        obtain ⟨μ64, e64, h⟩ := fw_be h
        refine fw_iast (pc := 64) d_Jobs_sortByDue_64 fw_X31 e64 ?_
        obtain ⟨v65, e65, h⟩ := fw_ne h
        refine fw_iinc2 (pc := 65) (j := 1) (lv1 := [(1, .int v65), (0, .ref 28), (2, .int e12x.1)]) d_Jobs_sortByDue_65 rfl fw_ic1 e65 (by decide) rfl ?_
        refine fw_goto (pc := 68) (tgt := 2) d_Jobs_sortByDue_68 rfl ?_
        obtain rfl := Option.some.inj h
        exact fw_sub [1, 0] rfl (hl _ rfl)
      clear h
      exact fw_sub [1, 2, 0] rfl (fw_we (e := e12x) (fun (s : Int32 × fw_M) => fw_R "FewTypes$Jobs" prog_3_method_5_code 3 none fw_X 1 none r 12 [(0, .ref 28), (1, .int x1_2), (2, .int s.1)] [] s.2) (by
        intro s x h hl hr
        obtain ⟨x2_12, μ12⟩ := s
        rw [f_Jobs_sortByDue_28_L12] at h
        show fw_R "FewTypes$Jobs" prog_3_method_5_code 3 none fw_X 1 none r 12 [(0, .ref 28), (1, .int x1_2), (2, .int x2_12)] [] μ12
        refine fw_iload_n (pc := 12) d_Jobs_sortByDue_12 2 rfl rfl ?_
        refine fw_if_le (pc := 13) (tgt := 58) d_Jobs_sortByDue_13 rfl (fun hc => ?_) (fun hc => ?_)
        · have h := fw_it hc h
          obtain rfl := Option.some.inj h
          have he := hr _ rfl
          subst he
          exact fw_sub [0, 1, 2] rfl hE12
        · have h := fw_if hc h
          refine fw_aload_n (pc := 16) d_Jobs_sortByDue_16 0 rfl rfl ?_
          refine fw_getR (pc := 17) d_Jobs_sortByDue_17 fl_Jobs_15 fw_X28 rfl ?_
          refine fw_aload_n (pc := 20) d_Jobs_sortByDue_20 0 rfl rfl ?_
          refine fw_getR (pc := 21) d_Jobs_sortByDue_21 fl_Jobs_18 fw_X28 rfl ?_
          refine fw_iload_n (pc := 24) d_Jobs_sortByDue_24 2 rfl rfl ?_
          refine fw_iconst (pc := 25) d_Jobs_sortByDue_25 fw_ic1 ?_
          refine fw_isub (pc := 26) d_Jobs_sortByDue_26 ?_
          obtain ⟨v27, e27, h⟩ := fw_be h
          refine fw_iald (pc := 27) d_Jobs_sortByDue_27 fw_X31 e27 ?_
          obtain ⟨v28, e28, h⟩ := fw_be h
          refine fw_iald (pc := 28) d_Jobs_sortByDue_28 fw_X30 e28 ?_
          refine fw_aload_n (pc := 29) d_Jobs_sortByDue_29 0 rfl rfl ?_
          refine fw_getR (pc := 30) d_Jobs_sortByDue_30 fl_Jobs_15 fw_X28 rfl ?_
          refine fw_iload_n (pc := 33) d_Jobs_sortByDue_33 1 rfl rfl ?_
          obtain ⟨v34, e34, h⟩ := fw_be h
          refine fw_iald (pc := 34) d_Jobs_sortByDue_34 fw_X30 e34 ?_
          refine fw_icmp_le (pc := 35) (tgt := 58) d_Jobs_sortByDue_35 rfl (fun hc => ?_) (fun hc => ?_)
          · have h := fw_it hc h
            obtain rfl := Option.some.inj h
            have he := hr _ rfl
            subst he
            exact fw_sub [0, 1, 2] rfl hE12
          · have h := fw_if hc h
            refine fw_aload_n (pc := 38) d_Jobs_sortByDue_38 0 rfl rfl ?_
            refine fw_getR (pc := 39) d_Jobs_sortByDue_39 fl_Jobs_18 fw_X28 rfl ?_
            refine fw_iload_n (pc := 42) d_Jobs_sortByDue_42 2 rfl rfl ?_
            refine fw_aload_n (pc := 43) d_Jobs_sortByDue_43 0 rfl rfl ?_
            refine fw_getR (pc := 44) d_Jobs_sortByDue_44 fl_Jobs_18 fw_X28 rfl ?_
            refine fw_iload_n (pc := 47) d_Jobs_sortByDue_47 2 rfl rfl ?_
            refine fw_iconst (pc := 48) d_Jobs_sortByDue_48 fw_ic1 ?_
            refine fw_isub (pc := 49) d_Jobs_sortByDue_49 ?_
            obtain ⟨v50, e50, h⟩ := fw_be h
            refine fw_iald (pc := 50) d_Jobs_sortByDue_50 fw_X31 e50 ?_
            obtain ⟨μ51, e51, h⟩ := fw_be h
            refine fw_iast (pc := 51) d_Jobs_sortByDue_51 fw_X31 e51 ?_
            obtain ⟨v52, e52, h⟩ := fw_ne h
            refine fw_iinc2 (pc := 52) (j := 2) (lv1 := [(2, .int v52), (0, .ref 28), (1, .int x1_2)]) d_Jobs_sortByDue_52 rfl fw_icm1 e52 (by decide) rfl ?_
            refine fw_goto (pc := 55) (tgt := 12) d_Jobs_sortByDue_55 rfl ?_
            obtain rfl := Option.some.inj h
            exact fw_sub [1, 2, 0] rfl (hl _ rfl)
        ) _ _ w12)
    ) _ _ w2)
def f_Jobs_isInTime_28_L4 (a1 : Int32) (μ : fw_M) : Int32 × Int32 → Option ((Int32 × Int32) ⊕ ((Unit) ⊕ (Int32)))
  | (x2_4, x3_4) =>
  if (μ.1 28 3) ≤ x3_4 then
    some (.inr (.inl ()))
  else
    (fw_rd 8 (μ.1 31) x3_4).bind fun v17 =>
    (f_X_inSet a1 v17).bind fun (p23 : Int32) =>
    if p23 = 0 then
      fw_nm (x3_4 + 1) fun (v52 : Int32) =>
      some (.inl (x2_4, v52))
    else
      (fw_rd 8 (μ.1 29) v17).bind fun v36 =>
      fw_nm ((x2_4 + v36)) fun (v38 : Int32) =>
      (fw_rd 8 (μ.1 30) v17).bind fun v46 =>
      if v38 ≤ v46 then
        fw_nm (x3_4 + 1) fun (v52 : Int32) =>
        some (.inl (v38, v52))
      else
        some (.inr (.inr 0))
def f_Jobs_isInTime_28 (a1 : Int32) (μ : fw_M) : Option (Int32) :=
  Option.bind (fw_wh (f_Jobs_isInTime_28_L4 a1 μ) fw_N (0, 0)) fun (q4 : (Unit) ⊕ (Int32)) => match q4 with
  | .inl e4x =>
    some 1
  | .inr r4 => some r4
set_option maxHeartbeats 4000000 in
set_option maxRecDepth 100000 in
theorem c_Jobs_isInTime_28 {a1 : Int32} {μ : fw_M} {r : Int32} (h : f_Jobs_isInTime_28 a1 μ = some r) : fw_Con Y_Jobs_isInTime fw_X 2 [.ref 28, .int a1] (some r) μ μ := by
  refine fw_con (by decide) (Nat.le_of_ble_eq_true rfl) ?_
  rw [f_Jobs_isInTime_28] at h
  show fw_R "FewTypes$Jobs" prog_3_method_6_code 5 (some .boolean) fw_X 2 (some r) μ 0 [(0, .ref 28), (1, .int a1)] [] μ
  refine fw_iconst (pc := 0) d_Jobs_isInTime_0 fw_ic0 ?_
  refine fw_istore_n (pc := 1) (lv1 := [(2, .int 0), (0, .ref 28), (1, .int a1)]) d_Jobs_isInTime_1 rfl (by decide) rfl ?_
  refine fw_iconst (pc := 2) d_Jobs_isInTime_2 fw_ic0 ?_
  refine fw_istore_n (pc := 3) (lv1 := [(3, .int 0), (2, .int 0), (0, .ref 28), (1, .int a1)]) d_Jobs_isInTime_3 rfl (by decide) rfl ?_
  obtain ⟨q4, w4, h⟩ := fw_be h
  have hE4 : ∀ e4x : Unit, q4 = .inl e4x → fw_R "FewTypes$Jobs" prog_3_method_6_code 5 (some .boolean) fw_X 2 (some r) μ 58 [] [] μ := by
    intro e4x hq
    subst hq
    dsimp only at h
    refine fw_iconst (pc := 58) d_Jobs_isInTime_58 fw_ic1 ?_
    obtain rfl := Option.some.inj h
    exact fw_zret (pc := 59) d_Jobs_isInTime_59 rfl fw_bz1
  have hR4 : ∀ r4, q4 = .inr r4 → r4 = r := by
    intro r4 hq
    subst hq
    exact Option.some.inj h
  clear h
  exact fw_sub [2, 3, 1, 0] rfl (fw_we (e := q4) (fun (s : Int32 × Int32) => fw_R "FewTypes$Jobs" prog_3_method_6_code 5 (some .boolean) fw_X 2 (some r) μ 4 [(0, .ref 28), (1, .int a1), (2, .int s.1), (3, .int s.2)] [] μ) (by
    intro s x h hl hr
    obtain ⟨x2_4, x3_4⟩ := s
    rw [f_Jobs_isInTime_28_L4] at h
    show fw_R "FewTypes$Jobs" prog_3_method_6_code 5 (some .boolean) fw_X 2 (some r) μ 4 [(0, .ref 28), (1, .int a1), (2, .int x2_4), (3, .int x3_4)] [] μ
    refine fw_iload_n (pc := 4) d_Jobs_isInTime_4 3 rfl rfl ?_
    refine fw_aload_n (pc := 5) d_Jobs_isInTime_5 0 rfl rfl ?_
    refine fw_getI (pc := 6) d_Jobs_isInTime_6 fl_Jobs_21 fw_X28 rfl ?_
    refine fw_icmp_ge (pc := 9) (tgt := 58) d_Jobs_isInTime_9 rfl (fun hc => ?_) (fun hc => ?_)
    · have h := fw_it hc h
      obtain rfl := Option.some.inj h
      exact fw_sub [] rfl (hE4 _ (hr _ rfl).symm)
    · have h := fw_if hc h
      refine fw_aload_n (pc := 12) d_Jobs_isInTime_12 0 rfl rfl ?_
      refine fw_getR (pc := 13) d_Jobs_isInTime_13 fl_Jobs_18 fw_X28 rfl ?_
      refine fw_iload_n (pc := 16) d_Jobs_isInTime_16 3 rfl rfl ?_
      obtain ⟨v17, e17, h⟩ := fw_be h
      refine fw_iald (pc := 17) d_Jobs_isInTime_17 fw_X31 e17 ?_
      refine fw_istore (pc := 18) (lv1 := [(4, .int v17), (0, .ref 28), (1, .int a1), (2, .int x2_4), (3, .int x3_4)]) d_Jobs_isInTime_18 (by decide) rfl ?_
      refine fw_iload_n (pc := 20) d_Jobs_isInTime_20 2 rfl rfl ?_
      refine fw_iload (pc := 21) d_Jobs_isInTime_21 0 rfl ?_
      obtain ⟨p23, e23, h⟩ := fw_be h
      refine fw_callNi (pc := 23) d_Jobs_isInTime_23 ms_Jobs_44 (c_X_inSet e23) (by decide) rfl rfl (Nat.le_of_ble_eq_true rfl) ?_
      refine fw_if_eq (pc := 26) (tgt := 52) d_Jobs_isInTime_26 rfl (fun hc => ?_) (fun hc => ?_)
      · have h := fw_it hc h
        obtain ⟨v52, e52, h⟩ := fw_ne h
        refine fw_iinc2 (pc := 52) (j := 4) (lv1 := [(3, .int v52), (4, .int v17), (0, .ref 28), (1, .int a1), (2, .int x2_4)]) d_Jobs_isInTime_52 rfl fw_ic1 e52 (by decide) rfl ?_
        refine fw_goto (pc := 55) (tgt := 4) d_Jobs_isInTime_55 rfl ?_
        obtain rfl := Option.some.inj h
        exact fw_sub [2, 3, 4, 0] rfl (hl _ rfl)
      · have h := fw_if hc h
        refine fw_iload_n (pc := 29) d_Jobs_isInTime_29 3 rfl rfl ?_
        refine fw_aload_n (pc := 30) d_Jobs_isInTime_30 1 rfl rfl ?_
        refine fw_getR (pc := 31) d_Jobs_isInTime_31 fl_Jobs_9 fw_X28 rfl ?_
        refine fw_iload (pc := 34) d_Jobs_isInTime_34 0 rfl ?_
        obtain ⟨v36, e36, h⟩ := fw_be h
        refine fw_iald (pc := 36) d_Jobs_isInTime_36 fw_X29 e36 ?_
        refine fw_iadd (pc := 37) d_Jobs_isInTime_37 ?_
        obtain ⟨v38, e38, h⟩ := fw_ne h
        refine fw_top e38 ?_
        refine fw_istore_n (pc := 38) (lv1 := [(2, .int v38), (4, .int v17), (0, .ref 28), (1, .int a1), (3, .int x3_4)]) d_Jobs_isInTime_38 rfl (by decide) rfl ?_
        refine fw_iload_n (pc := 39) d_Jobs_isInTime_39 0 rfl rfl ?_
        refine fw_aload_n (pc := 40) d_Jobs_isInTime_40 2 rfl rfl ?_
        refine fw_getR (pc := 41) d_Jobs_isInTime_41 fl_Jobs_15 fw_X28 rfl ?_
        refine fw_iload (pc := 44) d_Jobs_isInTime_44 1 rfl ?_
        obtain ⟨v46, e46, h⟩ := fw_be h
        refine fw_iald (pc := 46) d_Jobs_isInTime_46 fw_X30 e46 ?_
        refine fw_icmp_le (pc := 47) (tgt := 52) d_Jobs_isInTime_47 rfl (fun hc => ?_) (fun hc => ?_)
        · have h := fw_it hc h
          obtain ⟨v52, e52, h⟩ := fw_ne h
          refine fw_iinc2 (pc := 52) (j := 4) (lv1 := [(3, .int v52), (2, .int v38), (4, .int v17), (0, .ref 28), (1, .int a1)]) d_Jobs_isInTime_52 rfl fw_ic1 e52 (by decide) rfl ?_
          refine fw_goto (pc := 55) (tgt := 4) d_Jobs_isInTime_55 rfl ?_
          obtain rfl := Option.some.inj h
          exact fw_sub [3, 4, 1, 0] rfl (hl _ rfl)
        · have h := fw_if hc h
          refine fw_iconst (pc := 50) d_Jobs_isInTime_50 fw_ic0 ?_
          obtain rfl := Option.some.inj h
          have he := hR4 _ (hr _ rfl).symm
          subst he
          exact fw_zret (pc := 51) d_Jobs_isInTime_51 rfl fw_bz0
    ) _ _ w4)
def f_Jobs_mostInTime_28_L8 (p1 : fw_M) : Int32 × Int32 → Option ((Int32 × Int32) ⊕ (Int32))
  | (x1_8, x2_8) =>
  if ((1 : Int32) <<< ((p1.1 28 3) &&& 31)) ≤ x2_8 then
    some (.inr x1_8)
  else
    (f_Integer_bitCount x2_8).bind fun (p19 : Int32) =>
    (f_Integer_bitCount x1_8).bind fun (p23 : Int32) =>
    Option.bind (
      if p19 ≤ p23 then
        some x1_8
      else
        (f_Jobs_isInTime_28 x2_8 p1).bind fun (p31 : Int32) =>
        if p31 = 0 then
          some x1_8
        else
          some x2_8) fun (j26 : Int32) =>
    fw_nm (x2_8 + 1) fun (v39 : Int32) =>
    some (.inl (j26, v39))
def f_Jobs_mostInTime_28  (μ : fw_M) : Option (Int32 × fw_M) :=
  (f_Jobs_sortByDue_28 μ).bind fun (p1 : fw_M) =>
  (fw_wh (f_Jobs_mostInTime_28_L8 p1) fw_N (0, 1)).bind fun (e8x : Int32) =>
  some (e8x, p1)
set_option maxHeartbeats 4000000 in
set_option maxRecDepth 100000 in
theorem c_Jobs_mostInTime_28  {μ : fw_M} {r : Int32 × fw_M} (h : f_Jobs_mostInTime_28  μ = some r) : fw_Con Y_Jobs_mostInTime fw_X 3 [.ref 28] (some r.1) μ r.2 := by
  refine fw_con (by decide) (Nat.le_of_ble_eq_true rfl) ?_
  rw [f_Jobs_mostInTime_28] at h
  show fw_R "FewTypes$Jobs" prog_3_method_4_code 3 (some .int) fw_X 3 (some r.1) r.2 0 [(0, .ref 28)] [] μ
  refine fw_aload_n (pc := 0) d_Jobs_mostInTime_0 0 rfl rfl ?_
  obtain ⟨p1, e1, h⟩ := fw_be h
  refine fw_callVv (pc := 1) d_Jobs_mostInTime_1 mv_Jobs_31 fw_X28 (c_Jobs_sortByDue_28 e1) (by decide) rfl rfl (Nat.le_of_ble_eq_true rfl) ?_
  refine fw_iconst (pc := 4) d_Jobs_mostInTime_4 fw_ic0 ?_
  refine fw_istore_n (pc := 5) (lv1 := [(1, .int 0), (0, .ref 28)]) d_Jobs_mostInTime_5 rfl (by decide) rfl ?_
  refine fw_iconst (pc := 6) d_Jobs_mostInTime_6 fw_ic1 ?_
  refine fw_istore_n (pc := 7) (lv1 := [(2, .int 1), (1, .int 0), (0, .ref 28)]) d_Jobs_mostInTime_7 rfl (by decide) rfl ?_
  obtain ⟨e8x, w8, h⟩ := fw_be h
  have hE8 : fw_R "FewTypes$Jobs" prog_3_method_4_code 3 (some .int) fw_X 3 (some r.1) r.2 45 [(1, .int e8x)] [] p1 := by
    refine fw_iload_n (pc := 45) d_Jobs_mostInTime_45 0 rfl rfl ?_
    obtain rfl := Option.some.inj h
    exact fw_iret (pc := 46) d_Jobs_mostInTime_46 rfl
  clear h
  exact fw_sub [2, 1, 0] rfl (fw_we (e := e8x) (fun (s : Int32 × Int32) => fw_R "FewTypes$Jobs" prog_3_method_4_code 3 (some .int) fw_X 3 (some r.1) r.2 8 [(0, .ref 28), (1, .int s.1), (2, .int s.2)] [] p1) (by
    intro s x h hl hr
    obtain ⟨x1_8, x2_8⟩ := s
    rw [f_Jobs_mostInTime_28_L8] at h
    show fw_R "FewTypes$Jobs" prog_3_method_4_code 3 (some .int) fw_X 3 (some r.1) r.2 8 [(0, .ref 28), (1, .int x1_8), (2, .int x2_8)] [] p1
    refine fw_iload_n (pc := 8) d_Jobs_mostInTime_8 2 rfl rfl ?_
    refine fw_iconst (pc := 9) d_Jobs_mostInTime_9 fw_ic1 ?_
    refine fw_aload_n (pc := 10) d_Jobs_mostInTime_10 0 rfl rfl ?_
    refine fw_getI (pc := 11) d_Jobs_mostInTime_11 fl_Jobs_21 fw_X28 rfl ?_
    refine fw_ishl (pc := 14) d_Jobs_mostInTime_14 ?_
    refine fw_icmp_ge (pc := 15) (tgt := 45) d_Jobs_mostInTime_15 rfl (fun hc => ?_) (fun hc => ?_)
    · have h := fw_it hc h
      obtain rfl := Option.some.inj h
      have he := hr _ rfl
      subst he
      exact fw_sub [1] rfl hE8
    · have h := fw_if hc h
      refine fw_iload_n (pc := 18) d_Jobs_mostInTime_18 2 rfl rfl ?_
      obtain ⟨p19, e19, h⟩ := fw_be h
      refine fw_callSi (pc := 19) d_Jobs_mostInTime_19 ms_Jobs_34 (c_Integer_bitCount e19) (by decide) rfl rfl (Nat.le_of_ble_eq_true rfl) ?_
      refine fw_iload_n (pc := 22) d_Jobs_mostInTime_22 1 rfl rfl ?_
      obtain ⟨p23, e23, h⟩ := fw_be h
      refine fw_callSi (pc := 23) d_Jobs_mostInTime_23 ms_Jobs_34 (c_Integer_bitCount e23) (by decide) rfl rfl (Nat.le_of_ble_eq_true rfl) ?_
      obtain ⟨j26, w26, h⟩ := fw_be h
      have hJ26 : fw_R "FewTypes$Jobs" prog_3_method_4_code 3 (some .int) fw_X 3 (some r.1) r.2 39 [(0, .ref 28), (1, .int j26), (2, .int x2_8)] [] p1 := by
        obtain ⟨v39, e39, h⟩ := fw_ne h
        refine fw_iinc2 (pc := 39) (j := 2) (lv1 := [(2, .int v39), (0, .ref 28), (1, .int j26)]) d_Jobs_mostInTime_39 rfl fw_ic1 e39 (by decide) rfl ?_
        refine fw_goto (pc := 42) (tgt := 8) d_Jobs_mostInTime_42 rfl ?_
        obtain rfl := Option.some.inj h
        exact fw_sub [1, 2, 0] rfl (hl _ rfl)
      clear h
      have h := w26
      clear w26
      refine fw_icmp_le (pc := 26) (tgt := 39) d_Jobs_mostInTime_26 rfl (fun hc => ?_) (fun hc => ?_)
      · have h := fw_it hc h
        obtain rfl := Option.some.inj h
        exact fw_sub [0, 1, 2] rfl hJ26
      · have h := fw_if hc h
        refine fw_aload_n (pc := 29) d_Jobs_mostInTime_29 0 rfl rfl ?_
        refine fw_iload_n (pc := 30) d_Jobs_mostInTime_30 2 rfl rfl ?_
        obtain ⟨p31, e31, h⟩ := fw_be h
        refine fw_callVi (pc := 31) d_Jobs_mostInTime_31 mv_Jobs_40 fw_X28 (c_Jobs_isInTime_28 e31) (by decide) rfl rfl (Nat.le_of_ble_eq_true rfl) ?_
        refine fw_if_eq (pc := 34) (tgt := 39) d_Jobs_mostInTime_34 rfl (fun hc => ?_) (fun hc => ?_)
        · have h := fw_it hc h
          obtain rfl := Option.some.inj h
          exact fw_sub [0, 1, 2] rfl hJ26
        · have h := fw_if hc h
          refine fw_iload_n (pc := 37) d_Jobs_mostInTime_37 2 rfl rfl ?_
          refine fw_istore_n (pc := 38) (lv1 := [(1, .int x2_8), (0, .ref 28), (2, .int x2_8)]) d_Jobs_mostInTime_38 rfl (by decide) rfl ?_
          obtain rfl := Option.some.inj h
          exact fw_sub [1, 0, 2] rfl hJ26
    ) _ _ w8)
def f_X_done  (μ : fw_M) : Option (Int32 × fw_M) :=
  (f_Jobs_mostInTime_28 μ).bind fun (p7 : Int32 × fw_M) =>
  some (p7.1, p7.2)
set_option maxHeartbeats 4000000 in
set_option maxRecDepth 100000 in
theorem c_X_done  {μ : fw_M} {r : Int32 × fw_M} (h : f_X_done  μ = some r) : fw_Con Y_X_done fw_X 4 [.ref 0] (some r.1) μ r.2 := by
  refine fw_con (by decide) (Nat.le_of_ble_eq_true rfl) ?_
  rw [f_X_done] at h
  show fw_R "FewTypes" prog_1_method_24_code 1 (some .int) fw_X 4 (some r.1) r.2 0 [(0, .ref 0)] [] μ
  refine fw_aload_n (pc := 0) d_X_done_0 0 rfl rfl ?_
  refine fw_getR (pc := 1) d_X_done_1 fl_X_12 fw_X0 rfl ?_
  refine fw_getR (pc := 4) d_X_done_4 fl_X_169 fw_X1 rfl ?_
  obtain ⟨p7, e7, h⟩ := fw_be h
  refine fw_callVi (pc := 7) d_X_done_7 mv_X_252 fw_X28 (c_Jobs_mostInTime_28 e7) (by decide) rfl rfl (Nat.le_of_ble_eq_true rfl) ?_
  obtain rfl := Option.some.inj h
  exact fw_iret (pc := 10) d_X_done_10 rfl
def f_X_clear  (μ : fw_M) : Option (Int32 × fw_M) :=
  fw_nm (((μ.1 1 6) + (μ.1 28 3))) fun (v18 : Int32) =>
  fw_nm (fw_wr μ 1 6 0) fun (μ24 : fw_M) =>
  fw_nm (fw_wr μ24 28 3 0) fun (μ35 : fw_M) =>
  (f_X_forgetPulls μ35).bind fun (p39 : fw_M) =>
  some (v18, p39)
set_option maxHeartbeats 4000000 in
set_option maxRecDepth 100000 in
theorem c_X_clear  {μ : fw_M} {r : Int32 × fw_M} (h : f_X_clear  μ = some r) : fw_Con Y_X_clear fw_X 3 [.ref 0] (some r.1) μ r.2 := by
  refine fw_con (by decide) (Nat.le_of_ble_eq_true rfl) ?_
  rw [f_X_clear] at h
  show fw_R "FewTypes" prog_1_method_25_code 2 (some .int) fw_X 3 (some r.1) r.2 0 [(0, .ref 0)] [] μ
  refine fw_aload_n (pc := 0) d_X_clear_0 0 rfl rfl ?_
  refine fw_getR (pc := 1) d_X_clear_1 fl_X_12 fw_X0 rfl ?_
  refine fw_getI (pc := 4) d_X_clear_4 fl_X_166 fw_X1 rfl ?_
  refine fw_aload_n (pc := 7) d_X_clear_7 0 rfl rfl ?_
  refine fw_getR (pc := 8) d_X_clear_8 fl_X_12 fw_X0 rfl ?_
  refine fw_getR (pc := 11) d_X_clear_11 fl_X_169 fw_X1 rfl ?_
  refine fw_getI (pc := 14) d_X_clear_14 fl_X_173 fw_X28 rfl ?_
  refine fw_iadd (pc := 17) d_X_clear_17 ?_
  obtain ⟨v18, e18, h⟩ := fw_ne h
  refine fw_top e18 ?_
  refine fw_istore_n (pc := 18) (lv1 := [(1, .int v18), (0, .ref 0)]) d_X_clear_18 rfl (by decide) rfl ?_
  refine fw_aload_n (pc := 19) d_X_clear_19 1 rfl rfl ?_
  refine fw_getR (pc := 20) d_X_clear_20 fl_X_12 fw_X0 rfl ?_
  refine fw_iconst (pc := 23) d_X_clear_23 fw_ic0 ?_
  obtain ⟨μ24, e24, h⟩ := fw_ne h
  refine fw_putI (pc := 24) d_X_clear_24 fp_X_166 fw_X1 rfl (fw_mem e24 ?_)
  refine fw_aload_n (pc := 27) d_X_clear_27 1 rfl rfl ?_
  refine fw_getR (pc := 28) d_X_clear_28 fl_X_12 fw_X0 rfl ?_
  refine fw_getR (pc := 31) d_X_clear_31 fl_X_169 fw_X1 rfl ?_
  refine fw_iconst (pc := 34) d_X_clear_34 fw_ic0 ?_
  obtain ⟨μ35, e35, h⟩ := fw_ne h
  refine fw_putI (pc := 35) d_X_clear_35 fp_X_173 fw_X28 rfl (fw_mem e35 ?_)
  refine fw_aload_n (pc := 38) d_X_clear_38 1 rfl rfl ?_
  obtain ⟨p39, e39, h⟩ := fw_be h
  refine fw_callVv (pc := 39) d_X_clear_39 mv_X_93 fw_X0 (c_X_forgetPulls e39) (by decide) rfl rfl (Nat.le_of_ble_eq_true rfl) ?_
  refine fw_iload_n (pc := 42) d_X_clear_42 0 rfl rfl ?_
  obtain rfl := Option.some.inj h
  exact fw_iret (pc := 43) d_X_clear_43 rfl
