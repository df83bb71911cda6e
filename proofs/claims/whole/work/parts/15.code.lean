abbrev Y_X_bound : fw_Y := (⟨"FewTypes", "bound", "()I"⟩, prog_1_method_16_code, 5, (some .int))
abbrev Y_Orders_pullOf : fw_Y := (⟨"FewTypes$Orders", "pullOf", "([II)I"⟩, prog_5_method_3_code, 4, (some .int))
abbrev Y_Orders_slot : fw_Y := (⟨"FewTypes$Orders", "slot", "(III)I"⟩, prog_5_method_5_code, 3, (some .int))
abbrev Y_Orders_weighPair : fw_Y := (⟨"FewTypes$Orders", "weighPair", "(LFewTypes$Shop;IIII)V"⟩, prog_5_method_4_code, 12, none)
abbrev Y_Orders_weigh : fw_Y := (⟨"FewTypes$Orders", "weigh", "(LFewTypes$Shop;[II)V"⟩, prog_5_method_2_code, 8, none)
abbrev Y_Orders_clashesWithEarlier : fw_Y := (⟨"FewTypes$Orders", "clashesWithEarlier", "(I)I"⟩, prog_5_method_9_code, 4, (some .int))
abbrev Y_Orders_clashesAsPlanned : fw_Y := (⟨"FewTypes$Orders", "clashesAsPlanned", "()I"⟩, prog_5_method_6_code, 3, (some .int))
abbrev Y_Orders_tryFrom : fw_Y := (⟨"FewTypes$Orders", "tryFrom", "(III)V"⟩, prog_5_method_8_code, 5, none)
abbrev Y_Orders_findBest : fw_Y := (⟨"FewTypes$Orders", "findBest", "()V"⟩, prog_5_method_7_code, 1, none)
abbrev Y_X_order : fw_Y := (⟨"FewTypes", "order", "(I)I"⟩, prog_1_method_17_code, 3, (some .int))
abbrev Y_X_wearByPull : fw_Y := (⟨"FewTypes", "wearByPull", "(II)V"⟩, prog_1_method_46_code, 5, none)
theorem mv_X_197 : fw_MV "FewTypes" 197 Y_Line_howOften 2 1 := ⟨fw_m 649 (by decide +kernel) (by decide +kernel), fw_m 650 (by decide +kernel) (by decide +kernel), fw_m 651 (by decide +kernel) (by decide +kernel), fw_m 62 (by decide +kernel) (by decide +kernel), fw_m 652 (by decide +kernel) (by decide +kernel), ⟨by decide +kernel, by decide +kernel, by decide +kernel⟩, by decide, _, _, rfl⟩
theorem mv_X_200 : fw_MV "FewTypes" 200 Y_Case_printers 0 1 := ⟨fw_m 653 (by decide +kernel) (by decide +kernel), fw_m 654 (by decide +kernel) (by decide +kernel), fw_m 655 (by decide +kernel) (by decide +kernel), fw_m 61 (by decide +kernel) (by decide +kernel), fw_m 656 (by decide +kernel) (by decide +kernel), ⟨by decide +kernel, by decide +kernel, by decide +kernel⟩, by decide, _, _, rfl⟩
theorem ms_X_203 : fw_MS "FewTypes" 203 Y_X_cutUp 2 := ⟨fw_m 657 (by decide +kernel) (by decide +kernel), fw_m 628 (by decide +kernel) (by decide +kernel), fw_m 59 (by decide +kernel) (by decide +kernel), fw_m 629 (by decide +kernel) (by decide +kernel), ⟨by decide +kernel, by decide +kernel, by decide +kernel⟩, by decide⟩
theorem mx_X_207 : Cond.methodLink "FewTypes" 207 Lib.Math.max.name ∈ fw_tb := fw_m 658 (by decide +kernel) (by decide +kernel)
theorem fl_X_40 : fw_FL "FewTypes" 40 8 5 := ⟨_, _, _, rfl, fw_i8, by decide, fw_m 318 (by decide +kernel) (by decide +kernel)⟩
theorem mv_X_212 : fw_MV "FewTypes" 212 Y_Orders_weigh 3 3 := ⟨fw_m 663 (by decide +kernel) (by decide +kernel), fw_m 664 (by decide +kernel) (by decide +kernel), fw_m 665 (by decide +kernel) (by decide +kernel), fw_m 68 (by decide +kernel) (by decide +kernel), fw_m 666 (by decide +kernel) (by decide +kernel), ⟨by decide +kernel, by decide +kernel, by decide +kernel⟩, by decide, _, _, rfl⟩
theorem mx_Orders_28 : Cond.methodLink "FewTypes$Orders" 28 Lib.Math.min.name ∈ fw_tb := fw_m 667 (by decide +kernel) (by decide +kernel)
theorem fp_Orders_21 : fw_FP "FewTypes$Orders" 21 3 3 .int := ⟨_, _, _, fw_t3, rfl, fw_i3, by decide, fw_m 271 (by decide +kernel) (by decide +kernel), fw_k3, fw_n3, rfl, by decide +kernel⟩
theorem fl_Orders_9 : fw_FL "FewTypes$Orders" 9 3 0 := ⟨_, _, _, rfl, fw_i3, by decide, fw_m 267 (by decide +kernel) (by decide +kernel)⟩
theorem ms_Orders_34 : fw_MS "FewTypes$Orders" 34 Y_Arrays_fill 2 := ⟨fw_m 670 (by decide +kernel) (by decide +kernel), fw_m 160 (by decide +kernel) (by decide +kernel), fw_m 64 (by decide +kernel) (by decide +kernel), fw_m 161 (by decide +kernel) (by decide +kernel), ⟨by decide +kernel, by decide +kernel, by decide +kernel⟩, by decide⟩
theorem fl_Orders_40 : fw_FL "FewTypes$Orders" 40 6 1 := ⟨_, _, _, rfl, fw_i6, by decide, fw_m 170 (by decide +kernel) (by decide +kernel)⟩
theorem fl_Orders_46 : fw_FL "FewTypes$Orders" 46 2 1 := ⟨_, _, _, rfl, fw_i2, by decide, fw_m 126 (by decide +kernel) (by decide +kernel)⟩
theorem mv_Orders_51 : fw_MV "FewTypes$Orders" 51 Y_Orders_pullOf 3 2 := ⟨fw_m 671 (by decide +kernel) (by decide +kernel), fw_m 673 (by decide +kernel) (by decide +kernel), fw_m 21 (by decide +kernel) (by decide +kernel), fw_m 68 (by decide +kernel) (by decide +kernel), fw_m 674 (by decide +kernel) (by decide +kernel), ⟨by decide +kernel, by decide +kernel, by decide +kernel⟩, by decide, _, _, rfl⟩
theorem fl_Orders_21 : fw_FL "FewTypes$Orders" 21 3 3 := ⟨_, _, _, rfl, fw_i3, by decide, fw_m 271 (by decide +kernel) (by decide +kernel)⟩
theorem ms_Orders_59 : fw_MN "FewTypes$Orders" 59 Y_X_inSet 2 := ⟨by decide +kernel, fw_m 486 (by decide +kernel) (by decide +kernel), fw_m 59 (by decide +kernel) (by decide +kernel), fw_m 487 (by decide +kernel) (by decide +kernel), ⟨by decide +kernel, by decide +kernel, by decide +kernel⟩, by decide⟩
theorem mv_Orders_55 : fw_MV "FewTypes$Orders" 55 Y_Orders_weighPair 3 5 := ⟨fw_m 676 (by decide +kernel) (by decide +kernel), fw_m 678 (by decide +kernel) (by decide +kernel), fw_m 22 (by decide +kernel) (by decide +kernel), fw_m 68 (by decide +kernel) (by decide +kernel), fw_m 679 (by decide +kernel) (by decide +kernel), ⟨by decide +kernel, by decide +kernel, by decide +kernel⟩, by decide, _, _, rfl⟩
theorem fl_Orders_63 : fw_FL "FewTypes$Orders" 63 6 2 := ⟨_, _, _, rfl, fw_i6, by decide, fw_m 173 (by decide +kernel) (by decide +kernel)⟩
theorem mv_Orders_66 : fw_MV "FewTypes$Orders" 66 Y_Line_left 2 2 := ⟨fw_m 680 (by decide +kernel) (by decide +kernel), fw_m 478 (by decide +kernel) (by decide +kernel), fw_m 479 (by decide +kernel) (by decide +kernel), fw_m 62 (by decide +kernel) (by decide +kernel), fw_m 480 (by decide +kernel) (by decide +kernel), ⟨by decide +kernel, by decide +kernel, by decide +kernel⟩, by decide, _, _, rfl⟩
theorem fl_Orders_70 : fw_FL "FewTypes$Orders" 70 2 0 := ⟨_, _, _, rfl, fw_i2, by decide, fw_m 122 (by decide +kernel) (by decide +kernel)⟩
theorem fl_Orders_73 : fw_FL "FewTypes$Orders" 73 6 3 := ⟨_, _, _, rfl, fw_i6, by decide, fw_m 176 (by decide +kernel) (by decide +kernel)⟩
theorem ms_Orders_76 : fw_MS "FewTypes$Orders" 76 Y_Orders_slot 3 := ⟨fw_m 681 (by decide +kernel) (by decide +kernel), fw_m 682 (by decide +kernel) (by decide +kernel), fw_m 68 (by decide +kernel) (by decide +kernel), fw_m 683 (by decide +kernel) (by decide +kernel), ⟨by decide +kernel, by decide +kernel, by decide +kernel⟩, by decide⟩
theorem mv_X_216 : fw_MV "FewTypes" 216 Y_Orders_clashesAsPlanned 3 0 := ⟨fw_m 684 (by decide +kernel) (by decide +kernel), fw_m 685 (by decide +kernel) (by decide +kernel), fw_m 686 (by decide +kernel) (by decide +kernel), fw_m 68 (by decide +kernel) (by decide +kernel), fw_m 687 (by decide +kernel) (by decide +kernel), ⟨by decide +kernel, by decide +kernel, by decide +kernel⟩, by decide, _, _, rfl⟩
theorem fl_Orders_15 : fw_FL "FewTypes$Orders" 15 3 1 := ⟨_, _, _, rfl, fw_i3, by decide, fw_m 268 (by decide +kernel) (by decide +kernel)⟩
theorem mv_Orders_80 : fw_MV "FewTypes$Orders" 80 Y_Orders_clashesWithEarlier 3 1 := ⟨fw_m 688 (by decide +kernel) (by decide +kernel), fw_m 690 (by decide +kernel) (by decide +kernel), fw_m 23 (by decide +kernel) (by decide +kernel), fw_m 68 (by decide +kernel) (by decide +kernel), fw_m 691 (by decide +kernel) (by decide +kernel), ⟨by decide +kernel, by decide +kernel, by decide +kernel⟩, by decide, _, _, rfl⟩
theorem mv_X_220 : fw_MV "FewTypes" 220 Y_Orders_findBest 3 0 := ⟨fw_m 692 (by decide +kernel) (by decide +kernel), fw_m 693 (by decide +kernel) (by decide +kernel), fw_m 694 (by decide +kernel) (by decide +kernel), fw_m 68 (by decide +kernel) (by decide +kernel), fw_m 695 (by decide +kernel) (by decide +kernel), ⟨by decide +kernel, by decide +kernel, by decide +kernel⟩, by decide, _, _, rfl⟩
theorem fp_Orders_25 : fw_FP "FewTypes$Orders" 25 3 4 .int := ⟨_, _, _, fw_t3, rfl, fw_i3, by decide, fw_m 272 (by decide +kernel) (by decide +kernel), fw_k3, fw_n3, rfl, by decide +kernel⟩
theorem mv_Orders_84 : fw_MV "FewTypes$Orders" 84 Y_Orders_tryFrom 3 3 := ⟨fw_m 696 (by decide +kernel) (by decide +kernel), fw_m 698 (by decide +kernel) (by decide +kernel), fw_m 24 (by decide +kernel) (by decide +kernel), fw_m 68 (by decide +kernel) (by decide +kernel), fw_m 699 (by decide +kernel) (by decide +kernel), ⟨by decide +kernel, by decide +kernel, by decide +kernel⟩, by decide, _, _, rfl⟩
theorem fl_Orders_25 : fw_FL "FewTypes$Orders" 25 3 4 := ⟨_, _, _, rfl, fw_i3, by decide, fw_m 272 (by decide +kernel) (by decide +kernel)⟩
theorem fl_Orders_18 : fw_FL "FewTypes$Orders" 18 3 2 := ⟨_, _, _, rfl, fw_i3, by decide, fw_m 269 (by decide +kernel) (by decide +kernel)⟩
theorem ma_Orders_88 : Cond.methodLink "FewTypes$Orders" 88 arraycopyName ∈ fw_tb := fw_m 700 (by decide +kernel) (by decide +kernel)
theorem fl_X_223 : fw_FL "FewTypes" 223 3 4 := ⟨_, _, _, rfl, fw_i3, by decide, fw_m 273 (by decide +kernel) (by decide +kernel)⟩
theorem fl_X_226 : fw_FL "FewTypes" 226 3 2 := ⟨_, _, _, rfl, fw_i3, by decide, fw_m 270 (by decide +kernel) (by decide +kernel)⟩
theorem d_X_bound_0 : decode prog_1_method_16_code 0 = .ok (.aload_n 0, 1) := by decide +kernel
theorem d_X_bound_1 : decode prog_1_method_16_code 1 = .ok (.getfield 12, 3) := by decide +kernel
theorem d_X_bound_4 : decode prog_1_method_16_code 4 = .ok (.getfield 139, 3) := by decide +kernel
theorem d_X_bound_7 : decode prog_1_method_16_code 7 = .ok (.getfield 161, 3) := by decide +kernel
theorem d_X_bound_10 : decode prog_1_method_16_code 10 = .ok (.ifCond .ne 6, 3) := by decide +kernel
theorem d_X_bound_13 : decode prog_1_method_16_code 13 = .ok (.bipush (-2), 2) := by decide +kernel
theorem d_X_bound_15 : decode prog_1_method_16_code 15 = .ok (.ireturn, 1) := by decide +kernel
theorem d_X_bound_16 : decode prog_1_method_16_code 16 = .ok (.iconst 0, 1) := by decide +kernel
theorem d_X_bound_17 : decode prog_1_method_16_code 17 = .ok (.istore_n 1, 1) := by decide +kernel
theorem d_X_bound_18 : decode prog_1_method_16_code 18 = .ok (.iconst 0, 1) := by decide +kernel
theorem d_X_bound_19 : decode prog_1_method_16_code 19 = .ok (.istore_n 2, 1) := by decide +kernel
theorem d_X_bound_20 : decode prog_1_method_16_code 20 = .ok (.iload_n 2, 1) := by decide +kernel
theorem d_X_bound_21 : decode prog_1_method_16_code 21 = .ok (.bipush 12, 2) := by decide +kernel
theorem d_X_bound_23 : decode prog_1_method_16_code 23 = .ok (.if_icmp .ge 59, 3) := by decide +kernel
theorem d_X_bound_26 : decode prog_1_method_16_code 26 = .ok (.aload_n 0, 1) := by decide +kernel
theorem d_X_bound_27 : decode prog_1_method_16_code 27 = .ok (.getfield 12, 3) := by decide +kernel
theorem d_X_bound_30 : decode prog_1_method_16_code 30 = .ok (.getfield 139, 3) := by decide +kernel
theorem d_X_bound_33 : decode prog_1_method_16_code 33 = .ok (.iload_n 2, 1) := by decide +kernel
theorem d_X_bound_34 : decode prog_1_method_16_code 34 = .ok (.invokevirtual 197, 3) := by decide +kernel
theorem d_X_bound_37 : decode prog_1_method_16_code 37 = .ok (.istore_n 3, 1) := by decide +kernel
theorem d_X_bound_38 : decode prog_1_method_16_code 38 = .ok (.iload_n 3, 1) := by decide +kernel
theorem d_X_bound_39 : decode prog_1_method_16_code 39 = .ok (.ifCond .le 37, 3) := by decide +kernel
theorem d_X_bound_42 : decode prog_1_method_16_code 42 = .ok (.aload_n 0, 1) := by decide +kernel
theorem d_X_bound_43 : decode prog_1_method_16_code 43 = .ok (.getfield 12, 3) := by decide +kernel
theorem d_X_bound_46 : decode prog_1_method_16_code 46 = .ok (.getfield 82, 3) := by decide +kernel
theorem d_X_bound_49 : decode prog_1_method_16_code 49 = .ok (.iload_n 2, 1) := by decide +kernel
theorem d_X_bound_50 : decode prog_1_method_16_code 50 = .ok (.invokevirtual 200, 3) := by decide +kernel
theorem d_X_bound_53 : decode prog_1_method_16_code 53 = .ok (.istore 4, 2) := by decide +kernel
theorem d_X_bound_55 : decode prog_1_method_16_code 55 = .ok (.iload_n 1, 1) := by decide +kernel
theorem d_X_bound_56 : decode prog_1_method_16_code 56 = .ok (.iload 4, 2) := by decide +kernel
theorem d_X_bound_58 : decode prog_1_method_16_code 58 = .ok (.ifCond .ne 8, 3) := by decide +kernel
theorem d_X_bound_61 : decode prog_1_method_16_code 61 = .ok (.bipush 99, 2) := by decide +kernel
theorem d_X_bound_63 : decode prog_1_method_16_code 63 = .ok (.goto 9, 3) := by decide +kernel
theorem d_X_bound_66 : decode prog_1_method_16_code 66 = .ok (.iload_n 3, 1) := by decide +kernel
theorem d_X_bound_67 : decode prog_1_method_16_code 67 = .ok (.iload 4, 2) := by decide +kernel
theorem d_X_bound_69 : decode prog_1_method_16_code 69 = .ok (.invokestatic 203, 3) := by decide +kernel
theorem d_X_bound_72 : decode prog_1_method_16_code 72 = .ok (.invokestatic 207, 3) := by decide +kernel
theorem d_X_bound_75 : decode prog_1_method_16_code 75 = .ok (.istore_n 1, 1) := by decide +kernel
theorem d_X_bound_76 : decode prog_1_method_16_code 76 = .ok (.iinc 2 1, 3) := by decide +kernel
theorem d_X_bound_79 : decode prog_1_method_16_code 79 = .ok (.goto (-59), 3) := by decide +kernel
theorem d_X_bound_82 : decode prog_1_method_16_code 82 = .ok (.iload_n 1, 1) := by decide +kernel
theorem d_X_bound_83 : decode prog_1_method_16_code 83 = .ok (.ireturn, 1) := by decide +kernel
theorem d_Orders_pullOf_0 : decode prog_5_method_3_code 0 = .ok (.iconst 0, 1) := by decide +kernel
theorem d_Orders_pullOf_1 : decode prog_5_method_3_code 1 = .ok (.istore_n 3, 1) := by decide +kernel
theorem d_Orders_pullOf_2 : decode prog_5_method_3_code 2 = .ok (.iload_n 3, 1) := by decide +kernel
theorem d_Orders_pullOf_3 : decode prog_5_method_3_code 3 = .ok (.aload_n 0, 1) := by decide +kernel
theorem d_Orders_pullOf_4 : decode prog_5_method_3_code 4 = .ok (.getfield 21, 3) := by decide +kernel
theorem d_Orders_pullOf_7 : decode prog_5_method_3_code 7 = .ok (.iconst 1, 1) := by decide +kernel
theorem d_Orders_pullOf_8 : decode prog_5_method_3_code 8 = .ok (.isub, 1) := by decide +kernel
theorem d_Orders_pullOf_9 : decode prog_5_method_3_code 9 = .ok (.if_icmp .ge 21, 3) := by decide +kernel
theorem d_Orders_pullOf_12 : decode prog_5_method_3_code 12 = .ok (.aload_n 1, 1) := by decide +kernel
theorem d_Orders_pullOf_13 : decode prog_5_method_3_code 13 = .ok (.iload_n 3, 1) := by decide +kernel
theorem d_Orders_pullOf_14 : decode prog_5_method_3_code 14 = .ok (.iaload, 1) := by decide +kernel
theorem d_Orders_pullOf_15 : decode prog_5_method_3_code 15 = .ok (.iload_n 2, 1) := by decide +kernel
theorem d_Orders_pullOf_16 : decode prog_5_method_3_code 16 = .ok (.invokestatic 59, 3) := by decide +kernel
theorem d_Orders_pullOf_19 : decode prog_5_method_3_code 19 = .ok (.ifCond .eq 5, 3) := by decide +kernel
theorem d_Orders_pullOf_22 : decode prog_5_method_3_code 22 = .ok (.iload_n 3, 1) := by decide +kernel
theorem d_Orders_pullOf_23 : decode prog_5_method_3_code 23 = .ok (.ireturn, 1) := by decide +kernel
theorem d_Orders_pullOf_24 : decode prog_5_method_3_code 24 = .ok (.iinc 3 1, 3) := by decide +kernel
theorem d_Orders_pullOf_27 : decode prog_5_method_3_code 27 = .ok (.goto (-25), 3) := by decide +kernel
theorem d_Orders_pullOf_30 : decode prog_5_method_3_code 30 = .ok (.aload_n 0, 1) := by decide +kernel
theorem d_Orders_pullOf_31 : decode prog_5_method_3_code 31 = .ok (.getfield 21, 3) := by decide +kernel
theorem d_Orders_pullOf_34 : decode prog_5_method_3_code 34 = .ok (.iconst 1, 1) := by decide +kernel
theorem d_Orders_pullOf_35 : decode prog_5_method_3_code 35 = .ok (.isub, 1) := by decide +kernel
theorem d_Orders_pullOf_36 : decode prog_5_method_3_code 36 = .ok (.ireturn, 1) := by decide +kernel
theorem d_Orders_slot_0 : decode prog_5_method_5_code 0 = .ok (.iload_n 0, 1) := by decide +kernel
theorem d_Orders_slot_1 : decode prog_5_method_5_code 1 = .ok (.bipush 6, 2) := by decide +kernel
theorem d_Orders_slot_3 : decode prog_5_method_5_code 3 = .ok (.imul, 1) := by decide +kernel
theorem d_Orders_slot_4 : decode prog_5_method_5_code 4 = .ok (.iload_n 1, 1) := by decide +kernel
theorem d_Orders_slot_5 : decode prog_5_method_5_code 5 = .ok (.iadd, 1) := by decide +kernel
theorem d_Orders_slot_6 : decode prog_5_method_5_code 6 = .ok (.bipush 6, 2) := by decide +kernel
theorem d_Orders_slot_8 : decode prog_5_method_5_code 8 = .ok (.imul, 1) := by decide +kernel
theorem d_Orders_slot_9 : decode prog_5_method_5_code 9 = .ok (.iload_n 2, 1) := by decide +kernel
theorem d_Orders_slot_10 : decode prog_5_method_5_code 10 = .ok (.iadd, 1) := by decide +kernel
theorem d_Orders_slot_11 : decode prog_5_method_5_code 11 = .ok (.ireturn, 1) := by decide +kernel
theorem d_Orders_weighPair_0 : decode prog_5_method_4_code 0 = .ok (.aload_n 1, 1) := by decide +kernel
theorem d_Orders_weighPair_1 : decode prog_5_method_4_code 1 = .ok (.getfield 40, 3) := by decide +kernel
theorem d_Orders_weighPair_4 : decode prog_5_method_4_code 4 = .ok (.iload_n 2, 1) := by decide +kernel
theorem d_Orders_weighPair_5 : decode prog_5_method_4_code 5 = .ok (.aload_n 1, 1) := by decide +kernel
theorem d_Orders_weighPair_6 : decode prog_5_method_4_code 6 = .ok (.getfield 63, 3) := by decide +kernel
theorem d_Orders_weighPair_9 : decode prog_5_method_4_code 9 = .ok (.invokevirtual 66, 3) := by decide +kernel
theorem d_Orders_weighPair_12 : decode prog_5_method_4_code 12 = .ok (.istore 6, 2) := by decide +kernel
theorem d_Orders_weighPair_14 : decode prog_5_method_4_code 14 = .ok (.iload 6, 2) := by decide +kernel
theorem d_Orders_weighPair_16 : decode prog_5_method_4_code 16 = .ok (.aload_n 1, 1) := by decide +kernel
theorem d_Orders_weighPair_17 : decode prog_5_method_4_code 17 = .ok (.getfield 63, 3) := by decide +kernel
theorem d_Orders_weighPair_20 : decode prog_5_method_4_code 20 = .ok (.aload_n 1, 1) := by decide +kernel
theorem d_Orders_weighPair_21 : decode prog_5_method_4_code 21 = .ok (.getfield 40, 3) := by decide +kernel
theorem d_Orders_weighPair_24 : decode prog_5_method_4_code 24 = .ok (.getfield 70, 3) := by decide +kernel
theorem d_Orders_weighPair_27 : decode prog_5_method_4_code 27 = .ok (.iload_n 2, 1) := by decide +kernel
theorem d_Orders_weighPair_28 : decode prog_5_method_4_code 28 = .ok (.iaload, 1) := by decide +kernel
theorem d_Orders_weighPair_29 : decode prog_5_method_4_code 29 = .ok (.iaload, 1) := by decide +kernel
theorem d_Orders_weighPair_30 : decode prog_5_method_4_code 30 = .ok (.iadd, 1) := by decide +kernel
theorem d_Orders_weighPair_31 : decode prog_5_method_4_code 31 = .ok (.istore 7, 2) := by decide +kernel
theorem d_Orders_weighPair_33 : decode prog_5_method_4_code 33 = .ok (.aload_n 1, 1) := by decide +kernel
theorem d_Orders_weighPair_34 : decode prog_5_method_4_code 34 = .ok (.getfield 40, 3) := by decide +kernel
theorem d_Orders_weighPair_37 : decode prog_5_method_4_code 37 = .ok (.iload_n 3, 1) := by decide +kernel
theorem d_Orders_weighPair_38 : decode prog_5_method_4_code 38 = .ok (.aload_n 1, 1) := by decide +kernel
theorem d_Orders_weighPair_39 : decode prog_5_method_4_code 39 = .ok (.getfield 63, 3) := by decide +kernel
theorem d_Orders_weighPair_42 : decode prog_5_method_4_code 42 = .ok (.invokevirtual 66, 3) := by decide +kernel
theorem d_Orders_weighPair_45 : decode prog_5_method_4_code 45 = .ok (.istore 8, 2) := by decide +kernel
theorem d_Orders_weighPair_47 : decode prog_5_method_4_code 47 = .ok (.iload 8, 2) := by decide +kernel
theorem d_Orders_weighPair_49 : decode prog_5_method_4_code 49 = .ok (.aload_n 1, 1) := by decide +kernel
theorem d_Orders_weighPair_50 : decode prog_5_method_4_code 50 = .ok (.getfield 63, 3) := by decide +kernel
theorem d_Orders_weighPair_53 : decode prog_5_method_4_code 53 = .ok (.aload_n 1, 1) := by decide +kernel
theorem d_Orders_weighPair_54 : decode prog_5_method_4_code 54 = .ok (.getfield 40, 3) := by decide +kernel
theorem d_Orders_weighPair_57 : decode prog_5_method_4_code 57 = .ok (.getfield 70, 3) := by decide +kernel
theorem d_Orders_weighPair_60 : decode prog_5_method_4_code 60 = .ok (.iload_n 3, 1) := by decide +kernel
theorem d_Orders_weighPair_61 : decode prog_5_method_4_code 61 = .ok (.iaload, 1) := by decide +kernel
theorem d_Orders_weighPair_62 : decode prog_5_method_4_code 62 = .ok (.iaload, 1) := by decide +kernel
theorem d_Orders_weighPair_63 : decode prog_5_method_4_code 63 = .ok (.iadd, 1) := by decide +kernel
theorem d_Orders_weighPair_64 : decode prog_5_method_4_code 64 = .ok (.istore 9, 2) := by decide +kernel
theorem d_Orders_weighPair_66 : decode prog_5_method_4_code 66 = .ok (.iconst 1, 1) := by decide +kernel
theorem d_Orders_weighPair_67 : decode prog_5_method_4_code 67 = .ok (.istore 10, 2) := by decide +kernel
theorem d_Orders_weighPair_69 : decode prog_5_method_4_code 69 = .ok (.iload 10, 2) := by decide +kernel
theorem d_Orders_weighPair_71 : decode prog_5_method_4_code 71 = .ok (.aload_n 0, 1) := by decide +kernel
theorem d_Orders_weighPair_72 : decode prog_5_method_4_code 72 = .ok (.getfield 21, 3) := by decide +kernel
theorem d_Orders_weighPair_75 : decode prog_5_method_4_code 75 = .ok (.if_icmp .ge 58, 3) := by decide +kernel
theorem d_Orders_weighPair_78 : decode prog_5_method_4_code 78 = .ok (.iload 10, 2) := by decide +kernel
theorem d_Orders_weighPair_80 : decode prog_5_method_4_code 80 = .ok (.aload_n 1, 1) := by decide +kernel
theorem d_Orders_weighPair_81 : decode prog_5_method_4_code 81 = .ok (.getfield 73, 3) := by decide +kernel
theorem d_Orders_weighPair_84 : decode prog_5_method_4_code 84 = .ok (.iconst 1, 1) := by decide +kernel
theorem d_Orders_weighPair_85 : decode prog_5_method_4_code 85 = .ok (.iaload, 1) := by decide +kernel
theorem d_Orders_weighPair_86 : decode prog_5_method_4_code 86 = .ok (.imul, 1) := by decide +kernel
theorem d_Orders_weighPair_87 : decode prog_5_method_4_code 87 = .ok (.istore 11, 2) := by decide +kernel
theorem d_Orders_weighPair_89 : decode prog_5_method_4_code 89 = .ok (.iload 6, 2) := by decide +kernel
theorem d_Orders_weighPair_91 : decode prog_5_method_4_code 91 = .ok (.iload 11, 2) := by decide +kernel
theorem d_Orders_weighPair_93 : decode prog_5_method_4_code 93 = .ok (.iadd, 1) := by decide +kernel
theorem d_Orders_weighPair_94 : decode prog_5_method_4_code 94 = .ok (.iload 9, 2) := by decide +kernel
theorem d_Orders_weighPair_96 : decode prog_5_method_4_code 96 = .ok (.if_icmp .ge 31, 3) := by decide +kernel
theorem d_Orders_weighPair_99 : decode prog_5_method_4_code 99 = .ok (.iload 8, 2) := by decide +kernel
theorem d_Orders_weighPair_101 : decode prog_5_method_4_code 101 = .ok (.iload 7, 2) := by decide +kernel
theorem d_Orders_weighPair_103 : decode prog_5_method_4_code 103 = .ok (.iload 11, 2) := by decide +kernel
theorem d_Orders_weighPair_105 : decode prog_5_method_4_code 105 = .ok (.iadd, 1) := by decide +kernel
theorem d_Orders_weighPair_106 : decode prog_5_method_4_code 106 = .ok (.if_icmp .ge 21, 3) := by decide +kernel
theorem d_Orders_weighPair_109 : decode prog_5_method_4_code 109 = .ok (.aload_n 0, 1) := by decide +kernel
theorem d_Orders_weighPair_110 : decode prog_5_method_4_code 110 = .ok (.getfield 9, 3) := by decide +kernel
theorem d_Orders_weighPair_113 : decode prog_5_method_4_code 113 = .ok (.iload 5, 2) := by decide +kernel
theorem d_Orders_weighPair_115 : decode prog_5_method_4_code 115 = .ok (.iload 4, 2) := by decide +kernel
theorem d_Orders_weighPair_117 : decode prog_5_method_4_code 117 = .ok (.iload 10, 2) := by decide +kernel
theorem d_Orders_weighPair_119 : decode prog_5_method_4_code 119 = .ok (.invokestatic 76, 3) := by decide +kernel
theorem d_Orders_weighPair_122 : decode prog_5_method_4_code 122 = .ok (.dup2, 1) := by decide +kernel
theorem d_Orders_weighPair_123 : decode prog_5_method_4_code 123 = .ok (.iaload, 1) := by decide +kernel
theorem d_Orders_weighPair_124 : decode prog_5_method_4_code 124 = .ok (.iconst 1, 1) := by decide +kernel
theorem d_Orders_weighPair_125 : decode prog_5_method_4_code 125 = .ok (.iadd, 1) := by decide +kernel
theorem d_Orders_weighPair_126 : decode prog_5_method_4_code 126 = .ok (.iastore, 1) := by decide +kernel
theorem d_Orders_weighPair_127 : decode prog_5_method_4_code 127 = .ok (.iinc 10 1, 3) := by decide +kernel
theorem d_Orders_weighPair_130 : decode prog_5_method_4_code 130 = .ok (.goto (-61), 3) := by decide +kernel
theorem d_Orders_weighPair_133 : decode prog_5_method_4_code 133 = .ok (.return_, 1) := by decide +kernel
theorem d_Orders_weigh_0 : decode prog_5_method_2_code 0 = .ok (.aload_n 0, 1) := by decide +kernel
theorem d_Orders_weigh_1 : decode prog_5_method_2_code 1 = .ok (.iload_n 3, 1) := by decide +kernel
theorem d_Orders_weigh_2 : decode prog_5_method_2_code 2 = .ok (.bipush 6, 2) := by decide +kernel
theorem d_Orders_weigh_4 : decode prog_5_method_2_code 4 = .ok (.invokestatic 28, 3) := by decide +kernel
theorem d_Orders_weigh_7 : decode prog_5_method_2_code 7 = .ok (.putfield 21, 3) := by decide +kernel
theorem d_Orders_weigh_10 : decode prog_5_method_2_code 10 = .ok (.aload_n 0, 1) := by decide +kernel
theorem d_Orders_weigh_11 : decode prog_5_method_2_code 11 = .ok (.getfield 9, 3) := by decide +kernel
theorem d_Orders_weigh_14 : decode prog_5_method_2_code 14 = .ok (.iconst 0, 1) := by decide +kernel
theorem d_Orders_weigh_15 : decode prog_5_method_2_code 15 = .ok (.invokestatic 34, 3) := by decide +kernel
theorem d_Orders_weigh_18 : decode prog_5_method_2_code 18 = .ok (.iconst 0, 1) := by decide +kernel
theorem d_Orders_weigh_19 : decode prog_5_method_2_code 19 = .ok (.istore 4, 2) := by decide +kernel
theorem d_Orders_weigh_21 : decode prog_5_method_2_code 21 = .ok (.iload 4, 2) := by decide +kernel
theorem d_Orders_weigh_23 : decode prog_5_method_2_code 23 = .ok (.aload_n 1, 1) := by decide +kernel
theorem d_Orders_weigh_24 : decode prog_5_method_2_code 24 = .ok (.getfield 40, 3) := by decide +kernel
theorem d_Orders_weigh_27 : decode prog_5_method_2_code 27 = .ok (.getfield 46, 3) := by decide +kernel
theorem d_Orders_weigh_30 : decode prog_5_method_2_code 30 = .ok (.if_icmp .ge 71, 3) := by decide +kernel
theorem d_Orders_weigh_33 : decode prog_5_method_2_code 33 = .ok (.iload 4, 2) := by decide +kernel
theorem d_Orders_weigh_35 : decode prog_5_method_2_code 35 = .ok (.iconst 1, 1) := by decide +kernel
theorem d_Orders_weigh_36 : decode prog_5_method_2_code 36 = .ok (.iadd, 1) := by decide +kernel
theorem d_Orders_weigh_37 : decode prog_5_method_2_code 37 = .ok (.istore 5, 2) := by decide +kernel
theorem d_Orders_weigh_39 : decode prog_5_method_2_code 39 = .ok (.iload 5, 2) := by decide +kernel
theorem d_Orders_weigh_41 : decode prog_5_method_2_code 41 = .ok (.aload_n 1, 1) := by decide +kernel
theorem d_Orders_weigh_42 : decode prog_5_method_2_code 42 = .ok (.getfield 40, 3) := by decide +kernel
theorem d_Orders_weigh_45 : decode prog_5_method_2_code 45 = .ok (.getfield 46, 3) := by decide +kernel
theorem d_Orders_weigh_48 : decode prog_5_method_2_code 48 = .ok (.if_icmp .ge 47, 3) := by decide +kernel
theorem d_Orders_weigh_51 : decode prog_5_method_2_code 51 = .ok (.aload_n 0, 1) := by decide +kernel
theorem d_Orders_weigh_52 : decode prog_5_method_2_code 52 = .ok (.aload_n 2, 1) := by decide +kernel
theorem d_Orders_weigh_53 : decode prog_5_method_2_code 53 = .ok (.iload 4, 2) := by decide +kernel
theorem d_Orders_weigh_55 : decode prog_5_method_2_code 55 = .ok (.invokevirtual 51, 3) := by decide +kernel
theorem d_Orders_weigh_58 : decode prog_5_method_2_code 58 = .ok (.istore 6, 2) := by decide +kernel
theorem d_Orders_weigh_60 : decode prog_5_method_2_code 60 = .ok (.aload_n 0, 1) := by decide +kernel
theorem d_Orders_weigh_61 : decode prog_5_method_2_code 61 = .ok (.aload_n 2, 1) := by decide +kernel
theorem d_Orders_weigh_62 : decode prog_5_method_2_code 62 = .ok (.iload 5, 2) := by decide +kernel
theorem d_Orders_weigh_64 : decode prog_5_method_2_code 64 = .ok (.invokevirtual 51, 3) := by decide +kernel
theorem d_Orders_weigh_67 : decode prog_5_method_2_code 67 = .ok (.istore 7, 2) := by decide +kernel
theorem d_Orders_weigh_69 : decode prog_5_method_2_code 69 = .ok (.iload 6, 2) := by decide +kernel
theorem d_Orders_weigh_71 : decode prog_5_method_2_code 71 = .ok (.iload 7, 2) := by decide +kernel
theorem d_Orders_weigh_73 : decode prog_5_method_2_code 73 = .ok (.if_icmp .eq 16, 3) := by decide +kernel
theorem d_Orders_weigh_76 : decode prog_5_method_2_code 76 = .ok (.aload_n 0, 1) := by decide +kernel
theorem d_Orders_weigh_77 : decode prog_5_method_2_code 77 = .ok (.aload_n 1, 1) := by decide +kernel
theorem d_Orders_weigh_78 : decode prog_5_method_2_code 78 = .ok (.iload 4, 2) := by decide +kernel
theorem d_Orders_weigh_80 : decode prog_5_method_2_code 80 = .ok (.iload 5, 2) := by decide +kernel
theorem d_Orders_weigh_82 : decode prog_5_method_2_code 82 = .ok (.iload 6, 2) := by decide +kernel
theorem d_Orders_weigh_84 : decode prog_5_method_2_code 84 = .ok (.iload 7, 2) := by decide +kernel
theorem d_Orders_weigh_86 : decode prog_5_method_2_code 86 = .ok (.invokevirtual 55, 3) := by decide +kernel
theorem d_Orders_weigh_89 : decode prog_5_method_2_code 89 = .ok (.iinc 5 1, 3) := by decide +kernel
theorem d_Orders_weigh_92 : decode prog_5_method_2_code 92 = .ok (.goto (-53), 3) := by decide +kernel
theorem d_Orders_weigh_95 : decode prog_5_method_2_code 95 = .ok (.iinc 4 1, 3) := by decide +kernel
theorem d_Orders_weigh_98 : decode prog_5_method_2_code 98 = .ok (.goto (-77), 3) := by decide +kernel
theorem d_Orders_weigh_101 : decode prog_5_method_2_code 101 = .ok (.return_, 1) := by decide +kernel
theorem d_Orders_clashesWithEarlier_0 : decode prog_5_method_9_code 0 = .ok (.iconst 0, 1) := by decide +kernel
theorem d_Orders_clashesWithEarlier_1 : decode prog_5_method_9_code 1 = .ok (.istore_n 2, 1) := by decide +kernel
theorem d_Orders_clashesWithEarlier_2 : decode prog_5_method_9_code 2 = .ok (.iconst 0, 1) := by decide +kernel
theorem d_Orders_clashesWithEarlier_3 : decode prog_5_method_9_code 3 = .ok (.istore_n 3, 1) := by decide +kernel
theorem d_Orders_clashesWithEarlier_4 : decode prog_5_method_9_code 4 = .ok (.iload_n 3, 1) := by decide +kernel
theorem d_Orders_clashesWithEarlier_5 : decode prog_5_method_9_code 5 = .ok (.iload_n 1, 1) := by decide +kernel
theorem d_Orders_clashesWithEarlier_6 : decode prog_5_method_9_code 6 = .ok (.if_icmp .ge 35, 3) := by decide +kernel
theorem d_Orders_clashesWithEarlier_9 : decode prog_5_method_9_code 9 = .ok (.iload_n 2, 1) := by decide +kernel
theorem d_Orders_clashesWithEarlier_10 : decode prog_5_method_9_code 10 = .ok (.aload_n 0, 1) := by decide +kernel
theorem d_Orders_clashesWithEarlier_11 : decode prog_5_method_9_code 11 = .ok (.getfield 9, 3) := by decide +kernel
theorem d_Orders_clashesWithEarlier_14 : decode prog_5_method_9_code 14 = .ok (.aload_n 0, 1) := by decide +kernel
theorem d_Orders_clashesWithEarlier_15 : decode prog_5_method_9_code 15 = .ok (.getfield 15, 3) := by decide +kernel
theorem d_Orders_clashesWithEarlier_18 : decode prog_5_method_9_code 18 = .ok (.iload_n 3, 1) := by decide +kernel
theorem d_Orders_clashesWithEarlier_19 : decode prog_5_method_9_code 19 = .ok (.iaload, 1) := by decide +kernel
theorem d_Orders_clashesWithEarlier_20 : decode prog_5_method_9_code 20 = .ok (.aload_n 0, 1) := by decide +kernel
theorem d_Orders_clashesWithEarlier_21 : decode prog_5_method_9_code 21 = .ok (.getfield 15, 3) := by decide +kernel
theorem d_Orders_clashesWithEarlier_24 : decode prog_5_method_9_code 24 = .ok (.iload_n 1, 1) := by decide +kernel
theorem d_Orders_clashesWithEarlier_25 : decode prog_5_method_9_code 25 = .ok (.iaload, 1) := by decide +kernel
theorem d_Orders_clashesWithEarlier_26 : decode prog_5_method_9_code 26 = .ok (.iload_n 1, 1) := by decide +kernel
theorem d_Orders_clashesWithEarlier_27 : decode prog_5_method_9_code 27 = .ok (.iload_n 3, 1) := by decide +kernel
theorem d_Orders_clashesWithEarlier_28 : decode prog_5_method_9_code 28 = .ok (.isub, 1) := by decide +kernel
theorem d_Orders_clashesWithEarlier_29 : decode prog_5_method_9_code 29 = .ok (.invokestatic 76, 3) := by decide +kernel
theorem d_Orders_clashesWithEarlier_32 : decode prog_5_method_9_code 32 = .ok (.iaload, 1) := by decide +kernel
theorem d_Orders_clashesWithEarlier_33 : decode prog_5_method_9_code 33 = .ok (.iadd, 1) := by decide +kernel
theorem d_Orders_clashesWithEarlier_34 : decode prog_5_method_9_code 34 = .ok (.istore_n 2, 1) := by decide +kernel
theorem d_Orders_clashesWithEarlier_35 : decode prog_5_method_9_code 35 = .ok (.iinc 3 1, 3) := by decide +kernel
theorem d_Orders_clashesWithEarlier_38 : decode prog_5_method_9_code 38 = .ok (.goto (-34), 3) := by decide +kernel
theorem d_Orders_clashesWithEarlier_41 : decode prog_5_method_9_code 41 = .ok (.iload_n 2, 1) := by decide +kernel
theorem d_Orders_clashesWithEarlier_42 : decode prog_5_method_9_code 42 = .ok (.ireturn, 1) := by decide +kernel
theorem d_Orders_clashesAsPlanned_0 : decode prog_5_method_6_code 0 = .ok (.iconst 0, 1) := by decide +kernel
theorem d_Orders_clashesAsPlanned_1 : decode prog_5_method_6_code 1 = .ok (.istore_n 1, 1) := by decide +kernel
theorem d_Orders_clashesAsPlanned_2 : decode prog_5_method_6_code 2 = .ok (.iconst 0, 1) := by decide +kernel
theorem d_Orders_clashesAsPlanned_3 : decode prog_5_method_6_code 3 = .ok (.istore_n 2, 1) := by decide +kernel
theorem d_Orders_clashesAsPlanned_4 : decode prog_5_method_6_code 4 = .ok (.iload_n 2, 1) := by decide +kernel
theorem d_Orders_clashesAsPlanned_5 : decode prog_5_method_6_code 5 = .ok (.aload_n 0, 1) := by decide +kernel
theorem d_Orders_clashesAsPlanned_6 : decode prog_5_method_6_code 6 = .ok (.getfield 21, 3) := by decide +kernel
theorem d_Orders_clashesAsPlanned_9 : decode prog_5_method_6_code 9 = .ok (.if_icmp .ge 24, 3) := by decide +kernel
theorem d_Orders_clashesAsPlanned_12 : decode prog_5_method_6_code 12 = .ok (.aload_n 0, 1) := by decide +kernel
theorem d_Orders_clashesAsPlanned_13 : decode prog_5_method_6_code 13 = .ok (.getfield 15, 3) := by decide +kernel
theorem d_Orders_clashesAsPlanned_16 : decode prog_5_method_6_code 16 = .ok (.iload_n 2, 1) := by decide +kernel
theorem d_Orders_clashesAsPlanned_17 : decode prog_5_method_6_code 17 = .ok (.iload_n 2, 1) := by decide +kernel
theorem d_Orders_clashesAsPlanned_18 : decode prog_5_method_6_code 18 = .ok (.iastore, 1) := by decide +kernel
theorem d_Orders_clashesAsPlanned_19 : decode prog_5_method_6_code 19 = .ok (.iload_n 1, 1) := by decide +kernel
theorem d_Orders_clashesAsPlanned_20 : decode prog_5_method_6_code 20 = .ok (.aload_n 0, 1) := by decide +kernel
theorem d_Orders_clashesAsPlanned_21 : decode prog_5_method_6_code 21 = .ok (.iload_n 2, 1) := by decide +kernel
theorem d_Orders_clashesAsPlanned_22 : decode prog_5_method_6_code 22 = .ok (.invokevirtual 80, 3) := by decide +kernel
theorem d_Orders_clashesAsPlanned_25 : decode prog_5_method_6_code 25 = .ok (.iadd, 1) := by decide +kernel
theorem d_Orders_clashesAsPlanned_26 : decode prog_5_method_6_code 26 = .ok (.istore_n 1, 1) := by decide +kernel
theorem d_Orders_clashesAsPlanned_27 : decode prog_5_method_6_code 27 = .ok (.iinc 2 1, 3) := by decide +kernel
theorem d_Orders_clashesAsPlanned_30 : decode prog_5_method_6_code 30 = .ok (.goto (-26), 3) := by decide +kernel
theorem d_Orders_clashesAsPlanned_33 : decode prog_5_method_6_code 33 = .ok (.iload_n 1, 1) := by decide +kernel
theorem d_Orders_clashesAsPlanned_34 : decode prog_5_method_6_code 34 = .ok (.ireturn, 1) := by decide +kernel
theorem d_Orders_tryFrom_0 : decode prog_5_method_8_code 0 = .ok (.iload_n 3, 1) := by decide +kernel
theorem d_Orders_tryFrom_1 : decode prog_5_method_8_code 1 = .ok (.aload_n 0, 1) := by decide +kernel
theorem d_Orders_tryFrom_2 : decode prog_5_method_8_code 2 = .ok (.getfield 25, 3) := by decide +kernel
theorem d_Orders_tryFrom_5 : decode prog_5_method_8_code 5 = .ok (.if_icmp .lt 4, 3) := by decide +kernel
theorem d_Orders_tryFrom_8 : decode prog_5_method_8_code 8 = .ok (.return_, 1) := by decide +kernel
theorem d_Orders_tryFrom_9 : decode prog_5_method_8_code 9 = .ok (.iload_n 1, 1) := by decide +kernel
theorem d_Orders_tryFrom_10 : decode prog_5_method_8_code 10 = .ok (.aload_n 0, 1) := by decide +kernel
theorem d_Orders_tryFrom_11 : decode prog_5_method_8_code 11 = .ok (.getfield 21, 3) := by decide +kernel
theorem d_Orders_tryFrom_14 : decode prog_5_method_8_code 14 = .ok (.if_icmp .lt 26, 3) := by decide +kernel
theorem d_Orders_tryFrom_17 : decode prog_5_method_8_code 17 = .ok (.aload_n 0, 1) := by decide +kernel
theorem d_Orders_tryFrom_18 : decode prog_5_method_8_code 18 = .ok (.iload_n 3, 1) := by decide +kernel
theorem d_Orders_tryFrom_19 : decode prog_5_method_8_code 19 = .ok (.putfield 25, 3) := by decide +kernel
theorem d_Orders_tryFrom_22 : decode prog_5_method_8_code 22 = .ok (.aload_n 0, 1) := by decide +kernel
theorem d_Orders_tryFrom_23 : decode prog_5_method_8_code 23 = .ok (.getfield 15, 3) := by decide +kernel
theorem d_Orders_tryFrom_26 : decode prog_5_method_8_code 26 = .ok (.iconst 0, 1) := by decide +kernel
theorem d_Orders_tryFrom_27 : decode prog_5_method_8_code 27 = .ok (.aload_n 0, 1) := by decide +kernel
theorem d_Orders_tryFrom_28 : decode prog_5_method_8_code 28 = .ok (.getfield 18, 3) := by decide +kernel
theorem d_Orders_tryFrom_31 : decode prog_5_method_8_code 31 = .ok (.iconst 0, 1) := by decide +kernel
theorem d_Orders_tryFrom_32 : decode prog_5_method_8_code 32 = .ok (.aload_n 0, 1) := by decide +kernel
theorem d_Orders_tryFrom_33 : decode prog_5_method_8_code 33 = .ok (.getfield 21, 3) := by decide +kernel
theorem d_Orders_tryFrom_36 : decode prog_5_method_8_code 36 = .ok (.invokestatic 88, 3) := by decide +kernel
theorem d_Orders_tryFrom_39 : decode prog_5_method_8_code 39 = .ok (.return_, 1) := by decide +kernel
theorem d_Orders_tryFrom_40 : decode prog_5_method_8_code 40 = .ok (.iconst 0, 1) := by decide +kernel
theorem d_Orders_tryFrom_41 : decode prog_5_method_8_code 41 = .ok (.istore 4, 2) := by decide +kernel
theorem d_Orders_tryFrom_43 : decode prog_5_method_8_code 43 = .ok (.iload 4, 2) := by decide +kernel
theorem d_Orders_tryFrom_45 : decode prog_5_method_8_code 45 = .ok (.aload_n 0, 1) := by decide +kernel
theorem d_Orders_tryFrom_46 : decode prog_5_method_8_code 46 = .ok (.getfield 21, 3) := by decide +kernel
theorem d_Orders_tryFrom_49 : decode prog_5_method_8_code 49 = .ok (.if_icmp .ge 46, 3) := by decide +kernel
theorem d_Orders_tryFrom_52 : decode prog_5_method_8_code 52 = .ok (.iload_n 2, 1) := by decide +kernel
theorem d_Orders_tryFrom_53 : decode prog_5_method_8_code 53 = .ok (.iload 4, 2) := by decide +kernel
theorem d_Orders_tryFrom_55 : decode prog_5_method_8_code 55 = .ok (.invokestatic 59, 3) := by decide +kernel
theorem d_Orders_tryFrom_58 : decode prog_5_method_8_code 58 = .ok (.ifCond .ne 31, 3) := by decide +kernel
theorem d_Orders_tryFrom_61 : decode prog_5_method_8_code 61 = .ok (.aload_n 0, 1) := by decide +kernel
theorem d_Orders_tryFrom_62 : decode prog_5_method_8_code 62 = .ok (.getfield 15, 3) := by decide +kernel
theorem d_Orders_tryFrom_65 : decode prog_5_method_8_code 65 = .ok (.iload_n 1, 1) := by decide +kernel
theorem d_Orders_tryFrom_66 : decode prog_5_method_8_code 66 = .ok (.iload 4, 2) := by decide +kernel
theorem d_Orders_tryFrom_68 : decode prog_5_method_8_code 68 = .ok (.iastore, 1) := by decide +kernel
theorem d_Orders_tryFrom_69 : decode prog_5_method_8_code 69 = .ok (.aload_n 0, 1) := by decide +kernel
theorem d_Orders_tryFrom_70 : decode prog_5_method_8_code 70 = .ok (.iload_n 1, 1) := by decide +kernel
theorem d_Orders_tryFrom_71 : decode prog_5_method_8_code 71 = .ok (.iconst 1, 1) := by decide +kernel
theorem d_Orders_tryFrom_72 : decode prog_5_method_8_code 72 = .ok (.iadd, 1) := by decide +kernel
theorem d_Orders_tryFrom_73 : decode prog_5_method_8_code 73 = .ok (.iload_n 2, 1) := by decide +kernel
theorem d_Orders_tryFrom_74 : decode prog_5_method_8_code 74 = .ok (.iconst 1, 1) := by decide +kernel
theorem d_Orders_tryFrom_75 : decode prog_5_method_8_code 75 = .ok (.iload 4, 2) := by decide +kernel
theorem d_Orders_tryFrom_77 : decode prog_5_method_8_code 77 = .ok (.ishl, 1) := by decide +kernel
theorem d_Orders_tryFrom_78 : decode prog_5_method_8_code 78 = .ok (.ior, 1) := by decide +kernel
theorem d_Orders_tryFrom_79 : decode prog_5_method_8_code 79 = .ok (.iload_n 3, 1) := by decide +kernel
theorem d_Orders_tryFrom_80 : decode prog_5_method_8_code 80 = .ok (.aload_n 0, 1) := by decide +kernel
theorem d_Orders_tryFrom_81 : decode prog_5_method_8_code 81 = .ok (.iload_n 1, 1) := by decide +kernel
theorem d_Orders_tryFrom_82 : decode prog_5_method_8_code 82 = .ok (.invokevirtual 80, 3) := by decide +kernel
theorem d_Orders_tryFrom_85 : decode prog_5_method_8_code 85 = .ok (.iadd, 1) := by decide +kernel
theorem d_Orders_tryFrom_86 : decode prog_5_method_8_code 86 = .ok (.invokevirtual 84, 3) := by decide +kernel
theorem d_Orders_tryFrom_89 : decode prog_5_method_8_code 89 = .ok (.iinc 4 1, 3) := by decide +kernel
theorem d_Orders_tryFrom_92 : decode prog_5_method_8_code 92 = .ok (.goto (-49), 3) := by decide +kernel
theorem d_Orders_tryFrom_95 : decode prog_5_method_8_code 95 = .ok (.return_, 1) := by decide +kernel
theorem d_Orders_findBest_0 : decode prog_5_method_7_code 0 = .ok (.aload_n 0, 1) := by decide +kernel
theorem d_Orders_findBest_1 : decode prog_5_method_7_code 1 = .ok (.sipush 1000, 3) := by decide +kernel
theorem d_Orders_findBest_4 : decode prog_5_method_7_code 4 = .ok (.putfield 25, 3) := by decide +kernel
theorem d_Orders_findBest_7 : decode prog_5_method_7_code 7 = .ok (.aload_n 0, 1) := by decide +kernel
theorem d_Orders_findBest_8 : decode prog_5_method_7_code 8 = .ok (.iconst 0, 1) := by decide +kernel
theorem d_Orders_findBest_9 : decode prog_5_method_7_code 9 = .ok (.iconst 0, 1) := by decide +kernel
theorem d_Orders_findBest_10 : decode prog_5_method_7_code 10 = .ok (.iconst 0, 1) := by decide +kernel
theorem d_Orders_findBest_11 : decode prog_5_method_7_code 11 = .ok (.invokevirtual 84, 3) := by decide +kernel
theorem d_Orders_findBest_14 : decode prog_5_method_7_code 14 = .ok (.return_, 1) := by decide +kernel
theorem d_X_order_0 : decode prog_1_method_17_code 0 = .ok (.iload_n 1, 1) := by decide +kernel
theorem d_X_order_1 : decode prog_1_method_17_code 1 = .ok (.bipush (-2), 2) := by decide +kernel
theorem d_X_order_3 : decode prog_1_method_17_code 3 = .ok (.if_icmp .lt 9, 3) := by decide +kernel
theorem d_X_order_6 : decode prog_1_method_17_code 6 = .ok (.iload_n 1, 1) := by decide +kernel
theorem d_X_order_7 : decode prog_1_method_17_code 7 = .ok (.bipush 10, 2) := by decide +kernel
theorem d_X_order_9 : decode prog_1_method_17_code 9 = .ok (.if_icmp .lt 5, 3) := by decide +kernel
theorem d_X_order_12 : decode prog_1_method_17_code 12 = .ok (.iconst (-1), 1) := by decide +kernel
theorem d_X_order_13 : decode prog_1_method_17_code 13 = .ok (.ireturn, 1) := by decide +kernel
theorem d_X_order_14 : decode prog_1_method_17_code 14 = .ok (.aload_n 0, 1) := by decide +kernel
theorem d_X_order_15 : decode prog_1_method_17_code 15 = .ok (.bipush 8, 2) := by decide +kernel
theorem d_X_order_17 : decode prog_1_method_17_code 17 = .ok (.invokevirtual 193, 3) := by decide +kernel
theorem d_X_order_20 : decode prog_1_method_17_code 20 = .ok (.istore_n 2, 1) := by decide +kernel
theorem d_X_order_21 : decode prog_1_method_17_code 21 = .ok (.iload_n 2, 1) := by decide +kernel
theorem d_X_order_22 : decode prog_1_method_17_code 22 = .ok (.ifCond .ge 5, 3) := by decide +kernel
theorem d_X_order_25 : decode prog_1_method_17_code 25 = .ok (.iload_n 2, 1) := by decide +kernel
theorem d_X_order_26 : decode prog_1_method_17_code 26 = .ok (.ireturn, 1) := by decide +kernel
theorem d_X_order_27 : decode prog_1_method_17_code 27 = .ok (.iload_n 2, 1) := by decide +kernel
theorem d_X_order_28 : decode prog_1_method_17_code 28 = .ok (.bipush 6, 2) := by decide +kernel
theorem d_X_order_30 : decode prog_1_method_17_code 30 = .ok (.if_icmp .le 6, 3) := by decide +kernel
theorem d_X_order_33 : decode prog_1_method_17_code 33 = .ok (.bipush (-3), 2) := by decide +kernel
theorem d_X_order_35 : decode prog_1_method_17_code 35 = .ok (.ireturn, 1) := by decide +kernel
theorem d_X_order_36 : decode prog_1_method_17_code 36 = .ok (.iload_n 1, 1) := by decide +kernel
theorem d_X_order_37 : decode prog_1_method_17_code 37 = .ok (.iload_n 2, 1) := by decide +kernel
theorem d_X_order_38 : decode prog_1_method_17_code 38 = .ok (.if_icmp .lt 6, 3) := by decide +kernel
theorem d_X_order_41 : decode prog_1_method_17_code 41 = .ok (.bipush (-4), 2) := by decide +kernel
theorem d_X_order_43 : decode prog_1_method_17_code 43 = .ok (.ireturn, 1) := by decide +kernel
theorem d_X_order_44 : decode prog_1_method_17_code 44 = .ok (.aload_n 0, 1) := by decide +kernel
theorem d_X_order_45 : decode prog_1_method_17_code 45 = .ok (.getfield 40, 3) := by decide +kernel
theorem d_X_order_48 : decode prog_1_method_17_code 48 = .ok (.aload_n 0, 1) := by decide +kernel
theorem d_X_order_49 : decode prog_1_method_17_code 49 = .ok (.getfield 12, 3) := by decide +kernel
theorem d_X_order_52 : decode prog_1_method_17_code 52 = .ok (.aload_n 0, 1) := by decide +kernel
theorem d_X_order_53 : decode prog_1_method_17_code 53 = .ok (.getfield 62, 3) := by decide +kernel
theorem d_X_order_56 : decode prog_1_method_17_code 56 = .ok (.iload_n 2, 1) := by decide +kernel
theorem d_X_order_57 : decode prog_1_method_17_code 57 = .ok (.invokevirtual 212, 3) := by decide +kernel
theorem d_X_order_60 : decode prog_1_method_17_code 60 = .ok (.iload_n 1, 1) := by decide +kernel
theorem d_X_order_61 : decode prog_1_method_17_code 61 = .ok (.iconst (-1), 1) := by decide +kernel
theorem d_X_order_62 : decode prog_1_method_17_code 62 = .ok (.if_icmp .ne 11, 3) := by decide +kernel
theorem d_X_order_65 : decode prog_1_method_17_code 65 = .ok (.aload_n 0, 1) := by decide +kernel
theorem d_X_order_66 : decode prog_1_method_17_code 66 = .ok (.getfield 40, 3) := by decide +kernel
theorem d_X_order_69 : decode prog_1_method_17_code 69 = .ok (.invokevirtual 216, 3) := by decide +kernel
theorem d_X_order_72 : decode prog_1_method_17_code 72 = .ok (.ireturn, 1) := by decide +kernel
theorem d_X_order_73 : decode prog_1_method_17_code 73 = .ok (.aload_n 0, 1) := by decide +kernel
theorem d_X_order_74 : decode prog_1_method_17_code 74 = .ok (.getfield 40, 3) := by decide +kernel
theorem d_X_order_77 : decode prog_1_method_17_code 77 = .ok (.invokevirtual 220, 3) := by decide +kernel
theorem d_X_order_80 : decode prog_1_method_17_code 80 = .ok (.iload_n 1, 1) := by decide +kernel
theorem d_X_order_81 : decode prog_1_method_17_code 81 = .ok (.bipush (-2), 2) := by decide +kernel
theorem d_X_order_83 : decode prog_1_method_17_code 83 = .ok (.if_icmp .ne 13, 3) := by decide +kernel
theorem d_X_order_86 : decode prog_1_method_17_code 86 = .ok (.aload_n 0, 1) := by decide +kernel
theorem d_X_order_87 : decode prog_1_method_17_code 87 = .ok (.getfield 40, 3) := by decide +kernel
theorem d_X_order_90 : decode prog_1_method_17_code 90 = .ok (.getfield 223, 3) := by decide +kernel
theorem d_X_order_93 : decode prog_1_method_17_code 93 = .ok (.goto 12, 3) := by decide +kernel
theorem d_X_order_96 : decode prog_1_method_17_code 96 = .ok (.aload_n 0, 1) := by decide +kernel
theorem d_X_order_97 : decode prog_1_method_17_code 97 = .ok (.getfield 40, 3) := by decide +kernel
theorem d_X_order_100 : decode prog_1_method_17_code 100 = .ok (.getfield 226, 3) := by decide +kernel
theorem d_X_order_103 : decode prog_1_method_17_code 103 = .ok (.iload_n 1, 1) := by decide +kernel
theorem d_X_order_104 : decode prog_1_method_17_code 104 = .ok (.iaload, 1) := by decide +kernel
theorem d_X_order_105 : decode prog_1_method_17_code 105 = .ok (.ireturn, 1) := by decide +kernel
theorem d_X_wearByPull_0 : decode prog_1_method_46_code 0 = .ok (.iconst 0, 1) := by decide +kernel
theorem d_X_wearByPull_1 : decode prog_1_method_46_code 1 = .ok (.istore_n 3, 1) := by decide +kernel
theorem d_X_wearByPull_2 : decode prog_1_method_46_code 2 = .ok (.iload_n 3, 1) := by decide +kernel
theorem d_X_wearByPull_3 : decode prog_1_method_46_code 3 = .ok (.aload_n 0, 1) := by decide +kernel
theorem d_X_wearByPull_4 : decode prog_1_method_46_code 4 = .ok (.getfield 12, 3) := by decide +kernel
theorem d_X_wearByPull_7 : decode prog_1_method_46_code 7 = .ok (.getfield 139, 3) := by decide +kernel
theorem d_X_wearByPull_10 : decode prog_1_method_46_code 10 = .ok (.getfield 161, 3) := by decide +kernel
theorem d_X_wearByPull_13 : decode prog_1_method_46_code 13 = .ok (.if_icmp .ge 74, 3) := by decide +kernel
theorem d_X_wearByPull_16 : decode prog_1_method_46_code 16 = .ok (.iload_n 1, 1) := by decide +kernel
theorem d_X_wearByPull_17 : decode prog_1_method_46_code 17 = .ok (.iload_n 3, 1) := by decide +kernel
theorem d_X_wearByPull_18 : decode prog_1_method_46_code 18 = .ok (.invokestatic 185, 3) := by decide +kernel
theorem d_X_wearByPull_21 : decode prog_1_method_46_code 21 = .ok (.ifCond .eq 60, 3) := by decide +kernel
theorem d_X_wearByPull_24 : decode prog_1_method_46_code 24 = .ok (.aload_n 0, 1) := by decide +kernel
theorem d_X_wearByPull_25 : decode prog_1_method_46_code 25 = .ok (.getfield 65, 3) := by decide +kernel
theorem d_X_wearByPull_28 : decode prog_1_method_46_code 28 = .ok (.iload_n 3, 1) := by decide +kernel
theorem d_X_wearByPull_29 : decode prog_1_method_46_code 29 = .ok (.iaload, 1) := by decide +kernel
theorem d_X_wearByPull_30 : decode prog_1_method_46_code 30 = .ok (.istore 4, 2) := by decide +kernel
theorem d_X_wearByPull_32 : decode prog_1_method_46_code 32 = .ok (.aload_n 0, 1) := by decide +kernel
theorem d_X_wearByPull_33 : decode prog_1_method_46_code 33 = .ok (.getfield 12, 3) := by decide +kernel
theorem d_X_wearByPull_36 : decode prog_1_method_46_code 36 = .ok (.getfield 82, 3) := by decide +kernel
theorem d_X_wearByPull_39 : decode prog_1_method_46_code 39 = .ok (.iload 4, 2) := by decide +kernel
theorem d_X_wearByPull_41 : decode prog_1_method_46_code 41 = .ok (.invokevirtual 96, 3) := by decide +kernel
theorem d_X_wearByPull_44 : decode prog_1_method_46_code 44 = .ok (.ifCond .eq 37, 3) := by decide +kernel
theorem d_X_wearByPull_47 : decode prog_1_method_46_code 47 = .ok (.aload_n 0, 1) := by decide +kernel
theorem d_X_wearByPull_48 : decode prog_1_method_46_code 48 = .ok (.getfield 12, 3) := by decide +kernel
theorem d_X_wearByPull_51 : decode prog_1_method_46_code 51 = .ok (.getfield 82, 3) := by decide +kernel
theorem d_X_wearByPull_54 : decode prog_1_method_46_code 54 = .ok (.getfield 100, 3) := by decide +kernel
theorem d_X_wearByPull_57 : decode prog_1_method_46_code 57 = .ok (.iload 4, 2) := by decide +kernel
theorem d_X_wearByPull_59 : decode prog_1_method_46_code 59 = .ok (.iaload, 1) := by decide +kernel
theorem d_X_wearByPull_60 : decode prog_1_method_46_code 60 = .ok (.iconst 3, 1) := by decide +kernel
theorem d_X_wearByPull_61 : decode prog_1_method_46_code 61 = .ok (.if_icmp .ne 20, 3) := by decide +kernel
theorem d_X_wearByPull_64 : decode prog_1_method_46_code 64 = .ok (.aload_n 0, 1) := by decide +kernel
theorem d_X_wearByPull_65 : decode prog_1_method_46_code 65 = .ok (.getfield 12, 3) := by decide +kernel
theorem d_X_wearByPull_68 : decode prog_1_method_46_code 68 = .ok (.getfield 82, 3) := by decide +kernel
theorem d_X_wearByPull_71 : decode prog_1_method_46_code 71 = .ok (.getfield 106, 3) := by decide +kernel
theorem d_X_wearByPull_74 : decode prog_1_method_46_code 74 = .ok (.iload 4, 2) := by decide +kernel
theorem d_X_wearByPull_76 : decode prog_1_method_46_code 76 = .ok (.dup2, 1) := by decide +kernel
theorem d_X_wearByPull_77 : decode prog_1_method_46_code 77 = .ok (.iaload, 1) := by decide +kernel
theorem d_X_wearByPull_78 : decode prog_1_method_46_code 78 = .ok (.iload_n 2, 1) := by decide +kernel
theorem d_X_wearByPull_79 : decode prog_1_method_46_code 79 = .ok (.isub, 1) := by decide +kernel
theorem d_X_wearByPull_80 : decode prog_1_method_46_code 80 = .ok (.iastore, 1) := by decide +kernel
theorem d_X_wearByPull_81 : decode prog_1_method_46_code 81 = .ok (.iinc 3 1, 3) := by decide +kernel
theorem d_X_wearByPull_84 : decode prog_1_method_46_code 84 = .ok (.goto (-82), 3) := by decide +kernel
theorem d_X_wearByPull_87 : decode prog_1_method_46_code 87 = .ok (.return_, 1) := by decide +kernel
def f_X_bound_L20 (μ : fw_M) : Int32 × Int32 → Option ((Int32 × Int32) ⊕ (Int32))
  | (x1_20, x2_20) =>
  if 12 ≤ x2_20 then
    some (.inr x1_20)
  else
    (f_Line_howOften 6 x2_20 μ).bind fun (p34 : Int32) =>
    Option.bind (
      if p34 ≤ 0 then
        some x1_20
      else
        (f_Case_printers_2 x2_20 μ).bind fun (p50 : Int32) =>
        Option.bind (
          if p50 = 0 then
            some 99
          else
            (f_X_cutUp p34 p50).bind fun (p69 : Int32) =>
            some p69) fun (j58 : Int32) =>
        fw_nm ((if x1_20 < j58 then j58 else x1_20)) fun (v75 : Int32) =>
        some v75) fun (j39 : Int32) =>
    fw_nm (x2_20 + 1) fun (v76 : Int32) =>
    some (.inl (j39, v76))
def f_X_bound  (μ : fw_M) : Option (Int32) :=
  if (μ.1 6 1) = 0 then
    some (-2)
  else
    (fw_wh (f_X_bound_L20 μ) fw_N (0, 0)).bind fun (e20x : Int32) =>
    some e20x
set_option maxHeartbeats 4000000 in
set_option maxRecDepth 100000 in
theorem c_X_bound  {μ : fw_M} {r : Int32} (h : f_X_bound  μ = some r) : fw_Con Y_X_bound fw_X 2 [.ref 0] (some r) μ μ := by
  refine fw_con (by decide) (Nat.le_of_ble_eq_true rfl) ?_
  rw [f_X_bound] at h
  show fw_R "FewTypes" prog_1_method_16_code 5 (some .int) fw_X 2 (some r) μ 0 [(0, .ref 0)] [] μ
  refine fw_aload_n (pc := 0) d_X_bound_0 0 rfl rfl ?_
  refine fw_getR (pc := 1) d_X_bound_1 fl_X_12 fw_X0 rfl ?_
  refine fw_getR (pc := 4) d_X_bound_4 fl_X_139 fw_X1 rfl ?_
  refine fw_getI (pc := 7) d_X_bound_7 fl_X_161 fw_X6 rfl ?_
  refine fw_if_ne (pc := 10) (tgt := 16) d_X_bound_10 rfl (fun hc => ?_) (fun hc => ?_)
  · have h := fw_it hc h
    refine fw_bipush (pc := 13) d_X_bound_13 fw_bpm2 ?_
    obtain rfl := Option.some.inj h
    exact fw_iret (pc := 15) d_X_bound_15 rfl
  · have h := fw_if hc h
    refine fw_iconst (pc := 16) d_X_bound_16 fw_ic0 ?_
    refine fw_istore_n (pc := 17) (lv1 := [(1, .int 0), (0, .ref 0)]) d_X_bound_17 rfl (by decide) rfl ?_
    refine fw_iconst (pc := 18) d_X_bound_18 fw_ic0 ?_
    refine fw_istore_n (pc := 19) (lv1 := [(2, .int 0), (1, .int 0), (0, .ref 0)]) d_X_bound_19 rfl (by decide) rfl ?_
    obtain ⟨e20x, w20, h⟩ := fw_be h
    have hE20 : fw_R "FewTypes" prog_1_method_16_code 5 (some .int) fw_X 2 (some r) μ 82 [(1, .int e20x)] [] μ := by
      refine fw_iload_n (pc := 82) d_X_bound_82 0 rfl rfl ?_
      obtain rfl := Option.some.inj h
      exact fw_iret (pc := 83) d_X_bound_83 rfl
    clear h
    exact fw_sub [2, 1, 0] rfl (fw_we (e := e20x) (fun (s : Int32 × Int32) => fw_R "FewTypes" prog_1_method_16_code 5 (some .int) fw_X 2 (some r) μ 20 [(0, .ref 0), (1, .int s.1), (2, .int s.2)] [] μ) (by
      intro s x h hl hr
      obtain ⟨x1_20, x2_20⟩ := s
      rw [f_X_bound_L20] at h
      show fw_R "FewTypes" prog_1_method_16_code 5 (some .int) fw_X 2 (some r) μ 20 [(0, .ref 0), (1, .int x1_20), (2, .int x2_20)] [] μ
      refine fw_iload_n (pc := 20) d_X_bound_20 2 rfl rfl ?_
      refine fw_bipush (pc := 21) d_X_bound_21 fw_bp12 ?_
      refine fw_icmp_ge (pc := 23) (tgt := 82) d_X_bound_23 rfl (fun hc => ?_) (fun hc => ?_)
      · have h := fw_it hc h
        obtain rfl := Option.some.inj h
        have he := hr _ rfl
        subst he
        exact fw_sub [1] rfl hE20
      · have h := fw_if hc h
        refine fw_aload_n (pc := 26) d_X_bound_26 0 rfl rfl ?_
        refine fw_getR (pc := 27) d_X_bound_27 fl_X_12 fw_X0 rfl ?_
        refine fw_getR (pc := 30) d_X_bound_30 fl_X_139 fw_X1 rfl ?_
        refine fw_iload_n (pc := 33) d_X_bound_33 2 rfl rfl ?_
        obtain ⟨p34, e34, h⟩ := fw_be h
        refine fw_callVi (pc := 34) d_X_bound_34 mv_X_197 fw_X6 (c_Line_howOften e34) (by decide) rfl rfl (Nat.le_of_ble_eq_true rfl) ?_
        refine fw_istore_n (pc := 37) (lv1 := [(3, .int p34), (0, .ref 0), (1, .int x1_20), (2, .int x2_20)]) d_X_bound_37 rfl (by decide) rfl ?_
        refine fw_iload_n (pc := 38) d_X_bound_38 0 rfl rfl ?_
        obtain ⟨j39, w39, h⟩ := fw_be h
        have hJ39 : fw_R "FewTypes" prog_1_method_16_code 5 (some .int) fw_X 2 (some r) μ 76 [(0, .ref 0), (1, .int j39), (2, .int x2_20)] [] μ := by
          obtain ⟨v76, e76, h⟩ := fw_ne h
          refine fw_iinc2 (pc := 76) (j := 2) (lv1 := [(2, .int v76), (0, .ref 0), (1, .int j39)]) d_X_bound_76 rfl fw_ic1 e76 (by decide) rfl ?_
          refine fw_goto (pc := 79) (tgt := 20) d_X_bound_79 rfl ?_
          obtain rfl := Option.some.inj h
          exact fw_sub [1, 2, 0] rfl (hl _ rfl)
        clear h
        have h := w39
        clear w39
        refine fw_if_le (pc := 39) (tgt := 76) d_X_bound_39 rfl (fun hc => ?_) (fun hc => ?_)
        · have h := fw_it hc h
          obtain rfl := Option.some.inj h
          exact fw_sub [1, 2, 3] rfl hJ39
        · have h := fw_if hc h
          refine fw_aload_n (pc := 42) d_X_bound_42 1 rfl rfl ?_
          refine fw_getR (pc := 43) d_X_bound_43 fl_X_12 fw_X0 rfl ?_
          refine fw_getR (pc := 46) d_X_bound_46 fl_X_82 fw_X1 rfl ?_
          refine fw_iload_n (pc := 49) d_X_bound_49 3 rfl rfl ?_
          obtain ⟨p50, e50, h⟩ := fw_be h
          refine fw_callVi (pc := 50) d_X_bound_50 mv_X_200 fw_X2 (c_Case_printers_2 e50) (by decide) rfl rfl (Nat.le_of_ble_eq_true rfl) ?_
          refine fw_istore (pc := 53) (lv1 := [(4, .int p50), (3, .int p34), (0, .ref 0), (1, .int x1_20), (2, .int x2_20)]) d_X_bound_53 (by decide) rfl ?_
          refine fw_iload_n (pc := 55) d_X_bound_55 3 rfl rfl ?_
          refine fw_iload (pc := 56) d_X_bound_56 0 rfl ?_
          obtain ⟨j58, w58, h⟩ := fw_be h
          have hJ58 : fw_R "FewTypes" prog_1_method_16_code 5 (some .int) fw_X 2 (some r) μ 72 [(0, .ref 0), (2, .int x2_20)] [.int j58, .int x1_20] μ := by
            refine fw_mmax (pc := 72) d_X_bound_72 mx_X_207 (by decide) (Nat.le_of_ble_eq_true rfl) ?_
            obtain ⟨v75, e75, h⟩ := fw_ne h
            refine fw_top e75 ?_
            refine fw_istore_n (pc := 75) (lv1 := [(1, .int v75), (0, .ref 0), (2, .int x2_20)]) d_X_bound_75 rfl (by decide) rfl ?_
            obtain rfl := Option.some.inj h
            exact fw_sub [1, 0, 2] rfl hJ39
          clear h
          have h := w58
          clear w58
          refine fw_if_ne (pc := 58) (tgt := 66) d_X_bound_58 rfl (fun hc => ?_) (fun hc => ?_)
          · have h := fw_it hc h
            refine fw_bipush (pc := 61) d_X_bound_61 fw_bp99 ?_
            refine fw_goto (pc := 63) (tgt := 72) d_X_bound_63 rfl ?_
            obtain rfl := Option.some.inj h
            exact fw_sub [2, 4] rfl hJ58
          · have h := fw_if hc h
            refine fw_iload_n (pc := 66) d_X_bound_66 1 rfl rfl ?_
            refine fw_iload (pc := 67) d_X_bound_67 0 rfl ?_
            obtain ⟨p69, e69, h⟩ := fw_be h
            refine fw_callSi (pc := 69) d_X_bound_69 ms_X_203 (c_X_cutUp e69) (by decide) rfl rfl (Nat.le_of_ble_eq_true rfl) ?_
            obtain rfl := Option.some.inj h
            exact fw_sub [2, 4] rfl hJ58
      ) _ _ w20)
def f_Orders_pullOf_L2 (a2 : Int32) (μ : fw_M) (x3_2 : Int32) : Option ((Int32) ⊕ ((Unit) ⊕ (Int32))) :=
  if ((μ.1 71 3) - 1) ≤ x3_2 then
    some (.inr (.inl ()))
  else
    (fw_rd 10 (μ.1 82) x3_2).bind fun v14 =>
    (f_X_inSet v14 a2).bind fun (p16 : Int32) =>
    if p16 = 0 then
      fw_nm (x3_2 + 1) fun (v24 : Int32) =>
      some (.inl v24)
    else
      some (.inr (.inr x3_2))
def f_Orders_pullOf (a2 : Int32) (μ : fw_M) : Option (Int32) :=
  Option.bind (fw_wh (f_Orders_pullOf_L2 a2 μ) fw_N 0) fun (q2 : (Unit) ⊕ (Int32)) => match q2 with
  | .inl e2x =>
    some ((μ.1 71 3) - 1)
  | .inr r2 => some r2
set_option maxHeartbeats 4000000 in
set_option maxRecDepth 100000 in
theorem c_Orders_pullOf {a2 : Int32} {μ : fw_M} {r : Int32} (h : f_Orders_pullOf a2 μ = some r) : fw_Con Y_Orders_pullOf fw_X 2 [.ref 71, .ref 82, .int a2] (some r) μ μ := by
  refine fw_con (by decide) (Nat.le_of_ble_eq_true rfl) ?_
  rw [f_Orders_pullOf] at h
  show fw_R "FewTypes$Orders" prog_5_method_3_code 4 (some .int) fw_X 2 (some r) μ 0 [(0, .ref 71), (1, .ref 82), (2, .int a2)] [] μ
  refine fw_iconst (pc := 0) d_Orders_pullOf_0 fw_ic0 ?_
  refine fw_istore_n (pc := 1) (lv1 := [(3, .int 0), (0, .ref 71), (1, .ref 82), (2, .int a2)]) d_Orders_pullOf_1 rfl (by decide) rfl ?_
  obtain ⟨q2, w2, h⟩ := fw_be h
  have hE2 : ∀ e2x : Unit, q2 = .inl e2x → fw_R "FewTypes$Orders" prog_5_method_3_code 4 (some .int) fw_X 2 (some r) μ 30 [(0, .ref 71)] [] μ := by
    intro e2x hq
    subst hq
    dsimp only at h
    refine fw_aload_n (pc := 30) d_Orders_pullOf_30 0 rfl rfl ?_
    refine fw_getI (pc := 31) d_Orders_pullOf_31 fl_Orders_21 fw_X71 rfl ?_
    refine fw_iconst (pc := 34) d_Orders_pullOf_34 fw_ic1 ?_
    refine fw_isub (pc := 35) d_Orders_pullOf_35 ?_
    obtain rfl := Option.some.inj h
    exact fw_iret (pc := 36) d_Orders_pullOf_36 rfl
  have hR2 : ∀ r2, q2 = .inr r2 → r2 = r := by
    intro r2 hq
    subst hq
    exact Option.some.inj h
  clear h
  exact fw_sub [1, 2, 3, 0] rfl (fw_we (e := q2) (fun (s : Int32) => fw_R "FewTypes$Orders" prog_5_method_3_code 4 (some .int) fw_X 2 (some r) μ 2 [(0, .ref 71), (1, .ref 82), (2, .int a2), (3, .int s)] [] μ) (by
    intro s x h hl hr
    obtain ⟨x3_2, rfl⟩ : ∃ z, z = s := ⟨_, rfl⟩
    rw [f_Orders_pullOf_L2] at h
    show fw_R "FewTypes$Orders" prog_5_method_3_code 4 (some .int) fw_X 2 (some r) μ 2 [(0, .ref 71), (1, .ref 82), (2, .int a2), (3, .int x3_2)] [] μ
    refine fw_iload_n (pc := 2) d_Orders_pullOf_2 3 rfl rfl ?_
    refine fw_aload_n (pc := 3) d_Orders_pullOf_3 0 rfl rfl ?_
    refine fw_getI (pc := 4) d_Orders_pullOf_4 fl_Orders_21 fw_X71 rfl ?_
    refine fw_iconst (pc := 7) d_Orders_pullOf_7 fw_ic1 ?_
    refine fw_isub (pc := 8) d_Orders_pullOf_8 ?_
    refine fw_icmp_ge (pc := 9) (tgt := 30) d_Orders_pullOf_9 rfl (fun hc => ?_) (fun hc => ?_)
    · have h := fw_it hc h
      obtain rfl := Option.some.inj h
      exact fw_sub [0] rfl (hE2 _ (hr _ rfl).symm)
    · have h := fw_if hc h
      refine fw_aload_n (pc := 12) d_Orders_pullOf_12 1 rfl rfl ?_
      refine fw_iload_n (pc := 13) d_Orders_pullOf_13 3 rfl rfl ?_
      obtain ⟨v14, e14, h⟩ := fw_be h
      refine fw_iald (pc := 14) d_Orders_pullOf_14 fw_X82 e14 ?_
      refine fw_iload_n (pc := 15) d_Orders_pullOf_15 2 rfl rfl ?_
      obtain ⟨p16, e16, h⟩ := fw_be h
      refine fw_callNi (pc := 16) d_Orders_pullOf_16 ms_Orders_59 (c_X_inSet e16) (by decide) rfl rfl (Nat.le_of_ble_eq_true rfl) ?_
      refine fw_if_eq (pc := 19) (tgt := 24) d_Orders_pullOf_19 rfl (fun hc => ?_) (fun hc => ?_)
      · have h := fw_it hc h
        obtain ⟨v24, e24, h⟩ := fw_ne h
        refine fw_iinc2 (pc := 24) (j := 3) (lv1 := [(3, .int v24), (0, .ref 71), (1, .ref 82), (2, .int a2)]) d_Orders_pullOf_24 rfl fw_ic1 e24 (by decide) rfl ?_
        refine fw_goto (pc := 27) (tgt := 2) d_Orders_pullOf_27 rfl ?_
        obtain rfl := Option.some.inj h
        exact fw_sub [1, 2, 3, 0] rfl (hl _ rfl)
      · have h := fw_if hc h
        refine fw_iload_n (pc := 22) d_Orders_pullOf_22 3 rfl rfl ?_
        obtain rfl := Option.some.inj h
        have he := hR2 _ (hr _ rfl).symm
        subst he
        exact fw_iret (pc := 23) d_Orders_pullOf_23 rfl
    ) _ _ w2)
def f_Orders_slot (a0 : Int32) (a1 : Int32) (a2 : Int32) : Option (Int32) :=
  some ((((a0 * 6) + a1) * 6) + a2)
set_option maxHeartbeats 4000000 in
set_option maxRecDepth 100000 in
theorem c_Orders_slot {a0 : Int32} {a1 : Int32} {a2 : Int32} {μ : fw_M} {r : Int32} (h : f_Orders_slot a0 a1 a2 = some r) : fw_Con Y_Orders_slot fw_X 1 [.int a0, .int a1, .int a2] (some r) μ μ := by
  refine fw_con (by decide) (Nat.le_of_ble_eq_true rfl) ?_
  rw [f_Orders_slot] at h
  show fw_R "FewTypes$Orders" prog_5_method_5_code 3 (some .int) fw_X 1 (some r) μ 0 [(0, .int a0), (1, .int a1), (2, .int a2)] [] μ
  refine fw_iload_n (pc := 0) d_Orders_slot_0 0 rfl rfl ?_
  refine fw_bipush (pc := 1) d_Orders_slot_1 fw_bp6 ?_
  refine fw_imul (pc := 3) d_Orders_slot_3 ?_
  refine fw_iload_n (pc := 4) d_Orders_slot_4 1 rfl rfl ?_
  refine fw_iadd (pc := 5) d_Orders_slot_5 ?_
  refine fw_bipush (pc := 6) d_Orders_slot_6 fw_bp6 ?_
  refine fw_imul (pc := 8) d_Orders_slot_8 ?_
  refine fw_iload_n (pc := 9) d_Orders_slot_9 2 rfl rfl ?_
  refine fw_iadd (pc := 10) d_Orders_slot_10 ?_
  obtain rfl := Option.some.inj h
  exact fw_iret (pc := 11) d_Orders_slot_11 rfl
def f_Orders_weighPair_L69 (a4 : Int32) (a5 : Int32) (p9 : Int32) (v31 : Int32) (p42 : Int32) (v64 : Int32) : Int32 × fw_M → Option ((Int32 × fw_M) ⊕ (fw_M))
  | (x10_69, μ69) =>
  if (μ69.1 71 3) ≤ x10_69 then
    some (.inr μ69)
  else
    (fw_rd 3 (μ69.1 9) 1).bind fun v85 =>
    fw_nm ((x10_69 * v85)) fun (v87 : Int32) =>
    Option.bind (
      if v64 ≤ (p9 + v87) then
        some μ69
      else
        if (v31 + v87) ≤ p42 then
          some μ69
        else
          (f_Orders_slot a5 a4 x10_69).bind fun (p119 : Int32) =>
          (fw_rd 216 (μ69.1 72) p119).bind fun v123 =>
          (fw_si 216 μ69 72 p119 (v123 + 1)).bind fun μ126 =>
          some μ126) fun (j96 : fw_M) =>
    fw_nm (x10_69 + 1) fun (v127 : Int32) =>
    some (.inl (v127, j96))
def f_Orders_weighPair (a2 : Int32) (a3 : Int32) (a4 : Int32) (a5 : Int32) (μ : fw_M) : Option (fw_M) :=
  (f_Line_left 6 a2 μ).bind fun (p9 : Int32) =>
  (fw_rd 10 (μ.1 7) a2).bind fun v28 =>
  (fw_rd 12 (μ.1 8) v28).bind fun v29 =>
  fw_nm ((p9 + v29)) fun (v31 : Int32) =>
  (f_Line_left 6 a3 μ).bind fun (p42 : Int32) =>
  (fw_rd 10 (μ.1 7) a3).bind fun v61 =>
  (fw_rd 12 (μ.1 8) v61).bind fun v62 =>
  fw_nm ((p42 + v62)) fun (v64 : Int32) =>
  (fw_wh (f_Orders_weighPair_L69 a4 a5 p9 v31 p42 v64) fw_N (1, μ)).bind fun (e69x : fw_M) =>
  some e69x
set_option maxHeartbeats 4000000 in
set_option maxRecDepth 100000 in
theorem c_Orders_weighPair {a2 : Int32} {a3 : Int32} {a4 : Int32} {a5 : Int32} {μ : fw_M} {r : fw_M} (h : f_Orders_weighPair a2 a3 a4 a5 μ = some r) : fw_Con Y_Orders_weighPair fw_X 4 [.ref 71, .ref 1, .int a2, .int a3, .int a4, .int a5] none μ r := by
  refine fw_con (by decide) (Nat.le_of_ble_eq_true rfl) ?_
  rw [f_Orders_weighPair] at h
  show fw_R "FewTypes$Orders" prog_5_method_4_code 12 none fw_X 4 none r 0 [(0, .ref 71), (1, .ref 1), (2, .int a2), (3, .int a3), (4, .int a4), (5, .int a5)] [] μ
  refine fw_aload_n (pc := 0) d_Orders_weighPair_0 1 rfl rfl ?_
  refine fw_getR (pc := 1) d_Orders_weighPair_1 fl_Orders_40 fw_X1 rfl ?_
  refine fw_iload_n (pc := 4) d_Orders_weighPair_4 2 rfl rfl ?_
  refine fw_aload_n (pc := 5) d_Orders_weighPair_5 1 rfl rfl ?_
  refine fw_getR (pc := 6) d_Orders_weighPair_6 fl_Orders_63 fw_X1 rfl ?_
  obtain ⟨p9, e9, h⟩ := fw_be h
  refine fw_callVi (pc := 9) d_Orders_weighPair_9 mv_Orders_66 fw_X6 (c_Line_left e9) (by decide) rfl rfl (Nat.le_of_ble_eq_true rfl) ?_
  refine fw_istore (pc := 12) (lv1 := [(6, .int p9), (0, .ref 71), (1, .ref 1), (2, .int a2), (3, .int a3), (4, .int a4), (5, .int a5)]) d_Orders_weighPair_12 (by decide) rfl ?_
  refine fw_iload (pc := 14) d_Orders_weighPair_14 0 rfl ?_
  refine fw_aload_n (pc := 16) d_Orders_weighPair_16 2 rfl rfl ?_
  refine fw_getR (pc := 17) d_Orders_weighPair_17 fl_Orders_63 fw_X1 rfl ?_
  refine fw_aload_n (pc := 20) d_Orders_weighPair_20 2 rfl rfl ?_
  refine fw_getR (pc := 21) d_Orders_weighPair_21 fl_Orders_40 fw_X1 rfl ?_
  refine fw_getR (pc := 24) d_Orders_weighPair_24 fl_Orders_70 fw_X6 rfl ?_
  refine fw_iload_n (pc := 27) d_Orders_weighPair_27 3 rfl rfl ?_
  obtain ⟨v28, e28, h⟩ := fw_be h
  refine fw_iald (pc := 28) d_Orders_weighPair_28 fw_X7 e28 ?_
  obtain ⟨v29, e29, h⟩ := fw_be h
  refine fw_iald (pc := 29) d_Orders_weighPair_29 fw_X8 e29 ?_
  refine fw_iadd (pc := 30) d_Orders_weighPair_30 ?_
  obtain ⟨v31, e31, h⟩ := fw_ne h
  refine fw_top e31 ?_
  refine fw_istore (pc := 31) (lv1 := [(7, .int v31), (6, .int p9), (0, .ref 71), (1, .ref 1), (2, .int a2), (3, .int a3), (4, .int a4), (5, .int a5)]) d_Orders_weighPair_31 (by decide) rfl ?_
  refine fw_aload_n (pc := 33) d_Orders_weighPair_33 3 rfl rfl ?_
  refine fw_getR (pc := 34) d_Orders_weighPair_34 fl_Orders_40 fw_X1 rfl ?_
  refine fw_iload_n (pc := 37) d_Orders_weighPair_37 5 rfl rfl ?_
  refine fw_aload_n (pc := 38) d_Orders_weighPair_38 3 rfl rfl ?_
  refine fw_getR (pc := 39) d_Orders_weighPair_39 fl_Orders_63 fw_X1 rfl ?_
  obtain ⟨p42, e42, h⟩ := fw_be h
  refine fw_callVi (pc := 42) d_Orders_weighPair_42 mv_Orders_66 fw_X6 (c_Line_left e42) (by decide) rfl rfl (Nat.le_of_ble_eq_true rfl) ?_
  refine fw_istore (pc := 45) (lv1 := [(8, .int p42), (7, .int v31), (6, .int p9), (0, .ref 71), (1, .ref 1), (2, .int a2), (3, .int a3), (4, .int a4), (5, .int a5)]) d_Orders_weighPair_45 (by decide) rfl ?_
  refine fw_iload (pc := 47) d_Orders_weighPair_47 0 rfl ?_
  refine fw_aload_n (pc := 49) d_Orders_weighPair_49 4 rfl rfl ?_
  refine fw_getR (pc := 50) d_Orders_weighPair_50 fl_Orders_63 fw_X1 rfl ?_
  refine fw_aload_n (pc := 53) d_Orders_weighPair_53 4 rfl rfl ?_
  refine fw_getR (pc := 54) d_Orders_weighPair_54 fl_Orders_40 fw_X1 rfl ?_
  refine fw_getR (pc := 57) d_Orders_weighPair_57 fl_Orders_70 fw_X6 rfl ?_
  refine fw_iload_n (pc := 60) d_Orders_weighPair_60 6 rfl rfl ?_
  obtain ⟨v61, e61, h⟩ := fw_be h
  refine fw_iald (pc := 61) d_Orders_weighPair_61 fw_X7 e61 ?_
  obtain ⟨v62, e62, h⟩ := fw_be h
  refine fw_iald (pc := 62) d_Orders_weighPair_62 fw_X8 e62 ?_
  refine fw_iadd (pc := 63) d_Orders_weighPair_63 ?_
  obtain ⟨v64, e64, h⟩ := fw_ne h
  refine fw_top e64 ?_
  refine fw_istore (pc := 64) (lv1 := [(9, .int v64), (8, .int p42), (7, .int v31), (6, .int p9), (0, .ref 71), (1, .ref 1), (2, .int a2), (3, .int a3), (4, .int a4), (5, .int a5)]) d_Orders_weighPair_64 (by decide) rfl ?_
  refine fw_iconst (pc := 66) d_Orders_weighPair_66 fw_ic1 ?_
  refine fw_istore (pc := 67) (lv1 := [(10, .int 1), (9, .int v64), (8, .int p42), (7, .int v31), (6, .int p9), (0, .ref 71), (1, .ref 1), (2, .int a2), (3, .int a3), (4, .int a4), (5, .int a5)]) d_Orders_weighPair_67 (by decide) rfl ?_
  obtain ⟨e69x, w69, h⟩ := fw_be h
  have hE69 : fw_R "FewTypes$Orders" prog_5_method_4_code 12 none fw_X 4 none r 133 [] [] e69x := by
    obtain rfl := Option.some.inj h
    exact fw_vret (pc := 133) d_Orders_weighPair_133 rfl
  clear h
  exact fw_sub [5, 6, 9, 10, 4, 3, 2, 1, 0] rfl (fw_we (e := e69x) (fun (s : Int32 × fw_M) => fw_R "FewTypes$Orders" prog_5_method_4_code 12 none fw_X 4 none r 69 [(0, .ref 71), (1, .ref 1), (4, .int a4), (5, .int a5), (6, .int p9), (7, .int v31), (8, .int p42), (9, .int v64), (10, .int s.1)] [] s.2) (by
    intro s x h hl hr
    obtain ⟨x10_69, μ69⟩ := s
    rw [f_Orders_weighPair_L69] at h
    show fw_R "FewTypes$Orders" prog_5_method_4_code 12 none fw_X 4 none r 69 [(0, .ref 71), (1, .ref 1), (4, .int a4), (5, .int a5), (6, .int p9), (7, .int v31), (8, .int p42), (9, .int v64), (10, .int x10_69)] [] μ69
    refine fw_iload (pc := 69) d_Orders_weighPair_69 8 rfl ?_
    refine fw_aload_n (pc := 71) d_Orders_weighPair_71 0 rfl rfl ?_
    refine fw_getI (pc := 72) d_Orders_weighPair_72 fl_Orders_21 fw_X71 rfl ?_
    refine fw_icmp_ge (pc := 75) (tgt := 133) d_Orders_weighPair_75 rfl (fun hc => ?_) (fun hc => ?_)
    · have h := fw_it hc h
      obtain rfl := Option.some.inj h
      have he := hr _ rfl
      subst he
      exact fw_sub [] rfl hE69
    · have h := fw_if hc h
      refine fw_iload (pc := 78) d_Orders_weighPair_78 8 rfl ?_
      refine fw_aload_n (pc := 80) d_Orders_weighPair_80 1 rfl rfl ?_
      refine fw_getR (pc := 81) d_Orders_weighPair_81 fl_Orders_73 fw_X1 rfl ?_
      refine fw_iconst (pc := 84) d_Orders_weighPair_84 fw_ic1 ?_
      obtain ⟨v85, e85, h⟩ := fw_be h
      refine fw_iald (pc := 85) d_Orders_weighPair_85 fw_X9 e85 ?_
      refine fw_imul (pc := 86) d_Orders_weighPair_86 ?_
      obtain ⟨v87, e87, h⟩ := fw_ne h
      refine fw_top e87 ?_
      refine fw_istore (pc := 87) (lv1 := [(11, .int v87), (0, .ref 71), (1, .ref 1), (4, .int a4), (5, .int a5), (6, .int p9), (7, .int v31), (8, .int p42), (9, .int v64), (10, .int x10_69)]) d_Orders_weighPair_87 (by decide) rfl ?_
      refine fw_iload (pc := 89) d_Orders_weighPair_89 5 rfl ?_
      refine fw_iload (pc := 91) d_Orders_weighPair_91 0 rfl ?_
      refine fw_iadd (pc := 93) d_Orders_weighPair_93 ?_
      refine fw_iload (pc := 94) d_Orders_weighPair_94 8 rfl ?_
      obtain ⟨j96, w96, h⟩ := fw_be h
      have hJ96 : fw_R "FewTypes$Orders" prog_5_method_4_code 12 none fw_X 4 none r 127 [(0, .ref 71), (1, .ref 1), (4, .int a4), (5, .int a5), (6, .int p9), (7, .int v31), (8, .int p42), (9, .int v64), (10, .int x10_69)] [] j96 := by
        obtain ⟨v127, e127, h⟩ := fw_ne h
        refine fw_iinc2 (pc := 127) (j := 8) (lv1 := [(10, .int v127), (0, .ref 71), (1, .ref 1), (4, .int a4), (5, .int a5), (6, .int p9), (7, .int v31), (8, .int p42), (9, .int v64)]) d_Orders_weighPair_127 rfl fw_ic1 e127 (by decide) rfl ?_
        refine fw_goto (pc := 130) (tgt := 69) d_Orders_weighPair_130 rfl ?_
        obtain rfl := Option.some.inj h
        exact fw_sub [1, 2, 3, 4, 5, 6, 7, 8, 0] rfl (hl _ rfl)
      clear h
      have h := w96
      clear w96
      refine fw_icmp_ge (pc := 96) (tgt := 127) d_Orders_weighPair_96 rfl (fun hc => ?_) (fun hc => ?_)
      · have h := fw_it hc h
        obtain rfl := Option.some.inj h
        exact fw_sub [1, 2, 3, 4, 5, 6, 7, 8, 9] rfl hJ96
      · have h := fw_if hc h
        refine fw_iload (pc := 99) d_Orders_weighPair_99 7 rfl ?_
        refine fw_iload (pc := 101) d_Orders_weighPair_101 6 rfl ?_
        refine fw_iload (pc := 103) d_Orders_weighPair_103 0 rfl ?_
        refine fw_iadd (pc := 105) d_Orders_weighPair_105 ?_
        refine fw_icmp_ge (pc := 106) (tgt := 127) d_Orders_weighPair_106 rfl (fun hc => ?_) (fun hc => ?_)
        · have h := fw_it hc h
          obtain rfl := Option.some.inj h
          exact fw_sub [1, 2, 3, 4, 5, 6, 7, 8, 9] rfl hJ96
        · have h := fw_if hc h
          refine fw_aload_n (pc := 109) d_Orders_weighPair_109 1 rfl rfl ?_
          refine fw_getR (pc := 110) d_Orders_weighPair_110 fl_Orders_9 fw_X71 rfl ?_
          refine fw_iload (pc := 113) d_Orders_weighPair_113 4 rfl ?_
          refine fw_iload (pc := 115) d_Orders_weighPair_115 3 rfl ?_
          refine fw_iload (pc := 117) d_Orders_weighPair_117 9 rfl ?_
          obtain ⟨p119, e119, h⟩ := fw_be h
          refine fw_callSi (pc := 119) d_Orders_weighPair_119 ms_Orders_76 (c_Orders_slot e119) (by decide) rfl rfl (Nat.le_of_ble_eq_true rfl) ?_
          refine fw_dup2 (pc := 122) d_Orders_weighPair_122 rfl rfl ?_
          obtain ⟨v123, e123, h⟩ := fw_be h
          refine fw_iald (pc := 123) d_Orders_weighPair_123 fw_X72 e123 ?_
          refine fw_iconst (pc := 124) d_Orders_weighPair_124 fw_ic1 ?_
          refine fw_iadd (pc := 125) d_Orders_weighPair_125 ?_
          obtain ⟨μ126, e126, h⟩ := fw_be h
          refine fw_iast (pc := 126) d_Orders_weighPair_126 fw_X72 e126 ?_
          obtain rfl := Option.some.inj h
          exact fw_sub [1, 2, 3, 4, 5, 6, 7, 8, 9] rfl hJ96
    ) _ _ w69)
def f_Orders_weigh_L39 (x4_21 : Int32) : Int32 × fw_M → Option ((Int32 × fw_M) ⊕ (fw_M))
  | (x5_39, μ39) =>
  if (μ39.1 6 1) ≤ x5_39 then
    some (.inr μ39)
  else
    (f_Orders_pullOf x4_21 μ39).bind fun (p55 : Int32) =>
    (f_Orders_pullOf x5_39 μ39).bind fun (p64 : Int32) =>
    Option.bind (
      if p55 = p64 then
        some μ39
      else
        (f_Orders_weighPair x4_21 x5_39 p55 p64 μ39).bind fun (p86 : fw_M) =>
        some p86) fun (j73 : fw_M) =>
    fw_nm (x5_39 + 1) fun (v89 : Int32) =>
    some (.inl (v89, j73))
def f_Orders_weigh_L21  : Int32 × fw_M → Option ((Int32 × fw_M) ⊕ (fw_M))
  | (x4_21, μ21) =>
  if (μ21.1 6 1) ≤ x4_21 then
    some (.inr μ21)
  else
    fw_nm ((x4_21 + 1)) fun (v37 : Int32) =>
    (fw_wh (f_Orders_weigh_L39 x4_21) fw_N (v37, μ21)).bind fun (e39x : fw_M) =>
    fw_nm (x4_21 + 1) fun (v95 : Int32) =>
    some (.inl (v95, e39x))
def f_Orders_weigh (a3 : Int32) (μ : fw_M) : Option (fw_M) :=
  fw_nm (fw_wr μ 71 3 (if 6 < a3 then 6 else a3)) fun (μ7 : fw_M) =>
  (f_Arrays_fill 72 216 0 μ7).bind fun (p15 : fw_M) =>
  (fw_wh (f_Orders_weigh_L21) fw_N (0, p15)).bind fun (e21x : fw_M) =>
  some e21x
set_option maxHeartbeats 4000000 in
set_option maxRecDepth 100000 in
theorem c_Orders_weigh {a3 : Int32} {μ : fw_M} {r : fw_M} (h : f_Orders_weigh a3 μ = some r) : fw_Con Y_Orders_weigh fw_X 5 [.ref 71, .ref 1, .ref 82, .int a3] none μ r := by
  refine fw_con (by decide) (Nat.le_of_ble_eq_true rfl) ?_
  rw [f_Orders_weigh] at h
  show fw_R "FewTypes$Orders" prog_5_method_2_code 8 none fw_X 5 none r 0 [(0, .ref 71), (1, .ref 1), (2, .ref 82), (3, .int a3)] [] μ
  refine fw_aload_n (pc := 0) d_Orders_weigh_0 0 rfl rfl ?_
  refine fw_iload_n (pc := 1) d_Orders_weigh_1 3 rfl rfl ?_
  refine fw_bipush (pc := 2) d_Orders_weigh_2 fw_bp6 ?_
  refine fw_mmin (pc := 4) d_Orders_weigh_4 mx_Orders_28 (by decide) (Nat.le_of_ble_eq_true rfl) ?_
  obtain ⟨μ7, e7, h⟩ := fw_ne h
  refine fw_putI (pc := 7) d_Orders_weigh_7 fp_Orders_21 fw_X71 rfl (fw_mem e7 ?_)
  refine fw_aload_n (pc := 10) d_Orders_weigh_10 0 rfl rfl ?_
  refine fw_getR (pc := 11) d_Orders_weigh_11 fl_Orders_9 fw_X71 rfl ?_
  refine fw_iconst (pc := 14) d_Orders_weigh_14 fw_ic0 ?_
  obtain ⟨p15, e15, h⟩ := fw_be h
  refine fw_callSv (pc := 15) d_Orders_weigh_15 ms_Orders_34 (c_Arrays_fill e15) (by decide) rfl rfl (Nat.le_of_ble_eq_true rfl) ?_
  refine fw_iconst (pc := 18) d_Orders_weigh_18 fw_ic0 ?_
  refine fw_istore (pc := 19) (lv1 := [(4, .int 0), (0, .ref 71), (1, .ref 1), (2, .ref 82), (3, .int a3)]) d_Orders_weigh_19 (by decide) rfl ?_
  obtain ⟨e21x, w21, h⟩ := fw_be h
  have hE21 : fw_R "FewTypes$Orders" prog_5_method_2_code 8 none fw_X 5 none r 101 [] [] e21x := by
    obtain rfl := Option.some.inj h
    exact fw_vret (pc := 101) d_Orders_weigh_101 rfl
  clear h
  exact fw_sub [1, 2, 3, 0] rfl (fw_we (e := e21x) (fun (s : Int32 × fw_M) => fw_R "FewTypes$Orders" prog_5_method_2_code 8 none fw_X 5 none r 21 [(0, .ref 71), (1, .ref 1), (2, .ref 82), (4, .int s.1)] [] s.2) (by
    intro s x h hl hr
    obtain ⟨x4_21, μ21⟩ := s
    rw [f_Orders_weigh_L21] at h
    show fw_R "FewTypes$Orders" prog_5_method_2_code 8 none fw_X 5 none r 21 [(0, .ref 71), (1, .ref 1), (2, .ref 82), (4, .int x4_21)] [] μ21
    refine fw_iload (pc := 21) d_Orders_weigh_21 3 rfl ?_
    refine fw_aload_n (pc := 23) d_Orders_weigh_23 1 rfl rfl ?_
    refine fw_getR (pc := 24) d_Orders_weigh_24 fl_Orders_40 fw_X1 rfl ?_
    refine fw_getI (pc := 27) d_Orders_weigh_27 fl_Orders_46 fw_X6 rfl ?_
    refine fw_icmp_ge (pc := 30) (tgt := 101) d_Orders_weigh_30 rfl (fun hc => ?_) (fun hc => ?_)
    · have h := fw_it hc h
      obtain rfl := Option.some.inj h
      have he := hr _ rfl
      subst he
      exact fw_sub [] rfl hE21
    · have h := fw_if hc h
      refine fw_iload (pc := 33) d_Orders_weigh_33 3 rfl ?_
      refine fw_iconst (pc := 35) d_Orders_weigh_35 fw_ic1 ?_
      refine fw_iadd (pc := 36) d_Orders_weigh_36 ?_
      obtain ⟨v37, e37, h⟩ := fw_ne h
      refine fw_top e37 ?_
      refine fw_istore (pc := 37) (lv1 := [(5, .int v37), (0, .ref 71), (1, .ref 1), (2, .ref 82), (4, .int x4_21)]) d_Orders_weigh_37 (by decide) rfl ?_
      obtain ⟨e39x, w39, h⟩ := fw_be h
      have hE39 : fw_R "FewTypes$Orders" prog_5_method_2_code 8 none fw_X 5 none r 95 [(0, .ref 71), (1, .ref 1), (2, .ref 82), (4, .int x4_21)] [] e39x := by
        obtain ⟨v95, e95, h⟩ := fw_ne h
        refine fw_iinc2 (pc := 95) (j := 3) (lv1 := [(4, .int v95), (0, .ref 71), (1, .ref 1), (2, .ref 82)]) d_Orders_weigh_95 rfl fw_ic1 e95 (by decide) rfl ?_
        refine fw_goto (pc := 98) (tgt := 21) d_Orders_weigh_98 rfl ?_
        obtain rfl := Option.some.inj h
        exact fw_sub [1, 2, 3, 0] rfl (hl _ rfl)
      clear h
      exact fw_sub [1, 2, 3, 4, 0] rfl (fw_we (e := e39x) (fun (s : Int32 × fw_M) => fw_R "FewTypes$Orders" prog_5_method_2_code 8 none fw_X 5 none r 39 [(0, .ref 71), (1, .ref 1), (2, .ref 82), (4, .int x4_21), (5, .int s.1)] [] s.2) (by
        intro s x h hl hr
        obtain ⟨x5_39, μ39⟩ := s
        rw [f_Orders_weigh_L39] at h
        show fw_R "FewTypes$Orders" prog_5_method_2_code 8 none fw_X 5 none r 39 [(0, .ref 71), (1, .ref 1), (2, .ref 82), (4, .int x4_21), (5, .int x5_39)] [] μ39
        refine fw_iload (pc := 39) d_Orders_weigh_39 4 rfl ?_
        refine fw_aload_n (pc := 41) d_Orders_weigh_41 1 rfl rfl ?_
        refine fw_getR (pc := 42) d_Orders_weigh_42 fl_Orders_40 fw_X1 rfl ?_
        refine fw_getI (pc := 45) d_Orders_weigh_45 fl_Orders_46 fw_X6 rfl ?_
        refine fw_icmp_ge (pc := 48) (tgt := 95) d_Orders_weigh_48 rfl (fun hc => ?_) (fun hc => ?_)
        · have h := fw_it hc h
          obtain rfl := Option.some.inj h
          have he := hr _ rfl
          subst he
          exact fw_sub [0, 1, 2, 3] rfl hE39
        · have h := fw_if hc h
          refine fw_aload_n (pc := 51) d_Orders_weigh_51 0 rfl rfl ?_
          refine fw_aload_n (pc := 52) d_Orders_weigh_52 2 rfl rfl ?_
          refine fw_iload (pc := 53) d_Orders_weigh_53 3 rfl ?_
          obtain ⟨p55, e55, h⟩ := fw_be h
          refine fw_callVi (pc := 55) d_Orders_weigh_55 mv_Orders_51 fw_X71 (c_Orders_pullOf e55) (by decide) rfl rfl (Nat.le_of_ble_eq_true rfl) ?_
          refine fw_istore (pc := 58) (lv1 := [(6, .int p55), (0, .ref 71), (1, .ref 1), (2, .ref 82), (4, .int x4_21), (5, .int x5_39)]) d_Orders_weigh_58 (by decide) rfl ?_
          refine fw_aload_n (pc := 60) d_Orders_weigh_60 1 rfl rfl ?_
          refine fw_aload_n (pc := 61) d_Orders_weigh_61 3 rfl rfl ?_
          refine fw_iload (pc := 62) d_Orders_weigh_62 5 rfl ?_
          obtain ⟨p64, e64, h⟩ := fw_be h
          refine fw_callVi (pc := 64) d_Orders_weigh_64 mv_Orders_51 fw_X71 (c_Orders_pullOf e64) (by decide) rfl rfl (Nat.le_of_ble_eq_true rfl) ?_
          refine fw_istore (pc := 67) (lv1 := [(7, .int p64), (6, .int p55), (0, .ref 71), (1, .ref 1), (2, .ref 82), (4, .int x4_21), (5, .int x5_39)]) d_Orders_weigh_67 (by decide) rfl ?_
          refine fw_iload (pc := 69) d_Orders_weigh_69 1 rfl ?_
          refine fw_iload (pc := 71) d_Orders_weigh_71 0 rfl ?_
          obtain ⟨j73, w73, h⟩ := fw_be h
          have hJ73 : fw_R "FewTypes$Orders" prog_5_method_2_code 8 none fw_X 5 none r 89 [(0, .ref 71), (1, .ref 1), (2, .ref 82), (4, .int x4_21), (5, .int x5_39)] [] j73 := by
            obtain ⟨v89, e89, h⟩ := fw_ne h
            refine fw_iinc2 (pc := 89) (j := 4) (lv1 := [(5, .int v89), (0, .ref 71), (1, .ref 1), (2, .ref 82), (4, .int x4_21)]) d_Orders_weigh_89 rfl fw_ic1 e89 (by decide) rfl ?_
            refine fw_goto (pc := 92) (tgt := 39) d_Orders_weigh_92 rfl ?_
            obtain rfl := Option.some.inj h
            exact fw_sub [1, 2, 3, 4, 0] rfl (hl _ rfl)
          clear h
          have h := w73
          clear w73
          refine fw_icmp_eq (pc := 73) (tgt := 89) d_Orders_weigh_73 rfl (fun hc => ?_) (fun hc => ?_)
          · have h := fw_it hc h
            obtain rfl := Option.some.inj h
            exact fw_sub [2, 3, 4, 5, 6] rfl hJ73
          · have h := fw_if hc h
            refine fw_aload_n (pc := 76) d_Orders_weigh_76 2 rfl rfl ?_
            refine fw_aload_n (pc := 77) d_Orders_weigh_77 3 rfl rfl ?_
            refine fw_iload (pc := 78) d_Orders_weigh_78 5 rfl ?_
            refine fw_iload (pc := 80) d_Orders_weigh_80 6 rfl ?_
            refine fw_iload (pc := 82) d_Orders_weigh_82 1 rfl ?_
            refine fw_iload (pc := 84) d_Orders_weigh_84 0 rfl ?_
            obtain ⟨p86, e86, h⟩ := fw_be h
            refine fw_callVv (pc := 86) d_Orders_weigh_86 mv_Orders_55 fw_X71 (c_Orders_weighPair e86) (by decide) rfl rfl (Nat.le_of_ble_eq_true rfl) ?_
            obtain rfl := Option.some.inj h
            exact fw_sub [2, 3, 4, 5, 6] rfl hJ73
        ) _ _ w39)
    ) _ _ w21)
def f_Orders_clashesWithEarlier_L4 (a1 : Int32) (μ : fw_M) : Int32 × Int32 → Option ((Int32 × Int32) ⊕ (Int32))
  | (x2_4, x3_4) =>
  if a1 ≤ x3_4 then
    some (.inr x2_4)
  else
    (fw_rd 6 (μ.1 73) x3_4).bind fun v19 =>
    (fw_rd 6 (μ.1 73) a1).bind fun v25 =>
    (f_Orders_slot v19 v25 (a1 - x3_4)).bind fun (p29 : Int32) =>
    (fw_rd 216 (μ.1 72) p29).bind fun v32 =>
    fw_nm ((x2_4 + v32)) fun (v34 : Int32) =>
    fw_nm (x3_4 + 1) fun (v35 : Int32) =>
    some (.inl (v34, v35))
def f_Orders_clashesWithEarlier (a1 : Int32) (μ : fw_M) : Option (Int32) :=
  (fw_wh (f_Orders_clashesWithEarlier_L4 a1 μ) fw_N (0, 0)).bind fun (e4x : Int32) =>
  some e4x
set_option maxHeartbeats 4000000 in
set_option maxRecDepth 100000 in
theorem c_Orders_clashesWithEarlier {a1 : Int32} {μ : fw_M} {r : Int32} (h : f_Orders_clashesWithEarlier a1 μ = some r) : fw_Con Y_Orders_clashesWithEarlier fw_X 2 [.ref 71, .int a1] (some r) μ μ := by
  refine fw_con (by decide) (Nat.le_of_ble_eq_true rfl) ?_
  rw [f_Orders_clashesWithEarlier] at h
  show fw_R "FewTypes$Orders" prog_5_method_9_code 4 (some .int) fw_X 2 (some r) μ 0 [(0, .ref 71), (1, .int a1)] [] μ
  refine fw_iconst (pc := 0) d_Orders_clashesWithEarlier_0 fw_ic0 ?_
  refine fw_istore_n (pc := 1) (lv1 := [(2, .int 0), (0, .ref 71), (1, .int a1)]) d_Orders_clashesWithEarlier_1 rfl (by decide) rfl ?_
  refine fw_iconst (pc := 2) d_Orders_clashesWithEarlier_2 fw_ic0 ?_
  refine fw_istore_n (pc := 3) (lv1 := [(3, .int 0), (2, .int 0), (0, .ref 71), (1, .int a1)]) d_Orders_clashesWithEarlier_3 rfl (by decide) rfl ?_
  obtain ⟨e4x, w4, h⟩ := fw_be h
  have hE4 : fw_R "FewTypes$Orders" prog_5_method_9_code 4 (some .int) fw_X 2 (some r) μ 41 [(2, .int e4x)] [] μ := by
    refine fw_iload_n (pc := 41) d_Orders_clashesWithEarlier_41 0 rfl rfl ?_
    obtain rfl := Option.some.inj h
    exact fw_iret (pc := 42) d_Orders_clashesWithEarlier_42 rfl
  clear h
  exact fw_sub [2, 3, 1, 0] rfl (fw_we (e := e4x) (fun (s : Int32 × Int32) => fw_R "FewTypes$Orders" prog_5_method_9_code 4 (some .int) fw_X 2 (some r) μ 4 [(0, .ref 71), (1, .int a1), (2, .int s.1), (3, .int s.2)] [] μ) (by
    intro s x h hl hr
    obtain ⟨x2_4, x3_4⟩ := s
    rw [f_Orders_clashesWithEarlier_L4] at h
    show fw_R "FewTypes$Orders" prog_5_method_9_code 4 (some .int) fw_X 2 (some r) μ 4 [(0, .ref 71), (1, .int a1), (2, .int x2_4), (3, .int x3_4)] [] μ
    refine fw_iload_n (pc := 4) d_Orders_clashesWithEarlier_4 3 rfl rfl ?_
    refine fw_iload_n (pc := 5) d_Orders_clashesWithEarlier_5 1 rfl rfl ?_
    refine fw_icmp_ge (pc := 6) (tgt := 41) d_Orders_clashesWithEarlier_6 rfl (fun hc => ?_) (fun hc => ?_)
    · have h := fw_it hc h
      obtain rfl := Option.some.inj h
      have he := hr _ rfl
      subst he
      exact fw_sub [2] rfl hE4
    · have h := fw_if hc h
      refine fw_iload_n (pc := 9) d_Orders_clashesWithEarlier_9 2 rfl rfl ?_
      refine fw_aload_n (pc := 10) d_Orders_clashesWithEarlier_10 0 rfl rfl ?_
      refine fw_getR (pc := 11) d_Orders_clashesWithEarlier_11 fl_Orders_9 fw_X71 rfl ?_
      refine fw_aload_n (pc := 14) d_Orders_clashesWithEarlier_14 0 rfl rfl ?_
      refine fw_getR (pc := 15) d_Orders_clashesWithEarlier_15 fl_Orders_15 fw_X71 rfl ?_
      refine fw_iload_n (pc := 18) d_Orders_clashesWithEarlier_18 3 rfl rfl ?_
      obtain ⟨v19, e19, h⟩ := fw_be h
      refine fw_iald (pc := 19) d_Orders_clashesWithEarlier_19 fw_X73 e19 ?_
      refine fw_aload_n (pc := 20) d_Orders_clashesWithEarlier_20 0 rfl rfl ?_
      refine fw_getR (pc := 21) d_Orders_clashesWithEarlier_21 fl_Orders_15 fw_X71 rfl ?_
      refine fw_iload_n (pc := 24) d_Orders_clashesWithEarlier_24 1 rfl rfl ?_
      obtain ⟨v25, e25, h⟩ := fw_be h
      refine fw_iald (pc := 25) d_Orders_clashesWithEarlier_25 fw_X73 e25 ?_
      refine fw_iload_n (pc := 26) d_Orders_clashesWithEarlier_26 1 rfl rfl ?_
      refine fw_iload_n (pc := 27) d_Orders_clashesWithEarlier_27 3 rfl rfl ?_
      refine fw_isub (pc := 28) d_Orders_clashesWithEarlier_28 ?_
      obtain ⟨p29, e29, h⟩ := fw_be h
      refine fw_callSi (pc := 29) d_Orders_clashesWithEarlier_29 ms_Orders_76 (c_Orders_slot e29) (by decide) rfl rfl (Nat.le_of_ble_eq_true rfl) ?_
      obtain ⟨v32, e32, h⟩ := fw_be h
      refine fw_iald (pc := 32) d_Orders_clashesWithEarlier_32 fw_X72 e32 ?_
      refine fw_iadd (pc := 33) d_Orders_clashesWithEarlier_33 ?_
      obtain ⟨v34, e34, h⟩ := fw_ne h
      refine fw_top e34 ?_
      refine fw_istore_n (pc := 34) (lv1 := [(2, .int v34), (0, .ref 71), (1, .int a1), (3, .int x3_4)]) d_Orders_clashesWithEarlier_34 rfl (by decide) rfl ?_
      obtain ⟨v35, e35, h⟩ := fw_ne h
      refine fw_iinc2 (pc := 35) (j := 3) (lv1 := [(3, .int v35), (2, .int v34), (0, .ref 71), (1, .int a1)]) d_Orders_clashesWithEarlier_35 rfl fw_ic1 e35 (by decide) rfl ?_
      refine fw_goto (pc := 38) (tgt := 4) d_Orders_clashesWithEarlier_38 rfl ?_
      obtain rfl := Option.some.inj h
      exact fw_sub [2, 3, 1, 0] rfl (hl _ rfl)
    ) _ _ w4)
def f_Orders_clashesAsPlanned_L4  : Int32 × Int32 × fw_M → Option ((Int32 × Int32 × fw_M) ⊕ (Int32 × fw_M))
  | (x1_4, x2_4, μ4) =>
  if (μ4.1 71 3) ≤ x2_4 then
    some (.inr (x1_4, μ4))
  else
    (fw_si 6 μ4 73 x2_4 x2_4).bind fun μ18 =>
    (f_Orders_clashesWithEarlier x2_4 μ18).bind fun (p22 : Int32) =>
    fw_nm ((x1_4 + p22)) fun (v26 : Int32) =>
    fw_nm (x2_4 + 1) fun (v27 : Int32) =>
    some (.inl (v26, v27, μ18))
def f_Orders_clashesAsPlanned  (μ : fw_M) : Option (Int32 × fw_M) :=
  (fw_wh (f_Orders_clashesAsPlanned_L4) fw_N (0, 0, μ)).bind fun (e4x : Int32 × fw_M) =>
  some (e4x.1, e4x.2)
set_option maxHeartbeats 4000000 in
set_option maxRecDepth 100000 in
theorem c_Orders_clashesAsPlanned  {μ : fw_M} {r : Int32 × fw_M} (h : f_Orders_clashesAsPlanned  μ = some r) : fw_Con Y_Orders_clashesAsPlanned fw_X 3 [.ref 71] (some r.1) μ r.2 := by
  refine fw_con (by decide) (Nat.le_of_ble_eq_true rfl) ?_
  rw [f_Orders_clashesAsPlanned] at h
  show fw_R "FewTypes$Orders" prog_5_method_6_code 3 (some .int) fw_X 3 (some r.1) r.2 0 [(0, .ref 71)] [] μ
  refine fw_iconst (pc := 0) d_Orders_clashesAsPlanned_0 fw_ic0 ?_
  refine fw_istore_n (pc := 1) (lv1 := [(1, .int 0), (0, .ref 71)]) d_Orders_clashesAsPlanned_1 rfl (by decide) rfl ?_
  refine fw_iconst (pc := 2) d_Orders_clashesAsPlanned_2 fw_ic0 ?_
  refine fw_istore_n (pc := 3) (lv1 := [(2, .int 0), (1, .int 0), (0, .ref 71)]) d_Orders_clashesAsPlanned_3 rfl (by decide) rfl ?_
  obtain ⟨e4x, w4, h⟩ := fw_be h
  have hE4 : fw_R "FewTypes$Orders" prog_5_method_6_code 3 (some .int) fw_X 3 (some r.1) r.2 33 [(1, .int e4x.1)] [] e4x.2 := by
    refine fw_iload_n (pc := 33) d_Orders_clashesAsPlanned_33 0 rfl rfl ?_
    obtain rfl := Option.some.inj h
    exact fw_iret (pc := 34) d_Orders_clashesAsPlanned_34 rfl
  clear h
  exact fw_sub [2, 1, 0] rfl (fw_we (e := e4x) (fun (s : Int32 × Int32 × fw_M) => fw_R "FewTypes$Orders" prog_5_method_6_code 3 (some .int) fw_X 3 (some r.1) r.2 4 [(0, .ref 71), (1, .int s.1), (2, .int s.2.1)] [] s.2.2) (by
    intro s x h hl hr
    obtain ⟨x1_4, x2_4, μ4⟩ := s
    rw [f_Orders_clashesAsPlanned_L4] at h
    show fw_R "FewTypes$Orders" prog_5_method_6_code 3 (some .int) fw_X 3 (some r.1) r.2 4 [(0, .ref 71), (1, .int x1_4), (2, .int x2_4)] [] μ4
    refine fw_iload_n (pc := 4) d_Orders_clashesAsPlanned_4 2 rfl rfl ?_
    refine fw_aload_n (pc := 5) d_Orders_clashesAsPlanned_5 0 rfl rfl ?_
    refine fw_getI (pc := 6) d_Orders_clashesAsPlanned_6 fl_Orders_21 fw_X71 rfl ?_
    refine fw_icmp_ge (pc := 9) (tgt := 33) d_Orders_clashesAsPlanned_9 rfl (fun hc => ?_) (fun hc => ?_)
    · have h := fw_it hc h
      obtain rfl := Option.some.inj h
      have he := hr _ rfl
      subst he
      exact fw_sub [1] rfl hE4
    · have h := fw_if hc h
      refine fw_aload_n (pc := 12) d_Orders_clashesAsPlanned_12 0 rfl rfl ?_
      refine fw_getR (pc := 13) d_Orders_clashesAsPlanned_13 fl_Orders_15 fw_X71 rfl ?_
      refine fw_iload_n (pc := 16) d_Orders_clashesAsPlanned_16 2 rfl rfl ?_
      refine fw_iload_n (pc := 17) d_Orders_clashesAsPlanned_17 2 rfl rfl ?_
      obtain ⟨μ18, e18, h⟩ := fw_be h
      refine fw_iast (pc := 18) d_Orders_clashesAsPlanned_18 fw_X73 e18 ?_
      refine fw_iload_n (pc := 19) d_Orders_clashesAsPlanned_19 1 rfl rfl ?_
      refine fw_aload_n (pc := 20) d_Orders_clashesAsPlanned_20 0 rfl rfl ?_
      refine fw_iload_n (pc := 21) d_Orders_clashesAsPlanned_21 2 rfl rfl ?_
      obtain ⟨p22, e22, h⟩ := fw_be h
      refine fw_callVi (pc := 22) d_Orders_clashesAsPlanned_22 mv_Orders_80 fw_X71 (c_Orders_clashesWithEarlier e22) (by decide) rfl rfl (Nat.le_of_ble_eq_true rfl) ?_
      refine fw_iadd (pc := 25) d_Orders_clashesAsPlanned_25 ?_
      obtain ⟨v26, e26, h⟩ := fw_ne h
      refine fw_top e26 ?_
      refine fw_istore_n (pc := 26) (lv1 := [(1, .int v26), (0, .ref 71), (2, .int x2_4)]) d_Orders_clashesAsPlanned_26 rfl (by decide) rfl ?_
      obtain ⟨v27, e27, h⟩ := fw_ne h
      refine fw_iinc2 (pc := 27) (j := 2) (lv1 := [(2, .int v27), (1, .int v26), (0, .ref 71)]) d_Orders_clashesAsPlanned_27 rfl fw_ic1 e27 (by decide) rfl ?_
      refine fw_goto (pc := 30) (tgt := 4) d_Orders_clashesAsPlanned_30 rfl ?_
      obtain rfl := Option.some.inj h
      exact fw_sub [2, 1, 0] rfl (hl _ rfl)
    ) _ _ w4)
def f_Orders_tryFrom_L43 (a1 : Int32) (a2 : Int32) (a3 : Int32) (rc : Int32 → Int32 → Int32 → fw_M → Option fw_M) : Int32 × fw_M → Option ((Int32 × fw_M) ⊕ (fw_M))
  | (x4_43, μ43) =>
  if (μ43.1 71 3) ≤ x4_43 then
    some (.inr μ43)
  else
    (f_X_inSet a2 x4_43).bind fun (p55 : Int32) =>
    Option.bind (
      if p55 = 0 then
        (fw_si 6 μ43 73 a1 x4_43).bind fun μ68 =>
        (f_Orders_clashesWithEarlier a1 μ68).bind fun (p82 : Int32) =>
        (rc (a1 + 1) (a2 ||| ((1 : Int32) <<< (x4_43 &&& 31))) (a3 + p82) μ68).bind fun (p86 : fw_M) =>
        some p86
      else
        some μ43) fun (j58 : fw_M) =>
    fw_nm (x4_43 + 1) fun (v89 : Int32) =>
    some (.inl (v89, j58))
def f_Orders_tryFrom : Nat → Int32 → Int32 → Int32 → fw_M → Option (fw_M)
  | 0, _, _, _, _ => none
  | fu + 1, a1, a2, a3, μ =>
    fw_nm (f_Orders_tryFrom fu) fun (rc : Int32 → Int32 → Int32 → fw_M → Option fw_M) =>
    if a3 < (μ.1 71 4) then
      if a1 < (μ.1 71 3) then
        (fw_wh (f_Orders_tryFrom_L43 a1 a2 a3 rc) fw_N (0, μ)).bind fun (e43x : fw_M) =>
        some e43x
      else
        fw_nm (fw_wr μ 71 4 a3) fun (μ19 : fw_M) =>
        (fw_cp 6 6 μ19 73 0 74 0 (μ19.1 71 3)).bind fun μ36 =>
        some μ36
    else
      some μ
set_option maxHeartbeats 4000000 in
set_option maxRecDepth 100000 in
theorem cr_Orders_tryFrom : ∀ (fu : Nat) {a1 : Int32} {a2 : Int32} {a3 : Int32} {μ : fw_M} {r : fw_M}, f_Orders_tryFrom fu a1 a2 a3 μ = some r → fw_Con Y_Orders_tryFrom fw_X (3 + fu) [.ref 71, .int a1, .int a2, .int a3] none μ r := by
  intro fu
  induction fu with
  | zero => intro a1 a2 a3 μ r h; cases h
  | succ fu ih0 =>
    intro a1 a2 a3 μ r h
    refine fw_con (by decide) (Nat.le_of_ble_eq_true rfl) ?_
    rw [f_Orders_tryFrom] at h
    obtain ⟨rc, erc, h⟩ := fw_ne h
    have ih : ∀ {a1 a2 a3 : Int32} {μ r : fw_M}, rc a1 a2 a3 μ = some r → fw_Con Y_Orders_tryFrom fw_X (3 + fu) [.ref 71, .int a1, .int a2, .int a3] none μ r := by
      intro a1 a2 a3 μ r h; rw [erc] at h; exact ih0 h
    show fw_R "FewTypes$Orders" prog_5_method_8_code 5 none fw_X (3 + (fu + 1)) none r 0 [(0, .ref 71), (1, .int a1), (2, .int a2), (3, .int a3)] [] μ
    refine fw_iload_n (pc := 0) d_Orders_tryFrom_0 3 rfl rfl ?_
    refine fw_aload_n (pc := 1) d_Orders_tryFrom_1 0 rfl rfl ?_
    refine fw_getI (pc := 2) d_Orders_tryFrom_2 fl_Orders_25 fw_X71 rfl ?_
    refine fw_icmp_lt (pc := 5) (tgt := 9) d_Orders_tryFrom_5 rfl (fun hc => ?_) (fun hc => ?_)
    · have h := fw_it hc h
      refine fw_iload_n (pc := 9) d_Orders_tryFrom_9 1 rfl rfl ?_
      refine fw_aload_n (pc := 10) d_Orders_tryFrom_10 0 rfl rfl ?_
      refine fw_getI (pc := 11) d_Orders_tryFrom_11 fl_Orders_21 fw_X71 rfl ?_
      refine fw_icmp_lt (pc := 14) (tgt := 40) d_Orders_tryFrom_14 rfl (fun hc => ?_) (fun hc => ?_)
      · have h := fw_it hc h
        refine fw_iconst (pc := 40) d_Orders_tryFrom_40 fw_ic0 ?_
        refine fw_istore (pc := 41) (lv1 := [(4, .int 0), (0, .ref 71), (1, .int a1), (2, .int a2), (3, .int a3)]) d_Orders_tryFrom_41 (by decide) rfl ?_
        obtain ⟨e43x, w43, h⟩ := fw_be h
        have hE43 : fw_R "FewTypes$Orders" prog_5_method_8_code 5 none fw_X (3 + (fu + 1)) none r 95 [] [] e43x := by
          obtain rfl := Option.some.inj h
          exact fw_vret (pc := 95) d_Orders_tryFrom_95 rfl
        clear h
        exact fw_sub [1, 2, 3, 4, 0] rfl (fw_we (e := e43x) (fun (s : Int32 × fw_M) => fw_R "FewTypes$Orders" prog_5_method_8_code 5 none fw_X (3 + (fu + 1)) none r 43 [(0, .ref 71), (1, .int a1), (2, .int a2), (3, .int a3), (4, .int s.1)] [] s.2) (by
          intro s x h hl hr
          obtain ⟨x4_43, μ43⟩ := s
          rw [f_Orders_tryFrom_L43] at h
          show fw_R "FewTypes$Orders" prog_5_method_8_code 5 none fw_X (3 + (fu + 1)) none r 43 [(0, .ref 71), (1, .int a1), (2, .int a2), (3, .int a3), (4, .int x4_43)] [] μ43
          refine fw_iload (pc := 43) d_Orders_tryFrom_43 4 rfl ?_
          refine fw_aload_n (pc := 45) d_Orders_tryFrom_45 0 rfl rfl ?_
          refine fw_getI (pc := 46) d_Orders_tryFrom_46 fl_Orders_21 fw_X71 rfl ?_
          refine fw_icmp_ge (pc := 49) (tgt := 95) d_Orders_tryFrom_49 rfl (fun hc => ?_) (fun hc => ?_)
          · have h := fw_it hc h
            obtain rfl := Option.some.inj h
            have he := hr _ rfl
            subst he
            exact fw_sub [] rfl hE43
          · have h := fw_if hc h
            refine fw_iload_n (pc := 52) d_Orders_tryFrom_52 2 rfl rfl ?_
            refine fw_iload (pc := 53) d_Orders_tryFrom_53 4 rfl ?_
            obtain ⟨p55, e55, h⟩ := fw_be h
            refine fw_callNi (pc := 55) d_Orders_tryFrom_55 ms_Orders_59 (c_X_inSet e55) (by omega) rfl rfl (Nat.le_of_ble_eq_true rfl) ?_
            obtain ⟨j58, w58, h⟩ := fw_be h
            have hJ58 : fw_R "FewTypes$Orders" prog_5_method_8_code 5 none fw_X (3 + (fu + 1)) none r 89 [(0, .ref 71), (1, .int a1), (2, .int a2), (3, .int a3), (4, .int x4_43)] [] j58 := by
              obtain ⟨v89, e89, h⟩ := fw_ne h
              refine fw_iinc2 (pc := 89) (j := 4) (lv1 := [(4, .int v89), (0, .ref 71), (1, .int a1), (2, .int a2), (3, .int a3)]) d_Orders_tryFrom_89 rfl fw_ic1 e89 (by decide) rfl ?_
              refine fw_goto (pc := 92) (tgt := 43) d_Orders_tryFrom_92 rfl ?_
              obtain rfl := Option.some.inj h
              exact fw_sub [1, 2, 3, 4, 0] rfl (hl _ rfl)
            clear h
            have h := w58
            clear w58
            refine fw_if_ne (pc := 58) (tgt := 89) d_Orders_tryFrom_58 rfl (fun hc => ?_) (fun hc => ?_)
            · have h := fw_it hc h
              refine fw_aload_n (pc := 61) d_Orders_tryFrom_61 0 rfl rfl ?_
              refine fw_getR (pc := 62) d_Orders_tryFrom_62 fl_Orders_15 fw_X71 rfl ?_
              refine fw_iload_n (pc := 65) d_Orders_tryFrom_65 1 rfl rfl ?_
              refine fw_iload (pc := 66) d_Orders_tryFrom_66 4 rfl ?_
              obtain ⟨μ68, e68, h⟩ := fw_be h
              refine fw_iast (pc := 68) d_Orders_tryFrom_68 fw_X73 e68 ?_
              refine fw_aload_n (pc := 69) d_Orders_tryFrom_69 0 rfl rfl ?_
              refine fw_iload_n (pc := 70) d_Orders_tryFrom_70 1 rfl rfl ?_
              refine fw_iconst (pc := 71) d_Orders_tryFrom_71 fw_ic1 ?_
              refine fw_iadd (pc := 72) d_Orders_tryFrom_72 ?_
              refine fw_iload_n (pc := 73) d_Orders_tryFrom_73 2 rfl rfl ?_
              refine fw_iconst (pc := 74) d_Orders_tryFrom_74 fw_ic1 ?_
              refine fw_iload (pc := 75) d_Orders_tryFrom_75 4 rfl ?_
              refine fw_ishl (pc := 77) d_Orders_tryFrom_77 ?_
              refine fw_ior (pc := 78) d_Orders_tryFrom_78 ?_
              refine fw_iload_n (pc := 79) d_Orders_tryFrom_79 3 rfl rfl ?_
              refine fw_aload_n (pc := 80) d_Orders_tryFrom_80 0 rfl rfl ?_
              refine fw_iload_n (pc := 81) d_Orders_tryFrom_81 1 rfl rfl ?_
              obtain ⟨p82, e82, h⟩ := fw_be h
              refine fw_callVi (pc := 82) d_Orders_tryFrom_82 mv_Orders_80 fw_X71 (c_Orders_clashesWithEarlier e82) (by omega) rfl rfl (Nat.le_of_ble_eq_true rfl) ?_
              refine fw_iadd (pc := 85) d_Orders_tryFrom_85 ?_
              obtain ⟨p86, e86, h⟩ := fw_be h
              refine fw_callVv (pc := 86) d_Orders_tryFrom_86 mv_Orders_84 fw_X71 (ih e86) (by omega) rfl rfl (Nat.le_of_ble_eq_true rfl) ?_
              obtain rfl := Option.some.inj h
              exact fw_sub [0, 1, 2, 3, 4] rfl hJ58
            · have h := fw_if hc h
              obtain rfl := Option.some.inj h
              exact fw_sub [0, 1, 2, 3, 4] rfl hJ58
          ) _ _ w43)
      · have h := fw_if hc h
        refine fw_aload_n (pc := 17) d_Orders_tryFrom_17 0 rfl rfl ?_
        refine fw_iload_n (pc := 18) d_Orders_tryFrom_18 3 rfl rfl ?_
        obtain ⟨μ19, e19, h⟩ := fw_ne h
        refine fw_putI (pc := 19) d_Orders_tryFrom_19 fp_Orders_25 fw_X71 rfl (fw_mem e19 ?_)
        refine fw_aload_n (pc := 22) d_Orders_tryFrom_22 0 rfl rfl ?_
        refine fw_getR (pc := 23) d_Orders_tryFrom_23 fl_Orders_15 fw_X71 rfl ?_
        refine fw_iconst (pc := 26) d_Orders_tryFrom_26 fw_ic0 ?_
        refine fw_aload_n (pc := 27) d_Orders_tryFrom_27 0 rfl rfl ?_
        refine fw_getR (pc := 28) d_Orders_tryFrom_28 fl_Orders_18 fw_X71 rfl ?_
        refine fw_iconst (pc := 31) d_Orders_tryFrom_31 fw_ic0 ?_
        refine fw_aload_n (pc := 32) d_Orders_tryFrom_32 0 rfl rfl ?_
        refine fw_getI (pc := 33) d_Orders_tryFrom_33 fl_Orders_21 fw_X71 rfl ?_
        obtain ⟨μ36, e36, h⟩ := fw_be h
        refine fw_acpI (pc := 36) d_Orders_tryFrom_36 ma_Orders_88 fw_X73 fw_X74 e36 (by omega) (Nat.le_of_ble_eq_true rfl) ?_
        obtain rfl := Option.some.inj h
        exact fw_vret (pc := 39) d_Orders_tryFrom_39 rfl
    · have h := fw_if hc h
      obtain rfl := Option.some.inj h
      exact fw_vret (pc := 8) d_Orders_tryFrom_8 rfl
theorem c_Orders_tryFrom {a1 : Int32} {a2 : Int32} {a3 : Int32} {μ : fw_M} {r : fw_M} (h : f_Orders_tryFrom 8 a1 a2 a3 μ = some r) : fw_Con Y_Orders_tryFrom fw_X 11 [.ref 71, .int a1, .int a2, .int a3] none μ r := cr_Orders_tryFrom 8 h
def f_Orders_findBest  (μ : fw_M) : Option (fw_M) :=
  fw_nm (fw_wr μ 71 4 1000) fun (μ4 : fw_M) =>
  (f_Orders_tryFrom 8 0 0 0 μ4).bind fun (p11 : fw_M) =>
  some p11
set_option maxHeartbeats 4000000 in
set_option maxRecDepth 100000 in
theorem c_Orders_findBest  {μ : fw_M} {r : fw_M} (h : f_Orders_findBest  μ = some r) : fw_Con Y_Orders_findBest fw_X 20 [.ref 71] none μ r := by
  refine fw_con (by decide) (Nat.le_of_ble_eq_true rfl) ?_
  rw [f_Orders_findBest] at h
  show fw_R "FewTypes$Orders" prog_5_method_7_code 1 none fw_X 20 none r 0 [(0, .ref 71)] [] μ
  refine fw_aload_n (pc := 0) d_Orders_findBest_0 0 rfl rfl ?_
  refine fw_sipush (pc := 1) d_Orders_findBest_1 fw_sp1000 ?_
  obtain ⟨μ4, e4, h⟩ := fw_ne h
  refine fw_putI (pc := 4) d_Orders_findBest_4 fp_Orders_25 fw_X71 rfl (fw_mem e4 ?_)
  refine fw_aload_n (pc := 7) d_Orders_findBest_7 0 rfl rfl ?_
  refine fw_iconst (pc := 8) d_Orders_findBest_8 fw_ic0 ?_
  refine fw_iconst (pc := 9) d_Orders_findBest_9 fw_ic0 ?_
  refine fw_iconst (pc := 10) d_Orders_findBest_10 fw_ic0 ?_
  obtain ⟨p11, e11, h⟩ := fw_be h
  refine fw_callVv (pc := 11) d_Orders_findBest_11 mv_Orders_84 fw_X71 (c_Orders_tryFrom e11) (by decide) rfl rfl (Nat.le_of_ble_eq_true rfl) ?_
  obtain rfl := Option.some.inj h
  exact fw_vret (pc := 14) d_Orders_findBest_14 rfl
def f_X_order (a1 : Int32) (μ : fw_M) : Option (Int32 × fw_M) :=
  if a1 < (-2) then
    some ((-1), μ)
  else
    if a1 < 10 then
      (f_X_pullsFor 8 μ).bind fun (p17 : Int32 × fw_M) =>
      if 0 ≤ p17.1 then
        if p17.1 ≤ 6 then
          if a1 < p17.1 then
            (f_Orders_weigh p17.1 p17.2).bind fun (p57 : fw_M) =>
            if a1 = (-1) then
              (f_Orders_clashesAsPlanned p57).bind fun (p69 : Int32 × fw_M) =>
              some (p69.1, p69.2)
            else
              (f_Orders_findBest p57).bind fun (p77 : fw_M) =>
              Option.bind (
                if a1 = (-2) then
                  some (p77.1 71 4)
                else
                  (fw_rd 6 (p77.1 74) a1).bind fun v104 =>
                  some v104) fun (j83 : Int32) =>
              some (j83, p77)
          else
            some ((-4), p17.2)
        else
          some ((-3), p17.2)
      else
        some (p17.1, p17.2)
    else
      some ((-1), μ)
set_option maxHeartbeats 4000000 in
set_option maxRecDepth 100000 in
theorem c_X_order {a1 : Int32} {μ : fw_M} {r : Int32 × fw_M} (h : f_X_order a1 μ = some r) : fw_Con Y_X_order fw_X 21 [.ref 0, .int a1] (some r.1) μ r.2 := by
  refine fw_con (by decide) (Nat.le_of_ble_eq_true rfl) ?_
  rw [f_X_order] at h
  show fw_R "FewTypes" prog_1_method_17_code 3 (some .int) fw_X 21 (some r.1) r.2 0 [(0, .ref 0), (1, .int a1)] [] μ
  refine fw_iload_n (pc := 0) d_X_order_0 1 rfl rfl ?_
  refine fw_bipush (pc := 1) d_X_order_1 fw_bpm2 ?_
  refine fw_icmp_lt (pc := 3) (tgt := 12) d_X_order_3 rfl (fun hc => ?_) (fun hc => ?_)
  · have h := fw_it hc h
    refine fw_iconst (pc := 12) d_X_order_12 fw_icm1 ?_
    obtain rfl := Option.some.inj h
    exact fw_iret (pc := 13) d_X_order_13 rfl
  · have h := fw_if hc h
    refine fw_iload_n (pc := 6) d_X_order_6 1 rfl rfl ?_
    refine fw_bipush (pc := 7) d_X_order_7 fw_bp10 ?_
    refine fw_icmp_lt (pc := 9) (tgt := 14) d_X_order_9 rfl (fun hc => ?_) (fun hc => ?_)
    · have h := fw_it hc h
      refine fw_aload_n (pc := 14) d_X_order_14 0 rfl rfl ?_
      refine fw_bipush (pc := 15) d_X_order_15 fw_bp8 ?_
      obtain ⟨p17, e17, h⟩ := fw_be h
      refine fw_callVi (pc := 17) d_X_order_17 mv_X_193 fw_X0 (c_X_pullsFor e17) (by decide) rfl rfl (Nat.le_of_ble_eq_true rfl) ?_
      refine fw_istore_n (pc := 20) (lv1 := [(2, .int p17.1), (0, .ref 0), (1, .int a1)]) d_X_order_20 rfl (by decide) rfl ?_
      refine fw_iload_n (pc := 21) d_X_order_21 0 rfl rfl ?_
      refine fw_if_ge (pc := 22) (tgt := 27) d_X_order_22 rfl (fun hc => ?_) (fun hc => ?_)
      · have h := fw_it hc h
        refine fw_iload_n (pc := 27) d_X_order_27 0 rfl rfl ?_
        refine fw_bipush (pc := 28) d_X_order_28 fw_bp6 ?_
        refine fw_icmp_le (pc := 30) (tgt := 36) d_X_order_30 rfl (fun hc => ?_) (fun hc => ?_)
        · have h := fw_it hc h
          refine fw_iload_n (pc := 36) d_X_order_36 2 rfl rfl ?_
          refine fw_iload_n (pc := 37) d_X_order_37 0 rfl rfl ?_
          refine fw_icmp_lt (pc := 38) (tgt := 44) d_X_order_38 rfl (fun hc => ?_) (fun hc => ?_)
          · have h := fw_it hc h
            refine fw_aload_n (pc := 44) d_X_order_44 1 rfl rfl ?_
            refine fw_getR (pc := 45) d_X_order_45 fl_X_40 fw_X0 rfl ?_
            refine fw_aload_n (pc := 48) d_X_order_48 1 rfl rfl ?_
            refine fw_getR (pc := 49) d_X_order_49 fl_X_12 fw_X0 rfl ?_
            refine fw_aload_n (pc := 52) d_X_order_52 1 rfl rfl ?_
            refine fw_getR (pc := 53) d_X_order_53 fl_X_62 fw_X0 rfl ?_
            refine fw_iload_n (pc := 56) d_X_order_56 0 rfl rfl ?_
            obtain ⟨p57, e57, h⟩ := fw_be h
            refine fw_callVv (pc := 57) d_X_order_57 mv_X_212 fw_X71 (c_Orders_weigh e57) (by decide) rfl rfl (Nat.le_of_ble_eq_true rfl) ?_
            refine fw_iload_n (pc := 60) d_X_order_60 2 rfl rfl ?_
            refine fw_iconst (pc := 61) d_X_order_61 fw_icm1 ?_
            refine fw_icmp_ne (pc := 62) (tgt := 73) d_X_order_62 rfl (fun hc => ?_) (fun hc => ?_)
            · have h := fw_it hc h
              refine fw_aload_n (pc := 65) d_X_order_65 1 rfl rfl ?_
              refine fw_getR (pc := 66) d_X_order_66 fl_X_40 fw_X0 rfl ?_
              obtain ⟨p69, e69, h⟩ := fw_be h
              refine fw_callVi (pc := 69) d_X_order_69 mv_X_216 fw_X71 (c_Orders_clashesAsPlanned e69) (by decide) rfl rfl (Nat.le_of_ble_eq_true rfl) ?_
              obtain rfl := Option.some.inj h
              exact fw_iret (pc := 72) d_X_order_72 rfl
            · have h := fw_if hc h
              refine fw_aload_n (pc := 73) d_X_order_73 1 rfl rfl ?_
              refine fw_getR (pc := 74) d_X_order_74 fl_X_40 fw_X0 rfl ?_
              obtain ⟨p77, e77, h⟩ := fw_be h
              refine fw_callVv (pc := 77) d_X_order_77 mv_X_220 fw_X71 (c_Orders_findBest e77) (by decide) rfl rfl (Nat.le_of_ble_eq_true rfl) ?_
              refine fw_iload_n (pc := 80) d_X_order_80 2 rfl rfl ?_
              refine fw_bipush (pc := 81) d_X_order_81 fw_bpm2 ?_
              obtain ⟨j83, w83, h⟩ := fw_be h
              have hJ83 : fw_R "FewTypes" prog_1_method_17_code 3 (some .int) fw_X 21 (some r.1) r.2 105 [] [.int j83] p77 := by
                obtain rfl := Option.some.inj h
                exact fw_iret (pc := 105) d_X_order_105 rfl
              clear h
              have h := w83
              clear w83
              refine fw_icmp_ne (pc := 83) (tgt := 96) d_X_order_83 rfl (fun hc => ?_) (fun hc => ?_)
              · have h := fw_it hc h
                refine fw_aload_n (pc := 86) d_X_order_86 1 rfl rfl ?_
                refine fw_getR (pc := 87) d_X_order_87 fl_X_40 fw_X0 rfl ?_
                refine fw_getI (pc := 90) d_X_order_90 fl_X_223 fw_X71 rfl ?_
                refine fw_goto (pc := 93) (tgt := 105) d_X_order_93 rfl ?_
                obtain rfl := Option.some.inj h
                exact fw_sub [] rfl hJ83
              · have h := fw_if hc h
                refine fw_aload_n (pc := 96) d_X_order_96 1 rfl rfl ?_
                refine fw_getR (pc := 97) d_X_order_97 fl_X_40 fw_X0 rfl ?_
                refine fw_getR (pc := 100) d_X_order_100 fl_X_226 fw_X71 rfl ?_
                refine fw_iload_n (pc := 103) d_X_order_103 2 rfl rfl ?_
                obtain ⟨v104, e104, h⟩ := fw_be h
                refine fw_iald (pc := 104) d_X_order_104 fw_X74 e104 ?_
                obtain rfl := Option.some.inj h
                exact fw_sub [] rfl hJ83
          · have h := fw_if hc h
            refine fw_bipush (pc := 41) d_X_order_41 fw_bpm4 ?_
            obtain rfl := Option.some.inj h
            exact fw_iret (pc := 43) d_X_order_43 rfl
        · have h := fw_if hc h
          refine fw_bipush (pc := 33) d_X_order_33 fw_bpm3 ?_
          obtain rfl := Option.some.inj h
          exact fw_iret (pc := 35) d_X_order_35 rfl
      · have h := fw_if hc h
        refine fw_iload_n (pc := 25) d_X_order_25 0 rfl rfl ?_
        obtain rfl := Option.some.inj h
        exact fw_iret (pc := 26) d_X_order_26 rfl
    · have h := fw_if hc h
      refine fw_iconst (pc := 12) d_X_order_12 fw_icm1 ?_
      obtain rfl := Option.some.inj h
      exact fw_iret (pc := 13) d_X_order_13 rfl
def f_X_wearByPull_L2 (a1 : Int32) (a2 : Int32) : Int32 × fw_M → Option ((Int32 × fw_M) ⊕ (fw_M))
  | (x3_2, μ2) =>
  if (μ2.1 6 1) ≤ x3_2 then
    some (.inr μ2)
  else
    (f_X_inSet a1 x3_2).bind fun (p18 : Int32) =>
    Option.bind (
      if p18 = 0 then
        some μ2
      else
        (fw_rd 10 (μ2.1 83) x3_2).bind fun v29 =>
        (f_Case_has_2 v29 μ2).bind fun (p41 : Int32) =>
        if p41 = 0 then
          some μ2
        else
          (fw_rd 10 (μ2.1 3) v29).bind fun v59 =>
          if v59 = 3 then
            (fw_rd 10 (μ2.1 5) v29).bind fun v77 =>
            (fw_si 10 μ2 5 v29 (v77 - a2)).bind fun μ80 =>
            some μ80
          else
            some μ2) fun (j21 : fw_M) =>
    fw_nm (x3_2 + 1) fun (v81 : Int32) =>
    some (.inl (v81, j21))
def f_X_wearByPull (a1 : Int32) (a2 : Int32) (μ : fw_M) : Option (fw_M) :=
  (fw_wh (f_X_wearByPull_L2 a1 a2) fw_N (0, μ)).bind fun (e2x : fw_M) =>
  some e2x
set_option maxHeartbeats 4000000 in
set_option maxRecDepth 100000 in
theorem c_X_wearByPull {a1 : Int32} {a2 : Int32} {μ : fw_M} {r : fw_M} (h : f_X_wearByPull a1 a2 μ = some r) : fw_Con Y_X_wearByPull fw_X 2 [.ref 0, .int a1, .int a2] none μ r := by
  refine fw_con (by decide) (Nat.le_of_ble_eq_true rfl) ?_
  rw [f_X_wearByPull] at h
  show fw_R "FewTypes" prog_1_method_46_code 5 none fw_X 2 none r 0 [(0, .ref 0), (1, .int a1), (2, .int a2)] [] μ
  refine fw_iconst (pc := 0) d_X_wearByPull_0 fw_ic0 ?_
  refine fw_istore_n (pc := 1) (lv1 := [(3, .int 0), (0, .ref 0), (1, .int a1), (2, .int a2)]) d_X_wearByPull_1 rfl (by decide) rfl ?_
  obtain ⟨e2x, w2, h⟩ := fw_be h
  have hE2 : fw_R "FewTypes" prog_1_method_46_code 5 none fw_X 2 none r 87 [] [] e2x := by
    obtain rfl := Option.some.inj h
    exact fw_vret (pc := 87) d_X_wearByPull_87 rfl
  clear h
  exact fw_sub [1, 2, 3, 0] rfl (fw_we (e := e2x) (fun (s : Int32 × fw_M) => fw_R "FewTypes" prog_1_method_46_code 5 none fw_X 2 none r 2 [(0, .ref 0), (1, .int a1), (2, .int a2), (3, .int s.1)] [] s.2) (by
    intro s x h hl hr
    obtain ⟨x3_2, μ2⟩ := s
    rw [f_X_wearByPull_L2] at h
    show fw_R "FewTypes" prog_1_method_46_code 5 none fw_X 2 none r 2 [(0, .ref 0), (1, .int a1), (2, .int a2), (3, .int x3_2)] [] μ2
    refine fw_iload_n (pc := 2) d_X_wearByPull_2 3 rfl rfl ?_
    refine fw_aload_n (pc := 3) d_X_wearByPull_3 0 rfl rfl ?_
    refine fw_getR (pc := 4) d_X_wearByPull_4 fl_X_12 fw_X0 rfl ?_
    refine fw_getR (pc := 7) d_X_wearByPull_7 fl_X_139 fw_X1 rfl ?_
    refine fw_getI (pc := 10) d_X_wearByPull_10 fl_X_161 fw_X6 rfl ?_
    refine fw_icmp_ge (pc := 13) (tgt := 87) d_X_wearByPull_13 rfl (fun hc => ?_) (fun hc => ?_)
    · have h := fw_it hc h
      obtain rfl := Option.some.inj h
      have he := hr _ rfl
      subst he
      exact fw_sub [] rfl hE2
    · have h := fw_if hc h
      refine fw_iload_n (pc := 16) d_X_wearByPull_16 1 rfl rfl ?_
      refine fw_iload_n (pc := 17) d_X_wearByPull_17 3 rfl rfl ?_
      obtain ⟨p18, e18, h⟩ := fw_be h
      refine fw_callSi (pc := 18) d_X_wearByPull_18 ms_X_185 (c_X_inSet e18) (by decide) rfl rfl (Nat.le_of_ble_eq_true rfl) ?_
      obtain ⟨j21, w21, h⟩ := fw_be h
      have hJ21 : fw_R "FewTypes" prog_1_method_46_code 5 none fw_X 2 none r 81 [(0, .ref 0), (1, .int a1), (2, .int a2), (3, .int x3_2)] [] j21 := by
        obtain ⟨v81, e81, h⟩ := fw_ne h
        refine fw_iinc2 (pc := 81) (j := 3) (lv1 := [(3, .int v81), (0, .ref 0), (1, .int a1), (2, .int a2)]) d_X_wearByPull_81 rfl fw_ic1 e81 (by decide) rfl ?_
        refine fw_goto (pc := 84) (tgt := 2) d_X_wearByPull_84 rfl ?_
        obtain rfl := Option.some.inj h
        exact fw_sub [1, 2, 3, 0] rfl (hl _ rfl)
      clear h
      have h := w21
      clear w21
      refine fw_if_eq (pc := 21) (tgt := 81) d_X_wearByPull_21 rfl (fun hc => ?_) (fun hc => ?_)
      · have h := fw_it hc h
        obtain rfl := Option.some.inj h
        exact fw_sub [0, 1, 2, 3] rfl hJ21
      · have h := fw_if hc h
        refine fw_aload_n (pc := 24) d_X_wearByPull_24 0 rfl rfl ?_
        refine fw_getR (pc := 25) d_X_wearByPull_25 fl_X_65 fw_X0 rfl ?_
        refine fw_iload_n (pc := 28) d_X_wearByPull_28 3 rfl rfl ?_
        obtain ⟨v29, e29, h⟩ := fw_be h
        refine fw_iald (pc := 29) d_X_wearByPull_29 fw_X83 e29 ?_
        refine fw_istore (pc := 30) (lv1 := [(4, .int v29), (0, .ref 0), (1, .int a1), (2, .int a2), (3, .int x3_2)]) d_X_wearByPull_30 (by decide) rfl ?_
        refine fw_aload_n (pc := 32) d_X_wearByPull_32 1 rfl rfl ?_
        refine fw_getR (pc := 33) d_X_wearByPull_33 fl_X_12 fw_X0 rfl ?_
        refine fw_getR (pc := 36) d_X_wearByPull_36 fl_X_82 fw_X1 rfl ?_
        refine fw_iload (pc := 39) d_X_wearByPull_39 0 rfl ?_
        obtain ⟨p41, e41, h⟩ := fw_be h
        refine fw_callVi (pc := 41) d_X_wearByPull_41 mv_X_96 fw_X2 (c_Case_has_2 e41) (by decide) rfl rfl (Nat.le_of_ble_eq_true rfl) ?_
        refine fw_if_eq (pc := 44) (tgt := 81) d_X_wearByPull_44 rfl (fun hc => ?_) (fun hc => ?_)
        · have h := fw_it hc h
          obtain rfl := Option.some.inj h
          exact fw_sub [1, 2, 3, 4] rfl hJ21
        · have h := fw_if hc h
          refine fw_aload_n (pc := 47) d_X_wearByPull_47 1 rfl rfl ?_
          refine fw_getR (pc := 48) d_X_wearByPull_48 fl_X_12 fw_X0 rfl ?_
          refine fw_getR (pc := 51) d_X_wearByPull_51 fl_X_82 fw_X1 rfl ?_
          refine fw_getR (pc := 54) d_X_wearByPull_54 fl_X_100 fw_X2 rfl ?_
          refine fw_iload (pc := 57) d_X_wearByPull_57 0 rfl ?_
          obtain ⟨v59, e59, h⟩ := fw_be h
          refine fw_iald (pc := 59) d_X_wearByPull_59 fw_X3 e59 ?_
          refine fw_iconst (pc := 60) d_X_wearByPull_60 fw_ic3 ?_
          refine fw_icmp_ne (pc := 61) (tgt := 81) d_X_wearByPull_61 rfl (fun hc => ?_) (fun hc => ?_)
          · have h := fw_it hc h
            refine fw_aload_n (pc := 64) d_X_wearByPull_64 1 rfl rfl ?_
            refine fw_getR (pc := 65) d_X_wearByPull_65 fl_X_12 fw_X0 rfl ?_
            refine fw_getR (pc := 68) d_X_wearByPull_68 fl_X_82 fw_X1 rfl ?_
            refine fw_getR (pc := 71) d_X_wearByPull_71 fl_X_106 fw_X2 rfl ?_
            refine fw_iload (pc := 74) d_X_wearByPull_74 0 rfl ?_
            refine fw_dup2 (pc := 76) d_X_wearByPull_76 rfl rfl ?_
            obtain ⟨v77, e77, h⟩ := fw_be h
            refine fw_iald (pc := 77) d_X_wearByPull_77 fw_X5 e77 ?_
            refine fw_iload_n (pc := 78) d_X_wearByPull_78 3 rfl rfl ?_
            refine fw_isub (pc := 79) d_X_wearByPull_79 ?_
            obtain ⟨μ80, e80, h⟩ := fw_be h
            refine fw_iast (pc := 80) d_X_wearByPull_80 fw_X5 e80 ?_
            obtain rfl := Option.some.inj h
            exact fw_sub [1, 2, 3, 4] rfl hJ21
          · have h := fw_if hc h
            obtain rfl := Option.some.inj h
            exact fw_sub [1, 2, 3, 4] rfl hJ21
    ) _ _ w2)
