abbrev Y_Case_add : fw_Y := (⟨"FewTypes$Case", "add", "(III)V"⟩, prog_2_method_4_code, 4, none)
theorem fl_Case_21 : fw_FL "FewTypes$Case" 21 0 3 := ⟨_, _, _, rfl, fw_i0, by decide, fw_m 100 (by decide +kernel) (by decide +kernel)⟩
theorem fl_Case_9 : fw_FL "FewTypes$Case" 9 0 0 := ⟨_, _, _, rfl, fw_i0, by decide, fw_m 93 (by decide +kernel) (by decide +kernel)⟩
theorem fl_Case_15 : fw_FL "FewTypes$Case" 15 0 1 := ⟨_, _, _, rfl, fw_i0, by decide, fw_m 96 (by decide +kernel) (by decide +kernel)⟩
theorem fl_Case_18 : fw_FL "FewTypes$Case" 18 0 2 := ⟨_, _, _, rfl, fw_i0, by decide, fw_m 98 (by decide +kernel) (by decide +kernel)⟩
theorem fp_Case_21 : fw_FP "FewTypes$Case" 21 0 3 .int := ⟨_, _, _, fw_t0, rfl, fw_i0, by decide, fw_m 100 (by decide +kernel) (by decide +kernel), fw_k0, fw_n0, rfl, by decide +kernel⟩
theorem d_Case_add_0 : decode prog_2_method_4_code 0 = .ok (.aload_n 0, 1) := by decide +kernel
theorem d_Case_add_1 : decode prog_2_method_4_code 1 = .ok (.getfield 21, 3) := by decide +kernel
theorem d_Case_add_4 : decode prog_2_method_4_code 4 = .ok (.bipush 10, 2) := by decide +kernel
theorem d_Case_add_6 : decode prog_2_method_4_code 6 = .ok (.if_icmp .ge 43, 3) := by decide +kernel
theorem d_Case_add_9 : decode prog_2_method_4_code 9 = .ok (.aload_n 0, 1) := by decide +kernel
theorem d_Case_add_10 : decode prog_2_method_4_code 10 = .ok (.getfield 9, 3) := by decide +kernel
theorem d_Case_add_13 : decode prog_2_method_4_code 13 = .ok (.aload_n 0, 1) := by decide +kernel
theorem d_Case_add_14 : decode prog_2_method_4_code 14 = .ok (.getfield 21, 3) := by decide +kernel
theorem d_Case_add_17 : decode prog_2_method_4_code 17 = .ok (.iload_n 1, 1) := by decide +kernel
theorem d_Case_add_18 : decode prog_2_method_4_code 18 = .ok (.iastore, 1) := by decide +kernel
theorem d_Case_add_19 : decode prog_2_method_4_code 19 = .ok (.aload_n 0, 1) := by decide +kernel
theorem d_Case_add_20 : decode prog_2_method_4_code 20 = .ok (.getfield 15, 3) := by decide +kernel
theorem d_Case_add_23 : decode prog_2_method_4_code 23 = .ok (.aload_n 0, 1) := by decide +kernel
theorem d_Case_add_24 : decode prog_2_method_4_code 24 = .ok (.getfield 21, 3) := by decide +kernel
theorem d_Case_add_27 : decode prog_2_method_4_code 27 = .ok (.iload_n 2, 1) := by decide +kernel
theorem d_Case_add_28 : decode prog_2_method_4_code 28 = .ok (.iastore, 1) := by decide +kernel
theorem d_Case_add_29 : decode prog_2_method_4_code 29 = .ok (.aload_n 0, 1) := by decide +kernel
theorem d_Case_add_30 : decode prog_2_method_4_code 30 = .ok (.getfield 18, 3) := by decide +kernel
theorem d_Case_add_33 : decode prog_2_method_4_code 33 = .ok (.aload_n 0, 1) := by decide +kernel
theorem d_Case_add_34 : decode prog_2_method_4_code 34 = .ok (.getfield 21, 3) := by decide +kernel
theorem d_Case_add_37 : decode prog_2_method_4_code 37 = .ok (.iload_n 3, 1) := by decide +kernel
theorem d_Case_add_38 : decode prog_2_method_4_code 38 = .ok (.iastore, 1) := by decide +kernel
theorem d_Case_add_39 : decode prog_2_method_4_code 39 = .ok (.aload_n 0, 1) := by decide +kernel
theorem d_Case_add_40 : decode prog_2_method_4_code 40 = .ok (.dup, 1) := by decide +kernel
theorem d_Case_add_41 : decode prog_2_method_4_code 41 = .ok (.getfield 21, 3) := by decide +kernel
theorem d_Case_add_44 : decode prog_2_method_4_code 44 = .ok (.iconst 1, 1) := by decide +kernel
theorem d_Case_add_45 : decode prog_2_method_4_code 45 = .ok (.iadd, 1) := by decide +kernel
theorem d_Case_add_46 : decode prog_2_method_4_code 46 = .ok (.putfield 21, 3) := by decide +kernel
theorem d_Case_add_49 : decode prog_2_method_4_code 49 = .ok (.return_, 1) := by decide +kernel
def f_Case_add_2 (a1 : Int32) (a2 : Int32) (a3 : Int32) (μ : fw_M) : Option (fw_M) :=
  Option.bind (
    if 10 ≤ (μ.1 2 3) then
      some μ
    else
      (fw_si 10 μ 3 (μ.1 2 3) a1).bind fun μ18 =>
      (fw_si 10 μ18 4 (μ18.1 2 3) a2).bind fun μ28 =>
      (fw_si 10 μ28 5 (μ28.1 2 3) a3).bind fun μ38 =>
      fw_nm (fw_wr μ38 2 3 ((μ38.1 2 3) + 1)) fun (μ46 : fw_M) =>
      some μ46) fun (j6 : fw_M) =>
  some j6
set_option maxHeartbeats 4000000 in
set_option maxRecDepth 100000 in
theorem c_Case_add_2 {a1 : Int32} {a2 : Int32} {a3 : Int32} {μ : fw_M} {r : fw_M} (h : f_Case_add_2 a1 a2 a3 μ = some r) : fw_Con Y_Case_add fw_X 1 [.ref 2, .int a1, .int a2, .int a3] none μ r := by
  refine fw_con (by decide) (Nat.le_of_ble_eq_true rfl) ?_
  rw [f_Case_add_2] at h
  show fw_R "FewTypes$Case" prog_2_method_4_code 4 none fw_X 1 none r 0 [(0, .ref 2), (1, .int a1), (2, .int a2), (3, .int a3)] [] μ
  refine fw_aload_n (pc := 0) d_Case_add_0 0 rfl rfl ?_
  refine fw_getI (pc := 1) d_Case_add_1 fl_Case_21 fw_X2 rfl ?_
  refine fw_bipush (pc := 4) d_Case_add_4 fw_bp10 ?_
  obtain ⟨j6, w6, h⟩ := fw_be h
  have hJ6 : fw_R "FewTypes$Case" prog_2_method_4_code 4 none fw_X 1 none r 49 [] [] j6 := by
    cases h
    exact fw_vret (pc := 49) d_Case_add_49 rfl
  clear h
  have h := w6
  clear w6
  refine fw_icmp_ge (pc := 6) (tgt := 49) d_Case_add_6 rfl (fun hc => ?_) (fun hc => ?_)
  · have h := fw_it hc h
    cases h
    exact fw_sub [] rfl hJ6
  · have h := fw_if hc h
    refine fw_aload_n (pc := 9) d_Case_add_9 0 rfl rfl ?_
    refine fw_getR (pc := 10) d_Case_add_10 fl_Case_9 fw_X2 rfl ?_
    refine fw_aload_n (pc := 13) d_Case_add_13 0 rfl rfl ?_
    refine fw_getI (pc := 14) d_Case_add_14 fl_Case_21 fw_X2 rfl ?_
    refine fw_iload_n (pc := 17) d_Case_add_17 1 rfl rfl ?_
    obtain ⟨μ18, e18, h⟩ := fw_be h
    refine fw_iast (pc := 18) d_Case_add_18 fw_X3 e18 ?_
    refine fw_aload_n (pc := 19) d_Case_add_19 0 rfl rfl ?_
    refine fw_getR (pc := 20) d_Case_add_20 fl_Case_15 fw_X2 rfl ?_
    refine fw_aload_n (pc := 23) d_Case_add_23 0 rfl rfl ?_
    refine fw_getI (pc := 24) d_Case_add_24 fl_Case_21 fw_X2 rfl ?_
    refine fw_iload_n (pc := 27) d_Case_add_27 2 rfl rfl ?_
    obtain ⟨μ28, e28, h⟩ := fw_be h
    refine fw_iast (pc := 28) d_Case_add_28 fw_X4 e28 ?_
    refine fw_aload_n (pc := 29) d_Case_add_29 0 rfl rfl ?_
    refine fw_getR (pc := 30) d_Case_add_30 fl_Case_18 fw_X2 rfl ?_
    refine fw_aload_n (pc := 33) d_Case_add_33 0 rfl rfl ?_
    refine fw_getI (pc := 34) d_Case_add_34 fl_Case_21 fw_X2 rfl ?_
    refine fw_iload_n (pc := 37) d_Case_add_37 3 rfl rfl ?_
    obtain ⟨μ38, e38, h⟩ := fw_be h
    refine fw_iast (pc := 38) d_Case_add_38 fw_X5 e38 ?_
    refine fw_aload_n (pc := 39) d_Case_add_39 0 rfl rfl ?_
    refine fw_dup (pc := 40) d_Case_add_40 rfl ?_
    refine fw_getI (pc := 41) d_Case_add_41 fl_Case_21 fw_X2 rfl ?_
    refine fw_iconst (pc := 44) d_Case_add_44 fw_ic1 ?_
    refine fw_iadd (pc := 45) d_Case_add_45 ?_
    obtain ⟨μ46, e46, h⟩ := fw_ne h
    refine fw_putI (pc := 46) d_Case_add_46 fp_Case_21 fw_X2 rfl (fw_mem e46 ?_)
    cases h
    exact fw_sub [] rfl hJ6
